/-! the heap's instructions, calls, ends -/
section S72
theorem s_okF3 {v : Term} (hv : s_ty v = 3) : s_okF 3 v = true := by
  show (Nat.beq (s_ty v) 3 && Nat.blt 0 3) = true
  rw [hv]; rfl
variable {P : s_P} {d : Nat} {cd : s_Cd} {hd : List s_Hd} {Q : s_O → Prop} {pc pc' nx a b c kc ks kc' ks' : Nat} {i : Instr} {ls ls' st st' : List Term} {h h' : s_H} {x y z : Int} {o q q' n j tg kd : Nat} {v w t : Term} {l ts fs as rest : List Term} {li : List Int} {cc : s_C}
theorem w_getf (he : s_at 32 cd pc = some (54, i, nx, a, b, c)) (hg : s_get h q = some (1, a, fs)) (hv : s_nth fs b = some v) (k : wr P d cd hd (nx, ls, v :: st, h, kc, ks) Q) : wr P d cd hd (pc, ls, .index q :: st, h, kc, ks) Q := by
  refine w_stepH he s_at_getfield (fun call => ?_) (Nat.le_refl _) (Nat.le_refl _) k
  show (match s_get h q with
    | some (1, t, fs) => if Nat.beq t a then match s_nth fs b with
      | some v => some (Sum.inl (nx, ls, v :: st, h, kc, ks))
      | none => none else none
    | _ => none) = _
  rw [hg]
  show (if Nat.beq a a = true then match s_nth fs b with
      | some v => some (Sum.inl (nx, ls, v :: st, h, kc, ks))
      | none => none else none) = _
  rw [if_pos (Nat.beq_refl a), hv]
theorem w_putf (he : s_at 32 cd pc = some (55, i, nx, a, b, c)) (hg : s_get h q = some (1, a, fs)) (hq : Nat.blt 0 q = true) (hv : s_okF c v = true) (hb : Nat.blt b fs.length = true) (k : wr P d cd hd (nx, ls, st, hp h q (1, a, fs.set b v), kc, ks) Q) : wr P d cd hd (pc, ls, v :: .index q :: st, h, kc, ks) Q := by
  refine w_stepH he s_at_putfield (fun call => ?_) (Nat.le_refl _) (Nat.le_refl _) k
  show (match s_get h q with
    | some (1, t, fs) => if (Nat.beq t a && Nat.blt 0 q && s_okF c v) = true then s_setK v fs b (fun fs' => s_put h q (1, t, fs') (fun h' => some (Sum.inl (nx, ls, st, h', kc, ks)))) else none
    | _ => none) = _
  rw [hg]
  show (if (Nat.beq a a && Nat.blt 0 q && s_okF c v) = true then s_setK v fs b (fun fs' => s_put h q (1, a, fs') (fun h' => some (Sum.inl (nx, ls, st, h', kc, ks)))) else none) = _
  rw [Nat.beq_refl, hq, hv, if_pos (by rfl), s_setK_e _ (Nat.le_of_ble_eq_true hb), hp_put hg]
theorem s_inA_e {β : Type} (hx : In3 x) (h0 : 0 ≤ x) (f : Nat → Option β) (l : List Term) : s_inA (Int32.ofInt x) l f = f x.toNat := by
  unfold s_inA
  have : ¬ Int32.ofInt x < 0 := fun q => absurd ((vi_lt (y := 0) hx (by decide)).mp q) (by omega)
  rw [decide_eq_false this, if_neg (by decide), s_fN_e, vi_cl hx h0]
theorem w_ald (he : s_at 32 cd pc = some (o, i, nx, a, b, c)) (hg : s_get h q = some (kd, tg, ts)) (hk : kd = 0 ∨ kd = 2) (ho : o = 56 ∧ tg = 0 ∨ o = 57 ∧ tg = 1 ∨ o = 58 ∧ tg = 5 ∨ o = 59 ∧ (tg = 2 ∨ tg = 3 ∨ tg = 4)) (hx : In3 x) (h0 : 0 ≤ x) (hv : s_nth ts x.toNat = some v) (k : wr P d cd hd (nx, ls, v :: st, h, kc, ks) Q) : wr P d cd hd (pc, ls, vi x :: .index q :: st, h, kc, ks) Q := by
  have key : ∀ lo hi, (Nat.ble lo tg && Nat.ble tg hi) = true → s_aldK h lo hi (vi x :: .index q :: st) (fun r => some (Sum.inl (nx, ls, r, h, kc, ks) : s_S ⊕ s_O)) = some (.inl (nx, ls, v :: st, h, kc, ks)) := fun lo hi hlh => by
    show (match s_get h q with
      | some (kd, t, ts) => if ((Nat.beq kd 0 || Nat.beq kd 2) && Nat.ble lo t && Nat.ble t hi) = true then s_inA (Int32.ofInt x) ts (fun j => match s_nth ts j with
        | some v => some (Sum.inl (nx, ls, v :: st, h, kc, ks) : s_S ⊕ s_O)
        | none => none) else none
      | none => none) = _
    rw [hg]
    show (if ((Nat.beq kd 0 || Nat.beq kd 2) && Nat.ble lo tg && Nat.ble tg hi) = true then s_inA (Int32.ofInt x) ts (fun j => match s_nth ts j with
        | some v => some (Sum.inl (nx, ls, v :: st, h, kc, ks) : s_S ⊕ s_O)
        | none => none) else none) = _
    rw [Bool.and_assoc, hlh, Bool.and_true, if_pos (by rcases hk with rfl | rfl <;> rfl), s_inA_e hx h0, hv]
  rcases ho with ⟨rfl, rfl⟩ | ⟨rfl, rfl⟩ | ⟨rfl, rfl⟩ | ⟨rfl, rfl | rfl | rfl⟩
  · exact w_stepH he s_at_iaload (fun call => key 0 0 rfl) (Nat.le_refl _) (Nat.le_refl _) k
  · exact w_stepH he s_at_laload (fun call => key 1 1 rfl) (Nat.le_refl _) (Nat.le_refl _) k
  · exact w_stepH he s_at_baload (fun call => key 5 5 rfl) (Nat.le_refl _) (Nat.le_refl _) k
  · exact w_stepH he s_at_aaload (fun call => key 2 4 rfl) (Nat.le_refl _) (Nat.le_refl _) k
  · exact w_stepH he s_at_aaload (fun call => key 2 4 rfl) (Nat.le_refl _) (Nat.le_refl _) k
  · exact w_stepH he s_at_aaload (fun call => key 2 4 rfl) (Nat.le_refl _) (Nat.le_refl _) k
theorem gi_nth (h0 : 0 ≤ x) (hx : x < li.length) (f : Int → Term) : s_nth (li.map f) x.toNat = some (f (gi li x)) := by
  rw [s_nth_eq, List.getElem?_map]
  have : x.toNat < li.length := by omega
  rw [List.getElem?_eq_getElem this]
  unfold gi
  rw [List.getD_eq_getElem?_getD, List.getElem?_eq_getElem this]
  rfl
theorem w_iald (he : s_at 32 cd pc = some (56, i, nx, a, b, c)) (hg : s_get h q = some (kd, 0, li.map vi)) (hk : kd = 0 ∨ kd = 2) (hx : In3 x) (h0 : 0 ≤ x) (h1 : x < li.length) (k : wr P d cd hd (nx, ls, vi (gi li x) :: st, h, kc, ks) Q) : wr P d cd hd (pc, ls, vi x :: .index q :: st, h, kc, ks) Q := w_ald he hg hk (Or.inl ⟨rfl, rfl⟩) hx h0 (gi_nth h0 h1 vi) k
theorem w_lald (he : s_at 32 cd pc = some (57, i, nx, a, b, c)) (hg : s_get h q = some (0, 1, li.map vl)) (hx : In3 x) (h0 : 0 ≤ x) (h1 : x < li.length) (k : wr P d cd hd (nx, ls, vl (gi li x) :: st, h, kc, ks) Q) : wr P d cd hd (pc, ls, vi x :: .index q :: st, h, kc, ks) Q := w_ald he hg (Or.inl rfl) (Or.inr (Or.inl ⟨rfl, rfl⟩)) hx h0 (gi_nth h0 h1 vl) k
theorem w_bald (he : s_at 32 cd pc = some (58, i, nx, a, b, c)) (hg : s_get h q = some (0, 5, li.map vi)) (hx : In3 x) (h0 : 0 ≤ x) (h1 : x < li.length) (k : wr P d cd hd (nx, ls, vi (gi li x) :: st, h, kc, ks) Q) : wr P d cd hd (pc, ls, vi x :: .index q :: st, h, kc, ks) Q := w_ald he hg (Or.inl rfl) (Or.inr (Or.inr (Or.inl ⟨rfl, rfl⟩))) hx h0 (gi_nth h0 h1 vi) k
theorem w_aald (he : s_at 32 cd pc = some (59, i, nx, a, b, c)) (hg : s_get h q = some (0, tg, ts)) (ht : tg = 2 ∨ tg = 3 ∨ tg = 4) (hx : In3 x) (h0 : 0 ≤ x) (hv : s_nth ts x.toNat = some v) (k : wr P d cd hd (nx, ls, v :: st, h, kc, ks) Q) : wr P d cd hd (pc, ls, vi x :: .index q :: st, h, kc, ks) Q := w_ald he hg (Or.inl rfl) (Or.inr (Or.inr (Or.inr ⟨rfl, ht⟩))) hx h0 hv k
theorem w_ast (he : s_at 32 cd pc = some (o, i, nx, a, b, c)) (hg : s_get h q = some (0, tg, ts)) (ho : o = 60 ∧ tg = 0 ∨ o = 61 ∧ tg = 1 ∨ o = 62 ∧ tg = 5 ∨ o = 63 ∧ (tg = 2 ∨ tg = 3)) (hq : Nat.blt 0 q = true) (hx : In3 x) (h0 : 0 ≤ x) (h1 : x < ts.length) (hv : s_okA h s_comp tg v = true) (k : wr P d cd hd (nx, ls, st, hp h q (0, tg, ts.set x.toNat v), kc, ks) Q) : wr P d cd hd (pc, ls, v :: vi x :: .index q :: st, h, kc, ks) Q := by
  have key : ∀ lo hi, (Nat.ble lo tg && Nat.ble tg hi) = true → s_astK h s_comp lo hi (v :: vi x :: .index q :: st) (fun r h' => some (Sum.inl (nx, ls, r, h', kc, ks) : s_S ⊕ s_O)) = some (.inl (nx, ls, st, hp h q (0, tg, ts.set x.toNat v), kc, ks)) := fun lo hi hlh => by
    show (match s_get h q with
      | some (0, t, ts) => if (Nat.ble lo t && Nat.ble t hi && Nat.blt 0 q && s_okA h s_comp t v) = true then s_inA (Int32.ofInt x) ts (fun j => s_setK v ts j (fun ts' => s_put h q (0, t, ts') (fun h' => some (Sum.inl (nx, ls, st, h', kc, ks) : s_S ⊕ s_O)))) else none
      | _ => none) = _
    rw [hg]
    show (if (Nat.ble lo tg && Nat.ble tg hi && Nat.blt 0 q && s_okA h s_comp tg v) = true then s_inA (Int32.ofInt x) ts (fun j => s_setK v ts j (fun ts' => s_put h q (0, tg, ts') (fun h' => some (Sum.inl (nx, ls, st, h', kc, ks) : s_S ⊕ s_O)))) else none) = _
    rw [hlh, hq, hv, if_pos (by rfl), s_inA_e hx h0, s_setK_e _ (by omega), hp_put hg]
  rcases ho with ⟨rfl, rfl⟩ | ⟨rfl, rfl⟩ | ⟨rfl, rfl⟩ | ⟨rfl, rfl | rfl⟩
  · exact w_stepH he s_at_iastore (fun call => key 0 0 rfl) (Nat.le_refl _) (Nat.le_refl _) k
  · exact w_stepH he s_at_lastore (fun call => key 1 1 rfl) (Nat.le_refl _) (Nat.le_refl _) k
  · exact w_stepH he s_at_bastore (fun call => key 5 5 rfl) (Nat.le_refl _) (Nat.le_refl _) k
  · exact w_stepH he s_at_aastore (fun call => key 2 3 rfl) (Nat.le_refl _) (Nat.le_refl _) k
  · exact w_stepH he s_at_aastore (fun call => key 2 3 rfl) (Nat.le_refl _) (Nat.le_refl _) k
theorem gi_set (f : Int → Term) : (li.map f).set n (f z) = (li.set n z).map f := (List.map_set ..).symm
theorem w_iast (he : s_at 32 cd pc = some (60, i, nx, a, b, c)) (hg : s_get h q = some (0, 0, li.map vi)) (hq : Nat.blt 0 q = true) (hx : In3 x) (h0 : 0 ≤ x) (h1 : x < li.length) (k : wr P d cd hd (nx, ls, st, hp h q (0, 0, (li.set x.toNat z).map vi), kc, ks) Q) : wr P d cd hd (pc, ls, vi z :: vi x :: .index q :: st, h, kc, ks) Q := w_ast he hg (Or.inl ⟨rfl, rfl⟩) hq hx h0 (by rw [List.length_map]; exact h1) rfl (by rw [gi_set]; exact k)
theorem w_last (he : s_at 32 cd pc = some (61, i, nx, a, b, c)) (hg : s_get h q = some (0, 1, li.map vl)) (hq : Nat.blt 0 q = true) (hx : In3 x) (h0 : 0 ≤ x) (h1 : x < li.length) (k : wr P d cd hd (nx, ls, st, hp h q (0, 1, (li.set x.toNat z).map vl), kc, ks) Q) : wr P d cd hd (pc, ls, vl z :: vi x :: .index q :: st, h, kc, ks) Q := w_ast he hg (Or.inr (Or.inl ⟨rfl, rfl⟩)) hq hx h0 (by rw [List.length_map]; exact h1) rfl (by rw [gi_set]; exact k)
theorem s_bool01 (hz : z = 0 ∨ z = 1) : s_bool (vi z) = true := by rcases hz with rfl | rfl <;> decide
theorem w_bast (he : s_at 32 cd pc = some (62, i, nx, a, b, c)) (hg : s_get h q = some (0, 5, li.map vi)) (hq : Nat.blt 0 q = true) (hx : In3 x) (h0 : 0 ≤ x) (h1 : x < li.length) (hz : z = 0 ∨ z = 1) (k : wr P d cd hd (nx, ls, st, hp h q (0, 5, (li.set x.toNat z).map vi), kc, ks) Q) : wr P d cd hd (pc, ls, vi z :: vi x :: .index q :: st, h, kc, ks) Q := w_ast he hg (Or.inr (Or.inr (Or.inl ⟨rfl, rfl⟩))) hq hx h0 (by rw [List.length_map]; exact h1) (s_bool01 hz) (by rw [gi_set]; exact k)
theorem s_okA_null (ht : tg = 2 ∨ tg = 3) : s_okA h s_comp tg .null = true := by rcases ht with rfl | rfl <;> rfl
theorem s_okA_at (ht : tg = 2 ∨ tg = 3) (hg : s_get h q = some (1, s_comp tg, fs)) : s_okA h s_comp tg (.index q) = true := by
  have key : (match s_get h q with
      | some (1, t, _) => Nat.beq t (s_comp tg)
      | _ => false) = true := by
    rw [hg]
    exact Nat.beq_refl _
  rcases ht with rfl | rfl
  · exact key
  · exact key
theorem w_aast (he : s_at 32 cd pc = some (63, i, nx, a, b, c)) (hg : s_get h q = some (0, tg, ts)) (ht : tg = 2 ∨ tg = 3) (hq : Nat.blt 0 q = true) (hx : In3 x) (h0 : 0 ≤ x) (h1 : x < ts.length) (hv : s_okA h s_comp tg v = true) (k : wr P d cd hd (nx, ls, st, hp h q (0, tg, ts.set x.toNat v), kc, ks) Q) : wr P d cd hd (pc, ls, v :: vi x :: .index q :: st, h, kc, ks) Q := w_ast he hg (Or.inr (Or.inr (Or.inr ⟨rfl, ht⟩))) hq hx h0 h1 hv k
theorem w_alen (he : s_at 32 cd pc = some (64, i, nx, a, b, c)) (hg : s_get h q = some (kd, tg, ts)) (hk : kd = 0 ∨ kd = 2) (k : wr P d cd hd (nx, ls, vi ts.length :: st, h, kc, ks) Q) : wr P d cd hd (pc, ls, .index q :: st, h, kc, ks) Q := by
  refine w_stepH he s_at_arraylength (fun call => ?_) (Nat.le_refl _) (Nat.le_refl _) k
  show (match s_get h q with
    | some (kd, _, ts) => if (Nat.beq kd 0 || Nat.beq kd 2) = true then s_fI (Int32.ofNat ts.length) (fun v => some (Sum.inl (nx, ls, v :: st, h, kc, ks) : s_S ⊕ s_O)) else none
    | none => none) = _
  rw [hg]
  show (if (Nat.beq kd 0 || Nat.beq kd 2) = true then s_fI (Int32.ofNat ts.length) (fun v => some (Sum.inl (nx, ls, v :: st, h, kc, ks) : s_S ⊕ s_O)) else none) = _
  rw [if_pos (by rcases hk with rfl | rfl <;> rfl), s_fI_e, ← Int32.ofInt_eq_ofNat]
theorem w_newa (he : s_at 32 cd pc = some (o, i, nx, a, b, c)) (ho : o = 65 ∨ o = 66) (hf : s_get h h.1 = some cc) (hx : In3 x) (h0 : 0 ≤ x) (h6 : x ≤ 60000000) (w : Term) (hw : w = if o = 65 then (if Nat.beq a 1 then .long 0 else .int 0) else .null) (k : wr P d cd hd (nx, ls, .index h.1 :: st, hq h (0, a, List.replicate x.toNat w), kc + 1, ks + x.toNat) Q) : wr P d cd hd (pc, ls, vi x :: st, h, kc, ks) Q := by
  have hb : Nat.ble x.toNat 60000000 = true := Nat.ble_eq_true_of_le (by omega)
  rcases ho with rfl | rfl
  · subst hw
    refine w_stepH he s_at_newarray (fun call => ?_) (Nat.le_succ _) (Nat.le_add_right _ _) k
    show s_inA (Int32.ofInt x) [] (fun N => if Nat.ble N 60000000 = true then s_push h (0, a, List.replicate N (if Nat.beq a 1 = true then .long 0 else .int 0)) (fun h' => s_fN (ks + N) (fun ks' => s_fN (kc + 1) (fun kc' => some (Sum.inl (nx, ls, .index h.1 :: st, h', kc', ks') : s_S ⊕ s_O)))) else none) = _
    rw [s_inA_e hx h0, if_pos hb, hq_push hf, s_fN_e, s_fN_e, if_pos (show (65 : Nat) = 65 from rfl)]
  · subst hw
    refine w_stepH he s_at_anewarray (fun call => ?_) (Nat.le_succ _) (Nat.le_add_right _ _) k
    show s_inA (Int32.ofInt x) [] (fun N => if Nat.ble N 60000000 = true then s_push h (0, a, List.replicate N .null) (fun h' => s_fN (ks + N) (fun ks' => s_fN (kc + 1) (fun kc' => some (Sum.inl (nx, ls, .index h.1 :: st, h', kc', ks') : s_S ⊕ s_O)))) else none) = _
    rw [s_inA_e hx h0, if_pos hb, hq_push hf, s_fN_e, s_fN_e, if_neg (by decide)]
theorem w_new (he : s_at 32 cd pc = some (68, i, nx, a, b, 0)) (hf : s_get h h.1 = some cc) (k : wr P d cd hd (nx, ls, .index h.1 :: st, hq h (1, a, s_df a), kc + 1, ks + b) Q) : wr P d cd hd (pc, ls, st, h, kc, ks) Q := by
  refine w_stepH he s_at_new (fun call => ?_) (Nat.le_succ _) (Nat.le_add_right _ _) k
  show s_push h (1, a, s_df a) (fun h' => s_fN (ks + b) (fun ks' => s_fN (kc + 1) (fun kc' => some (Sum.inl (nx, ls, .index h.1 :: st, h', kc', ks') : s_S ⊕ s_O)))) = _
  rw [hq_push hf, s_fN_e, s_fN_e]
/-- an exception is made and thrown: the method ends -/
theorem w_throw (he : s_at 32 cd pc = some (68, i, nx, a, b, 1)) (hst : Nat.ble (s_wt st) 8 = true) (k : Q (.inr a, h, kc + 1, ks + 6)) : wr P d cd hd (pc, ls, st, h, kc, ks) Q := by
  refine w_endH he s_at_new rfl (fun call => ?_) (Nat.le_succ _) (Nat.le_add_right _ _) k
  show (if Nat.ble (s_wt st) 8 = true then some (Sum.inr (.inr a, h, kc + 1, ks + 6) : s_S ⊕ s_O) else none) = _
  rw [if_pos hst]
theorem w_tsw {dflt lo hi : Int} {offs : Array Int} {off : Int} (he : s_at 32 cd pc = some (53, .tableswitch dflt lo hi offs, nx, a, b, c)) (hx : In3 x) (k1 : x < lo ∨ hi < x → wr P d cd hd (a, ls, st, h, kc, ks) Q) (k2 : lo ≤ x → x ≤ hi → ∃ off, s_nth offs.toList (x - lo).toNat = some off ∧ 0 ≤ (pc : Int) + off ∧ wr P d cd hd (((pc : Int) + off).toNat, ls, st, h, kc, ks) Q) : wr P d cd hd (pc, ls, vi x :: st, h, kc, ks) Q := by
  have e : ∀ call, s_x_tableswitch [] s_df s_comp call hd pc (53, .tableswitch dflt lo hi offs, nx, a, b, c) ls (vi x :: st) h kc ks = (if (decide ((Int32.ofInt x).toInt < lo) || decide (hi < (Int32.ofInt x).toInt)) = true then some (Sum.inl (a, ls, st, h, kc, ks)) else match s_nth offs.toList ((Int32.ofInt x).toInt - lo).toNat with
        | some off => if decide (0 ≤ (pc : Int) + off) = true then some (Sum.inl (((pc : Int) + off).toNat, ls, st, h, kc, ks)) else none
        | none => none) := fun call => rfl
  rw [vi_int hx] at e
  by_cases hc : x < lo ∨ hi < x
  · refine w_stepH he s_at_tableswitch (fun call => ?_) (Nat.le_refl _) (Nat.le_refl _) (k1 hc)
    rw [e, if_pos (by simpa using hc)]
  · obtain ⟨off, h1, h2, h3⟩ := k2 (by omega) (by omega)
    refine w_stepH he s_at_tableswitch (fun call => ?_) (Nat.le_refl _) (Nat.le_refl _) h3
    rw [e, if_neg (by simpa using hc), h1]
    show (if decide (0 ≤ (pc : Int) + off) = true then _ else none) = _
    rw [decide_eq_true h2, if_pos (by rfl)]
/-! ends -/
theorem w_ret (he : s_at 32 cd pc = some (72, i, nx, a, b, c)) (k : Q (.inl none, h, kc, ks)) : wr P d cd hd (pc, ls, [], h, kc, ks) Q := w_endH he s_at_return_ rfl (fun call => rfl) (Nat.le_refl _) (Nat.le_refl _) k
theorem w_iret (he : s_at 32 cd pc = some (73, i, nx, 0, b, c)) (k : Q (.inl (some (vi x)), h, kc, ks)) : wr P d cd hd (pc, ls, [vi x], h, kc, ks) Q := w_endH he s_at_ireturn rfl (fun call => rfl) (Nat.le_refl _) (Nat.le_refl _) k
theorem w_zret (he : s_at 32 cd pc = some (73, i, nx, 1, b, c)) (hx : x = 0 ∨ x = 1) (k : Q (.inl (some (vi x)), h, kc, ks)) : wr P d cd hd (pc, ls, [vi x], h, kc, ks) Q := by
  refine w_endH he s_at_ireturn rfl (fun call => ?_) (Nat.le_refl _) (Nat.le_refl _) k
  show (if (if Nat.beq 1 1 = true then s_bool (vi x) else Nat.beq (s_ty (vi x)) 1) = true then some (Sum.inr (.inl (some (vi x)), h, kc, ks) : s_S ⊕ s_O) else none) = _
  rw [if_pos (show Nat.beq 1 1 = true from rfl), s_bool01 hx, if_pos (by rfl)]
theorem w_lret (he : s_at 32 cd pc = some (74, i, nx, a, b, c)) (k : Q (.inl (some (vl x)), h, kc, ks)) : wr P d cd hd (pc, ls, [vl x], h, kc, ks) Q := w_endH he s_at_lreturn rfl (fun call => rfl) (Nat.le_refl _) (Nat.le_refl _) k
theorem w_aret (he : s_at 32 cd pc = some (75, i, nx, a, b, c)) (hv : s_ty v = 3) (k : Q (.inl (some v), h, kc, ks)) : wr P d cd hd (pc, ls, [v], h, kc, ks) Q := by
  refine w_endH he s_at_areturn rfl (fun call => ?_) (Nat.le_refl _) (Nat.le_refl _) k
  show (if Nat.beq (s_ty v) 3 = true then some (Sum.inr (.inl (some v), h, kc, ks) : s_S ⊕ s_O) else none) = _
  rw [hv, if_pos (by rfl)]
/-! calls -/
theorem s_take_e {β : Type} : ∀ (as : List Term) (acc : List Term) (f : List Term → List Term → Option β), s_take as.length (as.reverse ++ rest) acc f = f (as ++ acc) rest := by
  intro as
  suffices ∀ (bs acc : List Term) (f : List Term → List Term → Option β), s_take bs.length (bs ++ rest) acc f = f (bs.reverse ++ acc) rest by
    intro acc f
    have h1 := this as.reverse acc f
    rwa [List.length_reverse, List.reverse_reverse] at h1
  intro bs
  induction bs with
  | nil => intro acc f; rfl
  | cons b bs ih =>
    intro acc f
    show s_take bs.length (bs ++ rest) (b :: acc) f = _
    rw [ih]
    simp
/-- what a call's end leads to: back behind the call, or out (no handler here) -/
def wq (P : s_P) (d : Nat) (cd : s_Cd) (hd : List s_Hd) (nx : Nat) (ls rest : List Term) (kc ks : Nat) (Q : s_O → Prop) (out : s_O) : Prop := match out with
  | (.inl v, h', k', n') => wr P d cd hd (nx, ls, v.toList ++ rest, h', kc + k', ks + n') Q
  | (.inr E, h', k', n') => hd = [] ∧ Q (.inr E, h', kc + k', ks + n')
theorem w_callA {o0 : Nat} (he : s_at 32 cd pc = some (o0, i, nx, a, b, c)) (hb : as.length = b) (ho : o0 = 70 ∨ o0 = 71 ∧ s_ob h c (s_hd1 as) = true) (hr : Nat.ble (s_wt rest) 8 = true) (k : wm P d a as h (wq P d cd hd nx ls rest kc ks Q)) : wr P d cd hd (pc, ls, as.reverse ++ rest, h, kc, ks) Q := by
  obtain ⟨⟨ov, h', k', n'⟩, ⟨N1, hN1⟩, hq⟩ := k
  subst hb
  have ex : ∀ fu, N1 ≤ fu → s_exec [] s_df s_comp (s_call [] s_df s_comp P fu d) hd pc (o0, i, nx, a, as.length, c) ls (as.reverse ++ rest) h kc ks = s_aft hd pc nx ls rest kc ks (some (ov, h', k', n')) := fun fu hf => by
    rcases ho with rfl | ⟨rfl, hob⟩
    · rw [s_exec_at s_at_invokestatic]
      show s_take as.length (as.reverse ++ rest) [] _ = _
      rw [s_take_e, List.append_nil, if_pos hr, hN1 fu hf]
      cases ov <;> rfl
    · rw [s_exec_at s_at_invokevirtual]
      show s_take as.length (as.reverse ++ rest) [] _ = _
      rw [s_take_e, List.append_nil, hr, hob, if_pos (by rfl), hN1 fu hf]
      cases ov <;> rfl
  cases ov with
  | inl v =>
    obtain ⟨out, ⟨N, hN⟩, hQ⟩ := hq
    refine ⟨out, ⟨N1 + N + 1, fun fu n hf hn => ?_⟩, hQ⟩
    obtain ⟨m, rfl⟩ : ∃ m, n = m + 1 := ⟨n - 1, by omega⟩
    have e := ex fu (by omega)
    simp only [s_aft, s_fN_e] at e
    rw [ws_run1 he e (Nat.le_add_right _ _) (Nat.le_add_right _ _)]
    exact hN fu m (by omega) (by omega)
  | inr E =>
    obtain ⟨rfl, hQ⟩ := hq
    refine ⟨_, ⟨N1 + 1, fun fu n hf hn => ?_⟩, hQ⟩
    obtain ⟨m, rfl⟩ : ∃ m, n = m + 1 := ⟨n - 1, by omega⟩
    exact ws_end1 he (by rcases ho with rfl | ⟨rfl, -⟩ <;> rfl) (ex fu (by omega)) (Nat.le_add_right _ _) (Nat.le_add_right _ _)
theorem w_cs (he : s_at 32 cd pc = some (70, i, nx, a, b, c)) (as rest : List Term) (hb : as.length = b) (hs : st = as.reverse ++ rest) (hr : Nat.ble (s_wt rest) 8 = true) (k : wm P d a as h (wq P d cd hd nx ls rest kc ks Q)) : wr P d cd hd (pc, ls, st, h, kc, ks) Q := by
  subst hs
  exact w_callA he hb (Or.inl rfl) hr k
theorem w_cv (he : s_at 32 cd pc = some (71, i, nx, a, b, c)) (as rest : List Term) (hb : as.length = b) (hs : st = as.reverse ++ rest) (hr : Nat.ble (s_wt rest) 8 = true) (hh : s_hd1 as = .index q) (hg : s_get h q = some (1, c, fs)) (k : wm P d a as h (wq P d cd hd nx ls rest kc ks Q)) : wr P d cd hd (pc, ls, st, h, kc, ks) Q := by
  subst hs
  refine w_callA he hb (Or.inr ⟨rfl, ?_⟩) hr k
  rw [hh]
  show (match s_get h q with
    | some (1, t, _) => Nat.beq t c
    | _ => false) = true
  rw [hg]
  exact Nat.beq_refl c
/-- a constructor's call, and that of Object's -/
theorem w_ci (he : s_at 32 cd pc = some (69, i, nx, a, b, 0)) (as rest : List Term) (hb : as.length = b) (hs : st = as.reverse ++ rest) (hr : Nat.ble (s_wt rest) 8 = true) (hh : s_isR (s_hd1 as) = true) (k : wm P d a as h (fun out => out.1 = .inl none ∧ wr P d cd hd (nx, ls, rest, out.2.1, kc + out.2.2.1, ks + out.2.2.2) Q)) : wr P d cd hd (pc, ls, st, h, kc, ks) Q := by
  subst hs hb
  obtain ⟨⟨ov, h', k', n'⟩, ⟨N1, hN1⟩, hv, out, ⟨N, hN⟩, hQ⟩ := k
  cases hv
  refine ⟨out, ⟨N1 + N + 1, fun fu n hf hn => ?_⟩, hQ⟩
  obtain ⟨m, rfl⟩ : ∃ m, n = m + 1 := ⟨n - 1, by omega⟩
  have e : s_exec [] s_df s_comp (s_call [] s_df s_comp P fu d) hd pc (69, i, nx, a, as.length, 0) ls (as.reverse ++ rest) h kc ks = some (.inl (nx, ls, rest, h', kc + k', ks + n')) := by
    rw [s_exec_at s_at_invokespecial]
    show s_take as.length (as.reverse ++ rest) [] _ = _
    rw [s_take_e, List.append_nil, hr, hh, if_pos (by rfl), hN1 fu (by omega)]
    show s_fN (kc + k') (fun kc' => s_fN (ks + n') (fun ks' => some (Sum.inl (nx, ls, rest, h', kc', ks') : s_S ⊕ s_O))) = _
    rw [s_fN_e, s_fN_e]
  rw [ws_run1 he e (Nat.le_add_right _ _) (Nat.le_add_right _ _)]
  exact hN fu m (by omega) (by omega)
theorem w_cobj (he : s_at 32 cd pc = some (69, i, nx, a, b, 9)) (hr : Nat.ble (s_wt st) 8 = true) (k : wr P d cd hd (nx, ls, st, h, kc, ks) Q) : wr P d cd hd (pc, ls, .index q :: st, h, kc, ks) Q := by
  refine w_stepH he s_at_invokespecial (fun call => ?_) (Nat.le_refl _) (Nat.le_refl _) k
  show (if Nat.ble (s_wt st) 8 = true then some (Sum.inl (nx, ls, st, h, kc, ks) : s_S ⊕ s_O) else none) = _
  rw [if_pos hr]
end S72
