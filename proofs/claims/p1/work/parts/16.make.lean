/-! WHAT MAKES CELLS; RETURNS AND THROWS -/
theorem s_pushN_s {c : s_C} : ∀ {n : Nat} {h : s_H} {k : s_H → s_R} {r : s_S ⊕ s_O}, s_pushN c n h k = some r → ∃ h', k h' = some r ∧ h'.1 = h.1 + n ∧ ∀ j, s_get h' j = if h.1 ≤ j ∧ j < h.1 + n then some c else s_get h j
  | 0, h, k, r, e => ⟨h, e, rfl, fun j => by rw [if_neg (by omega)]⟩
  | n + 1, h, k, r, e => by
    obtain ⟨h1, e1, e2, e3⟩ := s_push_s (show s_push h c (fun h' => s_pushN c n h' k) = some r from e)
    obtain ⟨h2, f1, f2, f3⟩ := s_pushN_s e1
    refine ⟨h2, f1, by omega, fun j => ?_⟩
    rw [f3 j, e2]
    by_cases hj : j = h.1
    · subst hj
      rw [if_neg (by omega), e3, if_pos rfl, if_pos (by omega)]
    · by_cases hk : h.1 + 1 ≤ j ∧ j < h.1 + 1 + n
      · rw [if_pos hk, if_pos (by omega)]
      · rw [if_neg hk, e3, if_neg hj, if_neg (by omega)]
theorem s_dt_s {ρ : Nat → Int32} {ad : List Nat} {ty : FieldType} (h1 : ty ≠ .float) (h2 : ty ≠ .double) : s_den ρ ad (s_dt ty) = some (defaultValue ty) := by
  cases ty <;> first
    | rfl
    | exact absurd rfl h1
    | exact absurd rfl h2
theorem s_AA_new {s : State} {ρ : Nat → Int32} {ad : List Nat} {H : Heap} {tag N a : Nat} {cA : ClassId} {t : Term} {v : Value} (hc : H[a]? = some (arrV cA N (fun _ => v))) (ha : ArrOfT s cA (s_aty tag)) (hr : va_RA s cA (s_aty tag)) (ht : s_den ρ ad t = some v) : s_AA s ρ ad H 0 tag (List.replicate N t) a := by
  refine ⟨_, hc, ha N _, (by intro q; cases q), ?_, fun _ => hr⟩
  rw [← arrV_new]
  show s_DS ρ ad (List.replicate N t) (Array.replicate N v).toList
  rw [Array.toList_replicate]
  exact s_DS_rep ht N
theorem s_wt_s {ρ : Nat → Int32} {ad : List Nat} : ∀ {ts : List Term} {vs : List Value}, s_DS ρ ad ts vs → (vs.map fun v => v.category).sum = s_wt ts
  | [], vs, h => by rw [s_DS_n h]; rfl
  | t :: ts, vs, h => by
    obtain ⟨v, vs', rfl, h1, h2⟩ := s_DS_c h
    have ih := s_wt_s h2
    simp only [List.map_cons, List.sum_cons, s_wt, ih]
    rcases s_cat h1 with ⟨q, x, rfl⟩ | ⟨q, x, rfl⟩ | ⟨q, ⟨-, rfl⟩ | ⟨_, y, -, rfl, -⟩⟩ <;> (rw [q]; rfl)
section S16
variable {p : Program} {l : Launch} {e : Env} {R : Room} {s : State} {m : MethodId} {args : Array Value} {below : List Frame} {meth : Method} {c : Code} {Q : State → Prop} {M : s_M} {mi : Nat → Option s_M} {Wm : List Cond} {dC : Nat → ClassId} {dI : Nat → Nat → Nat} {ρ : Nat → Int32} {base nL : Nat} {ad : List Nat} {F : s_F} {df : Nat → List Term} {comp : Nat → Nat} {call : Nat → List Term → s_H → Option s_O} {hd : List s_Hd} {pc pc' : Nat} {L L' st st' : List Term} {h h' : s_H} {kc ks kc' ks' : Nat} {H : Heap} {ls : Array Slot} {vs : List Value} {locs : List Loc} {o nx a b c' : Nat}
/-- what stays when cells come -/
theorem s_SR_grow (hL : s_LR ρ ad nL L ls) (hD : s_DS ρ ad st vs) (hF : s_FR base s H locs) {H' : Heap} {x : List Nat} {t : Term} {v : Value} (hH : s_HR s dC dI ρ (ad ++ x) base h' H') (ht : s_den ρ (ad ++ x) t = some v) (hz : H.size ≤ H'.size) (ho : ∀ q : Nat, q < H.size → H'[q]? = H[q]?) (hb : base ≤ s.heap.size) : s_SR s dC dI ρ base nL (ad ++ x) L (t :: st) h' H' ls (v :: vs) locs :=
  ⟨s_LR_mono x hL, ⟨ht, s_DS_mono x hD⟩, hH, s_FR_grow hF hz ho hb⟩
theorem s_k_newarray {t : ArrayType} (C : s_Cx p s m args meth c M) (hW : ∀ w ∈ Wm, w ∈ s_gd) (hS : s_SR s dC dI ρ base nL ad L st h H ls vs locs) (hI : s_chkI mi M Wm pc (o, (.newarray t), nx, a, b, c') = true) (he : s_x_newarray F df comp call hd pc (o, (.newarray t), nx, a, b, c') L st h kc ks = some (.inl (pc', L', st', h', kc', ks'))) (hK : s_Cl dC dI s) (hbase : base ≤ s.heap.size) (hRc : kc' ≤ R.cells) (hRs : ks' ≤ R.slots) (kk : s_Kk p l e R s m args below meth c Q dC dI ρ base nL ad pc' L' st' h' kc' ks') : W p l e R s m args below meth c H locs kc ks Q (F0 m pc ls vs) := by
  obtain ⟨hx, hb, hml, hrt, hlk, hown, hnm, hts, htb⟩ := C
  obtain ⟨hL, hD, hH, hF⟩ := hS
  obtain ⟨-, rfl, hdg, hta, ha, hw⟩ := of_decide_eq_true hI
  simp only [s_x_newarray] at he
  split at he
  · rename_i n r0
    obtain ⟨v1, vs1, rfl, e1, hD1⟩ := s_DS_c hD
    cases e1
    obtain ⟨h0, he⟩ := s_inA_s he
    split at he
    · rename_i hN
      have hN := Nat.le_of_ble_eq_true hN
      obtain ⟨h1, he, g1, g2⟩ := s_push_s he
      simp only [s_fN_e] at he
      cases he
      have hcb : n.toNatClampNeg * componentBytes (newarray.typeOf t) ≤ 536870912 := by
        rw [hta]
        rcases ha with rfl | rfl | rfl
        · show n.toNatClampNeg * 4 ≤ _; omega
        · show n.toNatClampNeg * 8 ≤ _; omega
        · show n.toNatClampNeg * 1 ≤ _; omega
      refine va_newaK hx hb (hts _ (hW _ hw)) rfl hdg rfl h0 rfl hcb hRc hRs rfl fun H' cA e1 z1 o1 hAr hNm => ?_
      rw [hta] at e1 hAr hNm
      have hRA : va_RA s cA (s_aty a) := by
        rcases ha with rfl | rfl | rfl <;> exact hNm
      have hdt : s_den ρ (ad ++ [H.size]) (if Nat.beq a 1 then .long 0 else .int 0) = some (defaultValue (s_aty a)) := by
        rcases ha with rfl | rfl | rfl <;> rfl
      refine kk _ H' ls _ locs ⟨_, rfl⟩ (s_SR_grow hL hD1 hF (s_HR_push hH z1 o1 g1 (Nat.le_trans hbase hF.1) g2 (Or.inr ⟨Or.inl rfl, s_AA_new e1 hAr hRA hdt⟩)) ?_ (by omega) o1 hbase)
      show ((ad ++ [H.size])[h.1]?).map Value.ref = some (.ref H.size)
      rw [hH.1, List.getElem?_concat_length]; rfl
    · cases he
  · cases he
theorem s_k_anewarray {n : Nat} (C : s_Cx p s m args meth c M) (hW : ∀ w ∈ Wm, w ∈ s_gd) (hS : s_SR s dC dI ρ base nL ad L st h H ls vs locs) (hI : s_chkI mi M Wm pc (o, (.anewarray n), nx, a, b, c') = true) (he : s_x_anewarray F df comp call hd pc (o, (.anewarray n), nx, a, b, c') L st h kc ks = some (.inl (pc', L', st', h', kc', ks'))) (hK : s_Cl dC dI s) (hbase : base ≤ s.heap.size) (hRc : kc' ≤ R.cells) (hRs : ks' ≤ R.slots) (kk : s_Kk p l e R s m args below meth c Q dC dI ρ base nL ad pc' L' st' h' kc' ks') : W p l e R s m args below meth c H locs kc ks Q (F0 m pc ls vs) := by
  obtain ⟨hx, hb, hml, hrt, hlk, hown, hnm, hts, htb⟩ := C
  obtain ⟨hL, hD, hH, hF⟩ := hS
  simp only [s_chkI] at hI
  split at hI
  · rename_i C hC
    obtain ⟨-, rfl, hdg, hw1, hw2⟩ := of_decide_eq_true hI
    simp only [s_x_anewarray] at he
    split at he
    · rename_i n1 r0
      obtain ⟨v1, vs1, rfl, e1, hD1⟩ := s_DS_c hD
      cases e1
      obtain ⟨h0, he⟩ := s_inA_s he
      split at he
      · rename_i hN
        have hN := Nat.le_of_ble_eq_true hN
        obtain ⟨h1, he, g1, g2⟩ := s_push_s he
        simp only [s_fN_e] at he
        cases he
        refine W.anew hx hb hown (hts _ (hW _ hw1)) (hts _ (hW _ hw2)) rfl hdg rfl h0 (by omega) hRc hRs fun cA kA cmp f1 f2 f3 f4 => ?_
        generalize hH1 : H.push ({ cls := cA, slots := Array.replicate n1.toNatClampNeg .null, vm := .none } : Cell) = H1
        have z1 : H1.size = H.size + 1 := by rw [← hH1, Array.size_push]
        have e1 : H1[H.size]? = some (arrV cA n1.toNatClampNeg (fun _ => .null)) := by rw [← hH1, Array.getElem?_push_size, ← arrV_new]
        have o1 : ∀ q : Nat, q < H.size → H1[q]? = H[q]? := fun q hq => by rw [← hH1, Array.getElem?_push, if_neg (Nat.ne_of_lt hq)]
        have hAr : ArrOfT s cA (s_aty a) := by rw [hC]; exact fun N z => ⟨(fun k h => by cases h), kA, f2, cmp, f3⟩
        have hRA : va_RA s cA (s_aty a) := by rw [hC]; exact ⟨kA, cmp, f2, f3, f4, f1⟩
        refine kk _ H1 ls _ locs ⟨_, rfl⟩ (s_SR_grow hL hD1 hF (s_HR_push hH z1 o1 g1 (Nat.le_trans hbase hF.1) g2 (Or.inr ⟨Or.inl rfl, s_AA_new e1 hAr hRA rfl⟩)) ?_ (by omega) o1 hbase)
        show ((ad ++ [H.size])[h.1]?).map Value.ref = some (.ref H.size)
        rw [hH.1, List.getElem?_concat_length]; rfl
      · cases he
    · cases he
  · cases hI
theorem s_k_new {n : Nat} (C : s_Cx p s m args meth c M) (hW : ∀ w ∈ Wm, w ∈ s_gd) (hS : s_SR s dC dI ρ base nL ad L st h H ls vs locs) (hI : s_chkI mi M Wm pc (o, (.new n), nx, a, b, c') = true) (he : s_x_new F df comp call hd pc (o, (.new n), nx, a, b, c') L st h kc ks = some (.inl (pc', L', st', h', kc', ks'))) (hK : s_Cl dC dI s) (hbase : base ≤ s.heap.size) (hRc : kc' ≤ R.cells) (hRs : ks' ≤ R.slots) (hdf : df = s_df) (kk : s_Kk p l e R s m args below meth c Q dC dI ρ base nL ad pc' L' st' h' kc' ks') : W p l e R s m args below meth c H locs kc ks Q (F0 m pc ls vs) := by
  obtain ⟨hx, hb, hml, hrt, hlk, hown, hnm, hts, htb⟩ := C
  obtain ⟨hL, hD, hH, hF⟩ := hS
  simp only [s_x_new] at he
  split at he
  · split at he <;> cases he
  · rename_i hc1
    simp only [s_chkI] at hI
    split at hI
    · exact absurd rfl hc1
    · split at hI
      · cases hI
      · rename_i r hr
        obtain ⟨-, rfl, hdg, rfl, hw1, hw2⟩ := of_decide_eq_true hI
        obtain ⟨h1, he, g1, g2⟩ := s_push_s he
        simp only [s_fN_e] at he
        cases he
        have hKn := hK _ _ hr
        obtain ⟨k1, k2, k3, k4, k5⟩ := s_cf _ _ hr
        refine W.newcK hx hb hown (hts _ (hW _ hw1)) (hts _ k5) (hts _ (hW _ hw2)) rfl hdg hRc hRs hKn.2.1 rfl fun H1 kC hkC e1 z1 o1 => ?_
        obtain ⟨cell, q1, q2, q3, q4⟩ := u_born (s_ft a) hts k1 hKn hkC e1 (fun k hk => (k3 k hk).1)
        refine kk _ H1 ls _ locs ⟨_, rfl⟩ (s_SR_grow hL hD hF (s_HR_push hH z1 o1 g1 (Nat.le_trans hbase hF.1) g2 (Or.inl ⟨rfl, r, hr, by rw [hdf]; exact k4, cell, q1, q2, q3, fun k t hk => ?_⟩)) ?_ (by omega) o1 hbase)
        · have hk' : (s_df a)[k]? = some t := by rw [← hdf]; exact hk
          have hkN : k < r.2.2 := by rw [← k4]; exact (List.getElem?_eq_some_iff.mp hk').1
          have hdt := (k3 k hkN).2.2.1
          rw [s_nth_eq, hk'] at hdt
          cases hdt
          refine ⟨_, ?_, q4 k hkN⟩
          exact s_dt_s (k3 k hkN).2.2.2.1 (k3 k hkN).2.2.2.2
        · show ((ad ++ [H.size])[h.1]?).map Value.ref = some (.ref H.size)
          rw [hH.1, List.getElem?_concat_length]; rfl
    · cases hI
theorem s_k_objinit {n : Nat} (C : s_Cx p s m args meth c M) (hW : ∀ w ∈ Wm, w ∈ s_gd) (hS : s_SR s dC dI ρ base nL ad L st h H ls vs locs) (hsz : ls.size = c.maxLocals) (hI : s_chkI mi M Wm pc (o, .invokespecial n, nx, a, b, 9) = true) (he : s_x_invokespecial F df comp call hd pc (o, .invokespecial n, nx, a, b, 9) L st h kc ks = some (.inl (pc', L', st', h', kc', ks'))) (hRf : 1 ≤ R.frames) (hRl : 20 ≤ R.locals) (kk : s_Kk p l e R s m args below meth c Q dC dI ρ base nL ad pc' L' st' h' kc' ks') : W p l e R s m args below meth c H locs kc ks Q (F0 m pc ls vs) := by
  obtain ⟨hx, hb, hml, hrt, hlk, hown, hnm, hts, htb⟩ := C
  obtain ⟨hL, hD, hH, hF⟩ := hS
  obtain ⟨-, rfl, hdg, hw1, hw2, hw3⟩ := of_decide_eq_true hI
  have he : (match st with
        | .index _ :: r => if Nat.ble (s_wt r) 8 then some (.inl (pc + 3, L, r, h, kc, ks)) else none
        | _ => none) = some (Sum.inl (pc', L', st', h', kc', ks')) := he
  split at he
  · rename_i q r0
    obtain ⟨v1, vs1, rfl, e1, hD1⟩ := s_DS_c hD
    obtain ⟨o1, rfl, ho⟩ := s_ref e1
    split at he
    · rename_i hwt
      cases he
      refine W.objInit hx hb hown (hts _ (hW _ hw1)) (hts _ (hW _ hw2)) (hts _ (hW _ hw3)) rfl hsz rfl hdg hRf ?_ (kk ad H ls _ locs (s_ext ad) ⟨hL, hD1, hH, hF⟩)
      have := s_wt_s hD1
      have hwt := Nat.le_of_ble_eq_true hwt
      show 2 * 0 + _ + 12 ≤ _
      omega
    · cases he
  · cases he
end S16
