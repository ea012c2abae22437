/-! THE HEAP'S INSTRUCTIONS -/
theorem s_OA_kept {dC : Nat → ClassId} {dI : Nat → Nat → Nat} {ρ : Nat → Int32} {ad x : List Nat} {H H' : Heap} {ci a : Nat} {fs : List Term} (h : s_OA dC dI ρ ad H ci fs a) (ho : H'[a]? = H[a]?) : s_OA dC dI ρ (ad ++ x) H' ci fs a := by
  obtain ⟨r, h1, h2, cell, h3, h4, h5, h6⟩ := h
  refine ⟨r, h1, h2, cell, by rw [ho]; exact h3, h4, h5, fun k t hk => ?_⟩
  obtain ⟨v, q1, q2⟩ := h6 k t hk
  exact ⟨v, s_den_mono x t v q1, q2⟩
theorem s_AA_kept {s : State} {ρ : Nat → Int32} {ad x : List Nat} {H H' : Heap} {kd tag a : Nat} {ts : List Term} (h : s_AA s ρ ad H kd tag ts a) (ho : H'[a]? = H[a]?) : s_AA s ρ (ad ++ x) H' kd tag ts a := by
  obtain ⟨cell, h1, h2, h3, h4, h5⟩ := h
  exact ⟨cell, by rw [ho]; exact h1, h2, h3, s_DS_mono x h4, h5⟩
theorem s_CA_kept {s : State} {dC : Nat → ClassId} {dI : Nat → Nat → Nat} {ρ : Nat → Int32} {ad x : List Nat} {H H' : Heap} {c : s_C} {a : Nat} (h : s_CA s dC dI ρ ad H c a) (ho : H'[a]? = H[a]?) : s_CA s dC dI ρ (ad ++ x) H' c a := by
  rcases h with ⟨h1, h2⟩ | ⟨h1, h2⟩
  · exact Or.inl ⟨h1, s_OA_kept h2 ho⟩
  · exact Or.inr ⟨h1, s_AA_kept h2 ho⟩
theorem s_HR_put {s : State} {dC : Nat → ClassId} {dI : Nat → Nat → Nat} {ρ : Nat → Int32} {ad : List Nat} {base k a : Nat} {h h' : s_H} {H H' : Heap} {c' : s_C} (hH : s_HR s dC dI ρ ad base h H) (ha : ad[k]? = some a) (hz : H'.size = H.size) (ho : ∀ q : Nat, q ≠ a → H'[q]? = H[q]?) (h1 : h'.1 = h.1) (hg : ∀ j, s_get h' j = if j = k then some c' else s_get h j) (hc : s_CA s dC dI ρ ad H' c' a) : s_HR s dC dI ρ ad base h' H' := by
  refine ⟨h1.trans hH.1, hH.2.1, fun j b hj => by rw [hz]; exact hH.2.2.1 j b hj, fun j c hj => ?_⟩
  rw [hg j] at hj
  by_cases hjk : j = k
  · rw [if_pos hjk] at hj
    cases hj
    rw [hjk]
    exact Or.inr ⟨a, ha, hc⟩
  · rw [if_neg hjk] at hj
    rcases hH.2.2.2 j c hj with q | ⟨b, q1, q2⟩
    · exact Or.inl q
    · have hba : b ≠ a := fun z => hjk (hH.2.1 j k a (z ▸ q1) ha)
      refine Or.inr ⟨b, q1, ?_⟩
      have := s_CA_kept (x := []) q2 (ho b hba)
      rwa [List.append_nil] at this
theorem s_HR_bulk {s : State} {dC : Nat → ClassId} {dI : Nat → Nat → Nat} {ρ : Nat → Int32} {ad : List Nat} {base : Nat} {h h' : s_H} {H H' : Heap} (hH : s_HR s dC dI ρ ad base h H) (hz : H.size ≤ H'.size) (ho : ∀ q : Nat, q < H.size → H'[q]? = H[q]?) (x : List Nat) (h1 : h'.1 = h.1 + x.length) (hin : ∀ i j a : Nat, x[i]? = some a → x[j]? = some a → i = j) (hnew : ∀ i a : Nat, x[i]? = some a → H.size ≤ a ∧ a < H'.size) (hb : base ≤ H.size)
    (hg : ∀ (j : Nat) (c : s_C), s_get h' j = some c → s_get h j = some c ∨ ∃ i a : Nat, j = h.1 + i ∧ x[i]? = some a ∧ s_CA s dC dI ρ (ad ++ x) H' c a) : s_HR s dC dI ρ (ad ++ x) base h' H' := by
  have key : ∀ (i a : Nat), (ad ++ x)[i]? = some a → (i < ad.length ∧ ad[i]? = some a ∧ a < H.size) ∨ (ad.length ≤ i ∧ x[i - ad.length]? = some a ∧ H.size ≤ a ∧ a < H'.size) := by
    intro i a hi
    by_cases hl : i < ad.length
    · rw [List.getElem?_append_left hl] at hi
      exact Or.inl ⟨hl, hi, (hH.2.2.1 i a hi).1⟩
    · rw [List.getElem?_append_right (by omega)] at hi
      exact Or.inr ⟨by omega, hi, hnew _ a hi⟩
  refine ⟨by rw [h1, hH.1, List.length_append], fun i j a hi hj => ?_, fun k a hk => ?_, fun j c hj => ?_⟩
  · rcases key i a hi with ⟨a1, a2, a3⟩ | ⟨a1, a2, a3, -⟩ <;> rcases key j a hj with ⟨b1, b2, b3⟩ | ⟨b1, b2, b3, -⟩
    · exact hH.2.1 i j a a2 b2
    · omega
    · omega
    · have := hin _ _ a a2 b2
      omega
  · rcases key k a hk with ⟨-, a2, a3⟩ | ⟨a1, a2, a3, a4⟩
    · exact ⟨by omega, (hH.2.2.1 k a a2).2⟩
    · exact ⟨a4, fun _ => by omega⟩
  · rcases hg j c hj with q | ⟨i, a, rfl, q2, q3⟩
    · rcases hH.2.2.2 j c q with q | ⟨b, q1, q2⟩
      · exact Or.inl q
      · refine Or.inr ⟨b, ?_, s_CA_kept q2 (ho b (hH.2.2.1 j b q1).1)⟩
        rw [List.getElem?_append_left (List.getElem?_eq_some_iff.mp q1).1]; exact q1
    · refine Or.inr ⟨a, ?_, q3⟩
      rw [hH.1, List.getElem?_append_right (by omega), Nat.add_sub_cancel_left]; exact q2
theorem s_HR_push {s : State} {dC : Nat → ClassId} {dI : Nat → Nat → Nat} {ρ : Nat → Int32} {ad : List Nat} {base : Nat} {h h' : s_H} {H H' : Heap} {c' : s_C} (hH : s_HR s dC dI ρ ad base h H) (hz : H'.size = H.size + 1) (ho : ∀ q : Nat, q < H.size → H'[q]? = H[q]?) (h1 : h'.1 = h.1 + 1) (hb : base ≤ H.size) (hg : ∀ j, s_get h' j = if j = h.1 then some c' else s_get h j) (hc : s_CA s dC dI ρ (ad ++ [H.size]) H' c' H.size) : s_HR s dC dI ρ (ad ++ [H.size]) base h' H' := by
  refine s_HR_bulk hH (by omega) ho [H.size] h1 (fun i j a hi hj => ?_) (fun i a hi => ?_) hb (fun j c hj => ?_)
  · have h2 := (List.getElem?_eq_some_iff.mp hi).1
    have h3 := (List.getElem?_eq_some_iff.mp hj).1
    simp at h2 h3; omega
  · have h2 := (List.getElem?_eq_some_iff.mp hi).1
    simp at h2
    subst h2
    simp at hi
    omega
  · rw [hg j] at hj
    by_cases hjk : j = h.1
    · rw [if_pos hjk] at hj
      cases hj
      exact Or.inr ⟨0, H.size, hjk, rfl, hc⟩
    · rw [if_neg hjk] at hj
      exact Or.inl hj
theorem s_FR_put {base a k : Nat} {s : State} {H H' : Heap} {locs : List Loc} (hF : s_FR base s H locs) (hz : H'.size = H.size) (ho : ∀ q : Nat, q ≠ a → H'[q]? = H[q]?) (ha : base ≤ a) : s_FR base s H' (locs ++ [⟨a, k⟩]) := by
  refine ⟨by rw [hz]; exact hF.1, fun q hq => by rw [ho q (by omega)]; exact hF.2.1 q hq, fun z hz => ?_⟩
  rcases List.mem_append.mp hz with h1 | h1
  · exact hF.2.2 z h1
  · rw [List.mem_singleton.mp h1]; exact ha
theorem s_FR_grow {base : Nat} {s : State} {H H' : Heap} {locs : List Loc} (hF : s_FR base s H locs) (hz : H.size ≤ H'.size) (ho : ∀ q : Nat, q < H.size → H'[q]? = H[q]?) (hb : base ≤ s.heap.size) : s_FR base s H' locs :=
  ⟨Nat.le_trans hF.1 hz, fun q hq => by rw [ho q (Nat.lt_of_lt_of_le hq (Nat.le_trans hb hF.1))]; exact hF.2.1 q hq, hF.2.2⟩
theorem s_LR_mono {ρ : Nat → Int32} {ad : List Nat} {nL : Nat} {L : List Term} {ls : Array Slot} (x : List Nat) (h : s_LR ρ ad nL L ls) : s_LR ρ (ad ++ x) nL L ls := by
  refine ⟨h.1, h.2.1, h.2.2.1, fun i t hi => ?_⟩
  rcases h.2.2.2 i t hi with q | ⟨v, q1, q2⟩
  · exact Or.inl q
  · exact Or.inr ⟨v, s_den_mono x t v q1, q2⟩
theorem s_ref {ρ : Nat → Int32} {ad : List Nat} {q : Nat} {v : Value} (h : s_den ρ ad (.index q) = some v) : ∃ a, v = .ref a ∧ ad[q]? = some a := by
  obtain ⟨a, h1, h2⟩ := Option.map_eq_some_iff.mp (show (ad[q]?).map Value.ref = some v from h)
  exact ⟨a, h2.symm, h1⟩
theorem s_bool_s {t : Term} (h : s_bool t = true) : t = .int 0 ∨ t = .int 1 := by
  unfold s_bool at h
  split at h
  · simp only [Bool.or_eq_true, decide_eq_true_eq] at h
    rcases h with rfl | rfl
    · exact Or.inl rfl
    · exact Or.inr rfl
  · cases h
theorem s_okF_s {ρ : Nat → Int32} {ad : List Nat} {c : Nat} {t : Term} {v : Value} {ty : FieldType} (h : s_okF c t = true) (hd : s_den ρ ad t = some v) (hf : s_fty c ty = true) : narrow ty v = v ∧ fits ty v = true := by
  by_cases h4 : c = 4
  · subst h4
    have hf : decide (ty = .boolean) = true := hf
    have hf := of_decide_eq_true hf
    subst hf
    rcases s_bool_s (show s_bool t = true from h) with rfl | rfl <;> (cases hd; exact ⟨rfl, rfl⟩)
  · have h' : (Nat.beq (s_ty t) c && Nat.blt 0 c) = true := by
      unfold s_okF at h
      split at h
      · exact absurd rfl h4
      · exact h
    simp only [Bool.and_eq_true] at h'
    have e := Nat.eq_of_beq_eq_true h'.1
    rcases s_cat hd with ⟨q, x, rfl⟩ | ⟨q, x, rfl⟩ | ⟨q, w⟩
    · rw [q] at e; subst e
      have hf := of_decide_eq_true (show decide (ty = .int) = true from hf)
      subst hf; exact ⟨rfl, rfl⟩
    · rw [q] at e; subst e
      have hf := of_decide_eq_true (show decide (ty = .long) = true from hf)
      subst hf; exact ⟨rfl, rfl⟩
    · rw [q] at e; subst e
      have hf : s_isRf ty = true := hf
      cases ty <;> first
        | (rcases w with ⟨-, rfl⟩ | ⟨_, _, -, rfl, -⟩ <;> exact ⟨rfl, rfl⟩)
        | cases hf
theorem s_okA_s {h : s_H} {comp : Nat → Nat} {tag : Nat} {t : Term} (hk : s_okA h comp tag t = true) (ht : tag = 2 ∨ tag = 3) : t = .null ∨ ∃ q t9 fs, t = .index q ∧ s_get h q = some (1, t9, fs) ∧ t9 = comp tag := by
  have key : ∀ n, (match t with
    | .null => true
    | .index q => match s_get h q with
      | some (1, t, _) => Nat.beq t (comp n)
      | _ => false
    | _ => false) = true → t = .null ∨ ∃ q t9 fs, t = .index q ∧ s_get h q = some (1, t9, fs) ∧ t9 = comp n := by
    intro n hn
    split at hn
    · exact Or.inl rfl
    · rename_i q
      split at hn
      · rename_i t9 fs hg
        exact Or.inr ⟨q, t9, fs, rfl, hg, Nat.eq_of_beq_eq_true hn⟩
      · cases hn
    · cases hn
  rcases ht with rfl | rfl
  · exact key 2 hk
  · exact key 3 hk
theorem s_inA_s {β : Type} {i : Int32} {ts : List Term} {k : Nat → Option β} {r : β} (h : s_inA i ts k = some r) : ¬ i < 0 ∧ k i.toNatClampNeg = some r := by
  unfold s_inA at h
  split at h
  · cases h
  · rename_i h0
    rw [s_fN_e] at h
    exact ⟨by simpa using h0, h⟩
theorem s_ald_s {s : State} {dC : Nat → ClassId} {dI : Nat → Nat → Nat} {ρ : Nat → Int32} {ad : List Nat} {base lo hi : Nat} {h : s_H} {H : Heap} {st : List Term} {vs : List Value} {k : List Term → s_R} {r : s_S ⊕ s_O} (he : s_aldK h lo hi st k = some r) (hD : s_DS ρ ad st vs) (hH : s_HR s dC dI ρ ad base h H) : ∃ (i : Int32) (a tag : Nat) (cell : Cell) (v : Value) (u : Term) (st' : List Term) (vs' : List Value), vs = .int i :: .ref a :: vs' ∧ H[a]? = some cell ∧ lo ≤ tag ∧ tag ≤ hi ∧ s.isArrayOf cell (s_aty tag) ∧ cell.vm ≠ .unknown ∧ ¬ (i < 0 ∨ cell.slots.size ≤ i.toNatClampNeg) ∧ cell.slots[i.toNatClampNeg]? = some v ∧ k (u :: st') = some r ∧ s_den ρ ad u = some v ∧ s_DS ρ ad st' vs' := by
  unfold s_aldK at he
  split at he
  · rename_i i q r0
    obtain ⟨v1, vs1, rfl, e1, hD1⟩ := s_DS_c hD
    obtain ⟨v2, vs2, rfl, e2, hD2⟩ := s_DS_c hD1
    cases e1
    obtain ⟨a, rfl, ha⟩ := s_ref e2
    split at he
    · rename_i kd t ts hg
      split at he
      · rename_i hq
        simp only [Bool.and_eq_true, Bool.or_eq_true] at hq
        obtain ⟨⟨hq1, hq2⟩, hq3⟩ := hq
        have hkd : kd = 0 ∨ kd = 2 := hq1.imp Nat.eq_of_beq_eq_true Nat.eq_of_beq_eq_true
        obtain ⟨h0, he⟩ := s_inA_s he
        rw [s_nth_eq] at he
        split at he
        · rename_i u hu
          rcases hH.2.2.2 q _ hg with z | ⟨b, hb, hc⟩
          · rcases hkd with rfl | rfl <;> cases z
          · rw [ha] at hb; cases hb
            rcases hc with ⟨z, -⟩ | ⟨-, cell, g1, g2, g3, g4, -⟩
            · rcases hkd with rfl | rfl <;> cases z
            · obtain ⟨v, f1, f2⟩ := s_DS_nth g4 hu
              rw [Array.getElem?_toList] at f2
              have hlt := (Array.getElem?_eq_some_iff.mp f2).1
              exact ⟨i, a, t, cell, v, u, r0, vs2, rfl, g1, Nat.le_of_ble_eq_true hq2, Nat.le_of_ble_eq_true hq3, g2, g3, fun z => z.elim h0 (fun z => absurd hlt (Nat.not_lt.mpr z)), f2, he, f1, hD2⟩
        · cases he
      · cases he
    · cases he
  · cases he
theorem s_ast_s {s : State} {dC : Nat → ClassId} {dI : Nat → Nat → Nat} {ρ : Nat → Int32} {ad : List Nat} {base lo hi : Nat} {comp : Nat → Nat} {h : s_H} {H : Heap} {st : List Term} {vs : List Value} {k : List Term → s_H → s_R} {r : s_S ⊕ s_O} (he : s_astK h comp lo hi st k = some r) (hD : s_DS ρ ad st vs) (hH : s_HR s dC dI ρ ad base h H) : ∃ (i : Int32) (a tag : Nat) (cell : Cell) (t : Term) (v : Value) (st' : List Term) (vs' : List Value) (h' : s_H), vs = v :: .int i :: .ref a :: vs' ∧ H[a]? = some cell ∧ lo ≤ tag ∧ tag ≤ hi ∧ s.isArrayOf cell (s_aty tag) ∧ cell.vm ≠ .unknown ∧ ¬ (i < 0 ∨ cell.slots.size ≤ i.toNatClampNeg) ∧ va_RA s cell.cls (s_aty tag) ∧ base ≤ a ∧ s_den ρ ad t = some v ∧ s_okA h comp tag t = true ∧ k st' h' = some r ∧ s_DS ρ ad st' vs' ∧ ∀ H' : Heap, H'[a]? = some (cell.setSlot i.toNatClampNeg v) → H'.size = H.size → (∀ q : Nat, q ≠ a → H'[q]? = H[q]?) → s_HR s dC dI ρ ad base h' H' := by
  unfold s_astK at he
  split at he
  · rename_i t i q r0
    obtain ⟨v1, vs1, rfl, e1, hD1⟩ := s_DS_c hD
    obtain ⟨v2, vs2, rfl, e2, hD2⟩ := s_DS_c hD1
    obtain ⟨v3, vs3, rfl, e3, hD3⟩ := s_DS_c hD2
    cases e2
    obtain ⟨a, rfl, ha⟩ := s_ref e3
    split at he
    · rename_i tag ts hg
      split at he
      · rename_i hq
        simp only [Bool.and_eq_true] at hq
        obtain ⟨⟨⟨hq1, hq2⟩, hq3⟩, hq4⟩ := hq
        obtain ⟨h0, he⟩ := s_inA_s he
        obtain ⟨hlt, he⟩ := s_setK_s he
        obtain ⟨h', he, g1, -, g2⟩ := s_put_s he
        rcases hH.2.2.2 q _ hg with z | ⟨b, hb, hc⟩
        · cases z
        · rw [ha] at hb; cases hb
          rcases hc with ⟨z, -⟩ | ⟨-, cell, f1, f2, f3, f4, f5⟩
          · cases z
          · have hsz : ts.length = cell.slots.size := by rw [← Array.length_toList]; exact s_DS_len f4
            refine ⟨i, a, tag, cell, t, v1, r0, vs3, h', rfl, f1, Nat.le_of_ble_eq_true hq1, Nat.le_of_ble_eq_true hq2, f2, f3, fun z => z.elim h0 (fun z => by omega), f5 rfl, (hH.2.2.1 q a ha).2 (Nat.lt_of_lt_of_eq (Nat.lt_of_succ_le (Nat.le_of_ble_eq_true hq3)) rfl), e1, hq4, he, hD3, fun H' k1 k2 k3 => ?_⟩
            refine s_HR_put hH ha k2 k3 g1 g2 (Or.inr ⟨Or.inl rfl, _, k1, f2, f3, ?_, f5⟩)
            show s_DS ρ ad (ts.set i.toNatClampNeg t) (cell.slots.setIfInBounds i.toNatClampNeg v1).toList
            rw [Array.toList_setIfInBounds]
            exact s_DS_set e1 _ f4
      · cases he
    · cases he
  · cases he
section S15
variable {p : Program} {l : Launch} {e : Env} {R : Room} {s : State} {m : MethodId} {args : Array Value} {below : List Frame} {meth : Method} {c : Code} {Q : State → Prop} {M : s_M} {mi : Nat → Option s_M} {Wm : List Cond} {dC : Nat → ClassId} {dI : Nat → Nat → Nat} {ρ : Nat → Int32} {base nL : Nat} {ad : List Nat} {F : s_F} {df : Nat → List Term} {comp : Nat → Nat} {call : Nat → List Term → s_H → Option s_O} {hd : List s_Hd} {pc pc' : Nat} {L L' st st' : List Term} {h h' : s_H} {kc ks kc' ks' : Nat} {H : Heap} {ls : Array Slot} {vs : List Value} {locs : List Loc} {o nx a b c' : Nat}
theorem s_k_getfield {n : Nat} (C : s_Cx p s m args meth c M) (hW : ∀ w ∈ Wm, w ∈ s_gd) (hS : s_SR s dC dI ρ base nL ad L st h H ls vs locs) (hI : s_chkI mi M Wm pc (o, (.getfield n), nx, a, b, c') = true) (he : s_x_getfield F df comp call hd pc (o, (.getfield n), nx, a, b, c') L st h kc ks = some (.inl (pc', L', st', h', kc', ks'))) (hK : s_Cl dC dI s) (hbase : base ≤ s.heap.size) (hRc : kc' ≤ R.cells) (hRs : ks' ≤ R.slots) (kk : s_Kk p l e R s m args below meth c Q dC dI ρ base nL ad pc' L' st' h' kc' ks') : W p l e R s m args below meth c H locs kc ks Q (F0 m pc ls vs) := by
  obtain ⟨hx, hb, hml, hrt, hlk, hown, hnm, hts, htb⟩ := C
  obtain ⟨hL, hD, hH, hF⟩ := hS
  simp only [s_chkI] at hI
  split at hI
  · cases hI
  · rename_i r hr
    obtain ⟨-, rfl, hdg, hbN, hw⟩ := of_decide_eq_true hI
    simp only [s_x_getfield] at he
    split at he
    · rename_i q r0
      obtain ⟨v1, vs1, rfl, e1, hD1⟩ := s_DS_c hD
      obtain ⟨o1, rfl, ho⟩ := s_ref e1
      split at he
      · rename_i t fs hg
        split at he
        · rename_i hq
          have hta := Nat.eq_of_beq_eq_true hq
          subst hta
          rw [s_nth_eq] at he
          split at he
          · rename_i v hv
            cases he
            rcases hH.2.2.2 q _ hg with z | ⟨b1, hb1, hc⟩
            · cases z
            · rw [ho] at hb1; cases hb1
              rcases hc with ⟨-, r', g1, g2, cell, g3, g4, g5, g6⟩ | ⟨z | z, -⟩
              · cases hr.symm.trans g1
                obtain ⟨w, f1, f2⟩ := g6 _ _ hv
                obtain ⟨hS, hfc, kC, hkC, hkind⟩ := hK _ _ hr
                obtain ⟨cf, kf, fi, f, hi, hsl⟩ := hS b hbN
                obtain ⟨k1, k2, k3, k4, k5⟩ := s_cf _ _ hr
                have hst := (u_facts hfc hkC (u_lays hts k1 hbN) hi).1
                rw [(k3 b hbN).2.1] at hi
                exact W.getf hx hb hown (hts _ (hW _ hw)) hi hst g3 (by rw [g5]; exact fun z => by cases z) (v := w) (by rw [hsl]; exact f2) rfl rfl hdg (kk ad H ls _ locs (s_ext ad) ⟨hL, ⟨f1, hD1⟩, hH, hF⟩)
              · cases z
              · cases z
          · cases he
        · cases he
      · cases he
    · cases he
theorem s_k_putfield {n : Nat} (C : s_Cx p s m args meth c M) (hW : ∀ w ∈ Wm, w ∈ s_gd) (hS : s_SR s dC dI ρ base nL ad L st h H ls vs locs) (hI : s_chkI mi M Wm pc (o, (.putfield n), nx, a, b, c') = true) (he : s_x_putfield F df comp call hd pc (o, (.putfield n), nx, a, b, c') L st h kc ks = some (.inl (pc', L', st', h', kc', ks'))) (hK : s_Cl dC dI s) (hbase : base ≤ s.heap.size) (hRc : kc' ≤ R.cells) (hRs : ks' ≤ R.slots) (kk : s_Kk p l e R s m args below meth c Q dC dI ρ base nL ad pc' L' st' h' kc' ks') : W p l e R s m args below meth c H locs kc ks Q (F0 m pc ls vs) := by
  obtain ⟨hx, hb, hml, hrt, hlk, hown, hnm, hts, htb⟩ := C
  obtain ⟨hL, hD, hH, hF⟩ := hS
  simp only [s_chkI] at hI
  split at hI
  · cases hI
  · rename_i r hr
    obtain ⟨-, rfl, hdg, hbN, hw, hfy, hfin⟩ := of_decide_eq_true hI
    simp only [s_x_putfield] at he
    split at he
    · rename_i t1 q r0
      obtain ⟨v1, vs1, rfl, e1, hD1⟩ := s_DS_c hD
      obtain ⟨v2, vs2, rfl, e2, hD2⟩ := s_DS_c hD1
      obtain ⟨o1, rfl, ho⟩ := s_ref e2
      split at he
      · rename_i t fs hg
        split at he
        · rename_i hq
          simp only [Bool.and_eq_true] at hq
          obtain ⟨⟨hq1, hq2⟩, hq3⟩ := hq
          have hta := Nat.eq_of_beq_eq_true hq1
          subst hta
          obtain ⟨hlt, he⟩ := s_setK_s he
          obtain ⟨h1, he, d1, -, d2⟩ := s_put_s he
          cases he
          obtain ⟨hnar, hfit⟩ := s_okF_s hq3 e1 hfy
          have hoB : base ≤ o1 := (hH.2.2.1 q o1 ho).2 (Nat.lt_of_succ_le (Nat.le_of_ble_eq_true hq2))
          rcases hH.2.2.2 q _ hg with z | ⟨b1, hb1, hc⟩
          · cases z
          · rw [ho] at hb1; cases hb1
            rcases hc with ⟨-, r', g1, g2, cell, g3, g4, g5, g6⟩ | ⟨z | z, -⟩
            · cases hr.symm.trans g1
              obtain ⟨hS, hfc, kC, hkC, hkind⟩ := hK _ _ hr
              obtain ⟨k1, k2, k3, k4, k5⟩ := s_cf _ _ hr
              have hap : ∀ x y, x < r.2.2 → y < r.2.2 → x ≠ y → dI t x ≠ dI t y := by
                intro x y hx1 hy1 hne
                obtain ⟨_, _, _, fa, hia, ea⟩ := hS x hx1
                obtain ⟨_, _, _, fb, hib, eb⟩ := hS y hy1
                rw [← ea, ← eb]
                refine u_apart (u_lays hts k1 hx1) (u_lays hts k1 hy1) hia hib ?_
                rw [(State.fieldFound?_type hia (k3 x hx1).1).1, (State.fieldFound?_type hib (k3 y hy1).1).1]
                exact k2 x hx1 y hy1 hne
              obtain ⟨cf, kf, fi, f, hi, hsl⟩ := hS b hbN
              have hst := (u_facts hfc hkC (u_lays hts k1 hbN) hi).1
              have hlay := hts _ (k1 _ (u_in_lay hbN))
              obtain ⟨t0, ht0⟩ : ∃ t0, fs[b]? = some t0 := ⟨fs[b], List.getElem?_eq_getElem hlt⟩
              obtain ⟨w0, f1, f2⟩ := g6 b t0 ht0
              have hi2 := hi
              rw [(k3 b hbN).2.1] at hi2
              have done : ∀ H' : Heap, H'[o1]? = some (cell.setSlot f.slot v1) → H'.size = H.size → (∀ q, q ≠ o1 → H'[q]? = H[q]?) → W p l e R s m args below meth c H' (locs ++ [⟨o1, f.slot⟩]) kc ks Q (F0 m (pc + 3) ls vs2) := by
                intro H' u1 u2 u3
                refine kk ad H' ls _ _ (s_ext ad) ⟨hL, hD2, s_HR_put hH ho u2 u3 d1 d2 (Or.inl ⟨rfl, r, hr, by simp only [List.length_set]; exact g2, _, u1, g4, g5, fun k t9 hk => ?_⟩), s_FR_put hF u2 u3 hoB⟩
                have hk' : (fs.set b t1)[k]? = some t9 := hk
                by_cases hkb : k = b
                · subst hkb
                  rw [List.getElem?_set_self hlt] at hk'
                  cases hk'
                  refine ⟨v1, e1, ?_⟩
                  rw [← hsl, Cell.slots_setSlot_self _ (by rw [hsl]; exact k2_hasslot f2)]
                · rw [List.getElem?_set_ne (fun z => hkb z.symm)] at hk'
                  obtain ⟨w, f3, f4⟩ := g6 k t9 hk'
                  have hkN : k < r.2.2 := by rw [← g2]; exact (List.getElem?_eq_some_iff.mp hk').1
                  refine ⟨w, f3, ?_⟩
                  rw [hsl, slot_ne _ _ (hap b k hbN hkN (fun z => hkb z.symm))]
                  exact f4
              rcases hfin with hf | ⟨hf1, hf2⟩
              · unfold u_lay at hlay
                rw [if_neg (by rw [hf]; decide)] at hlay
                have h6 := u_store hfc hkC hkind hlay hi (k3 b hbN).1 hnar hfit
                exact W.putK hx hb (f := f) ⟨hown, hts _ (hW _ hw), ⟨_, _, _, hi2⟩, hst⟩ (by rw [g4]; exact h6) g3 g5 (by rw [hsl]; exact k2_hasslot f2) rfl rfl hdg done
              · cases hff : (r.2.1 b).2.2.2 with
                | false =>
                  unfold u_lay at hlay
                  rw [if_neg (by rw [hff]; decide)] at hlay
                  have h6 := u_store hfc hkC hkind hlay hi (k3 b hbN).1 hnar hfit
                  exact W.putK hx hb (f := f) ⟨hown, hts _ (hW _ hw), ⟨_, _, _, hi2⟩, hst⟩ (by rw [g4]; exact h6) g3 g5 (by rw [hsl]; exact k2_hasslot f2) rfl rfl hdg done
                | true =>
                  unfold u_lay at hlay
                  rw [if_pos hff] at hlay
                  have hcf : m.cls = cf := by
                    obtain ⟨_, _, c9, _, _, _, -, -, hf', -, -, -, hown2, -⟩ := Cond.laysFinal_spec hlay
                    have e9 : c9 = cf := by have := hi.symm.trans hf'; simp at this; exact this.1.symm
                    rw [(k3 b hbN).2.1, hf2] at hown2
                    rw [← e9]; exact Option.some.inj (hown.symm.trans hown2)
                  have h6 := u_fits hfc hkC hkind (Or.inr hlay) hi (k3 b hbN).1 hnar hfit
                  exact W.putFinK hx hb hown (hts _ (hW _ hw)) hi2 hst hcf (hnm.trans hf1) (by rw [g4]; exact h6) g3 g5 (by rw [hsl]; exact k2_hasslot f2) rfl rfl hdg done
            · cases z
            · cases z
        · cases he
      · cases he
    · cases he
theorem s_k_iaload (C : s_Cx p s m args meth c M) (hW : ∀ w ∈ Wm, w ∈ s_gd) (hS : s_SR s dC dI ρ base nL ad L st h H ls vs locs) (hI : s_chkI mi M Wm pc (o, .iaload, nx, a, b, c') = true) (he : s_x_iaload F df comp call hd pc (o, .iaload, nx, a, b, c') L st h kc ks = some (.inl (pc', L', st', h', kc', ks'))) (hK : s_Cl dC dI s) (hbase : base ≤ s.heap.size) (hRc : kc' ≤ R.cells) (hRs : ks' ≤ R.slots) (kk : s_Kk p l e R s m args below meth c Q dC dI ρ base nL ad pc' L' st' h' kc' ks') : W p l e R s m args below meth c H locs kc ks Q (F0 m pc ls vs) := by
  obtain ⟨hx, hb, hml, hrt, hlk, hown, hnm, hts, htb⟩ := C
  obtain ⟨hL, hD, hH, hF⟩ := hS
  obtain ⟨-, rfl, hdg⟩ := of_decide_eq_true hI
  simp only [s_x_iaload] at he
  obtain ⟨i, a1, tag, cell, v, u, st1, vs1, rfl, h1, h2, h3, h4, h5, h6, h7, h8, h9, h10⟩ := s_ald_s he hD hH
  cases h8
  have ht : tag = 0 := by omega
  subst ht
  exact W.iald hx hb h1 h4 h5 h6 h7 rfl rfl hdg (kk ad H ls _ locs (s_ext ad) ⟨hL, ⟨h9, h10⟩, hH, hF⟩)
theorem s_k_laload (C : s_Cx p s m args meth c M) (hW : ∀ w ∈ Wm, w ∈ s_gd) (hS : s_SR s dC dI ρ base nL ad L st h H ls vs locs) (hI : s_chkI mi M Wm pc (o, .laload, nx, a, b, c') = true) (he : s_x_laload F df comp call hd pc (o, .laload, nx, a, b, c') L st h kc ks = some (.inl (pc', L', st', h', kc', ks'))) (hK : s_Cl dC dI s) (hbase : base ≤ s.heap.size) (hRc : kc' ≤ R.cells) (hRs : ks' ≤ R.slots) (kk : s_Kk p l e R s m args below meth c Q dC dI ρ base nL ad pc' L' st' h' kc' ks') : W p l e R s m args below meth c H locs kc ks Q (F0 m pc ls vs) := by
  obtain ⟨hx, hb, hml, hrt, hlk, hown, hnm, hts, htb⟩ := C
  obtain ⟨hL, hD, hH, hF⟩ := hS
  obtain ⟨-, rfl, hdg⟩ := of_decide_eq_true hI
  simp only [s_x_laload] at he
  obtain ⟨i, a1, tag, cell, v, u, st1, vs1, rfl, h1, h2, h3, h4, h5, h6, h7, h8, h9, h10⟩ := s_ald_s he hD hH
  cases h8
  have ht : tag = 1 := by omega
  subst ht
  exact W.lald hx hb h1 h4 h5 h6 h7 rfl rfl hdg (kk ad H ls _ locs (s_ext ad) ⟨hL, ⟨h9, h10⟩, hH, hF⟩)
theorem s_k_baload (C : s_Cx p s m args meth c M) (hW : ∀ w ∈ Wm, w ∈ s_gd) (hS : s_SR s dC dI ρ base nL ad L st h H ls vs locs) (hI : s_chkI mi M Wm pc (o, .baload, nx, a, b, c') = true) (he : s_x_baload F df comp call hd pc (o, .baload, nx, a, b, c') L st h kc ks = some (.inl (pc', L', st', h', kc', ks'))) (hK : s_Cl dC dI s) (hbase : base ≤ s.heap.size) (hRc : kc' ≤ R.cells) (hRs : ks' ≤ R.slots) (kk : s_Kk p l e R s m args below meth c Q dC dI ρ base nL ad pc' L' st' h' kc' ks') : W p l e R s m args below meth c H locs kc ks Q (F0 m pc ls vs) := by
  obtain ⟨hx, hb, hml, hrt, hlk, hown, hnm, hts, htb⟩ := C
  obtain ⟨hL, hD, hH, hF⟩ := hS
  obtain ⟨-, rfl, hdg⟩ := of_decide_eq_true hI
  simp only [s_x_baload] at he
  obtain ⟨i, a1, tag, cell, v, u, st1, vs1, rfl, h1, h2, h3, h4, h5, h6, h7, h8, h9, h10⟩ := s_ald_s he hD hH
  cases h8
  have ht : tag = 5 := by omega
  subst ht
  exact W.zald hx hb h1 h4 h5 h6 h7 rfl rfl hdg (kk ad H ls _ locs (s_ext ad) ⟨hL, ⟨h9, h10⟩, hH, hF⟩)
theorem s_k_aaload (C : s_Cx p s m args meth c M) (hW : ∀ w ∈ Wm, w ∈ s_gd) (hS : s_SR s dC dI ρ base nL ad L st h H ls vs locs) (hI : s_chkI mi M Wm pc (o, .aaload, nx, a, b, c') = true) (he : s_x_aaload F df comp call hd pc (o, .aaload, nx, a, b, c') L st h kc ks = some (.inl (pc', L', st', h', kc', ks'))) (hK : s_Cl dC dI s) (hbase : base ≤ s.heap.size) (hRc : kc' ≤ R.cells) (hRs : ks' ≤ R.slots) (kk : s_Kk p l e R s m args below meth c Q dC dI ρ base nL ad pc' L' st' h' kc' ks') : W p l e R s m args below meth c H locs kc ks Q (F0 m pc ls vs) := by
  obtain ⟨hx, hb, hml, hrt, hlk, hown, hnm, hts, htb⟩ := C
  obtain ⟨hL, hD, hH, hF⟩ := hS
  obtain ⟨-, rfl, hdg⟩ := of_decide_eq_true hI
  simp only [s_x_aaload] at he
  obtain ⟨i, a1, tag, cell, v, u, st1, vs1, rfl, h1, h2, h3, h4, h5, h6, h7, h8, h9, h10⟩ := s_ald_s he hD hH
  cases h8
  have ht : (s_aty tag).isReference = true := by
    rcases (by omega : tag = 2 ∨ tag = 3 ∨ tag = 4) with rfl | rfl | rfl <;> rfl
  exact W.aald hx hb h1 h4 ht h5 h6 h7 rfl rfl hdg (kk ad H ls _ locs (s_ext ad) ⟨hL, ⟨h9, h10⟩, hH, hF⟩)
theorem s_k_iastore (C : s_Cx p s m args meth c M) (hW : ∀ w ∈ Wm, w ∈ s_gd) (hS : s_SR s dC dI ρ base nL ad L st h H ls vs locs) (hI : s_chkI mi M Wm pc (o, .iastore, nx, a, b, c') = true) (he : s_x_iastore F df comp call hd pc (o, .iastore, nx, a, b, c') L st h kc ks = some (.inl (pc', L', st', h', kc', ks'))) (hK : s_Cl dC dI s) (hbase : base ≤ s.heap.size) (hRc : kc' ≤ R.cells) (hRs : ks' ≤ R.slots) (kk : s_Kk p l e R s m args below meth c Q dC dI ρ base nL ad pc' L' st' h' kc' ks') : W p l e R s m args below meth c H locs kc ks Q (F0 m pc ls vs) := by
  obtain ⟨hx, hb, hml, hrt, hlk, hown, hnm, hts, htb⟩ := C
  obtain ⟨hL, hD, hH, hF⟩ := hS
  obtain ⟨-, rfl, hdg⟩ := of_decide_eq_true hI
  simp only [s_x_iastore] at he
  obtain ⟨i, a1, tag, cell, t, v, st1, vs1, h1, rfl, g1, g2, g3, g4, g5, g6, g7, g8, g9, g10, g11, g12, g13⟩ := s_ast_s he hD hH
  cases g11
  have ht : tag = 0 := by omega
  subst ht
  obtain ⟨x, rfl⟩ := s_is1 g9 (Nat.eq_of_beq_eq_true g10)
  exact W.iast hx hb g1 g4 g5 g6 rfl rfl hdg (fun H' u1 u2 u3 => kk ad H' ls _ _ (s_ext ad) ⟨hL, g12, g13 H' u1 u2 u3, s_FR_put hF u2 u3 g8⟩)
theorem s_k_lastore (C : s_Cx p s m args meth c M) (hW : ∀ w ∈ Wm, w ∈ s_gd) (hS : s_SR s dC dI ρ base nL ad L st h H ls vs locs) (hI : s_chkI mi M Wm pc (o, .lastore, nx, a, b, c') = true) (he : s_x_lastore F df comp call hd pc (o, .lastore, nx, a, b, c') L st h kc ks = some (.inl (pc', L', st', h', kc', ks'))) (hK : s_Cl dC dI s) (hbase : base ≤ s.heap.size) (hRc : kc' ≤ R.cells) (hRs : ks' ≤ R.slots) (kk : s_Kk p l e R s m args below meth c Q dC dI ρ base nL ad pc' L' st' h' kc' ks') : W p l e R s m args below meth c H locs kc ks Q (F0 m pc ls vs) := by
  obtain ⟨hx, hb, hml, hrt, hlk, hown, hnm, hts, htb⟩ := C
  obtain ⟨hL, hD, hH, hF⟩ := hS
  obtain ⟨-, rfl, hdg⟩ := of_decide_eq_true hI
  simp only [s_x_lastore] at he
  obtain ⟨i, a1, tag, cell, t, v, st1, vs1, h1, rfl, g1, g2, g3, g4, g5, g6, g7, g8, g9, g10, g11, g12, g13⟩ := s_ast_s he hD hH
  cases g11
  have ht : tag = 1 := by omega
  subst ht
  obtain ⟨x, rfl⟩ := s_is2 g9 (Nat.eq_of_beq_eq_true g10)
  exact W.last hx hb g1 g4 g5 g6 rfl rfl hdg (fun H' u1 u2 u3 => kk ad H' ls _ _ (s_ext ad) ⟨hL, g12, g13 H' u1 u2 u3, s_FR_put hF u2 u3 g8⟩)
theorem s_k_bastore (C : s_Cx p s m args meth c M) (hW : ∀ w ∈ Wm, w ∈ s_gd) (hS : s_SR s dC dI ρ base nL ad L st h H ls vs locs) (hI : s_chkI mi M Wm pc (o, .bastore, nx, a, b, c') = true) (he : s_x_bastore F df comp call hd pc (o, .bastore, nx, a, b, c') L st h kc ks = some (.inl (pc', L', st', h', kc', ks'))) (hK : s_Cl dC dI s) (hbase : base ≤ s.heap.size) (hRc : kc' ≤ R.cells) (hRs : ks' ≤ R.slots) (kk : s_Kk p l e R s m args below meth c Q dC dI ρ base nL ad pc' L' st' h' kc' ks') : W p l e R s m args below meth c H locs kc ks Q (F0 m pc ls vs) := by
  obtain ⟨hx, hb, hml, hrt, hlk, hown, hnm, hts, htb⟩ := C
  obtain ⟨hL, hD, hH, hF⟩ := hS
  obtain ⟨-, rfl, hdg⟩ := of_decide_eq_true hI
  simp only [s_x_bastore] at he
  obtain ⟨i, a1, tag, cell, t, v, st1, vs1, h1, rfl, g1, g2, g3, g4, g5, g6, g7, g8, g9, g10, g11, g12, g13⟩ := s_ast_s he hD hH
  cases g11
  have ht : tag = 5 := by omega
  subst ht
  rcases s_bool_s (show s_bool t = true from g10) with rfl | rfl
  · cases g9
    exact W.zast hx hb g1 g4 g5 g6 rfl rfl hdg (fun H' u1 u2 u3 => kk ad H' ls _ _ (s_ext ad) ⟨hL, g12, g13 H' u1 u2 u3, s_FR_put hF u2 u3 g8⟩)
  · cases g9
    exact W.zast hx hb g1 g4 g5 g6 rfl rfl hdg (fun H' u1 u2 u3 => kk ad H' ls _ _ (s_ext ad) ⟨hL, g12, g13 H' u1 u2 u3, s_FR_put hF u2 u3 g8⟩)
theorem s_k_aastore (C : s_Cx p s m args meth c M) (hW : ∀ w ∈ Wm, w ∈ s_gd) (hS : s_SR s dC dI ρ base nL ad L st h H ls vs locs) (hI : s_chkI mi M Wm pc (o, .aastore, nx, a, b, c') = true) (he : s_x_aastore F df comp call hd pc (o, .aastore, nx, a, b, c') L st h kc ks = some (.inl (pc', L', st', h', kc', ks'))) (hK : s_Cl dC dI s) (hbase : base ≤ s.heap.size) (hRc : kc' ≤ R.cells) (hRs : ks' ≤ R.slots) (hcomp : comp = s_comp) (kk : s_Kk p l e R s m args below meth c Q dC dI ρ base nL ad pc' L' st' h' kc' ks') : W p l e R s m args below meth c H locs kc ks Q (F0 m pc ls vs) := by
  obtain ⟨hx, hb, hml, hrt, hlk, hown, hnm, hts, htb⟩ := C
  obtain ⟨hL, hD, hH, hF⟩ := hS
  obtain ⟨-, rfl, hdg⟩ := of_decide_eq_true hI
  simp only [s_x_aastore] at he
  obtain ⟨i, a1, tag, cell, t, v, st1, vs1, h1, rfl, g1, g2, g3, g4, g5, g6, g7, g8, g9, g10, g11, g12, g13⟩ := s_ast_s he hD hH
  cases g11
  obtain ⟨C, ci, r, hC, hci, hr, hrC⟩ : ∃ (C : String) (ci : Nat) (r : vw_C), s_aty tag = .object C ∧ comp tag = ci ∧ s_cl[ci]? = some r ∧ r.1 = C := by
    rcases (by omega : tag = 2 ∨ tag = 3) with rfl | rfl
    · exact ⟨_, _, _, rfl, by rw [hcomp], rfl, rfl⟩
    · exact ⟨_, _, _, rfl, by rw [hcomp], rfl, rfl⟩
  rw [hC] at g4 g7
  rcases s_okA_s g10 (by omega) with rfl | ⟨q, t9, fs9, rfl, hg9, e9⟩
  · cases g9
    exact va_WaastN hx hb g1 g4 g5 g6 rfl rfl hdg (fun H' u1 u2 u3 => kk ad H' ls _ _ (s_ext ad) ⟨hL, g12, g13 H' u1 u2 u3, s_FR_put hF u2 u3 g8⟩)
  · obtain ⟨w, rfl, hw⟩ := s_ref g9
    rcases hH.2.2.2 q _ hg9 with z | ⟨b1, hb1, hc⟩
    · cases z
    · rw [hw] at hb1; cases hb1
      rcases hc with ⟨-, r', q1, q2, cv, q3, q4, q5, q6⟩ | ⟨z | z, -⟩
      · have e8 : t9 = ci := e9.trans hci
        subst e8
        cases hr.symm.trans q1
        obtain ⟨hS, hcls⟩ := hK _ _ hr
        obtain ⟨kA, cmp, k1, k2, k3, -⟩ := g7
        have hcmp : cmp = dC t9 := by
          have := hcls.1
          rw [hrC] at this
          exact Option.some.inj (k3.symm.trans this)
        subst hcmp
        obtain ⟨kC, hkC, hkk⟩ := hcls.2
        have g6' : ¬ i < 0 ∧ i.toNatClampNeg < cell.slots.size := ⟨fun z => g6 (Or.inl z), Nat.not_le.mp fun z => g6 (Or.inr z)⟩
        exact W.aast hx hb g1 g4.1 g5 k1 k2 rfl hkC g6' q3 (fun x hx9 => by rw [q5] at hx9; cases hx9) (by rw [q4]; exact hkC) (by rw [q4]; exact va_assign ⟨hcls.1, kC, hkC, hkk⟩) rfl rfl hdg (fun H' u1 u2 u3 => kk ad H' ls _ _ (s_ext ad) ⟨hL, g12, g13 H' u1 u2 u3, s_FR_put hF u2 u3 g8⟩)
      · cases z
      · cases z
theorem s_k_arraylength (C : s_Cx p s m args meth c M) (hW : ∀ w ∈ Wm, w ∈ s_gd) (hS : s_SR s dC dI ρ base nL ad L st h H ls vs locs) (hI : s_chkI mi M Wm pc (o, .arraylength, nx, a, b, c') = true) (he : s_x_arraylength F df comp call hd pc (o, .arraylength, nx, a, b, c') L st h kc ks = some (.inl (pc', L', st', h', kc', ks'))) (hK : s_Cl dC dI s) (hbase : base ≤ s.heap.size) (hRc : kc' ≤ R.cells) (hRs : ks' ≤ R.slots) (kk : s_Kk p l e R s m args below meth c Q dC dI ρ base nL ad pc' L' st' h' kc' ks') : W p l e R s m args below meth c H locs kc ks Q (F0 m pc ls vs) := by
  obtain ⟨hx, hb, hml, hrt, hlk, hown, hnm, hts, htb⟩ := C
  obtain ⟨hL, hD, hH, hF⟩ := hS
  obtain ⟨-, rfl, hdg⟩ := of_decide_eq_true hI
  simp only [s_x_arraylength] at he
  split at he
  · rename_i q r0
    obtain ⟨v1, vs1, rfl, e1, hD1⟩ := s_DS_c hD
    obtain ⟨o1, rfl, ho⟩ := s_ref e1
    split at he
    · rename_i kd tag ts hg
      split at he
      · rename_i hq
        simp only [Bool.or_eq_true] at hq
        have hkd : kd = 0 ∨ kd = 2 := hq.imp Nat.eq_of_beq_eq_true Nat.eq_of_beq_eq_true
        rw [s_fI_e] at he
        cases he
        rcases hH.2.2.2 q _ hg with z | ⟨b1, hb1, hc⟩
        · rcases hkd with rfl | rfl <;> cases z
        · rw [ho] at hb1; cases hb1
          rcases hc with ⟨z, -⟩ | ⟨-, cell, f1, f2, f3, f4, f5⟩
          · rcases hkd with rfl | rfl <;> cases z
          · have hsz : ts.length = cell.slots.size := by rw [← Array.length_toList]; exact s_DS_len f4
            exact W.alen (n := Int32.ofNat ts.length) hx hb f1 f2 (by rw [hsz]) rfl rfl hdg (kk ad H ls _ locs (s_ext ad) ⟨hL, ⟨rfl, hD1⟩, hH, hF⟩)
      · cases he
    · cases he
  · cases he
end S15
