/-! RETURNS, THROWS, new T[n][m] -/
section S19
variable {p : Program} {l : Launch} {e : Env} {R : Room} {s : State} {m : MethodId} {args : Array Value} {below : List Frame} {meth : Method} {c : Code} {Q : State → Prop} {M : s_M} {mi : Nat → Option s_M} {Wm : List Cond} {dC : Nat → ClassId} {dI : Nat → Nat → Nat} {ρ : Nat → Int32} {base nL d : Nat} {ad ad0 x0 : List Nat} {F : s_F} {df : Nat → List Term} {comp : Nat → Nat} {call : Nat → List Term → s_H → Option s_O} {hd : List s_Hd} {pc pc' : Nat} {L L' st st' : List Term} {h h' : s_H} {kc ks kc' ks' : Nat} {H : Heap} {ls : Array Slot} {vs : List Value} {locs : List Loc} {o nx a b c' : Nat} {as rest : List Term} {out outf : s_O}
theorem s_endQ {tv : Option Term} {v : Option Value} (had : ad = ad0 ++ x0) (hH : s_HR s dC dI ρ ad base h H) (hF : s_FR base s H locs) (hv : s_OV ρ ad tv v) : ∀ t : State, t.heap = H → s.WarmedH t.vm → s_Qc dC dI ρ base ad0 (.inl tv, h, kc, ks) args s (.returned v) t := fun t ht hW =>
  ⟨tv, rfl, x0, v, rfl, by rw [← had]; exact hv, by rw [← had, ht]; exact s_HR_moved hW.alike hH, by rw [ht]; exact hF.1, fun q hq => by rw [ht]; exact hF.2.1 q hq⟩
theorem s_e_return_ (C : s_Cx p s m args meth c M) (had : ad = ad0 ++ x0) (hS : s_SR s dC dI ρ base nL ad L st h H ls vs locs) (hI : s_chkI mi M Wm pc (o, .return_, nx, a, b, c') = true) (he : s_x_return_ F df comp call hd pc (o, .return_, nx, a, b, c') L st h kc ks = some (.inr outf)) : W p l e R s m args below meth c H locs kc ks (vx_MQ below (s_Qc dC dI ρ base ad0 outf) (s_XC dC dI ρ base ad0 outf) args s outf.2.2.1 outf.2.2.2 (fun q => base ≤ q)) (F0 m pc ls vs) := by
  obtain ⟨hx, hb, hml, hrt, hlk, hown, hnm, hts, htb⟩ := C
  obtain ⟨hL, hD, hH, hF⟩ := hS
  obtain ⟨-, hdg, hr⟩ := of_decide_eq_true hI
  simp only [s_x_return_] at he
  split at he
  · cases he
    rw [s_DS_n hD]
    exact vx_ret (W.vret hx hb (hrt.trans hr) (s_endQ (tv := none) (v := none) had hH hF rfl) hF.2.2 hdg)
  · cases he
theorem s_e_ireturn (C : s_Cx p s m args meth c M) (had : ad = ad0 ++ x0) (hS : s_SR s dC dI ρ base nL ad L st h H ls vs locs) (hI : s_chkI mi M Wm pc (o, .ireturn, nx, a, b, c') = true) (he : s_x_ireturn F df comp call hd pc (o, .ireturn, nx, a, b, c') L st h kc ks = some (.inr outf)) : W p l e R s m args below meth c H locs kc ks (vx_MQ below (s_Qc dC dI ρ base ad0 outf) (s_XC dC dI ρ base ad0 outf) args s outf.2.2.1 outf.2.2.2 (fun q => base ≤ q)) (F0 m pc ls vs) := by
  obtain ⟨hx, hb, hml, hrt, hlk, hown, hnm, hts, htb⟩ := C
  obtain ⟨hL, hD, hH, hF⟩ := hS
  obtain ⟨-, hdg, hr⟩ := of_decide_eq_true hI
  simp only [s_x_ireturn] at he
  split at he
  · rename_i t
    obtain ⟨v, vs1, rfl, h1, h2⟩ := s_DS_c hD
    rw [s_DS_n h2]
    rcases hr with ⟨rfl, hr⟩ | ⟨rfl, hr⟩
    · have he : (if Nat.beq (s_ty t) 1 then some (.inr (.inl (some t), h, kc, ks)) else none) = some (Sum.inr outf : s_S ⊕ s_O) := he
      split at he
      · rename_i hq
        cases he
        obtain ⟨x, rfl⟩ := s_is1 h1 (Nat.eq_of_beq_eq_true hq)
        exact vx_ret (W.iret hx hb (hrt.trans hr) (s_endQ (tv := some t) had hH hF ⟨_, rfl, h1⟩) hF.2.2 hdg)
      · cases he
    · have he : (if s_bool t then some (.inr (.inl (some t), h, kc, ks)) else none) = some (Sum.inr outf : s_S ⊕ s_O) := he
      split at he
      · rename_i hq
        cases he
        rcases s_bool_s hq with rfl | rfl
        · cases h1; exact vx_ret (W.zret hx hb (hrt.trans hr) rfl (s_endQ (tv := some (.int 0)) had hH hF ⟨_, rfl, rfl⟩) hF.2.2 hdg)
        · cases h1; exact vx_ret (W.zret hx hb (hrt.trans hr) rfl (s_endQ (tv := some (.int 1)) had hH hF ⟨_, rfl, rfl⟩) hF.2.2 hdg)
      · cases he
  · cases he
theorem s_e_lreturn (C : s_Cx p s m args meth c M) (had : ad = ad0 ++ x0) (hS : s_SR s dC dI ρ base nL ad L st h H ls vs locs) (hI : s_chkI mi M Wm pc (o, .lreturn, nx, a, b, c') = true) (he : s_x_lreturn F df comp call hd pc (o, .lreturn, nx, a, b, c') L st h kc ks = some (.inr outf)) : W p l e R s m args below meth c H locs kc ks (vx_MQ below (s_Qc dC dI ρ base ad0 outf) (s_XC dC dI ρ base ad0 outf) args s outf.2.2.1 outf.2.2.2 (fun q => base ≤ q)) (F0 m pc ls vs) := by
  obtain ⟨hx, hb, hml, hrt, hlk, hown, hnm, hts, htb⟩ := C
  obtain ⟨hL, hD, hH, hF⟩ := hS
  obtain ⟨-, hdg, hr⟩ := of_decide_eq_true hI
  simp only [s_x_lreturn] at he
  split at he
  · rename_i t
    obtain ⟨v, vs1, rfl, h1, h2⟩ := s_DS_c hD
    rw [s_DS_n h2]
    split at he
    · rename_i hq
      cases he
      obtain ⟨x, rfl⟩ := s_is2 h1 (Nat.eq_of_beq_eq_true hq)
      exact vx_ret (W.lret hx hb (hrt.trans hr) (s_endQ (tv := some t) had hH hF ⟨_, rfl, h1⟩) hF.2.2 hdg)
    · cases he
  · cases he
theorem s_e_areturn (C : s_Cx p s m args meth c M) (had : ad = ad0 ++ x0) (hS : s_SR s dC dI ρ base nL ad L st h H ls vs locs) (hI : s_chkI mi M Wm pc (o, .areturn, nx, a, b, c') = true) (he : s_x_areturn F df comp call hd pc (o, .areturn, nx, a, b, c') L st h kc ks = some (.inr outf)) : W p l e R s m args below meth c H locs kc ks (vx_MQ below (s_Qc dC dI ρ base ad0 outf) (s_XC dC dI ρ base ad0 outf) args s outf.2.2.1 outf.2.2.2 (fun q => base ≤ q)) (F0 m pc ls vs) := by
  obtain ⟨hx, hb, hml, hrt, hlk, hown, hnm, hts, htb⟩ := C
  obtain ⟨hL, hD, hH, hF⟩ := hS
  simp only [s_chkI, Bool.and_eq_true] at hI
  obtain ⟨hI1, hI2⟩ := hI
  obtain ⟨-, hdg⟩ := of_decide_eq_true hI1
  simp only [s_x_areturn] at he
  split at he
  · rename_i t
    obtain ⟨v, vs1, rfl, h1, h2⟩ := s_DS_c hD
    rw [s_DS_n h2]
    split at he
    · rename_i hq
      cases he
      split at hI2
      · rename_i rt hrt2
        have hrt3 : (∃ n, rt = .object n) ∨ ∃ t, rt = .array t := by
          cases rt <;> first
            | exact Or.inl ⟨_, rfl⟩
            | exact Or.inr ⟨_, rfl⟩
            | cases hI2
        exact vx_ret (W.aret hx hb (hrt.trans hrt2) hrt3 (s_is3 h1 (Nat.eq_of_beq_eq_true hq)) (s_endQ (tv := some t) had hH hF ⟨_, rfl, h1⟩) hF.2.2 hdg)
      · cases hI2
    · cases he
  · cases he
theorem s_e_throw {n : Nat} (C : s_Cx p s m args meth c M) (hW : ∀ w ∈ Wm, w ∈ s_gd) (hl : l.stackTraces = false) (hK : s_KK dC dI base s s.heap) (hnl : nL = c.maxLocals) (had : ad = ad0 ++ x0) (hS : s_SR s dC dI ρ base nL ad L st h H ls vs locs) (hI : s_chkI mi M Wm pc (o, .new n, nx, a, b, c') = true) (he : s_x_new F df comp call hd pc (o, .new n, nx, a, b, c') L st h kc ks = some (.inr outf)) (hbase : base ≤ s.heap.size) (hRf : 6 ≤ R.frames) (hRl : 100 ≤ R.locals) (hRc : outf.2.2.1 ≤ R.cells) (hRs : outf.2.2.2 ≤ R.slots) : W p l e R s m args below meth c H locs kc ks (vx_MQ below (s_Qc dC dI ρ base ad0 outf) (s_XC dC dI ρ base ad0 outf) args s outf.2.2.1 outf.2.2.2 (fun q => base ≤ q)) (F0 m pc ls vs) := by
  obtain ⟨hx, hb, hml, hrt, hlk, hown, hnm, hts, htb⟩ := C
  obtain ⟨hL, hD, hH, hF⟩ := hS
  simp only [s_x_new] at he
  split at he
  · rename_i hc1
    have hc1 := Nat.eq_of_beq_eq_true hc1
    subst hc1
    split at he
    · rename_i hwt
      cases he
      simp only [s_chkI, decide_eq_true_eq] at hI
      obtain ⟨-, ha4, hh0, d0, d3, d4, d7, hfit, hwl, hwm⟩ := hI
      have hws : ∀ w ∈ Cond.classLink M.1.cls n (s_exn a) :: Cond.initialized (s_exn a) :: vx_at0 M.1.cls b (s_exn a) s_exs, w ∈ s_gd ∧ vx_ot w = true := fun w hw => by
        rcases List.mem_cons.mp hw with rfl | hw
        · exact ⟨hW _ hwl, rfl⟩
        · rcases s_thr_s ha4 hw with rfl | q
          · exact ⟨hW _ hwm, rfl⟩
          · exact q
      have hww : ∀ w ∈ Cond.classLink M.1.cls n (s_exn a) :: Cond.initialized (s_exn a) :: vx_at0 M.1.cls b (s_exn a) s_exs, w.before args s = true := fun w hw => hts _ (hws w hw).1
      have hsum := s_wt_s hD
      have hwt := Nat.le_of_ble_eq_true hwt
      refine vx_throw0 (A := fun q => base ≤ q) (names := s_exs) hx hb hl hown hfit (fun n hn => ?_) (hww _ List.mem_cons_self) (hww _ (List.mem_cons_of_mem _ List.mem_cons_self)) (fun w hw => hww w (List.mem_cons_of_mem _ (List.mem_cons_of_mem _ hw))) (fun w hw => (hws w hw).2) hK.2.2.1 hK.2.2.2.1 ⟨hF.1, fun q _ hq => hF.2.1 q (Nat.not_le.mp hq), hF.2.2⟩ (hL.1.trans hnl) d0 d3 d4 d7 (fun z hz => ?_) ?_ ?_ hRc hRs hlk (fun t hal hz ho => ⟨a, ha4, rfl, rfl, x0, ?_, ?_, ?_⟩) hF.2.2 (Nat.le_refl _) (Nat.le_refl _)
      · simp only [s_exs, List.mem_cons, List.not_mem_nil, or_false] at hn
        rcases hn with rfl | rfl <;> decide +kernel
      · rw [htb, hh0] at hz; cases hz
      · show 2 + 3 < _; omega
      · show _ + (13 * (2 + 1) + 42) ≤ _
        rw [hsum]; omega
      · rw [← had]; exact s_HR_moved hal (s_HR_same hH hz ho (Nat.le_trans hbase hF.1))
      · exact Nat.le_trans hF.1 hz
      · intro q hq
        rw [ho q (Nat.lt_of_lt_of_le hq (Nat.le_trans hbase hF.1))]; exact hF.2.1 q hq
    · cases he
  · obtain ⟨h1, he, -⟩ := s_push_s he
    simp only [s_fN_e] at he
    cases he
theorem s_outer (cA : ClassId) (N h0 : Nat) : ∀ (i j : Nat), j < N → (Jvm.Free.Multi.outerC cA N h0 i).slots[j]? = some (if j < i then .ref (h0 + 1 + j) else .null)
  | 0, j, hj => by simp [Jvm.Free.Multi.outerC, hj]
  | i + 1, j, hj => by
    have ih := s_outer cA N h0 i j hj
    have hsz := (Jvm.Free.Multi.outerC_facts cA N h0 i).2.2
    show ((Jvm.Free.Multi.outerC cA N h0 i).slots.setIfInBounds i _)[j]? = _
    by_cases hji : j = i
    · subst hji
      rw [Array.getElem?_setIfInBounds_self_of_lt (by rw [hsz]; exact hj), if_pos (Nat.lt_succ_self j)]
    · rw [Array.getElem?_setIfInBounds_ne (fun q => hji q.symm), ih]
      by_cases h1 : j < i
      · rw [if_pos h1, if_pos (by omega)]
      · rw [if_neg h1, if_neg (by omega)]
theorem s_DS_of : ∀ {ts : List Term} {vs : List Value}, ts.length = vs.length → (∀ (i : Nat) (t : Term), ts[i]? = some t → ∃ v, s_den ρ ad t = some v ∧ vs[i]? = some v) → s_DS ρ ad ts vs
  | [], [], _, _ => trivial
  | t :: ts, [], h, _ => by simp at h
  | [], v :: vs, h, _ => by simp at h
  | t :: ts, v :: vs, h, hi => by
    refine ⟨?_, s_DS_of (by simpa using h) (fun i u hu => ?_)⟩
    · obtain ⟨w, h1, h2⟩ := hi 0 t rfl
      simp at h2; subst h2; exact h1
    · obtain ⟨w, h1, h2⟩ := hi (i + 1) u (by simpa using hu)
      exact ⟨w, h1, by simpa using h2⟩
theorem s_k_multi {n : Nat} (C : s_Cx p s m args meth c M) (hW : ∀ w ∈ Wm, w ∈ s_gd) (hS : s_SR s dC dI ρ base nL ad L st h H ls vs locs) (hI : s_chkI mi M Wm pc (o, .multianewarray n 2, nx, a, b, c') = true) (he : s_x_multianewarray F df comp call hd pc (o, .multianewarray n 2, nx, a, b, c') L st h kc ks = some (.inl (pc', L', st', h', kc', ks'))) (hbase : base ≤ s.heap.size) (hRc : kc' ≤ R.cells) (hRs : ks' ≤ R.slots) (kk : s_Kk p l e R s m args below meth c Q dC dI ρ base nL ad pc' L' st' h' kc' ks') : W p l e R s m args below meth c H locs kc ks Q (F0 m pc ls vs) := by
  obtain ⟨hx, hb, hml, hrt, hlk, hown, hnm, hts, htb⟩ := C
  obtain ⟨hL, hD, hH, hF⟩ := hS
  obtain ⟨-, rfl, hdg, hw1, hw2, hw3⟩ := of_decide_eq_true hI
  simp only [s_x_multianewarray] at he
  split at he
  · rename_i k1 n1 r0
    obtain ⟨v1, vs1, rfl, e1, hD1⟩ := s_DS_c hD
    obtain ⟨v2, vs2, rfl, e2, hD2⟩ := s_DS_c hD1
    cases e1; cases e2
    obtain ⟨h0n, he⟩ := s_inA_s he
    obtain ⟨h0k, he⟩ := s_inA_s he
    split at he
    · rename_i hq
      simp only [Bool.and_eq_true] at hq
      have hq1 := Nat.le_of_ble_eq_true hq.1
      have hq2 := Nat.le_of_ble_eq_true hq.2
      obtain ⟨h1, he, g1, g2⟩ := s_push_s he
      obtain ⟨h2, he, f1, f2⟩ := s_pushN_s he
      simp only [s_fN_e] at he
      cases he
      intro T hT X
      have hTh : ∀ vm : Vm, (T.setVm vm).heap = H := fun _ => hT
      obtain ⟨vm₁, cA, cmp, hW1, fA, fC, hO, hIn, X', step⟩ := X.multianewarray2F (ty := .int) hx hown (hts _ (hW _ hw1)) (hts _ (hW _ hw2)) (hts _ (hW _ hw3)) (g := F0 m pc ls (.int k1 :: .int n1 :: vs2)) rfl (by rw [hb]; exact hdg) rfl h0n h0k (by omega) (by show _ * 4 ≤ _; omega) (by omega) rfl rfl (by omega) (by omega)
      generalize hFF : Jvm.Free.Multi.fill (T.setVm vm₁) cA cmp n1.toNatClampNeg k1.toNatClampNeg (defaultValue .int) n1.toNatClampNeg = FF at X' step
      obtain ⟨u1, u2, -, -⟩ := Jvm.Free.Multi.fill_facts (T.setVm vm₁) cA cmp n1.toNatClampNeg k1.toNatClampNeg (defaultValue .int) n1.toNatClampNeg
      rw [hFF, hTh] at u1 u2
      have hold : ∀ x : Nat, x < H.size → FF.heap[x]? = H[x]? := fun x hx9 => by
        have := Jvm.Free.Multi.fill_old (T.setVm vm₁) cA cmp n1.toNatClampNeg k1.toNatClampNeg (defaultValue .int) (a := x) (by rw [hTh]; exact hx9) n1.toNatClampNeg
        rw [hFF, hTh] at this
        exact this
      have hrow : ∀ j : Nat, j < n1.toNatClampNeg → FF.heap[H.size + 1 + j]? = some (Jvm.Free.Multi.innerC cmp k1.toNatClampNeg (defaultValue .int)) := fun j hj => by
        have := Jvm.Free.Multi.fill_inner (T.setVm vm₁) cA cmp n1.toNatClampNeg k1.toNatClampNeg (defaultValue .int) n1.toNatClampNeg j hj
        rw [hFF, hTh] at this
        exact this
      let X9 : List Nat := (List.range (n1.toNatClampNeg + 1)).map (fun i => H.size + i)
      have hX : ∀ i a : Nat, X9[i]? = some a ↔ (i < n1.toNatClampNeg + 1 ∧ a = H.size + i) := by
        intro i a
        simp only [X9, List.getElem?_map, Option.map_eq_some_iff]
        constructor
        · rintro ⟨w, h1, rfl⟩
          have h2 := (List.getElem?_eq_some_iff.mp h1).1
          simp at h2
          rw [List.getElem?_range h2] at h1
          cases h1
          exact ⟨h2, rfl⟩
        · rintro ⟨h1, rfl⟩
          exact ⟨i, List.getElem?_range h1, rfl⟩
      have hadX : ∀ i : Nat, i < n1.toNatClampNeg + 1 → (ad ++ X9)[h.1 + i]? = some (H.size + i) := fun i hi => by
        rw [hH.1, List.getElem?_append_right (by omega), Nat.add_sub_cancel_left]
        exact (hX i _).mpr ⟨hi, rfl⟩
      have hHR : s_HR s dC dI ρ (ad ++ X9) base h' FF.heap := by
        refine s_HR_bulk hH (by omega) hold X9 (by rw [f1, g1]; simp [X9]; omega) (fun i j a hi hj => ?_) (fun i a hi => ?_) (Nat.le_trans hbase hF.1) (fun j c9 hj => ?_)
        · have q1 := (hX i a).mp hi
          have q2 := (hX j a).mp hj
          omega
        · have q1 := (hX i a).mp hi
          omega
        · rw [f2 j] at hj
          by_cases hj1 : h1.1 ≤ j ∧ j < h1.1 + n1.toNatClampNeg
          · rw [if_pos hj1] at hj
            cases hj
            refine Or.inr ⟨j - h.1, H.size + (j - h.1), by omega, (hX _ _).mpr ⟨by omega, rfl⟩, Or.inr ⟨Or.inl rfl, ?_⟩⟩
            have hr9 := hrow (j - h.1 - 1) (by omega)
            rw [show H.size + 1 + (j - h.1 - 1) = H.size + (j - h.1) by omega] at hr9
            refine ⟨_, hr9, (hIn _ _).1, (hIn _ _).2, ?_, fun _ => fC⟩
            show s_DS ρ (ad ++ X9) (List.replicate k1.toNatClampNeg (.int 0)) (Array.replicate k1.toNatClampNeg (Value.int 0)).toList
            rw [Array.toList_replicate]
            exact s_DS_rep rfl _
          · rw [if_neg hj1, g2 j] at hj
            by_cases hj2 : j = h.1
            · rw [if_pos hj2] at hj
              cases hj
              refine Or.inr ⟨0, H.size, hj2, (hX 0 _).mpr ⟨by omega, rfl⟩, Or.inr ⟨Or.inl rfl, ?_⟩⟩
              refine ⟨_, u2, (hO _ _ _).1, (hO _ _ _).2, s_DS_of ?_ (fun i t hi => ?_), fun _ => ?_⟩
              · rw [show (Jvm.Free.Multi.outerC cA n1.toNatClampNeg (Array.size H) n1.toNatClampNeg).slots.toList.length = n1.toNatClampNeg from Array.length_toList.trans (Jvm.Free.Multi.outerC_facts cA _ _ _).2.2]; simp
              · rw [List.getElem?_map, Option.map_eq_some_iff] at hi
                obtain ⟨w, hw9, rfl⟩ := hi
                have hlt := (List.getElem?_eq_some_iff.mp hw9).1
                simp at hlt
                rw [List.getElem?_range hlt] at hw9
                cases hw9
                refine ⟨.ref (H.size + 1 + i), ?_, ?_⟩
                · show ((ad ++ X9)[h.1 + 1 + i]?).map Value.ref = _
                  rw [show h.1 + 1 + i = h.1 + (i + 1) by omega, hadX (i + 1) (by omega)]
                  show some (Value.ref (H.size + (i + 1))) = some (Value.ref (H.size + 1 + i))
                  rw [show H.size + (i + 1) = H.size + 1 + i by omega]
                · rw [Array.getElem?_toList, s_outer cA _ _ _ i hlt, if_pos hlt]
              · rw [(Jvm.Free.Multi.outerC_facts cA _ _ _).1]; exact fA
            · rw [if_neg hj2] at hj
              exact Or.inl hj
      have hSR : s_SR s dC dI ρ base nL (ad ++ X9) L (.index h.1 :: r0) h' FF.heap ls (.ref H.size :: vs2) locs := by
        refine s_SR_grow hL hD2 hF hHR ?_ (by omega) hold hbase
        show ((ad ++ X9)[h.1]?).map Value.ref = some (.ref H.size)
        have := hadX 0 (by omega)
        rw [Nat.add_zero] at this
        rw [this]; rfl
      obtain ⟨t2, a1, b1⟩ := kk _ FF.heap ls _ locs ⟨X9, rfl⟩ hSR FF rfl X'
      exact ⟨t2, step t2 (by rw [hT]; exact a1), b1⟩
    · cases he
  · cases he
end S19
