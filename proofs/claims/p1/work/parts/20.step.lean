/-! THE STEP, THE RUN, THE CALL -/
section S20
variable {p : Program} {l : Launch} {e : Env} {R : Room} {s : State} {m : MethodId} {args : Array Value} {below : List Frame} {meth : Method} {c : Code} {Q : State → Prop} {M : s_M} {mi : Nat → Option s_M} {Wm : List Cond} {dC : Nat → ClassId} {dI : Nat → Nat → Nat} {ρ : Nat → Int32} {base nL d : Nat} {ad ad0 x0 : List Nat} {F : s_F} {df : Nat → List Term} {comp : Nat → Nat} {call : Nat → List Term → s_H → Option s_O} {hd : List s_Hd} {pc pc' : Nat} {L L' st st' : List Term} {h h' : s_H} {kc ks kc' ks' : Nat} {H : Heap} {ls : Array Slot} {vs : List Value} {locs : List Loc} {o nx a b c' : Nat} {as rest : List Term} {out outf : s_O}
theorem s_aft_l (he : s_aft hd pc nx L rest kc ks (some out) = some (.inl (pc', L', st', h', kc', ks'))) : kc' = kc + out.2.2.1 ∧ ks' = ks + out.2.2.2 := by
  obtain ⟨o1, h1, k1, n1⟩ := out
  cases o1 with
  | inl v =>
    simp only [s_aft, s_fN_e] at he
    cases he
    exact ⟨rfl, rfl⟩
  | inr E =>
    simp only [s_aft] at he
    split at he
    · split at he <;> cases he
    · obtain ⟨L1, e1, -⟩ := s_stK_s he
      cases e1
      exact ⟨rfl, rfl⟩
theorem s_aft_r (he : s_aft hd pc nx L rest kc ks (some out) = some (.inr outf)) : outf.2.2.1 = kc + out.2.2.1 ∧ outf.2.2.2 = ks + out.2.2.2 := by
  obtain ⟨o1, h1, k1, n1⟩ := out
  cases o1 with
  | inl v =>
    simp only [s_aft, s_fN_e] at he
    cases he
  | inr E =>
    simp only [s_aft] at he
    split at he
    · split at he
      · cases he; exact ⟨rfl, rfl⟩
      · cases he
    · obtain ⟨L1, e1, -⟩ := s_stK_s he
      cases e1
theorem s_st_call {r : s_S ⊕ s_O} {n : Nat} (he : s_x_invokestatic F df comp call hd pc (o, .invokestatic n, nx, a, b, c') L st h kc ks = some r) : ∃ as rest out, st = as.reverse ++ rest ∧ as.length = b ∧ Nat.ble (s_wt rest) 8 = true ∧ call a as h = some out ∧ s_aft hd pc nx L rest kc ks (some out) = some r := by
  obtain ⟨as, rest, h1, h2, h3⟩ := s_take_s he
  rw [List.append_nil] at h1
  split at h1
  · rename_i hw
    cases hc : call a as h with
    | none => rw [hc] at h1; cases h1
    | some out =>
      rw [hc] at h1
      refine ⟨as, rest, out, h2, h3, hw, hc, ?_⟩
      obtain ⟨o1, hh1, k1, n1⟩ := out
      cases o1 <;> exact h1
  · cases h1
theorem s_vt_call {r : s_S ⊕ s_O} {n : Nat} (he : s_x_invokevirtual F df comp call hd pc (o, .invokevirtual n, nx, a, b, c') L st h kc ks = some r) : ∃ as rest out, st = as.reverse ++ rest ∧ as.length = b ∧ Nat.ble (s_wt rest) 8 = true ∧ s_ob h c' (s_hd1 as) = true ∧ call a as h = some out ∧ s_aft hd pc nx L rest kc ks (some out) = some r := by
  obtain ⟨as, rest, h1, h2, h3⟩ := s_take_s he
  rw [List.append_nil] at h1
  split at h1
  · rename_i hw
    simp only [Bool.and_eq_true] at hw
    cases hc : call a as h with
    | none => rw [hc] at h1; cases h1
    | some out =>
      rw [hc] at h1
      refine ⟨as, rest, out, h2, h3, hw.1, hw.2, hc, ?_⟩
      obtain ⟨o1, hh1, k1, n1⟩ := out
      cases o1 <;> exact h1
  · cases h1
theorem s_sp_call {r : s_S ⊕ s_O} {n : Nat} (hc' : ¬ c' = 9) (he : s_x_invokespecial F df comp call hd pc (o, .invokespecial n, nx, a, b, c') L st h kc ks = some r) : ∃ as rest out, st = as.reverse ++ rest ∧ as.length = b ∧ Nat.ble (s_wt rest) 8 = true ∧ s_isR (s_hd1 as) = true ∧ call a as h = some out ∧ out.1 = .inl none ∧ r = .inl (nx, L, rest, out.2.1, kc + out.2.2.1, ks + out.2.2.2) := by
  simp only [s_x_invokespecial] at he
  split at he
  · rename_i q; exact absurd (Nat.eq_of_beq_eq_true q) hc'
  · obtain ⟨as, rest, h1, h2, h3⟩ := s_take_s he
    rw [List.append_nil] at h1
    split at h1
    · rename_i hw
      simp only [Bool.and_eq_true] at hw
      cases hc : call a as h with
      | none => rw [hc] at h1; cases h1
      | some out =>
        rw [hc] at h1
        obtain ⟨o1, hh1, k1, n1⟩ := out
        cases o1 with
        | inl v => cases v with
          | none =>
            simp only [s_fN_e] at h1
            cases h1
            exact ⟨as, rest, _, h2, h3, hw.1, hw.2, hc, rfl, rfl⟩
          | some v => cases h1
        | inr E => cases h1
    · cases h1
/-- the receiver -/
theorem s_rcv {v0 : List Value} (hD : s_DS ρ ad as v0) (hq : s_isR (s_hd1 as) = true) : ∃ q as' o1 a0, as = .index q :: as' ∧ v0 = .ref o1 :: a0 ∧ ad[q]? = some o1 ∧ as'.length = a0.length := by
  cases as with
  | nil => cases hq
  | cons t as' =>
    obtain ⟨v, a0, rfl, h1, h2⟩ := s_DS_c hD
    have hq : s_isR t = true := hq
    unfold s_isR at hq
    split at hq
    · obtain ⟨o1, rfl, h3⟩ := s_ref h1
      exact ⟨_, as', o1, a0, rfl, rfl, h3, s_DS_len h2⟩
    · cases hq
theorem s_ob_s {q : Nat} (hq : s_ob h c' (.index q) = true) : ∃ fs, s_get h q = some (1, c', fs) := by
  have hq : (match s_get h q with
    | some (1, t, _) => Nat.beq t c'
    | _ => false) = true := hq
  split at hq
  · rename_i t fs hg
    rw [Nat.eq_of_beq_eq_true hq] at hg
    exact ⟨fs, hg⟩
  · cases hq
/-- what the callee's contract is -/
def s_CT (l : Launch) (dC : Nat → ClassId) (dI : Nat → Nat → Nat) (ρ : Nat → Int32) (base d : Nat) (mi : Nat → Option s_M) (call : Nat → List Term → s_H → Option s_O) : Prop := ∀ (y : Nat) (as : List Term) (h : s_H) (out : s_O), call y as h = some out → ∃ N, mi y = some N ∧ s_Kw N ∧ s_Met l dC dI ρ base d N as h out
theorem s_k_invokestatic {n : Nat} (C : s_Cx p s m args meth c M) (hW : ∀ w ∈ Wm, w ∈ s_gd) (hHd : s_chkH M Wm hd M.2.2.2.2 = true) (hK : s_KK dC dI base s s.heap) (hbase : base ≤ s.heap.size) (hnl : nL = c.maxLocals) (hS : s_SR s dC dI ρ base nL ad L st h H ls vs locs) (hCT : s_CT l dC dI ρ base d mi call) (hRf : 7 + d ≤ R.frames) (hRl : 170 + 70 * d ≤ R.locals) (hI : s_chkI mi M Wm pc (o, .invokestatic n, nx, a, b, c') = true) (he : s_x_invokestatic F df comp call hd pc (o, .invokestatic n, nx, a, b, c') L st h kc ks = some (.inl (pc', L', st', h', kc', ks'))) (hRc : kc' ≤ R.cells) (hRs : ks' ≤ R.slots) (kk : s_Kk p l e R s m args below meth c Q dC dI ρ base nL ad pc' L' st' h' kc' ks') : W p l e R s m args below meth c H locs kc ks Q (F0 m pc ls vs) := by
  obtain ⟨hL, hD, hH, hF⟩ := id hS
  obtain ⟨as, rest, out, rfl, h2, h3, h4, h5⟩ := s_st_call he
  obtain ⟨N, hN, hKw, hM⟩ := hCT _ _ _ _ h4
  simp only [s_chkI, hN] at hI
  obtain ⟨-, rfl, hdg, hnp, hw1, hw2⟩ := of_decide_eq_true hI
  obtain ⟨a0, rv, rfl, hDa, hDr⟩ := s_DS_args hD
  obtain ⟨e1, e2⟩ := s_aft_l h5
  exact s_k_aft C hW hHd hK hL hDr hF hbase (hnl.trans C.2.2.1) (s_runS C hW hK hbase hnl hL hDa hDr hH hF hKw hM hRf hRl (by omega) (by omega) hdg (by rw [h2]; exact hnp) hw1 hw2 h3) h5 kk
theorem s_e_invokestatic {n : Nat} (C : s_Cx p s m args meth c M) (hW : ∀ w ∈ Wm, w ∈ s_gd) (hHd : s_chkH M Wm hd M.2.2.2.2 = true) (hK : s_KK dC dI base s s.heap) (hbase : base ≤ s.heap.size) (hnl : nL = c.maxLocals) (had : ad = ad0 ++ x0) (hS : s_SR s dC dI ρ base nL ad L st h H ls vs locs) (hCT : s_CT l dC dI ρ base d mi call) (hRf : 7 + d ≤ R.frames) (hRl : 170 + 70 * d ≤ R.locals) (hI : s_chkI mi M Wm pc (o, .invokestatic n, nx, a, b, c') = true) (he : s_x_invokestatic F df comp call hd pc (o, .invokestatic n, nx, a, b, c') L st h kc ks = some (.inr outf)) (hRc : outf.2.2.1 ≤ R.cells) (hRs : outf.2.2.2 ≤ R.slots) : W p l e R s m args below meth c H locs kc ks (vx_MQ below (s_Qc dC dI ρ base ad0 outf) (s_XC dC dI ρ base ad0 outf) args s outf.2.2.1 outf.2.2.2 (fun q => base ≤ q)) (F0 m pc ls vs) := by
  obtain ⟨hL, hD, hH, hF⟩ := id hS
  obtain ⟨as, rest, out, rfl, h2, h3, h4, h5⟩ := s_st_call he
  obtain ⟨N, hN, hKw, hM⟩ := hCT _ _ _ _ h4
  simp only [s_chkI, hN] at hI
  obtain ⟨-, rfl, hdg, hnp, hw1, hw2⟩ := of_decide_eq_true hI
  obtain ⟨a0, rv, rfl, hDa, hDr⟩ := s_DS_args hD
  obtain ⟨e1, e2⟩ := s_aft_r h5
  exact s_e_aft C hHd had hF (s_runS C hW hK hbase hnl hL hDa hDr hH hF hKw hM hRf hRl (by omega) (by omega) hdg (by rw [h2]; exact hnp) hw1 hw2 h3) h5
theorem s_cellv {q ci o1 : Nat} {fs : List Term} {r : vw_C} (hK : s_KK dC dI base s s.heap) (hH : s_HR s dC dI ρ ad base h H) (hg : s_get h q = some (1, ci, fs)) (ho : ad[q]? = some o1) (hr : s_cl[ci]? = some r) : ∃ cellB : Cell, H[o1]? = some cellB ∧ cellB.vm.isStatics = false ∧ s.vm.findClass r.1 = some cellB.cls := by
  rcases hH.2.2.2 q _ hg with z | ⟨b1, hb1, hc⟩
  · cases z
  · rw [ho] at hb1; cases hb1
    rcases hc with ⟨-, r', g1, g2, cell, g3, g4, g5, g6⟩ | ⟨z | z, -⟩
    · exact ⟨cell, g3, by rw [g5]; rfl, by rw [g4]; exact (hK.1 ci r hr).2.1⟩
    · cases z
    · cases z
theorem s_isR_ob (hq : s_ob h c' (s_hd1 as) = true) : s_isR (s_hd1 as) = true := by
  unfold s_ob at hq
  split at hq
  · rename_i q hh; rw [hh]; rfl
  · cases hq
theorem s_vprep {n : Nat} (C : s_Cx p s m args meth c M) (hW : ∀ w ∈ Wm, w ∈ s_gd) (hK : s_KK dC dI base s s.heap) (hbase : base ≤ s.heap.size) (hnl : nL = c.maxLocals) (hL : s_LR ρ ad nL L ls) (hD : s_DS ρ ad (as.reverse ++ rest) vs) (hH : s_HR s dC dI ρ ad base h H) (hF : s_FR base s H locs) (hCT : s_CT l dC dI ρ base d mi call) (hRf : 7 + d ≤ R.frames) (hRl : 170 + 70 * d ≤ R.locals) (hI : s_chkI mi M Wm pc (o, .invokevirtual n, nx, a, as.length, c') = true) (h3 : Nat.ble (s_wt rest) 8 = true) (h6 : s_ob h c' (s_hd1 as) = true) (h4 : call a as h = some out) (hRc : kc + out.2.2.1 ≤ R.cells) (hRs : ks + out.2.2.2 ≤ R.slots) : nx = pc + 3 ∧ ∃ rv ao, s_DS ρ ad rest rv ∧ vx_Run p l e R s m args below meth c H locs kc ks out.2.2.1 out.2.2.2 (F0 m pc ls vs) rv (s_Qc dC dI ρ base ad out ao) (s_XC dC dI ρ base ad out) (fun q => base ≤ q) := by
  obtain ⟨N, hN, hKw, hM⟩ := hCT _ _ _ _ h4
  simp only [s_chkI, hN] at hI
  split at hI
  · cases hI
  · rename_i r hr
    obtain ⟨-, rfl, hdg, hnp, hb0, hw1, hw2, hw3, hhh⟩ := of_decide_eq_true hI
    obtain ⟨a0, rv, rfl, hDa, hDr⟩ := s_DS_args hD
    obtain ⟨q, as', o1, a1, rfl, rfl, ho, hlen⟩ := s_rcv hDa (s_isR_ob h6)
    obtain ⟨fs, hg⟩ := s_ob_s h6
    refine ⟨rfl, rv, _, hDr, s_runV (r := r) (ci := c') C hW hK hbase hnl hL hDa hDr hH hF hKw hM hRf hRl hRc hRs hhh (s_cellv hK hH hg ho hr) hdg ?_ hw1 hw2 hw3 h3⟩
    rw [hnp, ← hlen]; rfl
theorem s_k_invokevirtual {n : Nat} (C : s_Cx p s m args meth c M) (hW : ∀ w ∈ Wm, w ∈ s_gd) (hHd : s_chkH M Wm hd M.2.2.2.2 = true) (hK : s_KK dC dI base s s.heap) (hbase : base ≤ s.heap.size) (hnl : nL = c.maxLocals) (hS : s_SR s dC dI ρ base nL ad L st h H ls vs locs) (hCT : s_CT l dC dI ρ base d mi call) (hRf : 7 + d ≤ R.frames) (hRl : 170 + 70 * d ≤ R.locals) (hI : s_chkI mi M Wm pc (o, .invokevirtual n, nx, a, b, c') = true) (he : s_x_invokevirtual F df comp call hd pc (o, .invokevirtual n, nx, a, b, c') L st h kc ks = some (.inl (pc', L', st', h', kc', ks'))) (hRc : kc' ≤ R.cells) (hRs : ks' ≤ R.slots) (kk : s_Kk p l e R s m args below meth c Q dC dI ρ base nL ad pc' L' st' h' kc' ks') : W p l e R s m args below meth c H locs kc ks Q (F0 m pc ls vs) := by
  obtain ⟨hL, hD, hH, hF⟩ := id hS
  obtain ⟨as, rest, out, rfl, rfl, h3, h6, h4, h5⟩ := s_vt_call he
  obtain ⟨e1, e2⟩ := s_aft_l h5
  obtain ⟨rfl, rv, ao, hDr, hrun⟩ := s_vprep C hW hK hbase hnl hL hD hH hF hCT hRf hRl hI h3 h6 h4 (show kc + out.2.2.1 ≤ R.cells by omega) (show ks + out.2.2.2 ≤ R.slots by omega)
  exact s_k_aft C hW hHd hK hL hDr hF hbase (hnl.trans C.2.2.1) hrun h5 kk
theorem s_e_invokevirtual {n : Nat} (C : s_Cx p s m args meth c M) (hW : ∀ w ∈ Wm, w ∈ s_gd) (hHd : s_chkH M Wm hd M.2.2.2.2 = true) (hK : s_KK dC dI base s s.heap) (hbase : base ≤ s.heap.size) (hnl : nL = c.maxLocals) (had : ad = ad0 ++ x0) (hS : s_SR s dC dI ρ base nL ad L st h H ls vs locs) (hCT : s_CT l dC dI ρ base d mi call) (hRf : 7 + d ≤ R.frames) (hRl : 170 + 70 * d ≤ R.locals) (hI : s_chkI mi M Wm pc (o, .invokevirtual n, nx, a, b, c') = true) (he : s_x_invokevirtual F df comp call hd pc (o, .invokevirtual n, nx, a, b, c') L st h kc ks = some (.inr outf)) (hRc : outf.2.2.1 ≤ R.cells) (hRs : outf.2.2.2 ≤ R.slots) : W p l e R s m args below meth c H locs kc ks (vx_MQ below (s_Qc dC dI ρ base ad0 outf) (s_XC dC dI ρ base ad0 outf) args s outf.2.2.1 outf.2.2.2 (fun q => base ≤ q)) (F0 m pc ls vs) := by
  obtain ⟨hL, hD, hH, hF⟩ := id hS
  obtain ⟨as, rest, out, rfl, rfl, h3, h6, h4, h5⟩ := s_vt_call he
  obtain ⟨e1, e2⟩ := s_aft_r h5
  obtain ⟨rfl, rv, ao, hDr, hrun⟩ := s_vprep C hW hK hbase hnl hL hD hH hF hCT hRf hRl hI h3 h6 h4 (show kc + out.2.2.1 ≤ R.cells by omega) (show ks + out.2.2.2 ≤ R.slots by omega)
  exact s_e_aft C hHd had hF hrun h5
theorem s_k_invokespecial {n : Nat} (C : s_Cx p s m args meth c M) (hW : ∀ w ∈ Wm, w ∈ s_gd) (hK : s_KK dC dI base s s.heap) (hbase : base ≤ s.heap.size) (hnl : nL = c.maxLocals) (hS : s_SR s dC dI ρ base nL ad L st h H ls vs locs) (hCT : s_CT l dC dI ρ base d mi call) (hRf : 7 + d ≤ R.frames) (hRl : 170 + 70 * d ≤ R.locals) (hI : s_chkI mi M Wm pc (o, .invokespecial n, nx, a, b, c') = true) (he : s_x_invokespecial F df comp call hd pc (o, .invokespecial n, nx, a, b, c') L st h kc ks = some (.inl (pc', L', st', h', kc', ks'))) (hRc : kc' ≤ R.cells) (hRs : ks' ≤ R.slots) (kk : s_Kk p l e R s m args below meth c Q dC dI ρ base nL ad pc' L' st' h' kc' ks') : W p l e R s m args below meth c H locs kc ks Q (F0 m pc ls vs) := by
  by_cases hc9 : c' = 9
  · subst hc9
    exact s_k_objinit C hW hS (hS.1.1.trans hnl) hI he (by omega) (by omega) kk
  · obtain ⟨hL, hD, hH, hF⟩ := id hS
    obtain ⟨as, rest, out, rfl, rfl, h3, h6, h4, h7, h8⟩ := s_sp_call hc9 he
    cases h8
    obtain ⟨N, hN, hKw, hM⟩ := hCT _ _ _ _ h4
    simp only [s_chkI] at hI
    split at hI
    · exact absurd rfl hc9
    · simp only [hN] at hI
      obtain ⟨-, rfl, hdg, hname, hret, hhh, hnp, hb0, hw2, hw1⟩ := of_decide_eq_true hI
      obtain ⟨a0, rv, rfl, hDa, hDr⟩ := s_DS_args hD
      obtain ⟨q, as', o1, a1, rfl, rfl, ho, hlen⟩ := s_rcv hDa h6
      exact s_back hL hDr hF hbase h7 (s_runI C hW hK hbase hnl hL hDa hDr hH hF hKw hM hRf hRl hRc hRs hhh hname hret hdg (by rw [hnp, ← hlen]; rfl) hw1 hw2 h3) kk
    · cases hI
theorem s_exec_at {F : s_F} {df : Nat → List Term} {comp : Nat → Nat} {e9 : s_I} {f : s_Hn} (hf : s_at 8 s_hn e9.1 = some f) : s_exec F df comp call hd pc e9 L st h kc ks = f F df comp call hd pc e9 L st h kc ks := by
  unfold s_exec; rw [hf]
theorem s_at_aconst_null : s_at 8 s_hn 0 = some s_x_aconst_null := rfl
theorem s_at_iconst : s_at 8 s_hn 1 = some s_x_iconst := rfl
theorem s_at_bipush : s_at 8 s_hn 2 = some s_x_bipush := rfl
theorem s_at_sipush : s_at 8 s_hn 3 = some s_x_sipush := rfl
theorem s_at_lconst : s_at 8 s_hn 4 = some s_x_lconst := rfl
theorem s_at_ldc2_w : s_at 8 s_hn 5 = some s_x_ldc2_w := rfl
theorem s_at_iload : s_at 8 s_hn 6 = some s_x_iload := rfl
theorem s_at_iload_n : s_at 8 s_hn 7 = some s_x_iload_n := rfl
theorem s_at_lload : s_at 8 s_hn 8 = some s_x_lload := rfl
theorem s_at_lload_n : s_at 8 s_hn 9 = some s_x_lload_n := rfl
theorem s_at_aload : s_at 8 s_hn 10 = some s_x_aload := rfl
theorem s_at_aload_n : s_at 8 s_hn 11 = some s_x_aload_n := rfl
theorem s_at_istore : s_at 8 s_hn 12 = some s_x_istore := rfl
theorem s_at_istore_n : s_at 8 s_hn 13 = some s_x_istore_n := rfl
theorem s_at_lstore : s_at 8 s_hn 14 = some s_x_lstore := rfl
theorem s_at_lstore_n : s_at 8 s_hn 15 = some s_x_lstore_n := rfl
theorem s_at_astore : s_at 8 s_hn 16 = some s_x_astore := rfl
theorem s_at_astore_n : s_at 8 s_hn 17 = some s_x_astore_n := rfl
theorem s_at_iinc : s_at 8 s_hn 18 = some s_x_iinc := rfl
theorem s_at_iadd : s_at 8 s_hn 19 = some s_x_iadd := rfl
theorem s_at_isub : s_at 8 s_hn 20 = some s_x_isub := rfl
theorem s_at_imul : s_at 8 s_hn 21 = some s_x_imul := rfl
theorem s_at_idiv : s_at 8 s_hn 22 = some s_x_idiv := rfl
theorem s_at_irem : s_at 8 s_hn 23 = some s_x_irem := rfl
theorem s_at_iand : s_at 8 s_hn 24 = some s_x_iand := rfl
theorem s_at_ior : s_at 8 s_hn 25 = some s_x_ior := rfl
theorem s_at_ixor : s_at 8 s_hn 26 = some s_x_ixor := rfl
theorem s_at_ishl : s_at 8 s_hn 27 = some s_x_ishl := rfl
theorem s_at_ishr : s_at 8 s_hn 28 = some s_x_ishr := rfl
theorem s_at_ladd : s_at 8 s_hn 29 = some s_x_ladd := rfl
theorem s_at_lsub : s_at 8 s_hn 30 = some s_x_lsub := rfl
theorem s_at_lmul : s_at 8 s_hn 31 = some s_x_lmul := rfl
theorem s_at_lrem : s_at 8 s_hn 32 = some s_x_lrem := rfl
theorem s_at_ldiv : s_at 8 s_hn 33 = some s_x_ldiv := rfl
theorem s_at_land : s_at 8 s_hn 34 = some s_x_land := rfl
theorem s_at_lor : s_at 8 s_hn 35 = some s_x_lor := rfl
theorem s_at_lxor : s_at 8 s_hn 36 = some s_x_lxor := rfl
theorem s_at_lshl : s_at 8 s_hn 37 = some s_x_lshl := rfl
theorem s_at_lshr : s_at 8 s_hn 38 = some s_x_lshr := rfl
theorem s_at_lushr : s_at 8 s_hn 39 = some s_x_lushr := rfl
theorem s_at_lcmp : s_at 8 s_hn 40 = some s_x_lcmp := rfl
theorem s_at_ineg : s_at 8 s_hn 41 = some s_x_ineg := rfl
theorem s_at_lneg : s_at 8 s_hn 42 = some s_x_lneg := rfl
theorem s_at_i2l : s_at 8 s_hn 43 = some s_x_i2l := rfl
theorem s_at_l2i : s_at 8 s_hn 44 = some s_x_l2i := rfl
theorem s_at_dup : s_at 8 s_hn 45 = some s_x_dup := rfl
theorem s_at_pop : s_at 8 s_hn 46 = some s_x_pop := rfl
theorem s_at_dup2 : s_at 8 s_hn 47 = some s_x_dup2 := rfl
theorem s_at_goto : s_at 8 s_hn 48 = some s_x_goto := rfl
theorem s_at_ifCond : s_at 8 s_hn 49 = some s_x_ifCond := rfl
theorem s_at_if_icmp : s_at 8 s_hn 50 = some s_x_if_icmp := rfl
theorem s_at_ifnull : s_at 8 s_hn 51 = some s_x_ifnull := rfl
theorem s_at_ifnonnull : s_at 8 s_hn 52 = some s_x_ifnonnull := rfl
theorem s_at_tableswitch : s_at 8 s_hn 53 = some s_x_tableswitch := rfl
theorem s_at_getfield : s_at 8 s_hn 54 = some s_x_getfield := rfl
theorem s_at_putfield : s_at 8 s_hn 55 = some s_x_putfield := rfl
theorem s_at_iaload : s_at 8 s_hn 56 = some s_x_iaload := rfl
theorem s_at_laload : s_at 8 s_hn 57 = some s_x_laload := rfl
theorem s_at_baload : s_at 8 s_hn 58 = some s_x_baload := rfl
theorem s_at_aaload : s_at 8 s_hn 59 = some s_x_aaload := rfl
theorem s_at_iastore : s_at 8 s_hn 60 = some s_x_iastore := rfl
theorem s_at_lastore : s_at 8 s_hn 61 = some s_x_lastore := rfl
theorem s_at_bastore : s_at 8 s_hn 62 = some s_x_bastore := rfl
theorem s_at_aastore : s_at 8 s_hn 63 = some s_x_aastore := rfl
theorem s_at_arraylength : s_at 8 s_hn 64 = some s_x_arraylength := rfl
theorem s_at_newarray : s_at 8 s_hn 65 = some s_x_newarray := rfl
theorem s_at_anewarray : s_at 8 s_hn 66 = some s_x_anewarray := rfl
theorem s_at_multianewarray : s_at 8 s_hn 67 = some s_x_multianewarray := rfl
theorem s_at_new : s_at 8 s_hn 68 = some s_x_new := rfl
theorem s_at_invokespecial : s_at 8 s_hn 69 = some s_x_invokespecial := rfl
theorem s_at_invokestatic : s_at 8 s_hn 70 = some s_x_invokestatic := rfl
theorem s_at_invokevirtual : s_at 8 s_hn 71 = some s_x_invokevirtual := rfl
theorem s_at_return_ : s_at 8 s_hn 72 = some s_x_return_ := rfl
theorem s_at_ireturn : s_at 8 s_hn 73 = some s_x_ireturn := rfl
theorem s_at_lreturn : s_at 8 s_hn 74 = some s_x_lreturn := rfl
theorem s_at_areturn : s_at 8 s_hn 75 = some s_x_areturn := rfl
theorem s_at_iushr : s_at 8 s_hn 76 = some s_x_iushr := rfl
theorem s_at_ldc_w : s_at 8 s_hn 77 = some s_x_ldc_w := rfl
theorem s_at_ldc : s_at 8 s_hn 78 = some s_x_ldc := rfl
theorem s_step {e9 : s_I} (C : s_Cx p s m args meth c M) (hW : ∀ w ∈ Wm, w ∈ s_gd) (hHd : s_chkH M Wm hd M.2.2.2.2 = true) (hFH : s_FH ρ F) (hl : l.stackTraces = false) (hK : s_KK dC dI base s s.heap) (hbase : base ≤ s.heap.size) (hnl : nL = c.maxLocals) (hS : s_SR s dC dI ρ base nL ad L st h H ls vs locs) (hCT : s_CT l dC dI ρ base d mi call) (hRf : 7 + d ≤ R.frames) (hRl : 170 + 70 * d ≤ R.locals) (hI : s_chkI mi M Wm pc e9 = true) (he : s_exec F s_df s_comp call hd pc e9 L st h kc ks = some (.inl (pc', L', st', h', kc', ks'))) (hRc : kc' ≤ R.cells) (hRs : ks' ≤ R.slots) (kk : s_Kk p l e R s m args below meth c Q dC dI ρ base nL ad pc' L' st' h' kc' ks') : W p l e R s m args below meth c H locs kc ks Q (F0 m pc ls vs) := by
  obtain ⟨o, i, nx, a, b, c'⟩ := e9
  cases i with
  | aconst_null  =>
    have ho : o = 0 := (of_decide_eq_true hI).1
    subst ho
    rw [s_exec_at s_at_aconst_null] at he
    exact s_k_aconst_null C hW hS hI he kk
  | iconst n =>
    have ho : o = 1 := (of_decide_eq_true hI).1
    subst ho
    rw [s_exec_at s_at_iconst] at he
    exact s_k_iconst C hW hS hI he kk
  | bipush n =>
    have ho : o = 2 := (of_decide_eq_true hI).1
    subst ho
    rw [s_exec_at s_at_bipush] at he
    exact s_k_bipush C hW hS hI he kk
  | sipush n =>
    have ho : o = 3 := (of_decide_eq_true hI).1
    subst ho
    rw [s_exec_at s_at_sipush] at he
    exact s_k_sipush C hW hS hI he kk
  | lconst n =>
    have ho : o = 4 := (of_decide_eq_true hI).1
    subst ho
    rw [s_exec_at s_at_lconst] at he
    exact s_k_lconst C hW hS hI he kk
  | ldc2_w n =>
    have ho : o = 5 := (of_decide_eq_true hI).1
    subst ho
    rw [s_exec_at s_at_ldc2_w] at he
    exact s_k_ldc2_w C hW hS hI he kk
  | iload n =>
    have ho : o = 6 := (of_decide_eq_true hI).1
    subst ho
    rw [s_exec_at s_at_iload] at he
    exact s_k_iload C hW hS hI he kk
  | iload_n n =>
    have ho : o = 7 := (of_decide_eq_true hI).1
    subst ho
    rw [s_exec_at s_at_iload_n] at he
    exact s_k_iload_n C hW hS hI he kk
  | lload n =>
    have ho : o = 8 := (of_decide_eq_true hI).1
    subst ho
    rw [s_exec_at s_at_lload] at he
    exact s_k_lload C hW hS hI he kk
  | lload_n n =>
    have ho : o = 9 := (of_decide_eq_true hI).1
    subst ho
    rw [s_exec_at s_at_lload_n] at he
    exact s_k_lload_n C hW hS hI he kk
  | aload n =>
    have ho : o = 10 := (of_decide_eq_true hI).1
    subst ho
    rw [s_exec_at s_at_aload] at he
    exact s_k_aload C hW hS hI he kk
  | aload_n n =>
    have ho : o = 11 := (of_decide_eq_true hI).1
    subst ho
    rw [s_exec_at s_at_aload_n] at he
    exact s_k_aload_n C hW hS hI he kk
  | istore n =>
    have ho : o = 12 := (of_decide_eq_true hI).1
    subst ho
    rw [s_exec_at s_at_istore] at he
    exact s_k_istore C hW hS hI he kk
  | istore_n n =>
    have ho : o = 13 := (of_decide_eq_true hI).1
    subst ho
    rw [s_exec_at s_at_istore_n] at he
    exact s_k_istore_n C hW hS hI he kk
  | lstore n =>
    have ho : o = 14 := (of_decide_eq_true hI).1
    subst ho
    rw [s_exec_at s_at_lstore] at he
    exact s_k_lstore C hW hS hI he kk
  | lstore_n n =>
    have ho : o = 15 := (of_decide_eq_true hI).1
    subst ho
    rw [s_exec_at s_at_lstore_n] at he
    exact s_k_lstore_n C hW hS hI he kk
  | astore n =>
    have ho : o = 16 := (of_decide_eq_true hI).1
    subst ho
    rw [s_exec_at s_at_astore] at he
    exact s_k_astore C hW hS hI he kk
  | astore_n n =>
    have ho : o = 17 := (of_decide_eq_true hI).1
    subst ho
    rw [s_exec_at s_at_astore_n] at he
    exact s_k_astore_n C hW hS hI he kk
  | iinc n q =>
    have ho : o = 18 := (of_decide_eq_true hI).1
    subst ho
    rw [s_exec_at s_at_iinc] at he
    exact s_k_iinc C hW hS hI he kk
  | iadd  =>
    have ho : o = 19 := (of_decide_eq_true hI).1
    subst ho
    rw [s_exec_at s_at_iadd] at he
    exact s_k_iadd C hW hS hI he kk
  | isub  =>
    have ho : o = 20 := (of_decide_eq_true hI).1
    subst ho
    rw [s_exec_at s_at_isub] at he
    exact s_k_isub C hW hS hI he kk
  | imul  =>
    have ho : o = 21 := (of_decide_eq_true hI).1
    subst ho
    rw [s_exec_at s_at_imul] at he
    exact s_k_imul C hW hS hI he kk
  | idiv  =>
    have ho : o = 22 := (of_decide_eq_true hI).1
    subst ho
    rw [s_exec_at s_at_idiv] at he
    exact s_k_idiv C hW hS hI he kk
  | irem  =>
    have ho : o = 23 := (of_decide_eq_true hI).1
    subst ho
    rw [s_exec_at s_at_irem] at he
    exact s_k_irem C hW hS hI he kk
  | iand  =>
    have ho : o = 24 := (of_decide_eq_true hI).1
    subst ho
    rw [s_exec_at s_at_iand] at he
    exact s_k_iand C hW hS hI he kk
  | ior  =>
    have ho : o = 25 := (of_decide_eq_true hI).1
    subst ho
    rw [s_exec_at s_at_ior] at he
    exact s_k_ior C hW hS hI he kk
  | ixor  =>
    have ho : o = 26 := (of_decide_eq_true hI).1
    subst ho
    rw [s_exec_at s_at_ixor] at he
    exact s_k_ixor C hW hS hI he kk
  | ishl  =>
    have ho : o = 27 := (of_decide_eq_true hI).1
    subst ho
    rw [s_exec_at s_at_ishl] at he
    exact s_k_ishl C hW hS hI he kk
  | ishr  =>
    have ho : o = 28 := (of_decide_eq_true hI).1
    subst ho
    rw [s_exec_at s_at_ishr] at he
    exact s_k_ishr C hW hS hI he kk
  | ladd  =>
    have ho : o = 29 := (of_decide_eq_true hI).1
    subst ho
    rw [s_exec_at s_at_ladd] at he
    exact s_k_ladd C hW hS hI he kk
  | lsub  =>
    have ho : o = 30 := (of_decide_eq_true hI).1
    subst ho
    rw [s_exec_at s_at_lsub] at he
    exact s_k_lsub C hW hS hI he kk
  | lmul  =>
    have ho : o = 31 := (of_decide_eq_true hI).1
    subst ho
    rw [s_exec_at s_at_lmul] at he
    exact s_k_lmul C hW hS hI he kk
  | lrem  =>
    have ho : o = 32 := (of_decide_eq_true hI).1
    subst ho
    rw [s_exec_at s_at_lrem] at he
    exact s_k_lrem C hW hS hI he kk
  | ldiv  =>
    have ho : o = 33 := (of_decide_eq_true hI).1
    subst ho
    rw [s_exec_at s_at_ldiv] at he
    exact s_k_ldiv C hW hS hI he kk
  | land  =>
    have ho : o = 34 := (of_decide_eq_true hI).1
    subst ho
    rw [s_exec_at s_at_land] at he
    exact s_k_land C hW hS hI he kk
  | lor  =>
    have ho : o = 35 := (of_decide_eq_true hI).1
    subst ho
    rw [s_exec_at s_at_lor] at he
    exact s_k_lor C hW hS hI he kk
  | lxor  =>
    have ho : o = 36 := (of_decide_eq_true hI).1
    subst ho
    rw [s_exec_at s_at_lxor] at he
    exact s_k_lxor C hW hS hI he kk
  | lshl  =>
    have ho : o = 37 := (of_decide_eq_true hI).1
    subst ho
    rw [s_exec_at s_at_lshl] at he
    exact s_k_lshl C hW hS hI he kk
  | lshr  =>
    have ho : o = 38 := (of_decide_eq_true hI).1
    subst ho
    rw [s_exec_at s_at_lshr] at he
    exact s_k_lshr C hW hS hI he kk
  | lushr  =>
    have ho : o = 39 := (of_decide_eq_true hI).1
    subst ho
    rw [s_exec_at s_at_lushr] at he
    exact s_k_lushr C hW hS hI he kk
  | lcmp  =>
    have ho : o = 40 := (of_decide_eq_true hI).1
    subst ho
    rw [s_exec_at s_at_lcmp] at he
    exact s_k_lcmp C hW hS hI he kk
  | ineg  =>
    have ho : o = 41 := (of_decide_eq_true hI).1
    subst ho
    rw [s_exec_at s_at_ineg] at he
    exact s_k_ineg C hW hS hI he kk
  | lneg  =>
    have ho : o = 42 := (of_decide_eq_true hI).1
    subst ho
    rw [s_exec_at s_at_lneg] at he
    exact s_k_lneg C hW hS hI he kk
  | i2l  =>
    have ho : o = 43 := (of_decide_eq_true hI).1
    subst ho
    rw [s_exec_at s_at_i2l] at he
    exact s_k_i2l C hW hS hI he kk
  | l2i  =>
    have ho : o = 44 := (of_decide_eq_true hI).1
    subst ho
    rw [s_exec_at s_at_l2i] at he
    exact s_k_l2i C hW hS hI he kk
  | dup  =>
    have ho : o = 45 := (of_decide_eq_true hI).1
    subst ho
    rw [s_exec_at s_at_dup] at he
    exact s_k_dup C hW hS hI he kk
  | pop  =>
    have ho : o = 46 := (of_decide_eq_true hI).1
    subst ho
    rw [s_exec_at s_at_pop] at he
    exact s_k_pop C hW hS hI he kk
  | dup2  =>
    have ho : o = 47 := (of_decide_eq_true hI).1
    subst ho
    rw [s_exec_at s_at_dup2] at he
    exact s_k_dup2 C hW hS hI he kk
  | goto n =>
    have ho : o = 48 := (of_decide_eq_true hI).1
    subst ho
    rw [s_exec_at s_at_goto] at he
    exact s_k_goto C hW hS hI he kk
  | ifCond n q =>
    have ho : o = 49 := (of_decide_eq_true hI).1
    subst ho
    rw [s_exec_at s_at_ifCond] at he
    exact s_k_ifCond C hW hS hI he hFH kk
  | if_icmp n q =>
    have ho : o = 50 := (of_decide_eq_true hI).1
    subst ho
    rw [s_exec_at s_at_if_icmp] at he
    exact s_k_if_icmp C hW hS hI he hFH kk
  | ifnull n =>
    have ho : o = 51 := (of_decide_eq_true hI).1
    subst ho
    rw [s_exec_at s_at_ifnull] at he
    exact s_k_ifnull C hW hS hI he kk
  | ifnonnull n =>
    have ho : o = 52 := (of_decide_eq_true hI).1
    subst ho
    rw [s_exec_at s_at_ifnonnull] at he
    exact s_k_ifnonnull C hW hS hI he kk
  | tableswitch n q z1 z2 =>
    have ho : o = 53 := (of_decide_eq_true hI).1
    subst ho
    rw [s_exec_at s_at_tableswitch] at he
    exact s_k_tableswitch C hW hS hI he kk
  | getfield n =>
    have ho : o = 54 := by
      simp only [s_chkI] at hI
      split at hI
      · cases hI
      · exact (of_decide_eq_true hI).1
    subst ho
    rw [s_exec_at s_at_getfield] at he
    exact s_k_getfield C hW hS hI he hK.1 hbase hRc hRs kk
  | putfield n =>
    have ho : o = 55 := by
      simp only [s_chkI] at hI
      split at hI
      · cases hI
      · exact (of_decide_eq_true hI).1
    subst ho
    rw [s_exec_at s_at_putfield] at he
    exact s_k_putfield C hW hS hI he hK.1 hbase hRc hRs kk
  | iaload  =>
    have ho : o = 56 := (of_decide_eq_true hI).1
    subst ho
    rw [s_exec_at s_at_iaload] at he
    exact s_k_iaload C hW hS hI he hK.1 hbase hRc hRs kk
  | laload  =>
    have ho : o = 57 := (of_decide_eq_true hI).1
    subst ho
    rw [s_exec_at s_at_laload] at he
    exact s_k_laload C hW hS hI he hK.1 hbase hRc hRs kk
  | baload  =>
    have ho : o = 58 := (of_decide_eq_true hI).1
    subst ho
    rw [s_exec_at s_at_baload] at he
    exact s_k_baload C hW hS hI he hK.1 hbase hRc hRs kk
  | aaload  =>
    have ho : o = 59 := (of_decide_eq_true hI).1
    subst ho
    rw [s_exec_at s_at_aaload] at he
    exact s_k_aaload C hW hS hI he hK.1 hbase hRc hRs kk
  | iastore  =>
    have ho : o = 60 := (of_decide_eq_true hI).1
    subst ho
    rw [s_exec_at s_at_iastore] at he
    exact s_k_iastore C hW hS hI he hK.1 hbase hRc hRs kk
  | lastore  =>
    have ho : o = 61 := (of_decide_eq_true hI).1
    subst ho
    rw [s_exec_at s_at_lastore] at he
    exact s_k_lastore C hW hS hI he hK.1 hbase hRc hRs kk
  | bastore  =>
    have ho : o = 62 := (of_decide_eq_true hI).1
    subst ho
    rw [s_exec_at s_at_bastore] at he
    exact s_k_bastore C hW hS hI he hK.1 hbase hRc hRs kk
  | aastore  =>
    have ho : o = 63 := (of_decide_eq_true hI).1
    subst ho
    rw [s_exec_at s_at_aastore] at he
    exact s_k_aastore C hW hS hI he hK.1 hbase hRc hRs rfl kk
  | arraylength  =>
    have ho : o = 64 := (of_decide_eq_true hI).1
    subst ho
    rw [s_exec_at s_at_arraylength] at he
    exact s_k_arraylength C hW hS hI he hK.1 hbase hRc hRs kk
  | newarray n =>
    have ho : o = 65 := (of_decide_eq_true hI).1
    subst ho
    rw [s_exec_at s_at_newarray] at he
    exact s_k_newarray C hW hS hI he hK.1 hbase hRc hRs kk
  | anewarray n =>
    have ho : o = 66 := by
      simp only [s_chkI] at hI
      split at hI
      · exact (of_decide_eq_true hI).1
      · cases hI
    subst ho
    rw [s_exec_at s_at_anewarray] at he
    exact s_k_anewarray C hW hS hI he hK.1 hbase hRc hRs kk
  | multianewarray n q =>
    match q, hI, he with
    | 0, hI, _ => cases hI
    | 1, hI, _ => cases hI
    | 2, hI, he =>
      have ho : o = 67 := (of_decide_eq_true hI).1
      subst ho
      rw [s_exec_at s_at_multianewarray] at he
      exact s_k_multi C hW hS hI he hbase hRc hRs kk
    | z + 3, hI, _ => cases hI
  | new n =>
    have ho : o = 68 := by
      simp only [s_chkI] at hI
      split at hI
      · exact (of_decide_eq_true hI).1
      · split at hI
        · cases hI
        · exact (of_decide_eq_true hI).1
      · cases hI
    subst ho
    rw [s_exec_at s_at_new] at he
    exact s_k_new C hW hS hI he hK.1 hbase hRc hRs rfl kk
  | invokespecial n =>
    have ho : o = 69 := by
      simp only [s_chkI] at hI
      split at hI
      · exact (of_decide_eq_true hI).1
      · split at hI
        · cases hI
        · exact (of_decide_eq_true hI).1
      · cases hI
    subst ho
    rw [s_exec_at s_at_invokespecial] at he
    exact s_k_invokespecial C hW hK hbase hnl hS hCT hRf hRl hI he hRc hRs kk
  | invokestatic n =>
    have ho : o = 70 := by
      simp only [s_chkI] at hI
      split at hI
      · cases hI
      · exact (of_decide_eq_true hI).1
    subst ho
    rw [s_exec_at s_at_invokestatic] at he
    exact s_k_invokestatic C hW hHd hK hbase hnl hS hCT hRf hRl hI he hRc hRs kk
  | invokevirtual n =>
    have ho : o = 71 := by
      simp only [s_chkI] at hI
      split at hI
      · cases hI
      · split at hI
        · cases hI
        · exact (of_decide_eq_true hI).1
    subst ho
    rw [s_exec_at s_at_invokevirtual] at he
    exact s_k_invokevirtual C hW hHd hK hbase hnl hS hCT hRf hRl hI he hRc hRs kk
  | return_  =>
    have ho : o = 72 := (of_decide_eq_true hI).1
    subst ho
    rw [s_exec_at s_at_return_] at he
    have he : s_x_return_ F s_df s_comp call hd pc (72, .return_, nx, a, b, c') L st h kc ks = some (.inl (pc', L', st', h', kc', ks')) := he
    simp only [s_x_return_] at he
    repeat' split at he
    all_goals cases he
  | ireturn  =>
    have ho : o = 73 := (of_decide_eq_true hI).1
    subst ho
    rw [s_exec_at s_at_ireturn] at he
    have he : s_x_ireturn F s_df s_comp call hd pc (73, .ireturn, nx, a, b, c') L st h kc ks = some (.inl (pc', L', st', h', kc', ks')) := he
    simp only [s_x_ireturn] at he
    repeat' split at he
    all_goals cases he
  | lreturn  =>
    have ho : o = 74 := (of_decide_eq_true hI).1
    subst ho
    rw [s_exec_at s_at_lreturn] at he
    have he : s_x_lreturn F s_df s_comp call hd pc (74, .lreturn, nx, a, b, c') L st h kc ks = some (.inl (pc', L', st', h', kc', ks')) := he
    simp only [s_x_lreturn] at he
    repeat' split at he
    all_goals cases he
  | areturn  =>
    have ho : o = 75 := by
      simp only [s_chkI, Bool.and_eq_true] at hI
      exact (of_decide_eq_true hI.1).1
    subst ho
    rw [s_exec_at s_at_areturn] at he
    have he : s_x_areturn F s_df s_comp call hd pc (75, .areturn, nx, a, b, c') L st h kc ks = some (.inl (pc', L', st', h', kc', ks')) := he
    simp only [s_x_areturn] at he
    repeat' split at he
    all_goals cases he
  | iushr  =>
    have ho : o = 76 := (of_decide_eq_true hI).1
    subst ho
    rw [s_exec_at s_at_iushr] at he
    exact s_k_iushr C hW hS hI he kk
  | ldc_w n =>
    have ho : o = 77 := (of_decide_eq_true hI).1
    subst ho
    rw [s_exec_at s_at_ldc_w] at he
    exact s_k_ldc_w C hW hS hI he kk
  | ldc n =>
    have ho : o = 78 := (of_decide_eq_true hI).1
    subst ho
    rw [s_exec_at s_at_ldc] at he
    exact s_k_ldc C hW hS hI he kk
  | _ => cases hI
theorem s_stop {e9 : s_I} (C : s_Cx p s m args meth c M) (hW : ∀ w ∈ Wm, w ∈ s_gd) (hHd : s_chkH M Wm hd M.2.2.2.2 = true) (hFH : s_FH ρ F) (hl : l.stackTraces = false) (hK : s_KK dC dI base s s.heap) (hbase : base ≤ s.heap.size) (hnl : nL = c.maxLocals) (hS : s_SR s dC dI ρ base nL ad L st h H ls vs locs) (hCT : s_CT l dC dI ρ base d mi call) (hRf : 7 + d ≤ R.frames) (hRl : 170 + 70 * d ≤ R.locals) (had : ad = ad0 ++ x0) (hI : s_chkI mi M Wm pc e9 = true) (h68 : Nat.ble 68 e9.1 = true) (he : s_exec F s_df s_comp call hd pc e9 L st h kc ks = some (.inr outf)) (hRc : outf.2.2.1 ≤ R.cells) (hRs : outf.2.2.2 ≤ R.slots) : W p l e R s m args below meth c H locs kc ks (vx_MQ below (s_Qc dC dI ρ base ad0 outf) (s_XC dC dI ρ base ad0 outf) args s outf.2.2.1 outf.2.2.2 (fun q => base ≤ q)) (F0 m pc ls vs) := by
  obtain ⟨o, i, nx, a, b, c'⟩ := e9
  cases i with
  | aconst_null  =>
    have ho : o = 0 := (of_decide_eq_true hI).1
    subst ho
    rw [s_exec_at s_at_aconst_null] at he
    cases h68
  | iconst n =>
    have ho : o = 1 := (of_decide_eq_true hI).1
    subst ho
    rw [s_exec_at s_at_iconst] at he
    cases h68
  | bipush n =>
    have ho : o = 2 := (of_decide_eq_true hI).1
    subst ho
    rw [s_exec_at s_at_bipush] at he
    cases h68
  | sipush n =>
    have ho : o = 3 := (of_decide_eq_true hI).1
    subst ho
    rw [s_exec_at s_at_sipush] at he
    cases h68
  | lconst n =>
    have ho : o = 4 := (of_decide_eq_true hI).1
    subst ho
    rw [s_exec_at s_at_lconst] at he
    cases h68
  | ldc2_w n =>
    have ho : o = 5 := (of_decide_eq_true hI).1
    subst ho
    rw [s_exec_at s_at_ldc2_w] at he
    cases h68
  | iload n =>
    have ho : o = 6 := (of_decide_eq_true hI).1
    subst ho
    rw [s_exec_at s_at_iload] at he
    cases h68
  | iload_n n =>
    have ho : o = 7 := (of_decide_eq_true hI).1
    subst ho
    rw [s_exec_at s_at_iload_n] at he
    cases h68
  | lload n =>
    have ho : o = 8 := (of_decide_eq_true hI).1
    subst ho
    rw [s_exec_at s_at_lload] at he
    cases h68
  | lload_n n =>
    have ho : o = 9 := (of_decide_eq_true hI).1
    subst ho
    rw [s_exec_at s_at_lload_n] at he
    cases h68
  | aload n =>
    have ho : o = 10 := (of_decide_eq_true hI).1
    subst ho
    rw [s_exec_at s_at_aload] at he
    cases h68
  | aload_n n =>
    have ho : o = 11 := (of_decide_eq_true hI).1
    subst ho
    rw [s_exec_at s_at_aload_n] at he
    cases h68
  | istore n =>
    have ho : o = 12 := (of_decide_eq_true hI).1
    subst ho
    rw [s_exec_at s_at_istore] at he
    cases h68
  | istore_n n =>
    have ho : o = 13 := (of_decide_eq_true hI).1
    subst ho
    rw [s_exec_at s_at_istore_n] at he
    cases h68
  | lstore n =>
    have ho : o = 14 := (of_decide_eq_true hI).1
    subst ho
    rw [s_exec_at s_at_lstore] at he
    cases h68
  | lstore_n n =>
    have ho : o = 15 := (of_decide_eq_true hI).1
    subst ho
    rw [s_exec_at s_at_lstore_n] at he
    cases h68
  | astore n =>
    have ho : o = 16 := (of_decide_eq_true hI).1
    subst ho
    rw [s_exec_at s_at_astore] at he
    cases h68
  | astore_n n =>
    have ho : o = 17 := (of_decide_eq_true hI).1
    subst ho
    rw [s_exec_at s_at_astore_n] at he
    cases h68
  | iinc n q =>
    have ho : o = 18 := (of_decide_eq_true hI).1
    subst ho
    rw [s_exec_at s_at_iinc] at he
    cases h68
  | iadd  =>
    have ho : o = 19 := (of_decide_eq_true hI).1
    subst ho
    rw [s_exec_at s_at_iadd] at he
    cases h68
  | isub  =>
    have ho : o = 20 := (of_decide_eq_true hI).1
    subst ho
    rw [s_exec_at s_at_isub] at he
    cases h68
  | imul  =>
    have ho : o = 21 := (of_decide_eq_true hI).1
    subst ho
    rw [s_exec_at s_at_imul] at he
    cases h68
  | idiv  =>
    have ho : o = 22 := (of_decide_eq_true hI).1
    subst ho
    rw [s_exec_at s_at_idiv] at he
    cases h68
  | irem  =>
    have ho : o = 23 := (of_decide_eq_true hI).1
    subst ho
    rw [s_exec_at s_at_irem] at he
    cases h68
  | iand  =>
    have ho : o = 24 := (of_decide_eq_true hI).1
    subst ho
    rw [s_exec_at s_at_iand] at he
    cases h68
  | ior  =>
    have ho : o = 25 := (of_decide_eq_true hI).1
    subst ho
    rw [s_exec_at s_at_ior] at he
    cases h68
  | ixor  =>
    have ho : o = 26 := (of_decide_eq_true hI).1
    subst ho
    rw [s_exec_at s_at_ixor] at he
    cases h68
  | ishl  =>
    have ho : o = 27 := (of_decide_eq_true hI).1
    subst ho
    rw [s_exec_at s_at_ishl] at he
    cases h68
  | ishr  =>
    have ho : o = 28 := (of_decide_eq_true hI).1
    subst ho
    rw [s_exec_at s_at_ishr] at he
    cases h68
  | ladd  =>
    have ho : o = 29 := (of_decide_eq_true hI).1
    subst ho
    rw [s_exec_at s_at_ladd] at he
    cases h68
  | lsub  =>
    have ho : o = 30 := (of_decide_eq_true hI).1
    subst ho
    rw [s_exec_at s_at_lsub] at he
    cases h68
  | lmul  =>
    have ho : o = 31 := (of_decide_eq_true hI).1
    subst ho
    rw [s_exec_at s_at_lmul] at he
    cases h68
  | lrem  =>
    have ho : o = 32 := (of_decide_eq_true hI).1
    subst ho
    rw [s_exec_at s_at_lrem] at he
    cases h68
  | ldiv  =>
    have ho : o = 33 := (of_decide_eq_true hI).1
    subst ho
    rw [s_exec_at s_at_ldiv] at he
    cases h68
  | land  =>
    have ho : o = 34 := (of_decide_eq_true hI).1
    subst ho
    rw [s_exec_at s_at_land] at he
    cases h68
  | lor  =>
    have ho : o = 35 := (of_decide_eq_true hI).1
    subst ho
    rw [s_exec_at s_at_lor] at he
    cases h68
  | lxor  =>
    have ho : o = 36 := (of_decide_eq_true hI).1
    subst ho
    rw [s_exec_at s_at_lxor] at he
    cases h68
  | lshl  =>
    have ho : o = 37 := (of_decide_eq_true hI).1
    subst ho
    rw [s_exec_at s_at_lshl] at he
    cases h68
  | lshr  =>
    have ho : o = 38 := (of_decide_eq_true hI).1
    subst ho
    rw [s_exec_at s_at_lshr] at he
    cases h68
  | lushr  =>
    have ho : o = 39 := (of_decide_eq_true hI).1
    subst ho
    rw [s_exec_at s_at_lushr] at he
    cases h68
  | lcmp  =>
    have ho : o = 40 := (of_decide_eq_true hI).1
    subst ho
    rw [s_exec_at s_at_lcmp] at he
    cases h68
  | ineg  =>
    have ho : o = 41 := (of_decide_eq_true hI).1
    subst ho
    rw [s_exec_at s_at_ineg] at he
    cases h68
  | lneg  =>
    have ho : o = 42 := (of_decide_eq_true hI).1
    subst ho
    rw [s_exec_at s_at_lneg] at he
    cases h68
  | i2l  =>
    have ho : o = 43 := (of_decide_eq_true hI).1
    subst ho
    rw [s_exec_at s_at_i2l] at he
    cases h68
  | l2i  =>
    have ho : o = 44 := (of_decide_eq_true hI).1
    subst ho
    rw [s_exec_at s_at_l2i] at he
    cases h68
  | dup  =>
    have ho : o = 45 := (of_decide_eq_true hI).1
    subst ho
    rw [s_exec_at s_at_dup] at he
    cases h68
  | pop  =>
    have ho : o = 46 := (of_decide_eq_true hI).1
    subst ho
    rw [s_exec_at s_at_pop] at he
    cases h68
  | dup2  =>
    have ho : o = 47 := (of_decide_eq_true hI).1
    subst ho
    rw [s_exec_at s_at_dup2] at he
    cases h68
  | goto n =>
    have ho : o = 48 := (of_decide_eq_true hI).1
    subst ho
    rw [s_exec_at s_at_goto] at he
    cases h68
  | ifCond n q =>
    have ho : o = 49 := (of_decide_eq_true hI).1
    subst ho
    rw [s_exec_at s_at_ifCond] at he
    cases h68
  | if_icmp n q =>
    have ho : o = 50 := (of_decide_eq_true hI).1
    subst ho
    rw [s_exec_at s_at_if_icmp] at he
    cases h68
  | ifnull n =>
    have ho : o = 51 := (of_decide_eq_true hI).1
    subst ho
    rw [s_exec_at s_at_ifnull] at he
    cases h68
  | ifnonnull n =>
    have ho : o = 52 := (of_decide_eq_true hI).1
    subst ho
    rw [s_exec_at s_at_ifnonnull] at he
    cases h68
  | tableswitch n q z1 z2 =>
    have ho : o = 53 := (of_decide_eq_true hI).1
    subst ho
    rw [s_exec_at s_at_tableswitch] at he
    cases h68
  | getfield n =>
    have ho : o = 54 := by
      simp only [s_chkI] at hI
      split at hI
      · cases hI
      · exact (of_decide_eq_true hI).1
    subst ho
    rw [s_exec_at s_at_getfield] at he
    cases h68
  | putfield n =>
    have ho : o = 55 := by
      simp only [s_chkI] at hI
      split at hI
      · cases hI
      · exact (of_decide_eq_true hI).1
    subst ho
    rw [s_exec_at s_at_putfield] at he
    cases h68
  | iaload  =>
    have ho : o = 56 := (of_decide_eq_true hI).1
    subst ho
    rw [s_exec_at s_at_iaload] at he
    cases h68
  | laload  =>
    have ho : o = 57 := (of_decide_eq_true hI).1
    subst ho
    rw [s_exec_at s_at_laload] at he
    cases h68
  | baload  =>
    have ho : o = 58 := (of_decide_eq_true hI).1
    subst ho
    rw [s_exec_at s_at_baload] at he
    cases h68
  | aaload  =>
    have ho : o = 59 := (of_decide_eq_true hI).1
    subst ho
    rw [s_exec_at s_at_aaload] at he
    cases h68
  | iastore  =>
    have ho : o = 60 := (of_decide_eq_true hI).1
    subst ho
    rw [s_exec_at s_at_iastore] at he
    cases h68
  | lastore  =>
    have ho : o = 61 := (of_decide_eq_true hI).1
    subst ho
    rw [s_exec_at s_at_lastore] at he
    cases h68
  | bastore  =>
    have ho : o = 62 := (of_decide_eq_true hI).1
    subst ho
    rw [s_exec_at s_at_bastore] at he
    cases h68
  | aastore  =>
    have ho : o = 63 := (of_decide_eq_true hI).1
    subst ho
    rw [s_exec_at s_at_aastore] at he
    cases h68
  | arraylength  =>
    have ho : o = 64 := (of_decide_eq_true hI).1
    subst ho
    rw [s_exec_at s_at_arraylength] at he
    cases h68
  | newarray n =>
    have ho : o = 65 := (of_decide_eq_true hI).1
    subst ho
    rw [s_exec_at s_at_newarray] at he
    cases h68
  | anewarray n =>
    have ho : o = 66 := by
      simp only [s_chkI] at hI
      split at hI
      · exact (of_decide_eq_true hI).1
      · cases hI
    subst ho
    rw [s_exec_at s_at_anewarray] at he
    cases h68
  | multianewarray n q =>
    match q, hI, he with
    | 0, hI, _ => cases hI
    | 1, hI, _ => cases hI
    | 2, hI, he =>
      have ho : o = 67 := (of_decide_eq_true hI).1
      subst ho
      cases h68
    | z + 3, hI, _ => cases hI
  | new n =>
    have ho : o = 68 := by
      simp only [s_chkI] at hI
      split at hI
      · exact (of_decide_eq_true hI).1
      · split at hI
        · cases hI
        · exact (of_decide_eq_true hI).1
      · cases hI
    subst ho
    rw [s_exec_at s_at_new] at he
    exact s_e_throw C hW hl hK hnl had hS hI he hbase (by omega) (by omega) hRc hRs
  | invokespecial n =>
    have ho : o = 69 := by
      simp only [s_chkI] at hI
      split at hI
      · exact (of_decide_eq_true hI).1
      · split at hI
        · cases hI
        · exact (of_decide_eq_true hI).1
      · cases hI
    subst ho
    rw [s_exec_at s_at_invokespecial] at he
    have he : s_x_invokespecial F s_df s_comp call hd pc (69, .invokespecial n, nx, a, b, c') L st h kc ks = some (.inr outf) := he
    by_cases hc9 : c' = 9
    · subst hc9
      simp only [s_x_invokespecial, show Nat.beq 9 9 = true from rfl, if_true] at he
      split at he
      · split at he <;> cases he
      · cases he
    · obtain ⟨as, rest, out, -, -, -, -, -, -, h8⟩ := s_sp_call hc9 he
      cases h8
  | invokestatic n =>
    have ho : o = 70 := by
      simp only [s_chkI] at hI
      split at hI
      · cases hI
      · exact (of_decide_eq_true hI).1
    subst ho
    rw [s_exec_at s_at_invokestatic] at he
    exact s_e_invokestatic C hW hHd hK hbase hnl had hS hCT hRf hRl hI he hRc hRs
  | invokevirtual n =>
    have ho : o = 71 := by
      simp only [s_chkI] at hI
      split at hI
      · cases hI
      · split at hI
        · cases hI
        · exact (of_decide_eq_true hI).1
    subst ho
    rw [s_exec_at s_at_invokevirtual] at he
    exact s_e_invokevirtual C hW hHd hK hbase hnl had hS hCT hRf hRl hI he hRc hRs
  | return_  =>
    have ho : o = 72 := (of_decide_eq_true hI).1
    subst ho
    rw [s_exec_at s_at_return_] at he
    exact s_e_return_ C had hS hI he
  | ireturn  =>
    have ho : o = 73 := (of_decide_eq_true hI).1
    subst ho
    rw [s_exec_at s_at_ireturn] at he
    exact s_e_ireturn C had hS hI he
  | lreturn  =>
    have ho : o = 74 := (of_decide_eq_true hI).1
    subst ho
    rw [s_exec_at s_at_lreturn] at he
    exact s_e_lreturn C had hS hI he
  | areturn  =>
    have ho : o = 75 := by
      simp only [s_chkI, Bool.and_eq_true] at hI
      exact (of_decide_eq_true hI.1).1
    subst ho
    rw [s_exec_at s_at_areturn] at he
    exact s_e_areturn C had hS hI he
  | iushr  =>
    have ho : o = 76 := (of_decide_eq_true hI).1
    subst ho
    rw [s_exec_at s_at_iushr] at he
    simp only [s_x_iushr] at he
    split at he
    · rw [s_fI_e] at he; cases he
    · cases he
  | ldc_w n =>
    have ho : o = 77 := (of_decide_eq_true hI).1
    subst ho
    rw [s_exec_at s_at_ldc_w] at he
    cases he
  | ldc n =>
    have ho : o = 78 := (of_decide_eq_true hI).1
    subst ho
    rw [s_exec_at s_at_ldc] at he
    cases he
  | _ => cases hI
end S20
