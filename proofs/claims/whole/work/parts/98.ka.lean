/-! the class's algebra: setInverse -/
theorem dgp_ex {f : zp_R} : ∀ n, zp_deg f n → ∃ d, dgp f d
  | 0, h => ⟨-1, by decide, fun i _ => h i (Nat.zero_le _), fun i hi2 => absurd hi2 (by omega)⟩
  | n + 1, h => by
    by_cases z : f.1 n = 0
    · refine dgp_ex n (fun i hi2 => ?_)
      by_cases q : i = n
      · rw [q]; exact z
      · exact h i (by omega)
    · refine ⟨n, by omega, fun i hi2 => h i (by omega), fun i hi2 => ?_⟩
      have : i = n := by omega
      rw [this]; exact z
theorem quo_dgp {R S Q R' : zp_R} {r n : Nat} (e : R = zp_add (zp_mul S Q) R') (dR : dgp R r) (dS : dgp S n) (d' : zp_deg R' n) (nr : n ≤ r) : zp_deg Q (r - n + 1) := by
  obtain ⟨m, hm⟩ := Q.2
  obtain ⟨d, hd⟩ := dgp_ex m hm
  by_cases w : d < 0
  · intro i _
    rw [dgp_0 hd w]
    exact zp_C00 i
  · have b := dgp_mul dS hd (by omega) (by omega)
    have t1 : R.1 (n + d.toNat) ≠ 0 := by
      rw [e]
      show (zp_mul S Q).1 (n + d.toNat) + R'.1 (n + d.toNat) ≠ 0
      rw [d' (n + d.toNat) (by omega)]
      have := b.2.2 (n + d.toNat) (by omega)
      rw [show (zp_mul S Q).1 (n + d.toNat) + 0 = (zp_mul S Q).1 (n + d.toNat) from @qd_h zp_F _ _]
      exact this
    have le : d ≤ (r : Int) - n := Int.not_lt.mp (fun q => t1 (dR.2.1 _ (by omega)))
    exact fun i hi2 => hd.2.1 i (by omega)
where qd_h : ∀ {R : Type} [Lean.Grind.CommRing R] (a : R), a + 0 = a := by intro R _ a; grind
/-- T times a leaves R by m -/
def lvs (Aa M T R : zp_R) : Prop := ∃ c, R = zp_add (zp_mul T Aa) (zp_mul c M)
theorem lvs_step {Aa M R S T U Q R' : zp_R} (e : R = zp_add (zp_mul S Q) R') (h1 : lvs Aa M T R) (h2 : lvs Aa M U S) : lvs Aa M (zp_add T (zp_mul (zp_C (nF 32002)) (zp_mul Q U))) R' := by
  obtain ⟨c, e1⟩ := h1
  obtain ⟨c', e2⟩ := h2
  have m1 : nF 32002 + 1 = 0 := by
    rw [← nF_1, ← nF_add]
    exact nF_p
  have m2 : zp_add (zp_C (nF 32002)) (zp_C 1) = zp_C 0 := by
    rw [← m1]
    exact zp_ext (fun i => by
      show (if i = 0 then nF 32002 else 0) + (if i = 0 then 1 else 0) = if i = 0 then nF 32002 + 1 else 0
      split
      · rfl
      · exact @ls_h0 zp_F _)
  rw [zp_C1] at m2
  exact ⟨_, @ls_h zp_R zp_ring Aa M R S T U Q R' c c' (zp_C (nF 32002)) e e1 e2 m2⟩
where
  ls_h0 : ∀ {R : Type} [Lean.Grind.CommRing R], (0 : R) + 0 = 0 := by intro R _; grind
  ls_h : ∀ {K : Type} [Lean.Grind.CommRing K] (A M R S T U Q R' c c' n : K), R = S * Q + R' → R = T * A + c * M → S = U * A + c' * M → n + 1 = 0 → R' = (T + n * (Q * U)) * A + (c - Q * c') * M := by intro K _ A M R S T U Q R' c c' n e e1 e2 m; grind
section
variable {D : Nat} {h : s_H} {k : Nat}
theorem u_setInverse (A : AL h k) (hk : k + 5 < 16) {a b o La Lb Lo dm : Nat} {Aa M : zp_R} (ha : PF h a La Aa) (hb : PF h b Lb M) (ho : PE h o Lo) (oa : okp k a) (ob : okp k b) (oo : okw k o Lo) (dM : dgp M dm) (dm1 : 1 ≤ dm) (dmL : dm ≤ Lo) (dm2 : dm < 192) (dA : ∀ e, dgp Aa e → e < 192) (one : lin M Aa (zp_C 1)) : wm sw_P (D + 3) 119 [.index 5, .index a, .index b, .index o] h (AN [o] k h (fun h' => ∃ W, lvs Aa M W (zp_C 1) ∧ zp_deg W dm ∧ PF h' o Lo W)) := by
  have nila : ∀ {q : Nat}, ∀ p, p ∈ ([] : List Nat) → apt q p := fun _ q => absurd q List.not_mem_nil
  refine wm_in (cd := sw_c119) (nL := 13) (hd := sw_h119) rfl rfl ?_
  have oo' := okw_p oo
  obtain ⟨Φ, eΦ⟩ : ∃ Φ, AN [o] k h (fun h' => ∃ W, lvs Aa M W (zp_C 1) ∧ zp_deg W dm ∧ PF h' o Lo W) = Φ := ⟨_, rfl⟩
  rw [eΦ]
  have rowr : ∀ {i j : Nat}, i ≠ j → ∀ p, p ∈ [7 + 2 * j] → apt (7 + 2 * i) p := fun ne p hp => by rw [List.mem_singleton.mp hp]; unfold apt; omega
  have rowk : ∀ {q j : Nat}, okp k q → k ≤ j → j < 16 → ∀ p, p ∈ [7 + 2 * j] → apt q p := fun oq j1 j2 p hp => by rw [List.mem_singleton.mp hp]; exact apt_row oq j1 j2
  have rowf : ∀ {j : Nat}, k ≤ j → j < 16 → ∀ p, p ∈ [7 + 2 * j] → p ∈ ([] : List Nat) ∨ (7 + 2 * k ≤ p ∧ p < 38) := fun i1 i2 p hp => by rw [List.mem_singleton.mp hp]; exact .inr (by omega)
  have e0 : 0 < 192 := by decide
  refine k119_0 (z5 := (k : Int)) A.1 (wm_mono (wq_AA (fun h1 ⟨A1, R1⟩ F1 => ?_)) (u_lend A (by omega)))
  refine k119_10 A1.1 (wm_mono (wq_AA (fun h2 ⟨A2, S2⟩ F2 => ?_)) (u_lend A1 (by omega)))
  refine k119_16 A2.1 (wm_mono (wq_AA (fun h3 ⟨A3, T3⟩ F3 => ?_)) (u_lend A2 (by omega)))
  refine k119_22 A3.1 (wm_mono (wq_AA (fun h4 ⟨A4, U4⟩ F4 => ?_)) (u_lend A3 (by omega)))
  refine k119_28 A4.1 (wm_mono (wq_AA (fun h5 ⟨A5, Q5⟩ F5 => ?_)) (u_lend A4 (by omega)))
  refine k119_34 A5.1 (wm_mono (wq_AA (fun h6 ⟨A6, P6⟩ F6 => ?_)) (u_lend A5 (by omega)))
  have FF6 : FA [] k h h6 := FA_trans F1 (FA_trans (FA_sub F2 (by omega) (fun _ q => .inl q)) (FA_trans (FA_sub F3 (by omega) (fun _ q => .inl q)) (FA_trans (FA_sub F4 (by omega) (fun _ q => .inl q)) (FA_trans (FA_sub F5 (by omega) (fun _ q => .inl q)) (FA_sub F6 (by omega) (fun _ q => .inl q))))))
  have ha6 := PF_A ha FF6 oa nila
  have hb6 := PF_A hb FF6 ob nila
  have ho6 := PE_A ho FF6 oo' nila
  have T6 := PF_A (PF_A (PF_A T3 F4 (.inl ⟨by omega, by omega⟩) nila) F5 (.inl ⟨by omega, by omega⟩) nila) F6 (.inl ⟨by omega, by omega⟩) nila
  have R6 := A6.2.2 k (by omega)
  obtain ⟨⟨_, _, PR6, _⟩, _⟩ := id R6
  obtain ⟨da, _, _, ba, _⟩ := id ha
  refine k119_40 PR6.2.1 (wm_mono (wq_U (fun h7 R7 F7 => ?_)) (u_setCopy R6 hb6 (apt_row ob (Nat.le_refl _) (by omega)) dM (by omega)))
  have A7 := AL_1 A6 F7 (okw_row (k := k + 6) (by omega)) (by omega) R7
  have ha7 := PF_keep ha6 F7 (rowk oa (Nat.le_refl _) (by omega))
  have hb7 := PF_keep hb6 F7 (rowk ob (Nat.le_refl _) (by omega))
  have ho7 := PE_keep ho6 F7 (rowk oo' (Nat.le_refl _) (by omega))
  have T7 := PF_keep T6 F7 (rowr (by omega))
  have S7 := A7.2.2 (k + 1) (by omega)
  obtain ⟨⟨_, _, PS7, _⟩, _⟩ := id S7
  refine k119_48 PS7.2.1 (wm_mono (wq_U (fun h8 S8 F8 => ?_)) (u_setCopy S7 ha7 (apt_row oa (by omega) (by omega)) ba (dA da ba)))
  have A8 := AL_1 A7 F8 (okw_row (k := k + 6) (by omega)) (by omega) S8
  have hb8 := PF_keep hb7 F8 (rowk ob (by omega) (by omega))
  have ho8 := PE_keep ho7 F8 (rowk oo' (by omega) (by omega))
  have T8 := PF_keep T7 F8 (rowr (by omega))
  have R8 := PF_keep R7 F8 (rowr (by omega))
  have linv : ∀ {Y : zp_R} {n : Nat}, dgp Y n → nF ((Y.1 n ^ 32001 : zp_F).val : Int) * Y.1 n = 1 := fun dY => by
    rw [nF_val, zp_h20]
    exact zp_inv (dY.2.2 _ rfl)
  obtain ⟨_, _, Pb8, _⟩ := id hb8
  refine k119_54 Pb8.2.1 (wm_mono (wq_r ?_) (u_lead hb8 dM))
  rw [if_pos (by omega), show ((dm : Int).toNat) = dm by omega]
  have vM := (M.1 dm).isLt
  refine k119_61 (wm_mono (wq_r ?_) (u_inverseOf (v := (M.1 dm).val) vM))
  rw [nF_val]
  have vI := (M.1 dm ^ 32001 : zp_F).isLt
  obtain ⟨_, _, PS8, _⟩ := id S8
  refine k119_64 PS8.2.1 (wm_mono (fun out => ?_) (u_reduceBy S8 hb8 dM (apt_row ob (by omega) (by omega)) (v := ((M.1 dm ^ 32001 : zp_F).val : Int)) ⟨by omega, by omega⟩ (linv dM) (rq := none) (Lq := 0) (fun r hr => nomatch hr)))
  intro ⟨Q0, S0, eS, dS0, UU⟩
  refine wq_U (fun h9 ⟨S9, _⟩ F9 => ?_) out UU
  have F9' : FU [7 + 2 * (k + 1)] h8 h9 := F9
  have A9 := AL_1 A8 F9' (okw_row (k := k + 6) (by omega)) (by omega) S9
  have ho9 := PE_keep ho8 F9' (rowk oo' (by omega) (by omega))
  have T9 := PF_keep T8 F9' (rowr (by omega))
  have R9 := PF_keep R8 F9' (rowr (by omega))
  have U9 := A9.2.2 (k + 3) (by omega)
  obtain ⟨⟨_, _, PU9, _⟩, _⟩ := id U9
  refine k119_68 PU9.2.1 (wm_mono (wq_U (fun hA UA FA' => k119_74 ?_)) (u_setNumber U9 e0 (x := 1) (by decide)))
  rw [nF_1] at UA
  have AA' := AL_1 A9 FA' (okw_row (k := k + 6) (by omega)) (by omega) UA
  have hoA := PE_keep ho9 FA' (rowk oo' (by omega) (by omega))
  have TA := PF_keep T9 FA' (rowr (by omega))
  have RA' := PF_keep R9 FA' (rowr (by omega))
  have SA := PF_keep S9 FA' (rowr (by omega))
  have FFA : FA [] k h hA := FA_trans FF6 (FA_trans (FA_U F7 (rowf (by omega) (by omega))) (FA_trans (FA_U F8 (rowf (by omega) (by omega))) (FA_trans (FA_U F9' (rowf (by omega) (by omega))) (FA_U FA' (rowf (by omega) (by omega))))))
  -- S isn't 0
  have nz : ∀ {R S : zp_R} {r : Nat}, dgp R r → 1 ≤ r → lin R S (zp_C 1) → S ≠ zp_C 0 := fun {R S r} dR r1 l z => by
    obtain ⟨u, v, e⟩ := l
    have e' : zp_C 1 = zp_mul u R := by
      rw [e, z]
      exact @iv_h zp_R zp_ring _ _
    obtain ⟨n, hn⟩ := u.2
    obtain ⟨du, hd⟩ := dgp_ex n hn
    have d1 : dgp (zp_C 1) 0 := ⟨by decide, fun m hm => by
      show (if m = 0 then (1 : zp_F) else 0) = 0
      rw [if_neg (by omega)], fun m hm => by
      show (if m = 0 then (1 : zp_F) else 0) ≠ 0
      rw [if_pos (by omega)]
      decide⟩
    by_cases w : du < 0
    · have := dgp_none (e'.trans (zp_mul_0 (.inl (dgp_0 hd w)))) d1
      omega
    · have d2 := dgp_mul hd dR (by omega) (by omega)
      rw [← e'] at d2
      have := dgp_one d1 d2
      omega
  have loop : ∀ (m x ri si ti ui r : Nat) (R S T U : zp_R) (t12 : Term) (h' : s_H), (ri = k ∧ si = k + 1 ∨ ri = k + 1 ∧ si = k) → (ti = k + 2 ∧ ui = k + 3 ∨ ti = k + 3 ∧ ui = k + 2) → x + m ≤ 384 → (∀ e, dgp S e → e < m) → AL h' (k + 6) → FA [] k h h' → PF h' (7 + 2 * ri) 192 R → PF h' (7 + 2 * si) 192 S → PF h' (7 + 2 * ti) 192 T → PF h' (7 + 2 * ui) 192 U → PE h' o Lo → dgp R r → 1 ≤ r → r ≤ dm → (∀ e, dgp S e → e < r) → zp_deg T (dm - r + 1) → zp_deg U (dm - r + 1) → lvs Aa M T R → lvs Aa M U S → lin R S (zp_C 1) → wr sw_P (D + 2) sw_c119 sw_h119 (77, [.index 5, .index a, .index b, .index o, vi (k : Int), .index (7 + 2 * ri), .index (7 + 2 * si), .index (7 + 2 * ti), .index (7 + 2 * ui), .index (7 + 2 * (k + 4)), .index (7 + 2 * (k + 5)), vi (x : Int), t12], [], h', 0, 0) Φ := by
    intro m
    induction m with
    | zero =>
      intro x ri si ti ui r R S T U t12 h' _ _ _ dS _ _ _ hS _ _ _ dR r1 _ _ _ _ _ _ l
      obtain ⟨ds, _, _, bs, _⟩ := hS
      have := dS ds bs
      exact absurd (dgp_0 bs (by omega)) (nz dR r1 l)
    | succ m ih =>
      intro x ri si ti ui r R S T U t12 h' hrs htu xm dS A' F' hR hS hT hU hO dR r1 rdm sr dT dU lT lU l
      obtain ⟨ds, gs, Ps, bs, cs, es, ls⟩ := id hS
      have b1 := bs.1
      have s0 : 0 ≤ ds := Int.not_lt.mp (fun w => nz dR r1 l (dgp_0 bs w))
      obtain ⟨n, en⟩ : ∃ n : Nat, ds = n := ⟨ds.toNat, by omega⟩
      subst en
      have dsm := dS n bs
      have dsr := sr n bs
      have vS := (S.1 n).isLt
      have vJ := (S.1 n ^ 32001 : zp_F).isLt
      refine k119_77 (fun w => absurd w (by omega)) (fun _ => ?_) (c1 := by unfold In3; omega)
      refine k119_85 (z5 := (n : Int)) Ps.2.1 (fun w => ?_) (fun w => ?_) (c7 := by unfold In3; omega)
      · have n0 : n = 0 := by omega
        subst n0
        refine k119_161 Ps.2.1 (wm_mono (wq_r ?_) (u_lead hS bs))
        rw [if_pos (by omega), show (((0 : Nat) : Int).toNat) = 0 by omega]
        refine k119_168 (wm_mono (wq_r ?_) (u_inverseOf (v := (S.1 0).val) vS))
        rw [nF_val]
        obtain ⟨_, _, Pu, _⟩ := id hU
        refine k119_171 Pu.2.1 (wm_mono (wq_U (fun h2 U2 F2 => ?_)) (u_scale hU (x := ((S.1 0 ^ 32001 : zp_F).val : Int)) ⟨by omega, by omega⟩))
        rw [nF_val] at U2
        have A2 := AL_1 A' F2 (okw_row (k := k + 6) (by omega)) (by omega) U2
        have O2 := PE_keep hO F2 (rowk oo' (by omega) (by omega))
        obtain ⟨dw, _, _, bw, _⟩ := id U2
        have dW : zp_deg (zp_mul (zp_C (S.1 0 ^ 32001)) U) dm := deg_le (deg_Cm _ dU) (by omega)
        have dwm : dw < dm := Int.not_le.mp (fun q => bw.2.2 dw.toNat (by omega) (dW dw.toNat (by omega)))
        obtain ⟨⟨_, _, Po2, _⟩, _⟩ := id O2
        refine k119_174 Po2.2.1 (wm_mono (wq_U (fun h3 R3 F3 => ?_)) (u_setCopy O2 U2 (apt_s (apt_row oo' (by omega) (by omega))) bw (by omega)))
        have A3 := AL_1 A2 F3 (okw_le oo (k' := k + 6) (by omega)) (by omega) R3
        refine k119_180 A3.1 (wm_mono (wq_AN (fun h4 o4 F4 A4 => k119_186 ?_)) (u_release A3 (by omega)))
        rw [← eΦ]
        refine ⟨h4, ⟨_, ?_, dW, PF_A R3 F4 oo' nila⟩, FA_trans (FA_sub F' (Nat.le_refl _) (fun _ q => absurd q List.not_mem_nil)) (FA_trans (FA_U F2 (fun p hp => .inr (by rw [List.mem_singleton.mp hp]; omega))) (FA_trans (FA_of F3) (FA_sub F4 (Nat.le_refl _) (fun _ q => absurd q List.not_mem_nil)))), A4, rfl⟩
        obtain ⟨c, ec⟩ := lU
        have eS0 : S = zp_C (S.1 0) := zp_ext (fun i => by
          show S.1 i = if i = 0 then S.1 0 else 0
          by_cases q : i = 0
          · rw [if_pos q, q]
          · rw [if_neg q]
            exact bs.2.1 i (by omega))
        have p1 : zp_mul (zp_C (S.1 0 ^ 32001)) S = zp_C 1 := by
          refine (congrArg (zp_mul (zp_C (S.1 0 ^ 32001))) eS0).trans ?_
          rw [zp_C_mul, zp_h20, zp_inv (bs.2.2 0 rfl)]
        exact ⟨_, (p1.symm.trans (congrArg (zp_mul (zp_C (S.1 0 ^ 32001))) ec)).trans (@iv_h2 zp_R zp_ring _ _ _ _ _)⟩
      · refine k119_93 Ps.2.1 (wm_mono (wq_r ?_) (u_lead hS bs))
        rw [if_pos (by omega), show ((n : Int).toNat) = n by omega]
        refine k119_102 (wm_mono (wq_r ?_) (u_inverseOf (v := (S.1 n).val) vS))
        rw [nF_val]
        obtain ⟨_, _, Pr, _⟩ := id hR
        have hQ := A'.2.2 (k + 4) (by omega)
        refine k119_105 Pr.2.1 (wm_mono (fun out => ?_) (u_reduceBy hR hS bs (by unfold apt; omega) (v := ((S.1 n ^ 32001 : zp_F).val : Int)) ⟨by omega, by omega⟩ (linv bs) (rq := some (7 + 2 * (k + 4))) (Lq := 192) (fun r' hr => by
          have er : 7 + 2 * (k + 4) = r' := Option.some.inj hr
          subst er
          exact ⟨hQ, by unfold apt; omega, by unfold apt; omega, fun e he => by have := PF_lt hR e he; omega⟩)))
        intro ⟨Q, R', e, dR', UU⟩
        refine wq_U (fun h2 ⟨R2, Q2⟩ F2 => ?_) out UU
        have Q2' : PF h2 (7 + 2 * (k + 4)) 192 Q := Q2
        have two : ∀ {q : Nat}, apt q (7 + 2 * ri) → apt q (7 + 2 * (k + 4)) → ∀ p, p ∈ qtS (7 + 2 * ri) (some (7 + 2 * (k + 4))) → apt q p := fun a1 a2 p hp => by
          rcases List.mem_cons.mp hp with w | w
          · rw [w]; exact a1
          · rw [List.mem_singleton.mp w]; exact a2
        have A2 := AL_U A' F2 (fun p hp => by
          rcases List.mem_cons.mp hp with w | w
          · rw [w]; exact .inr ⟨ri, by omega, rfl, PF_E R2⟩
          · rw [List.mem_singleton.mp w]; exact .inr ⟨k + 4, by omega, rfl, PF_E Q2'⟩)
        have FF2 : FA [] k h h2 := FA_trans F' (FA_U F2 (fun p hp => .inr (by
          rcases List.mem_cons.mp hp with w | w
          · omega
          · rw [List.mem_singleton.mp w]; omega)))
        have S2 := PF_keep hS F2 (two (by unfold apt; omega) (by unfold apt; omega))
        have T2 := PF_keep hT F2 (two (by unfold apt; omega) (by unfold apt; omega))
        have U2 := PF_keep hU F2 (two (by unfold apt; omega) (by unfold apt; omega))
        have O2 := PE_keep hO F2 (two (apt_row oo' (by omega) (by omega)) (apt_row oo' (by omega) (by omega)))
        have dQ := quo_dgp e dR bs dR' (by omega)
        have dQU : zp_deg (zp_mul Q U) (dm - n + 1) := deg_le (zp_deg_mul dQ dU) (by omega)
        have P2 := A2.2.2 (k + 5) (by omega)
        obtain ⟨⟨_, _, Pp2, _⟩, _⟩ := id P2
        refine k119_110 Pp2.2.1 (wm_mono (wq_U (fun h3 P3 F3 => ?_)) (u_setProduct P2 e0 (PF_W Q2') (PF_W U2) (by unfold apt; omega) (by unfold apt; omega) (fun e he => Int.not_le.mp (fun q => he.2.2 e.toNat (by omega) (dQU e.toNat (by omega))))))
        have A3 := AL_1 A2 F3 (okw_row (k := k + 6) (by omega)) (by omega) P3
        have S3 := PF_keep S2 F3 (rowr (by omega))
        have R3 := PF_keep R2 F3 (rowr (by omega))
        have T3 := PF_keep T2 F3 (rowr (by omega))
        have U3 := PF_keep U2 F3 (rowr (by omega))
        have O3 := PE_keep O2 F3 (rowk oo' (by omega) (by omega))
        obtain ⟨_, _, Pt3, _⟩ := id T3
        refine k119_119 Pt3.2.1 (wm_mono (wq_U (fun h4 T4 F4 => k119_131 ?_)) (u_setSum1 T3 P3 (by unfold apt; omega) (x := 32002) (by decide) (PF_lt P3)))
        have A4 := AL_1 A3 F4 (okw_row (k := k + 6) (by omega)) (by omega) T4
        rw [show (x : Int) + 1 = ((x + 1 : Nat) : Int) by omega]
        refine ih (x + 1) si ri ui ti n S R' U _ _ h4 (by omega) (by omega) (by omega) (fun e' he => ?_) A4 (FA_trans FF2 (FA_trans (FA_U F3 (rowf (by omega) (by omega))) (FA_U F4 (rowf (by omega) (by omega))))) (PF_keep S3 F4 (rowr (by omega))) (PF_keep R3 F4 (rowr (by omega))) (PF_keep U3 F4 (rowr (by omega))) T4 (PE_keep O3 F4 (rowk oo' (by omega) (by omega))) bs (by omega) (by omega) (fun e' he => ?_) (deg_le dU (by omega)) (deg_add (deg_le dT (by omega)) (deg_Cm _ dQU)) lU (lvs_step e lT lU) (lin_back e l)
        · have : e' < n := Int.not_le.mp (fun q => he.2.2 e'.toNat (by omega) (dR' _ (by omega)))
          omega
        · exact Int.not_le.mp (fun q => he.2.2 e'.toNat (by omega) (dR' _ (by omega)))
  have dS0' : ∀ e, dgp S0 e → e < dm := fun e he => Int.not_le.mp (fun q => he.2.2 e.toNat (by omega) (dS0 _ (by omega)))
  refine loop 383 0 k (k + 1) (k + 2) (k + 3) dm M S0 (zp_C 0) (zp_C 1) _ hA (.inl ⟨rfl, rfl⟩) (.inl ⟨rfl, rfl⟩) (by omega) (fun e he => by have := dS0' e he; omega) AA' FFA RA' SA TA UA hoA dM dm1 (Nat.le_refl _) dS0' ?_ ?_ ⟨zp_C 1, ?_⟩ ⟨zp_neg Q0, ?_⟩ ?_
  · exact fun i _ => zp_C00 i
  · exact deg_le (zp_C_deg 1) (by omega)
  · rw [zp_C1]
    exact @iv_h3 zp_R zp_ring _ _
  · rw [zp_C1]
    exact @iv_h4 zp_R zp_ring _ _ _ _ eS
  · obtain ⟨u, v, e⟩ := one
    exact ⟨_, _, e.trans (@iv_h5 zp_R zp_ring _ _ _ _ _ _ eS)⟩
where
  iv_h : ∀ {R : Type} [Lean.Grind.CommRing R] (a b : R), a + b * 0 = a := by intro R _ a b; grind
  iv_h2 : ∀ {R : Type} [Lean.Grind.CommRing R] (w U A c M : R), w * (U * A + c * M) = (w * U) * A + (w * c) * M := by intro R _ w U A c M; grind
  iv_h3 : ∀ {R : Type} [Lean.Grind.CommRing R] (M A : R), M = 0 * A + 1 * M := by intro R _ M A; grind
  iv_h4 : ∀ {R : Type} [Lean.Grind.CommRing R] (A M Q S : R), A = M * Q + S → S = 1 * A + -Q * M := by intro R _ A M Q S h; grind
  iv_h5 : ∀ {R : Type} [Lean.Grind.CommRing R] (A M Q S u v : R), A = M * Q + S → u * M + v * A = (u + v * Q) * M + v * S := by intro R _ A M Q S u v h; grind
end
