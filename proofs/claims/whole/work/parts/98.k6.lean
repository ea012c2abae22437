/-! the class's algebra: one put into another -/
theorem fil_o1 (p b e : zp_R) (m : Nat) : fil p b e m 1 = zp_C (p.1 m) := by
  show zp_add (zp_mul (fil p b e m 0) b) (zp_mul (zp_C (p.1 (m - 0))) (zp_npow e 0)) = _
  have z : zp_mul (fil p b e m 0) b = zp_C 0 := zp_mul_0 (.inl rfl)
  rw [z]
  show zp_add (zp_C 0) (zp_mul (zp_C (p.1 m)) (zp_C 1)) = _
  rw [zp_C1]
  exact @f1_h zp_R zp_ring _
where f1_h : ∀ {R : Type} [Lean.Grind.CommRing R] (a : R), 0 + a * 1 = a := by intro R _ a; grind
section
variable {D : Nat} {h : s_H} {k : Nat}
theorem u_setInserted (A : AL h k) (hk : k + 2 < 16) {a La g i n H : Nat} {P N B : zp_R} (ha : PF h a La P) (oa : okp k a) (hg : TRD h g N B) (ik : i < k) (na : apt a (7 + 2 * i)) (dN : zp_deg N (H + 1)) (dB : zp_deg B (H + 1)) (Hn : H * n ≤ 100) (n1 : n ≤ 1000) : wm sw_P (D + 3) 118 [.index 5, .index a, vi (n : Int), .index g, .index (7 + 2 * i)] h (AN [7 + 2 * i] k h (fun h' => PF h' (7 + 2 * i) 192 (fil P N B n (n + 1)))) := by
  refine wm_in (cd := sw_c118) (nL := 9) (hd := sw_h118) rfl rfl ?_
  have nila : ∀ {q : Nat}, ∀ p, p ∈ ([] : List Nat) → apt q p := fun _ q => absurd q List.not_mem_nil
  have nil38 : ∀ p, p ∈ ([] : List Nat) → p < 38 := fun _ q => absurd q List.not_mem_nil
  have row : ∀ {j : Nat}, j < 16 → ∀ p, p ∈ [7 + 2 * j] → p < 38 := fun j2 p hp => by rw [List.mem_singleton.mp hp]; omega
  have rowr : ∀ {i j : Nat}, i ≠ j → ∀ p, p ∈ [7 + 2 * j] → apt (7 + 2 * i) p := fun ne p hp => by rw [List.mem_singleton.mp hp]; unfold apt; omega
  have rowa : ∀ {j : Nat}, k ≤ j → j < 16 → ∀ p, p ∈ [7 + 2 * j] → apt a p := fun j1 j2 p hp => by rw [List.mem_singleton.mp hp]; exact apt_row oa j1 j2
  have rowi : ∀ p, p ∈ [7 + 2 * i] → apt a p := fun p hp => by rw [List.mem_singleton.mp hp]; exact na
  have rowf : ∀ {j : Nat}, k ≤ j → j < 16 → ∀ p, p ∈ [7 + 2 * j] → p ∈ [7 + 2 * i] ∨ (7 + 2 * k ≤ p ∧ p < 38) := fun i1 i2 p hp => by rw [List.mem_singleton.mp hp]; exact .inr (by omega)
  refine k118_0 (z5 := (k : Int)) A.1 (wm_mono (wq_AA (fun h1 ⟨A1, R1⟩ F1 => ?_)) (u_lend A (by omega)))
  refine k118_10 A1.1 (wm_mono (wq_AA (fun h2 ⟨A2, Q2⟩ F2 => ?_)) (u_lend A1 (by omega)))
  have ha2 := PF_A (PF_A ha F1 oa nila) F2 (okp_le oa (by omega)) nila
  have hg2 := TRD_A (TRD_A hg F1 nil38) F2 nil38
  have R2 := PF_A R1 F2 (.inl ⟨by omega, by omega⟩) nila
  have FF2 : FA [7 + 2 * i] k h h2 := FA_trans (FA_sub F1 (Nat.le_refl _) (fun _ q => absurd q List.not_mem_nil)) (FA_sub F2 (by omega) (fun _ q => absurd q List.not_mem_nil))
  obtain ⟨_, _, PR2, _⟩ := id R2
  refine k118_16 PR2.2.1 (wm_mono (wq_U (fun h3 R3 F3 => ?_)) (u_setNumber (PF_E R2) (by decide) (x := 1) (by decide)))
  rw [nF_1] at R3
  have A3 := AL_1 A2 F3 (okw_row (k := k + 2) (by omega)) (by omega) R3
  have Q3 := PF_keep Q2 F3 (rowr (by omega))
  have ha3 := PF_keep ha2 F3 (rowa (Nat.le_refl _) (by omega))
  have hg3 := TRD_keep hg2 F3 (row (by omega))
  obtain ⟨_, _, Pa3, _⟩ := id ha3
  refine k118_24 Pa3.2.1 (wm_mono (wq_r ?_) (u_coef ha3 (x := (n : Int)) (by unfold In3; omega)))
  rw [if_pos (by omega), show ((n : Int).toNat) = n by omega]
  have cb := cf_b P n
  have W3 := A3.2.2 i (by omega)
  obtain ⟨⟨_, _, PW3, _⟩, _⟩ := id W3
  refine k118_31 PW3.2.1 (wm_mono (wq_U (fun h4 W4 F4 => k118_34 ?_)) (u_setNumber W3 (by decide) (x := cf P n) (by omega)))
  rw [nF_cf] at W4
  have A4 := AL_1 A3 F4 (okw_row (k := k) ik) (by omega) W4
  have R4 := PF_keep R3 F4 (rowr (by omega))
  have Q4 := PF_keep Q3 F4 (rowr (by omega))
  have ha4 := PF_keep ha3 F4 rowi
  have hg4 := TRD_keep hg3 F4 (row (by omega))
  have FF4 : FA [7 + 2 * i] k h h4 := FA_trans FF2 (FA_trans (FA_U F3 (rowf (by omega) (by omega))) (FA_of F4))
  have bnd : ∀ c, c ≤ n → H * c ≤ 100 := fun c hc => Nat.le_trans (Nat.mul_le_mul_left H hc) Hn
  have lt192 : ∀ {f : zp_R} {c : Nat}, c ≤ n → zp_deg f (H * c + 1) → ∀ e, dgp f e → e < 192 := fun hc df e he => Int.not_le.mp (fun q => he.2.2 e.toNat (by omega) (df e.toNat (by have := bnd _ hc; omega)))
  have loop : ∀ (l c : Nat) (h5 : s_H), c + l = n → AL h5 (k + 2) → FA [7 + 2 * i] k h h5 → PF h5 (7 + 2 * i) 192 (fil P N B n (c + 1)) → PF h5 (7 + 2 * k) 192 (zp_npow B c) → PE h5 (7 + 2 * (k + 1)) 192 → PF h5 a La P → TRD h5 g N B → wr sw_P (D + 2) sw_c118 sw_h118 (39, [.index 5, .index a, vi (n : Int), .index g, .index (7 + 2 * i), vi (k : Int), .index (7 + 2 * k), .index (7 + 2 * (k + 1)), vi ((l : Int) - 1)], [], h5, 0, 0) (AN [7 + 2 * i] k h (fun h' => PF h' (7 + 2 * i) 192 (fil P N B n (n + 1)))) := by
    intro l
    induction l with
    | zero =>
      intro c h5 hc A5 F5 W5 R5 Q5 ha5 hg5
      have ec : c = n := by omega
      subst ec
      refine k118_39 (fun _ => ?_) (fun q => absurd (by decide) q) (c1 := by decide)
      refine k118_98 A5.1 (wm_mono (wq_AN (fun h6 o6 F6 A6 => k118_104 ⟨h6, PF_off W5 o6 (by omega), ?_, A6, rfl⟩)) (u_release A5 (by omega)))
      exact FA_trans F5 (FA_sub F6 (Nat.le_refl _) (fun _ q => absurd q List.not_mem_nil))
    | succ l ih =>
      intro c h5 hc A5 F5 W5 R5 Q5 ha5 hg5
      rw [show ((l + 1 : Nat) : Int) - 1 = (l : Int) by omega]
      obtain ⟨q, lq, r, lr, za, a0, q0, r0, ca, pn, pb⟩ := id hg5
      refine k118_39 (fun q => absurd q (by omega)) (fun _ => ?_) (c1 := by unfold In3; omega)
      have d1 : zp_deg (zp_mul (fil P N B n (c + 1)) N) (H * (c + 1) + 1) := by
        have := zp_deg_mul (fil_deg (p := P) (m := n) dN dB c) dN
        rw [Nat.mul_succ]
        exact this
      have d2 : zp_deg (zp_npow B (c + 1)) (H * (c + 1) + 1) := npow_deg dB (c + 1)
      have f1 := lt192 (c := c + 1) (by omega) d1
      have f2 := lt192 (c := c + 1) (by omega) d2
      refine k118_44 ca A5.1 (wm_mono (wq_AN (fun h6 W6 F6 A6 => ?_)) (u_multiply A5 (by omega) W5 pn (okw_row (by omega)) (.inr q0) (fun e he => ⟨f1 e he, f1 e he⟩)))
      have hg6 := TRD_A hg5 F6 (row (by omega))
      have R6 := PF_A R5 F6 (.inl ⟨by omega, by omega⟩) (rowr (by omega))
      have Q6 := PE_A Q5 F6 (.inl ⟨by omega, by omega⟩) (rowr (by omega))
      have ha6 := PF_A ha5 F6 (okp_le oa (by omega)) rowi
      obtain ⟨q', lq', r', lr', za', a0', q0', r0', ca', pn', pb'⟩ := id hg6
      refine k118_54 ca' A6.1 (wm_mono (wq_AN (fun h7 R7 F7 A7 => ?_)) (u_multiply A6 (by omega) R6 pb' (okw_row (by omega)) (.inr r0') (fun e he => ⟨f2 e he, f2 e he⟩)))
      have R7' : PF h7 (7 + 2 * k) 192 (zp_npow B (c + 1)) := R7
      have hg7 := TRD_A hg6 F7 (row (by omega))
      have W7 := PF_A W6 F7 (.inl ⟨by omega, by omega⟩) (rowr (by omega))
      have Q7 := PE_A Q6 F7 (.inl ⟨by omega, by omega⟩) (rowr (by omega))
      have ha7 := PF_A ha6 F7 (okp_le oa (by omega)) (rowa (Nat.le_refl _) (by omega))
      obtain ⟨⟨_, _, PQ7, _⟩, _⟩ := id Q7
      obtain ⟨dR, _, _, bR, _⟩ := id R7'
      refine k118_64 PQ7.2.1 (wm_mono (wq_U (fun h8 Q8 F8 => ?_)) (u_setCopy Q7 R7' (by unfold apt; omega) bR (f2 dR bR)))
      have A8 := AL_1 A7 F8 (okw_row (k := k + 2) (by omega)) (by omega) Q8
      have W8 := PF_keep W7 F8 (rowr (by omega))
      have R8 := PF_keep R7' F8 (rowr (by omega))
      have ha8 := PF_keep ha7 F8 (rowa (by omega) (by omega))
      have hg8 := TRD_keep hg7 F8 (row (by omega))
      obtain ⟨_, _, Pa8, _⟩ := id ha8
      refine k118_71 Pa8.2.1 (wm_mono (wq_r ?_) (u_coef ha8 (x := (l : Int)) (by unfold In3; omega)))
      rw [if_pos (by omega), show ((l : Int).toNat) = l by omega]
      have cl := cf_b P l
      obtain ⟨_, _, PQ8, _⟩ := id Q8
      refine k118_79 PQ8.2.1 (wm_mono (wq_U (fun h9 Q9 F9 => ?_)) (u_scale Q8 (x := cf P l) (by omega)))
      rw [nF_cf] at Q9
      have A9 := AL_1 A8 F9 (okw_row (k := k + 2) (by omega)) (by omega) Q9
      have W9 := PF_keep W8 F9 (rowr (by omega))
      have R9 := PF_keep R8 F9 (rowr (by omega))
      have ha9 := PF_keep ha8 F9 (rowa (by omega) (by omega))
      have hg9 := TRD_keep hg8 F9 (row (by omega))
      obtain ⟨_, _, PW9, _⟩ := id W9
      refine k118_82 PW9.2.1 (wm_mono (wq_U (fun h10 W10 F10 => k118_92 ?_)) (u_setSum1 W9 Q9 (by unfold apt; omega) (x := 1) (by decide) (PF_lt Q9)))
      have A10 := AL_1 A9 F10 (okw_row (k := k) ik) (by omega) W10
      have eW : zp_add (zp_mul (fil P N B n (c + 1)) N) (zp_mul (zp_C (nF 1)) (zp_mul (zp_C (P.1 l)) (zp_npow B (c + 1)))) = fil P N B n (c + 1 + 1) := by
        show _ = zp_add (zp_mul (fil P N B n (c + 1)) N) (zp_mul (zp_C (P.1 (n - (c + 1)))) (zp_npow B (c + 1)))
        rw [show n - (c + 1) = l by omega, nF_1, zp_C1]
        exact @si_h zp_R zp_ring _ _
      rw [eW] at W10
      rw [show (l : Int) + (-1) = (l : Int) - 1 by omega]
      exact ih (c + 1) h10 (by omega) A10 (FA_trans F5 (FA_trans (FA_sub F6 (by omega) (fun p hp => .inl hp)) (FA_trans (FA_sub F7 (by omega) (rowf (by omega) (by omega))) (FA_trans (FA_U F8 (rowf (by omega) (by omega))) (FA_trans (FA_U F9 (rowf (by omega) (by omega))) (FA_of F10)))))) W10 (PF_keep R9 F10 (rowr (by omega))) (PF_E (PF_keep Q9 F10 (rowr (by omega)))) (PF_keep ha9 F10 rowi) (TRD_keep hg9 F10 (row (by omega)))
  exact loop n 0 h4 (Nat.zero_add n) A4 FF4 (by rw [fil_o1]; exact W4) R4 (PF_E Q4) ha4 hg4
where si_h : ∀ {R : Type} [Lean.Grind.CommRing R] (x y : R), x + 1 * y = x + y := by intro R _ x y; grind
end
