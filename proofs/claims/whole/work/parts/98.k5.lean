/-! the class's algebra: powers of fractions -/
section
variable {D : Nat} {h : s_H} {k : Nat}
theorem u_raise (A : AL h k) (hk : k + 2 < 16) {a t n H : Nat} {z : Int} {N B : zp_R} {e f : Int} (ha : TRD h a N B) (T : OE h t z) (ot : 39 ≤ t) (be : dgp N e) (bf : dgp B f) (f0 : 0 ≤ f) (eH : (if e ≤ f then f else e) = H) (H41 : H ≤ 1000) (n99 : n ≤ 1000) : wm sw_P (D + 3) 112 [.index 5, .index a, vi (n : Int), .index t] h (AV [t, t + 1, t + 3] k h (.index t) (fun h' => if H * n ≤ 40 then OUT h' t (zp_npow N n) (zp_npow B n) else OE h' t 5)) := by
  refine wm_in (cd := sw_c112) (nL := 8) (hd := sw_h112) rfl rfl ?_
  have nila : ∀ {q : Nat}, ∀ p, p ∈ ([] : List Nat) → apt q p := fun _ q => absurd q List.not_mem_nil
  have nil38 : ∀ p, p ∈ ([] : List Nat) → p < 38 := fun _ q => absurd q List.not_mem_nil
  have nilt : ∀ p, p ∈ ([] : List Nat) → p + 1 < t ∨ t + 4 < p := fun _ q => absurd q List.not_mem_nil
  refine k112_0 (wm_mono (wq_r ?_) (u_degreeOf ha be bf))
  rw [eH]
  have hm : ((H : Int) * (n : Int)) = ((H * n : Nat) : Int) := by rw [Int.natCast_mul]
  have bnd : H * n ≤ 1000 * 1000 := Nat.mul_le_mul H41 n99
  refine k112_4 (fun w => ?_) (fun w => ?_) (c1 := by rw [hm]; unfold In3; omega)
  · rw [hm] at w
    have w' : H * n ≤ 40 := by omega
    simp only [if_pos w']
    have dN : zp_deg N (H + 1) := dgp_deg be (by split at eH <;> omega)
    have dB : zp_deg B (H + 1) := dgp_deg bf (by split at eH <;> omega)
    refine k112_18 (z5 := (k : Int)) A.1 (wm_mono (wq_AA (fun h1 ⟨A1, R1⟩ F1 => ?_)) (u_lend A (by omega)))
    refine k112_28 A1.1 (wm_mono (wq_AA (fun h2 ⟨A2, Q2⟩ F2 => ?_)) (u_lend A1 (by omega)))
    have ha2 := TRD_A (TRD_A ha F1 nil38) F2 nil38
    have T2 := OE_A (OE_A T F1 ot nilt) F2 ot nilt
    have R2 := PF_A R1 F2 (.inl ⟨by omega, by omega⟩) nila
    have FF2 : FA [t, t + 1, t + 3] k h h2 := FA_trans (FA_sub F1 (Nat.le_refl _) (fun _ q => absurd q List.not_mem_nil)) (FA_sub F2 (by omega) (fun _ q => absurd q List.not_mem_nil))
    have row : ∀ {j : Nat}, j < 16 → ∀ p, p ∈ [7 + 2 * j] → p < 38 := fun j2 p hp => by rw [List.mem_singleton.mp hp]; omega
    have rowt : ∀ {j : Nat}, j < 16 → ∀ p, p ∈ [7 + 2 * j] → p + 1 < t ∨ t + 4 < p := fun j2 p hp => by rw [List.mem_singleton.mp hp]; omega
    have rowr : ∀ {i j : Nat}, i ≠ j → ∀ p, p ∈ [7 + 2 * j] → apt (7 + 2 * i) p := fun ne p hp => by rw [List.mem_singleton.mp hp]; unfold apt; omega
    have rowf : ∀ {j : Nat}, k ≤ j → j < 16 → ∀ p, p ∈ [7 + 2 * j] → p ∈ [t, t + 1, t + 3] ∨ (7 + 2 * k ≤ p ∧ p < 38) := fun i1 i2 p hp => by rw [List.mem_singleton.mp hp]; exact .inr (by omega)
    obtain ⟨_, _, PR2, _⟩ := id R2
    refine k112_34 PR2.2.1 (wm_mono (wq_U (fun h3 R3 F3 => ?_)) (u_setNumber (PF_E R2) (by decide) (x := 1) (by decide)))
    rw [nF_1] at R3
    have A3 := AL_1 A2 F3 (okw_row (k := k + 2) (by omega)) (by omega) R3
    have Q3 := PF_keep Q2 F3 (rowr (by omega))
    have ha3 := TRD_keep ha2 F3 (row (by omega))
    have T3 := OE_keep T2 F3 (rowt (by omega))
    obtain ⟨_, _, PQ3, _⟩ := id Q3
    refine k112_42 PQ3.2.1 (wm_mono (wq_U (fun h4 Q4 F4 => k112_48 ?_)) (u_setNumber (PF_E Q3) (by decide) (x := 1) (by decide)))
    rw [nF_1] at Q4
    have A4 := AL_1 A3 F4 (okw_row (k := k + 2) (by omega)) (by omega) Q4
    have R4 := PF_keep R3 F4 (rowr (by omega))
    have ha4 := TRD_keep ha3 F4 (row (by omega))
    have T4 := OE_keep T3 F4 (rowt (by omega))
    have FF4 : FA [t, t + 1, t + 3] k h h4 := FA_trans FF2 (FA_trans (FA_U F3 (rowf (by omega) (by omega))) (FA_U F4 (rowf (by omega) (by omega))))
    have npS : ∀ (f : zp_R) (m : Nat), zp_mul (zp_npow f m) f = zp_npow f (m + 1) := fun f m => rfl
    have fitm : ∀ {f : zp_R}, zp_deg f (H + 1) → ∀ m, m + 1 ≤ n → ∀ e, dgp (zp_mul (zp_npow f m) f) e → e < 192 ∧ e < 192 := fun df m hm e he => by
      rw [npS] at he
      have s1 : H * (m + 1) ≤ H * n := Nat.mul_le_mul_left H hm
      have : e < 192 := Int.not_le.mp (fun q => he.2.2 e.toNat (by omega) (npow_deg df (m + 1) e.toNat (by omega)))
      exact ⟨this, this⟩
    have loop : ∀ (l m : Nat) (h5 : s_H), m + l = n → AL h5 (k + 2) → FA [t, t + 1, t + 3] k h h5 → PF h5 (7 + 2 * k) 192 (zp_npow N m) → PF h5 (7 + 2 * (k + 1)) 192 (zp_npow B m) → TRD h5 a N B → OE h5 t z → wr sw_P (D + 2) sw_c112 sw_h112 (51, [.index 5, .index a, vi (n : Int), .index t, vi (k : Int), .index (7 + 2 * k), .index (7 + 2 * (k + 1)), vi (m : Int)], [], h5, 0, 0) (AV [t, t + 1, t + 3] k h (.index t) (fun h' => OUT h' t (zp_npow N n) (zp_npow B n))) := by
      intro l
      induction l with
      | zero =>
        intro m h5 hm A5 F5 R5 Q5 ha5 T5
        have em : m = n := by omega
        subst em
        refine k112_51 (fun _ => ?_) (fun q => absurd (Int.le_refl _) q) (c1 := by unfold In3; omega) (c2 := by unfold In3; omega)
        have lo : ∀ {f : zp_R}, zp_deg f (H + 1) → ∀ e, dgp (zp_npow f m) e → e < 41 := fun df e he => Int.not_le.mp (fun q => he.2.2 e.toNat (by omega) (npow_deg df m e.toNat (by omega)))
        refine k112_83 T5.1.2 (wm_mono (wq_U (fun h6 O6 F6 => ?_)) (u_setFraction T5 R5 Q5 (by omega) (by omega) (lo dN) (lo dB)))
        have A6 := AL_U A5 F6 (fun p hp => .inl (by
          rcases List.mem_cons.mp hp with q | q
          · omega
          · rcases List.mem_cons.mp q with q | q
            · omega
            · rw [List.mem_singleton.mp q]; omega))
        refine k112_91 A6.1 (wm_mono (wq_AN (fun h7 o7 F7 A7 => k112_97 ⟨h7, ⟨⟨O6.1.1, (o7 t (by omega)).trans O6.1.2⟩, PF_off O6.2.1 o7 (by omega), PF_off O6.2.2 o7 (by omega)⟩, ?_, A7, rfl⟩)) (u_release A6 (by omega)))
        exact FA_trans F5 (FA_trans (FA_of F6) (FA_sub F7 (Nat.le_refl _) (fun _ q => absurd q List.not_mem_nil)))
      | succ l ih =>
        intro m h5 hm A5 F5 R5 Q5 ha5 T5
        obtain ⟨q, lq, r, lr, za, a0, q0, r0, ca, pn, pb⟩ := id ha5
        refine k112_51 (fun q => absurd q (by omega)) (fun _ => ?_) (c1 := by unfold In3; omega) (c2 := by unfold In3; omega)
        refine k112_57 ca A5.1 (wm_mono (wq_AN (fun h6 R6 F6 A6 => ?_)) (u_multiply A5 (by omega) R5 pn (okw_row (by omega)) (.inr q0) (fitm dN m (by omega))))
        have ha6 := TRD_A ha5 F6 (row (by omega))
        have T6 := OE_A T5 F6 ot (rowt (by omega))
        have Q6 := PF_A Q5 F6 (.inl ⟨by omega, by omega⟩) (rowr (by omega))
        obtain ⟨q', lq', r', lr', za', a0', q0', r0', ca', pn', pb'⟩ := id ha6
        refine k112_67 ca' A6.1 (wm_mono (wq_AN (fun h7 Q7 F7 A7 => k112_77 ?_)) (u_multiply A6 (by omega) Q6 pb' (okw_row (by omega)) (.inr r0') (fitm dB m (by omega))))
        rw [show (m : Int) + 1 = ((m + 1 : Nat) : Int) by omega]
        exact ih (m + 1) h7 (by omega) A7 (FA_trans F5 (FA_trans (FA_sub F6 (by omega) (rowf (by omega) (by omega))) (FA_sub F7 (by omega) (rowf (by omega) (by omega))))) (PF_A R6 F7 (.inl ⟨by omega, by omega⟩) (rowr (by omega))) Q7 (TRD_A ha6 F7 (row (by omega))) (OE_A T6 F7 ot (rowt (by omega)))
    have o1 : ∀ f : zp_R, zp_npow f 0 = zp_C 1 := fun f => rfl
    exact loop n 0 h4 (Nat.zero_add n) A4 FF4 (by rw [o1]; exact R4) (by rw [o1]; exact Q4) ha4 T4
  · rw [hm] at w
    simp only [if_neg (show ¬ H * n ≤ 40 by omega)]
    obtain ⟨y1, y2, y3⟩ := TO_z T.1 5
    exact k112_11 T.1.2 ⟨_, ⟨y1, PE_off T.2.1 y2 (by omega), PE_off T.2.2 y2 (by omega)⟩, FA_U y3 (fun p hp => by rw [List.mem_singleton.mp hp]; exact .inl List.mem_cons_self), AL_U A y3 (fun p hp => by rw [List.mem_singleton.mp hp]; exact .inl ot), rfl⟩ (c6 := T.1.1)
end
