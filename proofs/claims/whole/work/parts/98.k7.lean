/-! the class's algebra: insert -/
/-- what insert comes to -/
def insS (h' : s_H) (t n H : Nat) (N B Ng Bg : zp_R) : Prop := (40 < n * H → OE h' t 5) ∧ (n * H ≤ 40 → (fil B Ng Bg n (n + 1) = zp_C 0 → OE h' t 4) ∧ (fil B Ng Bg n (n + 1) ≠ zp_C 0 → setS h' t (fil N Ng Bg n (n + 1)) (fil B Ng Bg n (n + 1))))
section
variable {D : Nat} {h : s_H} {k : Nat}
theorem u_insert (A : AL h k) (hk : k + 4 < 16) {a g t n H : Nat} {z : Int} {N B Ng Bg : zp_R} {e f eg fg : Int} (ha : TRD h a N B) (hg : TRD h g Ng Bg) (T : OE h t z) (ot : 39 ≤ t) (be : dgp N e) (bf : dgp B f) (beg : dgp Ng eg) (bfg : dgp Bg fg) (en : (if e ≤ f then f else e) = n) (eH : (if eg ≤ fg then fg else eg) = H) (n1 : n ≤ 1000) (H1 : H ≤ 1000) : wm sw_P (D + 4) 107 [.index 5, .index a, .index g, .index t] h (AV [t, t + 1, t + 3] k h (.index t) (fun h' => insS h' t n H N B Ng Bg)) := by
  refine wm_in (cd := sw_c107) (nL := 8) (hd := sw_h107) rfl rfl ?_
  have nila : ∀ {q : Nat}, ∀ p, p ∈ ([] : List Nat) → apt q p := fun _ q => absurd q List.not_mem_nil
  have nil38 : ∀ p, p ∈ ([] : List Nat) → p < 38 := fun _ q => absurd q List.not_mem_nil
  have nilt : ∀ p, p ∈ ([] : List Nat) → p + 1 < t ∨ t + 4 < p := fun _ q => absurd q List.not_mem_nil
  refine k107_0 (wm_mono (wq_r ?_) (u_degreeOf ha be bf))
  rw [en]
  refine k107_4 (wm_mono (wq_r ?_) (u_degreeOf hg beg bfg))
  rw [eH]
  have hm : ((n : Int) * (H : Int)) = ((n * H : Nat) : Int) := by rw [Int.natCast_mul]
  have bnd : n * H ≤ 1000 * 1000 := Nat.mul_le_mul n1 H1
  refine k107_12 (fun w => ?_) (fun w => ?_) (c1 := by rw [hm]; unfold In3; omega)
  · rw [hm] at w
    have w' : n * H ≤ 40 := by omega
    have wc : H * n ≤ 100 := by rw [Nat.mul_comm]; omega
    have dN : zp_deg Ng (H + 1) := dgp_deg beg (by split at eH <;> omega)
    have dB : zp_deg Bg (H + 1) := dgp_deg bfg (by split at eH <;> omega)
    refine k107_25 (z5 := (k : Int)) A.1 (wm_mono (wq_AA (fun h1 ⟨A1, R1⟩ F1 => ?_)) (u_lend A (by omega)))
    refine k107_35 A1.1 (wm_mono (wq_AA (fun h2 ⟨A2, Q2⟩ F2 => ?_)) (u_lend A1 (by omega)))
    have ha2 := TRD_A (TRD_A ha F1 nil38) F2 nil38
    have hg2 := TRD_A (TRD_A hg F1 nil38) F2 nil38
    have T2 := OE_A (OE_A T F1 ot nilt) F2 ot nilt
    have FF2 : FA [t, t + 1, t + 3] k h h2 := FA_trans (FA_sub F1 (Nat.le_refl _) (fun _ q => absurd q List.not_mem_nil)) (FA_sub F2 (by omega) (fun _ q => absurd q List.not_mem_nil))
    have row : ∀ {j : Nat}, j < 16 → ∀ p, p ∈ [7 + 2 * j] → p < 38 := fun j2 p hp => by rw [List.mem_singleton.mp hp]; omega
    have rowt : ∀ {j : Nat}, j < 16 → ∀ p, p ∈ [7 + 2 * j] → p + 1 < t ∨ t + 4 < p := fun j2 p hp => by rw [List.mem_singleton.mp hp]; omega
    have rowr : ∀ {i j : Nat}, i ≠ j → ∀ p, p ∈ [7 + 2 * j] → apt (7 + 2 * i) p := fun ne p hp => by rw [List.mem_singleton.mp hp]; unfold apt; omega
    have rowf : ∀ {j : Nat}, k ≤ j → j < 16 → ∀ p, p ∈ [7 + 2 * j] → p ∈ [t, t + 1, t + 3] ∨ (7 + 2 * k ≤ p ∧ p < 38) := fun i1 i2 p hp => by rw [List.mem_singleton.mp hp]; exact .inr (by omega)
    obtain ⟨q, lq, r, lr, za, a0, q0, r0, ca, pn, pb⟩ := id ha2
    refine k107_41 ca A2.1 (wm_mono (wq_AN (fun h3 R3 F3 A3 => ?_)) (u_setInserted A2 (by omega) pn (.inr q0) hg2 (i := k) (by omega) (by unfold apt; omega) dN dB wc n1))
    have ca3 : s_get h3 a = _ := (F3.2 a (fun p hp => by have := row (j := k) (by omega) p hp; omega) (by omega) (by omega)).trans ca
    have pb3 := PF_A pb F3 (.inr r0) (fun p hp => by have := row (j := k) (by omega) p hp; unfold apt; omega)
    have hg3 := TRD_A hg2 F3 (row (by omega))
    have T3 := OE_A T2 F3 ot (rowt (by omega))
    refine k107_56 ca3 A3.1 (wm_mono (wq_AN (fun h4 Q4 F4 A4 => ?_)) (u_setInserted A3 (by omega) pb3 (.inr r0) hg3 (i := k + 1) (by omega) (by unfold apt; omega) dN dB wc n1))
    have R4 := PF_A R3 F4 (.inl ⟨by omega, by omega⟩) (rowr (by omega))
    have T4 := OE_A T3 F4 ot (rowt (by omega))
    have FF4 : FA [t, t + 1, t + 3] k h h4 := FA_trans FF2 (FA_trans (FA_sub F3 (by omega) (rowf (by omega) (by omega))) (FA_sub F4 (by omega) (rowf (by omega) (by omega))))
    have rel : ∀ h5, AL h5 (k + 2) → FA [t, t + 1, t + 3] k h h5 → (∀ h6, (∀ j, j ≠ 5 → s_get h6 j = s_get h5 j) → insS h6 t n H N B Ng Bg) → wr sw_P (D + 3) sw_c107 sw_h107 (95, [.index 5, .index a, .index g, .index t, vi (n : Int), vi (k : Int), .index (7 + 2 * k), .index (7 + 2 * (k + 1))], [], h5, 0, 0) (AV [t, t + 1, t + 3] k h (.index t) (fun h' => insS h' t n H N B Ng Bg)) := fun h5 A5 F5 keep => by
      refine k107_95 A5.1 (wm_mono (wq_AN (fun h6 o6 F6 A6 => k107_101 ⟨h6, keep h6 o6, ?_, A6, rfl⟩)) (u_release A5 (by omega)))
      exact FA_trans F5 (FA_sub F6 (Nat.le_refl _) (fun _ q => absurd q List.not_mem_nil))
    obtain ⟨dQ, gQ, PQ, bQ, _, lQ, _⟩ := id Q4
    have b1 := bQ.1
    refine k107_69 (z5 := dQ) PQ.2.1 (fun w2 => ?_) (fun w2 => ?_) (c7 := by unfold In3; omega)
    · have ne : fil B Ng Bg n (n + 1) ≠ zp_C 0 := fun q => by
        have := dgp_none q bQ
        omega
      refine k107_85 A4.1 (wm_mono (wq_AV (fun h5 S5 F5 A5 => k107_94 (rel h5 A5 ?_ (fun h6 o6 => ⟨fun q => absurd q (by omega), fun _ => ⟨fun q => absurd q ne, fun _ => setS_off ot S5 o6⟩⟩)))) (u_settle A4 (by omega) (i := k) (j := k + 1) (by omega) (by omega) (by omega) R4 Q4 ne T4 ot))
      refine FA_trans FF4 (FA_sub F5 (by omega) (fun p hp => ?_))
      rcases List.mem_cons.mp hp with w | w
      · exact .inr (by omega)
      · rcases List.mem_cons.mp w with w | w
        · exact .inr (by omega)
        · exact .inl w
    · have eq0 : fil B Ng Bg n (n + 1) = zp_C 0 := dgp_0 bQ (by omega)
      obtain ⟨y1, y2, y3⟩ := TO_z T4.1 4
      refine k107_77 T4.1.2 (rel _ (AL_U A4 y3 (fun p hp => by rw [List.mem_singleton.mp hp]; exact .inl ot)) (FA_trans FF4 (FA_U y3 (fun p hp => by rw [List.mem_singleton.mp hp]; exact .inl List.mem_cons_self))) (fun h6 o6 => ⟨fun q => absurd q (by omega), fun _ => ⟨fun _ => ?_, fun q => absurd eq0 q⟩⟩)) (c6 := T4.1.1)
      exact ⟨⟨y1.1, (o6 t (by omega)).trans y1.2⟩, PE_off (PE_off T4.2.1 y2 (by omega)) o6 (by omega), PE_off (PE_off T4.2.2 y2 (by omega)) o6 (by omega)⟩
  · rw [hm] at w
    obtain ⟨y1, y2, y3⟩ := TO_z T.1 5
    exact k107_18 T.1.2 ⟨_, ⟨fun _ => ⟨y1, PE_off T.2.1 y2 (by omega), PE_off T.2.2 y2 (by omega)⟩, fun q => absurd q (by omega)⟩, FA_U y3 (fun p hp => by rw [List.mem_singleton.mp hp]; exact .inl List.mem_cons_self), AL_U A y3 (fun p hp => by rw [List.mem_singleton.mp hp]; exact .inl ot), rfl⟩ (c6 := T.1.1)
end
