/-! the reference's entry in the picture -/
def entF (cnt i j : Int) (t : th) (res : Sum th Int) : Prop := match t with
  | .inr (.inr (.inl (r, c, M))) => (¬ (0 ≤ i ∧ i < r ∧ 0 ≤ j ∧ j < c) → res = .inr 1) ∧ ((0 ≤ i ∧ i < r ∧ 0 ≤ j ∧ j < c) → (cnt = 150 → res = .inr 3) ∧ (cnt ≠ 150 → res = .inl (th_fr (M i.toNat j.toNat) (zp_C 1))))
  | _ => True
section
variable {d : Nat} {h : s_H} {s : Nat → Int} {A : Nat → Nat → Int}
theorem V_entry (hv : RV h s A) {T : Nat → th} (hR : RI s A T) {x i j : Int} (hx : In3 x) (hi2 : In3 i) (hj : In3 j) : wm sw_P (d + 4) 441 [.index 1290, vi x, vi i, vi j] h (RA h (fun v s' A' => ∃ res, unS (s 1) T (fun n => n = 2) x (entF (s 1) i j) res ∧ ends s A T res v s' A')) := by
  refine wm_in (cd := sw_c441) (nL := 4) (hd := sw_h441) rfl rfl ?_
  have b0 := hR.1.1
  refine k441_0 hv.1 (wm_mono (wq_A (fun v1 h1 s1 A1 w1 r1 φ => ?_)) (V_isOf hv hR hx (k := 2) (by decide)))
  rcases φ with ⟨ev, e1, q, eA⟩ | ⟨ev, e1, q, f, ef, lf, kf, m1, _, gA⟩
  · rw [ev]
    refine k441_6 (fun w => absurd rfl w) (fun _ => k441_9 ⟨vi 0, h1, s1, A1, w1, r1, ⟨.inr (one s T x 2), one_un q, ?_⟩, rfl⟩)
    rw [e1, eA]
    exact ⟨sm_refl, rfl, rfl, RI_sc hR sm_refl rfl⟩
  · rw [ev]
    subst ef
    have eA := gA (by decide)
    rw [eA] at w1
    have xf : (f : Int).toNat = f := by omega
    have hf := hR.2.2 f lf
    have s11 : s1 1 = s 1 := by rw [e1]; rfl
    have sp : ∀ res : Sum th Int, entF (s 1) i j (T f) res → unS (s 1) T (fun n => n = 2) f (entF (s 1) i j) res := fun res w => ⟨fun w2 => absurd ⟨by omega, lf⟩ w2, fun _ w2 => (w2 (by rw [xf]; exact kf)).elim, fun _ _ => by rw [xf]; exact w⟩
    refine k441_6 (fun _ => ?_) (fun w => absurd (by decide) w)
    rcases ef1 : T f with ⟨a, b⟩ | a | ⟨r, c, M⟩ | ⟨n, so, va⟩
    · rw [ef1] at kf; exact (kdn kf rfl).elim
    · rw [ef1] at kf; exact (kdn kf rfl).elim
    · rw [ef1] at hf sp
      obtain ⟨_, p1, p2, p3, p4, p5⟩ := hf
      have g1 : gi (mk 150 (A 1294)) (f : Int) = (r : Int) := by rw [gi_mkn (by omega)]; exact p3
      have g2 : gi (mk 150 (A 1295)) (f : Int) = (c : Int) := by rw [gi_mkn (by omega)]; exact p4
      have no : ¬ (0 ≤ i ∧ i < r ∧ 0 ≤ j ∧ j < c) → wr sw_P (d + 3) sw_c441 sw_h441 (47, [.index 1290, vi (f : Int), vi i, vi j], [], h1, 0, 0) (RA h (fun v s' A' => ∃ res, unS (s 1) T (fun n => n = 2) f (entF (s 1) i j) res ∧ ends s A T res v s' A')) := by
        intro w
        refine k441_47 w1.1 (wm_mono (wq_A (fun v3 h3 s3 A3 w3 r3 φ => ?_)) (V_raise w1))
        obtain ⟨y1, y2, y3⟩ := φ
        rw [e1] at y2
        subst y1
        exact k441_52 ⟨_, h3, s3, A3, w3, FR_trans r1 r3, ⟨.inr 1, sp _ ⟨fun _ => rfl, fun w2 => absurd w2 w⟩, ends_bad hR sm_refl rfl y2 y3⟩, rfl⟩
      refine k441_11 w1.1 (Ra_rows w1) (wm_mono (wq_r ?_) (t_in (x := i) (lo := 0) (hi := gi (mk 150 (A 1294)) (f : Int) - 1) (by unfold In6; unfold In3 at hi2; omega) (by decide) (by rw [g1]; unfold In6; omega))) (c11 := by rw [mk_len]; omega) (c14 := by rw [g1]; unfold In3; omega)
      rw [g1]
      by_cases q1 : 0 ≤ i ∧ i ≤ (r : Int) - 1
      · rw [if_pos q1]
        refine k441_26 (fun w => absurd w (by decide)) (fun _ => ?_)
        refine k441_29 w1.1 (Ra_columns w1) (wm_mono (wq_r ?_) (t_in (x := j) (lo := 0) (hi := gi (mk 150 (A 1295)) (f : Int) - 1) (by unfold In6; unfold In3 at hj; omega) (by decide) (by rw [g2]; unfold In6; omega))) (c11 := by rw [mk_len]; omega) (c14 := by rw [g2]; unfold In3; omega)
        rw [g2]
        by_cases q2 : 0 ≤ j ∧ j ≤ (c : Int) - 1
        · rw [if_pos q2]
          refine k441_44 (fun _ => ?_) (fun w => absurd (by decide) w)
          obtain ⟨a, ea⟩ : ∃ a : Nat, i = a := ⟨i.toNat, by omega⟩
          obtain ⟨b, eb⟩ : ∃ b : Nat, j = b := ⟨j.toNat, by omega⟩
          subst ea
          subst eb
          have x1 := p5 a b (by omega) (by omega)
          refine k441_53 w1.1 (wm_mono (wq_Q (fun h2 w2 r2 => ?_)) (V_loadEntry w1 (p := 1302) rfl (m := f) (i := a) (j := b) (by omega) (by omega) (by omega) (fun t ht => by have := hR.2.1 t ht; unfold In3; omega)))
          rw [x1] at w2
          refine k441_64 w2.1 (wm_mono (wq_Q (fun h3 w3 r3 => ?_)) (V_become w2 (c := 1303) rfl (z := 1) (by decide)))
          rw [nF_1] at w3
          refine k441_72 w3.1 (wm_mono (wq_A (fun v5 h5 s5 A5 w5 r5 φ => ?_)) (V_keep w3 (by rw [s11]; exact b0) (N := M a b) (D := zp_C 1) (by rw [up_ne _ _ (by decide), up_at]) (up_at _ _ _)))
          rw [e1] at φ
          have d11 := me_deg x1
          obtain ⟨res, z1, z2, z3⟩ := ends_kQ 0 hR (sm_up (sm_up sm_refl _ rfl) _ rfl) (deg_le d11 (by decide)) (deg_le (zp_C_deg 1) (by decide)) ⟨0, rfl, zp_C_deg 1⟩ (co_1 _) φ
          obtain ⟨u, eu⟩ := ends_vi z3
          subst eu
          have c1 := hi_lt d11 (show 11 ≤ 11 by decide)
          have c2 := C_hi 1
          exact k441_77 ⟨_, h5, s5, A5, w5, FR_trans r1 (FR_trans r2 (FR_trans r3 r5)), ⟨res, sp res ⟨fun w => absurd ⟨by omega, by omega, by omega, by omega⟩ w, fun _ => ⟨fun w => z1 (.inl w), fun w => z2 (fun w2 => by
            have w3 : s 1 = 150 ∨ 40 < hi (M a b) ∨ 40 < hi (zp_C 1) := w2
            omega)⟩⟩, z3⟩, rfl⟩
        · rw [if_neg q2]
          exact k441_44 (fun w => absurd rfl w) (fun _ => no (by omega))
      · rw [if_neg q1]
        exact k441_26 (fun _ => no (by omega)) (fun w => absurd rfl w)
    · rw [ef1] at kf; exact (kdn kf rfl).elim
end
