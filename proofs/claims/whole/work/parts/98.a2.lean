/-! the reference's common in the picture -/
def comF (cnt : Int) (t u : th) (res : Sum th Int) : Prop := match t, u with
  | .inl (a, _), .inl (p, _) => (a = zp_C 0 ∧ p = zp_C 0 → res = .inr 2) ∧ (¬ (a = zp_C 0 ∧ p = zp_C 0) → ∃ G, isG a p G ∧ ((cnt = 150 ∨ 40 < hi G ∨ 40 < hi (zp_C 1)) → res = .inr 3) ∧ (¬ (cnt = 150 ∨ 40 < hi G ∨ 40 < hi (zp_C 1)) → res = .inl (th_fr G (zp_C 1))))
  | _, _ => True
/-- what the divisor of two comes to -/
def comS (cnt : Int) (T : Nat → th) (x y : Int) (res : Sum th Int) : Prop := ∃ c, wS cnt T x y c ∧ (c ≠ 0 → res = .inr c) ∧ (c = 0 → comF cnt (T x.toNat) (T y.toNat) res)
theorem hi_C0 : ¬ 0 ≤ hi (zp_C 0) := fun w => zp_ne0 w rfl
section
variable {d : Nat} {h : s_H} {s : Nat → Int} {A : Nat → Nat → Int}
theorem V_common (hv : RV h s A) {T : Nat → th} (hR : RI s A T) {x y : Int} (hx : In3 x) (hy : In3 y) : wm sw_P (d + 6) 422 [.index 1290, vi x, vi y] h (RA h (fun v s' A' => ∃ res, comS (s 1) T x y res ∧ ends s A T res v s' A')) := by
  refine wm_in (cd := sw_c422) (nL := 3) (hd := sw_h422) rfl rfl ?_
  have b0 := hR.1.1
  refine k422_0 hv.1 (wm_mono (wq_A (fun v1 h1 s1 A1 w1 r1 φ => ?_)) (V_areWhole hv hR hx hy))
  obtain ⟨m1, c, hc, e1, q⟩ := φ
  rcases q with ⟨c0, ev⟩ | ⟨c0, ev, f, k, a, p, ef, ek, lf, lk, tf, tk, g98, g00, da, dp⟩
  · rw [ev]
    refine k422_6 (fun w => absurd rfl w) (fun _ => k422_9 ⟨vi 0, h1, s1, A1, w1, r1, ⟨.inr c, ⟨c, hc, fun _ => rfl, fun w => absurd w c0⟩, ?_⟩, rfl⟩)
    rw [e1]
    exact ⟨sm_sub m1 rfl, rfl, rfl, RI_sc hR m1 rfl⟩
  · rw [ev]
    subst ef
    subst ek
    have xf : (f : Int).toNat = f := by omega
    have yk : (k : Int).toNat = k := by omega
    have s11 : s1 1 = s 1 := by rw [e1]; rfl
    have sp : ∀ res : Sum th Int, (a = zp_C 0 ∧ p = zp_C 0 → res = .inr 2) ∧ (¬ (a = zp_C 0 ∧ p = zp_C 0) → ∃ G, isG a p G ∧ ((s 1 = 150 ∨ 40 < hi G ∨ 40 < hi (zp_C 1)) → res = .inr 3) ∧ (¬ (s 1 = 150 ∨ 40 < hi G ∨ 40 < hi (zp_C 1)) → res = .inl (th_fr G (zp_C 1)))) → comS (s 1) T f k res := fun res w => ⟨c, hc, fun w2 => absurd c0 w2, fun _ => by rw [xf, yk, tf, tk]; exact w⟩
    have da6 := deg_le da (show 41 ≤ 176 by decide)
    have dp6 := deg_le dp (show 41 ≤ 176 by decide)
    have ba := hi_b a
    have bp := hi_b p
    rw [c0] at e1
    have go : ¬ (a = zp_C 0 ∧ p = zp_C 0) → wr sw_P (d + 5) sw_c422 sw_h422 (37, [.index 1290, vi (f : Int), vi (k : Int)], [], h1, 0, 0) (RA h (fun v s' A' => ∃ res, comS (s 1) T f k res ∧ ends s A T res v s' A')) := by
      intro hne
      refine k422_37 w1.1 (wm_mono (wq_N (fun h2 s2 A2 w2 r2 φ => ?_)) (V_commonOf w1 (p := 1298) (q := 1300) rfl rfl (by decide) (by decide) (by decide) g98 g00 da6 dp6))
      obtain ⟨es2, ⟨G, hG, dG, eG⟩, m2⟩ := φ
      rw [es2] at w2
      refine k422_49 w2.1 (wm_mono (wq_Q (fun h3 w3 r3 => ?_)) (V_copy w2 (c := 1302) (e := 1306) rfl rfl (by decide)))
      refine k422_60 w3.1 (wm_mono (wq_Q (fun h4 w4 r4 => ?_)) (V_become w3 (c := 1303) rfl (z := 1) (by decide)))
      rw [nF_1] at w4
      refine k422_68 w4.1 (wm_mono (wq_A (fun v5 h5 s5 A5 w5 r5 φ => ?_)) (V_keep w4 (by rw [s11]; exact b0) (N := G) (D := zp_C 1) (by rw [up_ne _ _ (by decide), up_at, eG]) (up_at _ _ _)))
      rw [e1] at φ
      obtain ⟨res, z1, z2, z3⟩ := ends_kQ 0 hR (sm_up (sm_up (sm_tr m1 (sm_sub m2 rfl)) _ rfl) _ rfl) dG (deg_le (zp_C_deg 1) (by decide)) ⟨0, rfl, zp_C_deg 1⟩ (co_1 G) φ
      obtain ⟨u, eu⟩ := ends_vi z3
      subst eu
      exact k422_73 ⟨_, h5, s5, A5, w5, FR_trans r1 (FR_trans r2 (FR_trans r3 (FR_trans r4 r5))), ⟨res, sp res ⟨fun w => absurd w hne, fun _ => ⟨G, hG, z1, z2⟩⟩, z3⟩, rfl⟩
    refine k422_6 (fun _ => ?_) (fun w => absurd (by decide) w)
    refine k422_11 w1.1 (wm_mono (wq_r ?_) (V_high w1 (c := 1298) rfl g98))
    refine k422_18 (fun q1 => go (fun w => zp_ne0 q1 w.1)) (fun q1 => ?_)
    refine k422_21 w1.1 (wm_mono (wq_r ?_) (V_high w1 (c := 1300) rfl g00))
    refine k422_28 (fun q2 => go (fun w => zp_ne0 q2 w.2)) (fun q2 => ?_)
    refine k422_31 w1.1 (wm_mono (wq_A (fun v3 h3 s3 A3 w3 r3 φ => ?_)) (V_raise w1))
    obtain ⟨y1, y2, y3⟩ := φ
    rw [e1] at y2
    subst y1
    exact k422_36 ⟨_, h3, s3, A3, w3, FR_trans r1 r3, ⟨.inr 2, sp _ ⟨fun _ => rfl, fun w => absurd ⟨fr_0 da6 q1, fr_0 dp6 q2⟩ w⟩, ends_bad hR m1 rfl y2 y3⟩, rfl⟩
end
