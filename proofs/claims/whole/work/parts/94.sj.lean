/-! the reference's less, over and number in the picture -/
theorem qs_cf {a b Q : zp_R} {n : Nat} (h : qs a b Q n) : zp_deg Q n := h.1
theorem fr_0 {c : zp_R} (hd : zp_deg c 176) (h : ¬ 0 ≤ hi c) : c = zp_C 0 := hi_0 hd (by omega)
/-- what a number comes to -/
def numS (cnt z : Int) (res : Sum th Int) : Prop := (cnt = 150 → res = .inr 1) ∧ (cnt ≠ 150 → res = .inl (th_fr (zp_C (nF z)) (zp_C 1)))
theorem C_hi (c : zp_F) : hi (zp_C c) < 1 := hi_lt (zp_C_deg c) (Nat.le_refl _)
theorem co_1 (N : zp_R) : co N (zp_C 1) := ⟨zp_C 0, zp_C 1, by
  have := @co_h zp_R zp_ring N
  rw [zp_C1]; exact this⟩
where co_h : ∀ {R : Type} [Lean.Grind.CommRing R] (n : R), 0 * n + 1 * 1 = 1 := by intro R _ n; grind
section
variable {d : Nat} {h : s_H} {s : Nat → Int} {A : Nat → Nat → Int}
theorem V_less (hv : RV h s A) {T : Nat → th} (hR : RI s A T) {x y : Int} (hx : In3 x) (hy : In3 y) : wm sw_P (d + 9) 503 [.index 1290, vi x, vi y] h (RA h (fun v s' A' => ∃ res, addS (s 1) T (-1) x y res ∧ ends s A T res v s' A')) := by
  refine wm_in (cd := sw_c503) (nL := 3) (hd := sw_h503) rfl rfl ?_
  refine k503_0 hv.1 (wm_mono (wq_A (fun v1 h1 s1 A1 w1 r1 φ => ?_)) (V_added hv hR hx hy (z := -1) (by decide)))
  obtain ⟨res, z1, z2⟩ := φ
  obtain ⟨u, eu⟩ := ends_vi z2
  subst eu
  exact k503_9 ⟨_, h1, s1, A1, w1, r1, ⟨res, z1, z2⟩, rfl⟩
theorem V_numberT (hv : RV h s A) {T : Nat → th} (hR : RI s A T) {z : Int} (hz : In6 z) : wm sw_P (d + 4) 539 [.index 1290, vl z] h (RA h (fun v s' A' => ∃ res, numS (s 1) z res ∧ ends s A T res v s' A')) := by
  refine wm_mono (fun out => ?_) (V_number hv hR.1.1 hz)
  intro ⟨v, h1, s1, A1, w1, r1, φ, eo⟩
  refine ⟨v, h1, s1, A1, w1, r1, ?_, eo⟩
  have mo1 : mo (zp_C 1) := ⟨0, rfl, zp_C_deg 1⟩
  have m1 : sm A (up (up A 1302 (cf (zp_C (nF z)))) 1303 (cf (zp_C 1))) scr := sm_up (sm_up sm_refl _ rfl) _ rfl
  have φ' : kQ (up s 0 (s 0)) (up (up A 1302 (cf (zp_C (nF z)))) 1303 (cf (zp_C 1))) 1 (zp_C (nF z)) (zp_C 1) v s1 A1 := by
    have : up s 0 (s 0) = s := by
      funext j
      by_cases hj : j = 0
      · rw [hj, up_at]
      · rw [up_ne _ _ hj]
    rw [this]; exact φ
  obtain ⟨res, z1, z2, z3⟩ := ends_kQ (s 0) hR m1 (deg_le (zp_C_deg _) (by decide)) (deg_le (zp_C_deg _) (by decide)) mo1 (co_1 _) φ'
  have c1 := C_hi (nF z)
  have c2 := C_hi 1
  refine ⟨res, ⟨fun q => z1 (.inl q), fun q => z2 (fun w => ?_)⟩, z3⟩
  have w' : s 1 = 150 ∨ 40 < hi (zp_C (nF z)) ∨ 40 < hi (zp_C 1) := w
  omega
theorem V_over (hv : RV h s A) {T : Nat → th} (hR : RI s A T) {x y : Int} (hx : In3 x) (hy : In3 y) : wm sw_P (d + 8) 543 [.index 1290, vi x, vi y] h (RA h (fun v s' A' => ∃ res, binS (s 1) T 0 x y (ovF (s 1)) res ∧ ends s A T res v s' A')) := by
  refine wm_in (cd := sw_c543) (nL := 3) (hd := sw_h543) rfl rfl ?_
  have b0 := hR.1.1
  refine k543_0 hv.1 (wm_mono (wq_A (fun v1 h1 s1 A1 w1 r1 φ => ?_)) (V_two hv hR hx hy (.inl rfl)))
  rcases φ with ⟨ev, e1, q, eA⟩ | ⟨ev, e1, f, k, ef, ek, lf, lk, qk, m1, g98, g99, g00, g01⟩
  · rw [ev]
    refine k543_7 (fun w => absurd rfl w) (fun _ => k543_10 ⟨vi 0, h1, s1, A1, w1, r1, ⟨.inr (two s A x y 0), binS_bad hR q, ?_⟩, rfl⟩)
    rw [e1, eA]
    exact ⟨sm_refl, rfl, rfl, RI_sc hR sm_refl rfl⟩
  · rw [ev]
    subst ef
    subst ek
    refine k543_7 (fun _ => ?_) (fun w => absurd (by decide) w)
    have R1 := RI_sc (s' := s1) hR m1 (by rw [e1]; rfl)
    have s11 : s1 1 = s 1 := by rw [e1]; rfl
    have hf := hR.2.2 f (by omega)
    have hk := hR.2.2 k (by omega)
    have hf1 := R1.2.2 f (by omega)
    have kf1 := isT_kd hf1
    have sp : ∀ res : Sum th Int, ovF (s 1) (T f) (T k) res → binS (s 1) T 0 f k (ovF (s 1)) res := fun res w => ⟨fun w2 => absurd ⟨by omega, lf, by omega, lk⟩ w2, fun _ w2 => absurd w2 qk, fun _ _ => w⟩
    have kd3 : 0 ≤ kd (T f) ∧ kd (T f) ≤ 3 := by rw [← kf1]; exact R1.1.2.1 f (by omega)
    have i3 : In3 (A1 1291 (f : Int).toNat) := by show In3 (A1 1291 f); rw [kf1]; unfold In3; omega
    have ik : A1 1291 (f : Int).toNat = kd (T f) := kf1
    refine k543_12 w1.1 (wm_mono (wq_r ?_) (V_is w1 (x := (f : Int)) (k := 1) ⟨by omega, by omega⟩ i3 (by decide)))
    rw [ik]
    have qk1 : kd (T f) = kd (T k) := Decidable.byContradiction (fun w => qk (.inl w))
    have qk2 : kd (T f) ≠ 3 := fun w => qk (.inr (.inl w))
    have qk3 : kd (T f) ≠ 2 := fun w => qk (.inr (.inr ⟨rfl, w⟩))
    rcases ef1 : T f with ⟨a, b⟩ | a | ⟨r, c, M⟩ | ⟨n, so, va⟩
    · rw [ef1] at hf hf1 sp qk1
      rcases ek1 : T k with ⟨c, e⟩ | c | ⟨r, c, M⟩ | ⟨n, so, va⟩
      · rw [ek1] at hk sp
        refine k543_18 (fun _ => ?_) (fun w => absurd rfl w)
        obtain ⟨_, p1, p2, p3, p4⟩ := hf
        obtain ⟨_, p5, p6, p7, p8⟩ := hk
        have d1 := fr_deg p1
        have d2 := fr_deg p2
        have d3 := fr_deg p5
        have d4 := fr_deg p6
        have bc := hi_b c
        refine k543_48 w1.1 (wm_mono (wq_r ?_) (V_high w1 (c := 1300) rfl (g00.trans p5)))
        refine k543_55 (fun q0 => ?_) (fun q0 => ?_)
        · have c0 := zp_ne0 q0
          refine k543_64 w1.1 (wm_mono (wq_N (fun h2 s2 A2 w2 r2 φ => ?_)) (V_quotientAll w1 (g98.trans p1) (g99.trans p2) (g00.trans p5) (g01.trans p6) d1 d2 d3 d4 (mo_pos p3 (deg_le d2 (by decide))) q0))
          obtain ⟨es2, ⟨N, D, hcn, dN, dD, gN, gD⟩, m2⟩ := φ
          rw [es2] at w2
          refine k543_68 w2.1 (wm_mono (wq_A (fun v3 h3 s3 A3 w3 r3 φ => ?_)) (V_keep w2 (by rw [s11]; exact b0) gN gD))
          rw [e1] at φ
          obtain ⟨res, z1, z2, z3⟩ := ends_kQ 0 hR (sm_tr m1 (sm_sub m2 rfl)) dN dD hcn.2.2 hcn.2.1 φ
          obtain ⟨u, eu⟩ := ends_vi z3
          subst eu
          exact k543_73 ⟨_, h3, s3, A3, w3, FR_trans r1 (FR_trans r2 r3), ⟨res, sp res ⟨fun w => absurd w c0, fun _ => ⟨N, D, hcn, z1, z2⟩⟩, z3⟩, rfl⟩
        · have c0 := fr_0 (deg_le d3 (by decide)) q0
          refine k543_58 w1.1 (wm_mono (wq_A (fun v3 h3 s3 A3 w3 r3 φ => ?_)) (V_raise w1))
          obtain ⟨y1, y2, y3⟩ := φ
          rw [e1] at y2
          subst y1
          exact k543_63 ⟨_, h3, s3, A3, w3, FR_trans r1 r3, ⟨.inr 3, sp _ ⟨fun _ => rfl, fun w => absurd c0 w⟩, ends_bad hR m1 rfl y2 y3⟩, rfl⟩
      · rw [ek1] at qk1; exact (kdn qk1 rfl).elim
      · rw [ek1] at qk1; exact (kdn qk1 rfl).elim
      · rw [ek1] at qk1; exact (kdn qk1 rfl).elim
    · rw [ef1] at hf hf1 sp qk1
      rcases ek1 : T k with ⟨c, e⟩ | c | ⟨r, c, M⟩ | ⟨n, so, va⟩
      · rw [ek1] at qk1; exact (kdn qk1 rfl).elim
      · rw [ek1] at hk sp
        refine k543_18 (fun w => (kdn w rfl).elim) (fun _ => ?_)
        obtain ⟨_, p1, p2, p3⟩ := hf
        obtain ⟨_, p5, p6, p7⟩ := hk
        have e4 : gi (mk 176 (A1 1300)) 0 = cf c 0 := by rw [g00.trans p5]; exact gi_mkn (k := 0) (by decide)
        have b4 := cf_b c 0
        refine k543_21 w1.1 (Ra_bt w1) (fun q0 => ?_) (fun q0 => ?_) (c10 := by rw [mk_len]; decide) (c11 := by rw [e4]; exact in6_of (by omega) (by omega))
        · rw [e4] at q0
          have c0 : c.1 0 ≠ 0 := fun w => q0 (by unfold cf; rw [w]; rfl)
          refine k543_38 w1.1 (wm_mono (wq_N (fun h2 s2 A2 w2 r2 φ => ?_)) (V_quotientSeries w1 (g98.trans p1) (g00.trans p5) c0))
          obtain ⟨es2, Q, hQ, eA2⟩ := φ
          rw [es2] at w2
          refine k543_42 w2.1 (wm_mono (wq_A (fun v3 h3 s3 A3 w3 r3 φ => ?_)) (V_keepSeries w2 (by rw [s11]; exact b0) (f := Q) (by rw [eA2, up_at])))
          rw [e1] at φ
          obtain ⟨res, z1, z2, z3⟩ := ends_ksQ 0 hR (by rw [eA2]; exact sm_up m1 _ rfl) hQ.1 (c25_cf hQ.1) φ
          obtain ⟨u, eu⟩ := ends_vi z3
          subst eu
          exact k543_47 ⟨_, h3, s3, A3, w3, FR_trans r1 (FR_trans r2 r3), ⟨res, sp res ⟨fun w => absurd w c0, fun _ => ⟨Q, hQ, z1, z2⟩⟩, z3⟩, rfl⟩
        · rw [e4] at q0
          have c0 : c.1 0 = 0 := cf_0 (by omega)
          refine k543_32 w1.1 (wm_mono (wq_A (fun v3 h3 s3 A3 w3 r3 φ => ?_)) (V_raise w1))
          obtain ⟨y1, y2, y3⟩ := φ
          rw [e1] at y2
          subst y1
          exact k543_37 ⟨_, h3, s3, A3, w3, FR_trans r1 r3, ⟨.inr 3, sp _ ⟨fun _ => rfl, fun w => absurd c0 w⟩, ends_bad hR m1 rfl y2 y3⟩, rfl⟩
      · rw [ek1] at qk1; exact (kdn qk1 rfl).elim
      · rw [ek1] at qk1; exact (kdn qk1 rfl).elim
    · rw [ef1] at qk3
      exact absurd rfl qk3
    · rw [ef1] at qk2
      exact absurd rfl qk2
end
