/-! the reference's put in the picture -/
/-- what putting one in for the letter comes to -/
def putF (cnt : Int) (t u : th) (res : Sum th Int) : Prop := match t, u with
  | .inl (a, b), .inl (c, e) => ((gd c e < 1 ∧ zp_ev (c.1 0) b = 0) → res = .inr 3) ∧ (¬ (gd c e < 1 ∧ zp_ev (c.1 0) b = 0) → ((0 < gd a b ∧ 40 < gd a b * gd c e) → res = .inr 4) ∧ (¬ (0 < gd a b ∧ 40 < gd a b * gd c e) → ∃ N D, cn (fil a c e (gd a b).toNat ((gd a b).toNat + 1)) (fil b c e (gd a b).toNat ((gd a b).toNat + 1)) N D ∧ ((cnt = 150 ∨ 40 < hi N ∨ 40 < hi D) → res = .inr 4) ∧ (¬ (cnt = 150 ∨ 40 < hi N ∨ 40 < hi D) → res = .inl (th_fr N D))))
  | .inr (.inl f), .inr (.inl g) => (g.1 0 ≠ 0 → res = .inr 2) ∧ (g.1 0 = 0 → (cnt = 150 → res = .inr 4) ∧ (cnt ≠ 150 → res = .inl (th_se (psr f g 25))))
  | _, _ => True
theorem psr_deg (p q : zp_R) : ∀ n, zp_deg (psr p q n) 25
  | 0 => deg_le (zp_C_deg 0) (by decide)
  | n + 1 => deg_add (cut_deg _ 25) (deg_le (zp_C_deg _) (by decide))
theorem gd_lt {a b : zp_R} {n : Nat} (ha : zp_deg a (n + 1)) (hb : zp_deg b (n + 1)) : gd a b ≤ n := by
  have a1 := hi_lt ha (Nat.le_refl _)
  have b1 := hi_lt hb (Nat.le_refl _)
  unfold gd
  split <;> omega
theorem gd_deg {a b : zp_R} (ha : zp_deg a 176) (hb : zp_deg b 176) (h0 : 0 ≤ gd a b) : zp_deg a ((gd a b).toNat + 1) ∧ zp_deg b ((gd a b).toNat + 1) := by
  have := gd_b a b
  exact ⟨fun i hi2 => hi_deg ha i (by omega), fun i hi2 => hi_deg hb i (by omega)⟩
theorem hi_ge {f : zp_R} (hd : zp_deg f 176) (h : f ≠ zp_C 0) : 0 ≤ hi f := Int.not_lt.mp (fun q => h (hi_0 hd q))
section
variable {d : Nat} {h : s_H} {s : Nat → Int} {A : Nat → Nat → Int}
theorem V_put (hv : RV h s A) {T : Nat → th} (hR : RI s A T) {x y : Int} (hx : In3 x) (hy : In3 y) : wm sw_P (d + 8) 566 [.index 1290, vi x, vi y] h (RA h (fun v s' A' => ∃ res, binS (s 1) T 0 x y (putF (s 1)) res ∧ ends s A T res v s' A')) := by
  refine wm_in (cd := sw_c566) (nL := 5) (hd := sw_h566) rfl rfl ?_
  have b0 := hR.1.1
  refine k566_0 hv.1 (wm_mono (wq_A (fun v1 h1 s1 A1 w1 r1 φ => ?_)) (V_two hv hR hx hy (.inl rfl)))
  rcases φ with ⟨ev, e1, q, eA⟩ | ⟨ev, e1, f, k, ef, ek, lf, lk, qk, m1, g98, g99, g00, g01⟩
  · rw [ev]
    refine k566_7 (fun w => absurd rfl w) (fun _ => k566_10 ⟨vi 0, h1, s1, A1, w1, r1, ⟨.inr (two s A x y 0), binS_bad hR q, ?_⟩, rfl⟩)
    rw [e1, eA]
    exact ⟨sm_refl, rfl, rfl, RI_sc hR sm_refl rfl⟩
  · rw [ev]
    subst ef
    subst ek
    refine k566_7 (fun _ => ?_) (fun w => absurd (by decide) w)
    have R1 := RI_sc (s' := s1) hR m1 (by rw [e1]; rfl)
    have s11 : s1 1 = s 1 := by rw [e1]; rfl
    have hf := hR.2.2 f (by omega)
    have hk := hR.2.2 k (by omega)
    have hf1 := R1.2.2 f (by omega)
    have kf1 := isT_kd hf1
    have sp : ∀ res : Sum th Int, putF (s 1) (T f) (T k) res → binS (s 1) T 0 f k (putF (s 1)) res := fun res w => ⟨fun w2 => absurd ⟨by omega, lf, by omega, lk⟩ w2, fun _ w2 => absurd w2 qk, fun _ _ => w⟩
    have kd3 : 0 ≤ kd (T f) ∧ kd (T f) ≤ 3 := by rw [← kf1]; exact R1.1.2.1 f (by omega)
    have i3 : In3 (A1 1291 (f : Int).toNat) := by show In3 (A1 1291 f); rw [kf1]; unfold In3; omega
    have ik : A1 1291 (f : Int).toNat = kd (T f) := kf1
    refine k566_12 w1.1 (wm_mono (wq_r ?_) (V_is w1 (x := (f : Int)) (k := 1) ⟨by omega, by omega⟩ i3 (by decide)))
    rw [ik]
    have qk1 : kd (T f) = kd (T k) := Decidable.byContradiction (fun w => qk (.inl w))
    have qk2 : kd (T f) ≠ 3 := fun w => qk (.inr (.inl w))
    have qk3 : kd (T f) ≠ 2 := fun w => qk (.inr (.inr ⟨rfl, w⟩))
    rcases ef1 : T f with ⟨a, b⟩ | a | ⟨r, c, M⟩ | ⟨n, so, va⟩
    · rw [ef1] at hf hf1 sp qk1
      rcases ek1 : T k with ⟨c, e⟩ | c | ⟨r, c, M⟩ | ⟨n, so, va⟩
      · rw [ek1] at hk sp
        refine k566_18 (fun _ => ?_) (fun w => absurd rfl w)
        obtain ⟨_, p1, p2, p3, p4⟩ := hf
        obtain ⟨_, p5, p6, p7, p8⟩ := hk
        have d1 := fr_deg p1
        have d2 := fr_deg p2
        have d3 := fr_deg p5
        have d4 := fr_deg p6
        have h98 := g98.trans p1
        have h99 := g99.trans p2
        have h00 := g00.trans p5
        have h01 := g01.trans p6
        have ba := hi_b a
        have bb := hi_b b
        have bc := hi_b c
        have be := hi_b e
        have gab := gd_b a b
        have gce := gd_b c e
        have l1 := gd_lt (n := 40) d1 d2
        have l2 := gd_lt (n := 40) d3 d4
        have pb := mo_pos p3 (deg_le d2 (by decide))
        have pe := mo_pos p7 (deg_le d4 (by decide))
        refine k566_56 w1.1 (wm_mono (wq_r ?_) (V_high w1 (c := 1298) rfl h98))
        refine k566_63 w1.1 (wm_mono (wq_r ?_) (V_high w1 (c := 1299) rfl h99))
        refine k566_70 (wm_mono (wq_r ?_) (V_max (x := hi a) (y := hi b) (by unfold In3; omega) (by unfold In3; omega)))
        rw [show (if hi a > hi b then hi a else hi b) = gd a b from rfl]
        refine k566_73 w1.1 (wm_mono (wq_r ?_) (V_high w1 (c := 1300) rfl h00))
        refine k566_81 w1.1 (wm_mono (wq_r ?_) (V_high w1 (c := 1301) rfl h01))
        refine k566_88 (wm_mono (wq_r ?_) (V_max (x := hi c) (y := hi e) (by unfold In3; omega) (by unfold In3; omega)))
        rw [show (if hi c > hi e then hi c else hi e) = gd c e from rfl]
        obtain ⟨m, em⟩ : ∃ m : Nat, gd a b = m := ⟨(gd a b).toNat, by omega⟩
        obtain ⟨H, eH⟩ : ∃ H : Nat, gd c e = H := ⟨(gd c e).toNat, by omega⟩
        have em2 : (gd a b).toNat = m := by omega
        have xd := gd_deg (deg_le d3 (m := 176) (by decide)) (deg_le d4 (m := 176) (by decide)) (by omega)
        rw [show (gd c e).toNat = H by omega] at xd
        have mH : m * H ≤ 1600 := Nat.mul_le_mul (show m ≤ 40 by omega) (show H ≤ 40 by omega)
        have cst : gd a b * gd c e = ((m * H : Nat) : Int) := by rw [em, eH]; rfl
        have fin : (1 ≤ gd c e ∨ zp_ev (c.1 0) b ≠ 0) → wr sw_P (d + 7) sw_c566 sw_h566 (123, [.index 1290, vi (f : Int), vi (k : Int), vi (gd a b), vi (gd c e)], [], h1, 0, 0) (RA h (fun v s' A' => ∃ res, binS (s 1) T 0 f k (putF (s 1)) res ∧ ends s A T res v s' A')) := fun hq => by
          have nq : ¬ (gd c e < 1 ∧ zp_ev (c.1 0) b = 0) := fun w => by
            rcases hq with hq | hq
            · omega
            · exact hq w.2
          have body : ¬ (0 < gd a b ∧ 40 < gd a b * gd c e) → wr sw_P (d + 7) sw_c566 sw_h566 (142, [.index 1290, vi (f : Int), vi (k : Int), vi (gd a b), vi (gd c e)], [], h1, 0, 0) (RA h (fun v s' A' => ∃ res, binS (s 1) T 0 f k (putF (s 1)) res ∧ ends s A T res v s' A')) := fun hs => by
            have mH2 : H * m ≤ 40 := by
              rw [Nat.mul_comm]
              by_cases m0 : m = 0
              · rw [m0]; omega
              · have : ¬ 40 < gd a b * gd c e := fun w => hs ⟨by omega, w⟩
                rw [cst] at this
                omega
            have f1 := deg_le (m := 176) (fil_deg (p := a) (m := m) xd.1 xd.2 m) (by omega)
            have f2 := deg_le (m := 176) (fil_deg (p := b) (m := m) xd.1 xd.2 m) (by omega)
            have ne := fil_ne (m := m) p3 (deg_le d2 (by decide)) (by omega) p7 p8 (deg_le d3 (by decide)) (deg_le d4 (by decide)) hq
            rw [em]
            refine k566_142 w1.1 (wm_mono (wq_N (fun h2 s2 A2 w2 r2 φ => ?_)) (V_fillIn w1 (r := 1298) rfl (by decide) (by decide) (by decide) h98 h00 h01 (m := m) (by omega)))
            obtain ⟨es2, m2, x2⟩ := φ
            rw [es2] at w2
            refine k566_151 w2.1 (wm_mono (wq_Q (fun h3 w3 r3 => ?_)) (V_copy w2 (c := 1302) (e := 1310) rfl rfl (by decide)))
            refine k566_162 w3.1 (wm_mono (wq_N (fun h4 s4 A4 w4 r4 φ => ?_)) (V_fillIn w3 (r := 1299) rfl (by decide) (by decide) (by decide) (p := b) (b := c) (e := e) (by rw [up_ne _ _ (by decide), m2 1299 rfl, h99]) (by rw [up_ne _ _ (by decide), m2 1300 rfl, h00]) (by rw [up_ne _ _ (by decide), m2 1301 rfl, h01]) (m := m) (by omega)))
            obtain ⟨es4, m4, x4⟩ := φ
            rw [es4] at w4
            refine k566_171 w4.1 (wm_mono (wq_Q (fun h5 w5 r5 => ?_)) (V_copy w4 (c := 1303) (e := 1310) rfl rfl (by decide)))
            have g2 : up A4 1303 (A4 1310) 1302 = cf (fil a c e m (m + 1)) := by rw [up_ne _ _ (by decide), m4 1302 rfl, up_at, x2]
            have g3 : up A4 1303 (A4 1310) 1303 = cf (fil b c e m (m + 1)) := by rw [up_at, x4]
            refine k566_182 w5.1 (wm_mono (wq_N (fun h6 s6 A6 w6 r6 φ => ?_)) (V_lower w5 g2 g3 f1 f2 (hi_ge f2 ne)))
            obtain ⟨es6, ⟨N, D, hcn, dN, dD, gN, gD⟩, m6⟩ := φ
            rw [es6] at w6
            refine k566_186 w6.1 (wm_mono (wq_A (fun v7 h7 s7 A7 w7 r7 φ => ?_)) (V_keep w6 (by rw [s11]; exact b0) gN gD))
            rw [e1] at φ
            have mm : sm A A6 scr := sm_tr (sm_up (sm_tr (sm_up (sm_tr m1 (sm_sub m2 rfl)) _ rfl) (sm_sub m4 rfl)) _ rfl) (sm_sub m6 rfl)
            obtain ⟨res, z1, z2, z3⟩ := ends_kQ 0 hR mm dN dD hcn.2.2 hcn.2.1 φ
            obtain ⟨u, eu⟩ := ends_vi z3
            subst eu
            exact k566_191 ⟨_, h7, s7, A7, w7, FR_trans r1 (FR_trans r2 (FR_trans r3 (FR_trans r4 (FR_trans r5 (FR_trans r6 r7))))), ⟨res, sp res ⟨fun w => absurd w nq, fun _ => ⟨fun w => absurd w hs, fun _ => ⟨N, D, by rw [em2]; exact hcn, z1, z2⟩⟩⟩, z3⟩, rfl⟩
          refine k566_123 (fun q0 => body (fun w => by omega)) (fun q0 => ?_) (c1 := by unfold In3; omega)
          refine k566_127 (fun q1 => body (fun w => by omega)) (fun q1 => ?_) (c1 := by rw [cst]; unfold In3; omega)
          refine k566_136 w1.1 (wm_mono (wq_A (fun v3 h3 s3 A3 w3 r3 φ => ?_)) (V_raise w1))
          obtain ⟨y1, y2, y3⟩ := φ
          rw [e1] at y2
          subst y1
          exact k566_141 ⟨_, h3, s3, A3, w3, FR_trans r1 r3, ⟨.inr 4, sp _ ⟨fun w => absurd w nq, fun _ => ⟨fun _ => rfl, fun w => absurd ⟨by omega, by omega⟩ w⟩⟩, ends_bad hR m1 rfl y2 y3⟩, rfl⟩
        refine k566_91 (fun q0 => fin (.inl q0)) (fun q0 => ?_) (c1 := by unfold In3; omega)
        have e4 : gi (mk 176 (A1 1300)) 0 = cf c 0 := by rw [h00]; exact gi_mkn (k := 0) (by decide)
        have b4 := cf_b c 0
        refine k566_99 w1.1 (Ra_bt w1) (wm_mono (wq_r ?_) (t_valueAt (f := b) (RV_q w1 (c := 1299) rfl h99) (deg_le d2 (by decide)) (by rw [e4]; exact ⟨by omega, by omega⟩))) (c12 := by rw [mk_len]; decide)
        rw [e4, nF_cf]
        have bv := (zp_ev (c.1 0) b).isLt
        refine k566_112 (fun q1 => fin (.inr (fun w => q1 (by rw [w]; rfl)))) (fun q1 => ?_) (c1 := in6_of (by omega) (by omega))
        have v0 : zp_ev (c.1 0) b = 0 := F_ext (by show ((zp_ev (c.1 0) b).val : Int) = 0; omega)
        refine k566_117 w1.1 (wm_mono (wq_A (fun v3 h3 s3 A3 w3 r3 φ => ?_)) (V_raise w1))
        obtain ⟨y1, y2, y3⟩ := φ
        rw [e1] at y2
        subst y1
        exact k566_122 ⟨_, h3, s3, A3, w3, FR_trans r1 r3, ⟨.inr 3, sp _ ⟨fun _ => rfl, fun w => absurd ⟨by omega, v0⟩ w⟩, ends_bad hR m1 rfl y2 y3⟩, rfl⟩
      · rw [ek1] at qk1; exact (kdn qk1 rfl).elim
      · rw [ek1] at qk1; exact (kdn qk1 rfl).elim
      · rw [ek1] at qk1; exact (kdn qk1 rfl).elim
    · rw [ef1] at hf hf1 sp qk1
      rcases ek1 : T k with ⟨c, e⟩ | c | ⟨r, c, M⟩ | ⟨n, so, va⟩
      · rw [ek1] at qk1; exact (kdn qk1 rfl).elim
      · rw [ek1] at hk sp
        refine k566_18 (fun w => (kdn w rfl).elim) (fun _ => ?_)
        obtain ⟨_, p1, p2, p3⟩ := hf
        obtain ⟨_, p5, p6, p7⟩ := hk
        have e4 : gi (mk 176 (A1 1300)) 0 = cf c 0 := by rw [g00.trans p5]; exact gi_mkn (k := 0) (by decide)
        have b4 := cf_b c 0
        refine k566_21 w1.1 (Ra_bt w1) (fun q0 => ?_) (fun q0 => ?_) (c10 := by rw [mk_len]; decide) (c11 := by rw [e4]; exact in6_of (by omega) (by omega))
        · rw [e4] at q0
          have c0 : c.1 0 = 0 := cf_0 (by omega)
          refine k566_38 w1.1 (wm_mono (wq_N (fun h2 s2 A2 w2 r2 φ => ?_)) (V_putSeries w1 (r := 1298) (t := 1300) rfl rfl (by decide) (by decide) (by decide) (by decide) (g98.trans p1) (g00.trans p5)))
          obtain ⟨es2, m2, x2⟩ := φ
          rw [es2] at w2
          have dg := psr_deg a c 25
          refine k566_50 w2.1 (wm_mono (wq_A (fun v3 h3 s3 A3 w3 r3 φ => ?_)) (V_keepSeries w2 (by rw [s11]; exact b0) (f := psr a c 25) x2))
          rw [e1] at φ
          obtain ⟨res, z1, z2, z3⟩ := ends_ksQ 0 hR (sm_tr m1 (sm_sub m2 rfl)) dg (c25_cf dg) φ
          obtain ⟨u, eu⟩ := ends_vi z3
          subst eu
          exact k566_55 ⟨_, h3, s3, A3, w3, FR_trans r1 (FR_trans r2 r3), ⟨res, sp res ⟨fun w => absurd c0 w, fun _ => ⟨z1, z2⟩⟩, z3⟩, rfl⟩
        · rw [e4] at q0
          have c0 : c.1 0 ≠ 0 := fun w => q0 (by unfold cf; rw [w]; rfl)
          refine k566_32 w1.1 (wm_mono (wq_A (fun v3 h3 s3 A3 w3 r3 φ => ?_)) (V_raise w1))
          obtain ⟨y1, y2, y3⟩ := φ
          rw [e1] at y2
          subst y1
          exact k566_37 ⟨_, h3, s3, A3, w3, FR_trans r1 r3, ⟨.inr 2, sp _ ⟨fun _ => rfl, fun w => absurd w c0⟩, ends_bad hR m1 rfl y2 y3⟩, rfl⟩
      · rw [ek1] at qk1; exact (kdn qk1 rfl).elim
      · rw [ek1] at qk1; exact (kdn qk1 rfl).elim
    · rw [ef1] at qk3
      exact absurd rfl qk3
    · rw [ef1] at qk2
      exact absurd rfl qk2
end
