/-! the reference's areWholeFor, divided and combined in the picture -/
/-- the code of two whole ones and a what of two -/
def wfS (cnt : Int) (T : Nat → th) (x y z : Int) (c : Int) : Prop := ∃ c0, wS cnt T x y c0 ∧ (c0 ≠ 0 → c = c0) ∧ (c0 = 0 → c = if 0 ≤ z ∧ z ≤ 1 then 0 else 2)
def wfQ (s : Nat → Int) (A : Nat → Nat → Int) (T : Nat → th) (x y z : Int) : Term → (Nat → Int) → (Nat → Nat → Int) → Prop := fun v s1 A1 => sm A A1 scr ∧ ∃ c, wfS (s 1) T x y z c ∧ s1 = up s 0 c ∧ ((c ≠ 0 ∧ v = vi 0) ∨ (c = 0 ∧ v = vi 1 ∧ (0 ≤ z ∧ z ≤ 1) ∧ ∃ (f k : Nat) (a p : zp_R), x = f ∧ y = k ∧ (f : Int) < s 1 ∧ (k : Int) < s 1 ∧ T f = .inl (a, zp_C 1) ∧ T k = .inl (p, zp_C 1) ∧ A1 1298 = cf a ∧ A1 1300 = cf p ∧ zp_deg a 41 ∧ zp_deg p 41))
/-- what is kept of one whole thing -/
def keeps (cnt : Int) (N : zp_R) (bad : Int) (res : Sum th Int) : Prop := ((cnt = 150 ∨ 40 < hi N ∨ 40 < hi (zp_C 1)) → res = .inr bad) ∧ (¬ (cnt = 150 ∨ 40 < hi N ∨ 40 < hi (zp_C 1)) → res = .inl (th_fr N (zp_C 1)))
def divF (cnt z : Int) (t u : th) (res : Sum th Int) : Prop := match t, u with
  | .inl (a, _), .inl (p, _) => (p = zp_C 0 → res = .inr 3) ∧ (p ≠ zp_C 0 → ∃ Q R, a = zp_add (zp_mul p Q) R ∧ zp_deg R (hi p).toNat ∧ zp_deg Q 176 ∧ keeps cnt (if z = 0 then Q else R) 4 res)
  | _, _ => True
def divS (cnt : Int) (T : Nat → th) (x y z : Int) (res : Sum th Int) : Prop := ∃ c, wfS cnt T x y z c ∧ (c ≠ 0 → res = .inr c) ∧ (c = 0 → divF cnt z (T x.toNat) (T y.toNat) res)
def cmbF (cnt z : Int) (t u : th) (res : Sum th Int) : Prop := match t, u with
  | .inl (a, _), .inl (p, _) => (a = zp_C 0 ∧ p = zp_C 0 → res = .inr 2) ∧ (a ≠ zp_C 0 → p = zp_C 0 → keeps cnt (if z = 0 then zp_C (a.1 (hi a).toNat ^ 32001) else zp_C 0) 3 res) ∧ (p ≠ zp_C 0 → ∃ G S U v, isG a p G ∧ p = zp_mul G v ∧ zp_deg v 41 ∧ zp_deg S (hi v).toNat ∧ zp_deg U 176 ∧ zp_add (zp_mul S a) (zp_mul U p) = G ∧ keeps cnt (if z = 0 then S else U) 3 res)
  | _, _ => True
def cmbS (cnt : Int) (T : Nat → th) (x y z : Int) (res : Sum th Int) : Prop := ∃ c, wfS cnt T x y z c ∧ (c ≠ 0 → res = .inr c) ∧ (c = 0 → cmbF cnt z (T x.toNat) (T y.toNat) res)
section
variable {d : Nat} {h : s_H} {s : Nat → Int} {A : Nat → Nat → Int}
theorem V_areWholeFor (hv : RV h s A) {T : Nat → th} (hR : RI s A T) {x y z : Int} (hx : In3 x) (hy : In3 y) (hz : In3 z) : wm sw_P (d + 4) 403 [.index 1290, vi x, vi y, vi z] h (RA h (wfQ s A T x y z)) := by
  refine wm_in (cd := sw_c403) (nL := 4) (hd := sw_h403) rfl rfl ?_
  refine k403_0 hv.1 (wm_mono (wq_A (fun v1 h1 s1 A1 w1 r1 φ => ?_)) (V_areWhole hv hR hx hy))
  obtain ⟨m1, c, hc, e1, q⟩ := φ
  rcases q with ⟨c0, ev⟩ | ⟨c0, ev, f, k, a, p, ef, ek, lf, lk, tf, tk, g98, g00, da, dp⟩
  · rw [ev]
    exact k403_6 (fun w => absurd rfl w) (fun _ => k403_9 ⟨vi 0, h1, s1, A1, w1, r1, ⟨m1, c, ⟨c, hc, fun _ => rfl, fun w => absurd w c0⟩, e1, .inl ⟨c0, rfl⟩⟩, rfl⟩)
  · rw [ev]
    have v0 : ∀ z : Int, RV (hp h1 1290 (1, 11, (rF s1).set 0 (vi z))) (up s1 0 z) A1 := fun z => RV_fld w1 (up s1 0 z) (rF_0 s1 z)
    have r0 : ∀ z : Int, FR h1 (hp h1 1290 (1, 11, (rF s1).set 0 (vi z))) := fun z => FR_fld w1 _
    refine k403_6 (fun _ => ?_) (fun w => absurd (by decide) w)
    refine k403_11 (wm_mono (wq_r ?_) (t_in (x := z) (lo := 0) (hi := 1) (by unfold In6; unfold In3 at hz; omega) (by decide) (by decide)))
    by_cases q3 : 0 ≤ z ∧ z ≤ 1
    · rw [if_pos q3]
      refine k403_19 (fun w => absurd w (by decide)) (fun _ => k403_22 ?_)
      refine k403_27 (z10 := 0) w1.1 (hp_at w1.1) (fun w => absurd rfl w) (fun _ => k403_37 (k403_42 ?_))
      refine ⟨vi 1, _, _, _, v0 0, FR_trans r1 (r0 0), ⟨m1, 0, ⟨c, hc, fun w => absurd c0 w, fun _ => (if_pos q3).symm⟩, by rw [e1, up2], .inr ⟨rfl, rfl, q3, f, k, a, p, ef, ek, lf, lk, tf, tk, g98, g00, da, dp⟩⟩, rfl⟩
    · rw [if_neg q3]
      refine k403_19 (fun _ => k403_26 ?_) (fun w => absurd rfl w)
      refine k403_27 (z10 := 2) w1.1 (hp_at w1.1) (fun _ => k403_41 (k403_42 ?_)) (fun w => absurd (by decide) w)
      refine ⟨vi 0, _, _, _, v0 2, FR_trans r1 (r0 2), ⟨m1, 2, ⟨c, hc, fun w => absurd c0 w, fun _ => (if_neg q3).symm⟩, by rw [e1, up2], .inl ⟨by decide, rfl⟩⟩, rfl⟩
/-- the end of a call that keeps one whole thing -/
theorem ends_keeps {s : Nat → Int} {A B : Nat → Nat → Int} {T : Nat → th} {bad : Int} {N : zp_R} (c0 : Int) (h : RI s A T) (m : sm A B scr) (hN : zp_deg N 176) {v : Term} {s' : Nat → Int} {A' : Nat → Nat → Int} (φ : kQ (up s 0 c0) B bad N (zp_C 1) v s' A') : ∃ res, keeps (s 1) N bad res ∧ ends s A T res v s' A' := by
  obtain ⟨res, z1, z2, z3⟩ := ends_kQ c0 h m hN (deg_le (zp_C_deg 1) (by decide)) ⟨0, rfl, zp_C_deg 1⟩ (co_1 N) φ
  exact ⟨res, ⟨z1, z2⟩, z3⟩
theorem V_divided (hv : RV h s A) {T : Nat → th} (hR : RI s A T) {x y z : Int} (hx : In3 x) (hy : In3 y) (hz : In3 z) : wm sw_P (d + 5) 435 [.index 1290, vi x, vi y, vi z] h (RA h (fun v s' A' => ∃ res, divS (s 1) T x y z res ∧ ends s A T res v s' A')) := by
  refine wm_in (cd := sw_c435) (nL := 4) (hd := sw_h435) rfl rfl ?_
  have b0 := hR.1.1
  refine k435_0 hv.1 (wm_mono (wq_A (fun v1 h1 s1 A1 w1 r1 φ => ?_)) (V_areWholeFor hv hR hx hy hz))
  obtain ⟨m1, c, hc, e1, q⟩ := φ
  rcases q with ⟨c0, ev⟩ | ⟨c0, ev, hz2, f, k, a, p, ef, ek, lf, lk, tf, tk, g98, g00, da, dp⟩
  · rw [ev]
    refine k435_7 (fun w => absurd rfl w) (fun _ => k435_10 ⟨vi 0, h1, s1, A1, w1, r1, ⟨.inr c, ⟨c, hc, fun _ => rfl, fun w => absurd w c0⟩, ?_⟩, rfl⟩)
    rw [e1]
    exact ⟨sm_sub m1 rfl, rfl, rfl, RI_sc hR m1 rfl⟩
  · rw [ev]
    subst ef
    subst ek
    have xf : (f : Int).toNat = f := by omega
    have yk : (k : Int).toNat = k := by omega
    have s11 : s1 1 = s 1 := by rw [e1]; rfl
    have sp : ∀ res : Sum th Int, (p = zp_C 0 → res = .inr 3) ∧ (p ≠ zp_C 0 → ∃ Q R, a = zp_add (zp_mul p Q) R ∧ zp_deg R (hi p).toNat ∧ zp_deg Q 176 ∧ keeps (s 1) (if z = 0 then Q else R) 4 res) → divS (s 1) T f k z res := fun res w => ⟨c, hc, fun w2 => absurd c0 w2, fun _ => by rw [xf, yk, tf, tk]; exact w⟩
    have da6 := deg_le da (show 41 ≤ 176 by decide)
    have dp6 := deg_le dp (show 41 ≤ 176 by decide)
    have bp := hi_b p
    rw [c0] at e1
    refine k435_7 (fun _ => ?_) (fun w => absurd (by decide) w)
    refine k435_12 w1.1 (wm_mono (wq_r ?_) (V_high w1 (c := 1300) rfl g00))
    refine k435_19 (fun q1 => ?_) (fun q1 => ?_)
    · have p0 := zp_ne0 q1
      refine k435_28 w1.1 (wm_mono (wq_N (fun h2 s2 A2 w2 r2 φ => ?_)) (V_divide w1 (p := 1298) (q := 1300) rfl rfl (by decide) (by decide) (by decide) g98 g00 da6 dp6 q1))
      obtain ⟨es, Q, R, e, dR, dR6, dQ6, eA2⟩ := φ
      rw [es] at w2
      have m2 : sm A A2 scr := by rw [eA2]; exact sm_up (sm_up m1 _ rfl) _ rfl
      have go : ∀ (N : zp_R) (j : Nat), P9 j = true → j ≠ 1302 → A2 j = cf N → zp_deg N 176 → N = (if z = 0 then Q else R) → wr sw_P (d + 4) sw_c435 sw_h435 (59, [.index 1290, vi (f : Int), vi (k : Int), vi z], [.index j, .index 1302], h2, 0, 0) (RA h (fun v s' A' => ∃ res, divS (s 1) T f k z res ∧ ends s A T res v s' A')) := by
        intro N j hj hj2 eN dN hN
        refine k435_59 (wm_mono (wq_Q (fun h3 w3 r3 => ?_)) (V_copy w2 (c := 1302) (e := j) rfl hj hj2))
        refine k435_62 w3.1 (wm_mono (wq_Q (fun h4 w4 r4 => ?_)) (V_become w3 (c := 1303) rfl (z := 1) (by decide)))
        rw [nF_1] at w4
        refine k435_70 w4.1 (wm_mono (wq_A (fun v5 h5 s5 A5 w5 r5 φ => ?_)) (V_keep w4 (by rw [s11]; exact b0) (N := N) (D := zp_C 1) (by rw [up_ne _ _ (by decide), up_at, eN]) (up_at _ _ _)))
        rw [e1] at φ
        obtain ⟨res, z1, z3⟩ := ends_keeps 0 hR (sm_up (sm_up m2 _ rfl) _ rfl) dN φ
        obtain ⟨u, eu⟩ := ends_vi z3
        subst eu
        exact k435_75 ⟨_, h5, s5, A5, w5, FR_trans r1 (FR_trans r2 (FR_trans r3 (FR_trans r4 r5))), ⟨res, sp res ⟨fun w => absurd w p0, fun _ => ⟨Q, R, e, dR, dQ6, by rw [← hN]; exact z1⟩⟩, z3⟩, rfl⟩
      refine k435_40 w2.1 (fun q2 => ?_) (fun q2 => ?_)
      · exact k435_55 w2.1 (go R 1298 rfl (by decide) (by rw [eA2, up_at]) dR6 (if_neg q2).symm)
      · exact k435_48 w2.1 (go Q 1305 rfl (by decide) (by rw [eA2, up_ne _ _ (by decide), up_at]) dQ6 (if_pos (by omega)).symm)
    · refine k435_22 w1.1 (wm_mono (wq_A (fun v3 h3 s3 A3 w3 r3 φ => ?_)) (V_raise w1))
      obtain ⟨y1, y2, y3⟩ := φ
      rw [e1] at y2
      subst y1
      exact k435_27 ⟨_, h3, s3, A3, w3, FR_trans r1 r3, ⟨.inr 3, sp _ ⟨fun _ => rfl, fun w => absurd (fr_0 dp6 q1) w⟩, ends_bad hR m1 rfl y2 y3⟩, rfl⟩
theorem cb_h1 {R : Type} [Lean.Grind.CommRing R] {a p G u v S w m : R} (ea : a = G * u) (ep : p = G * v) (e : S * u + w * v = 1) (hm : m = -1) : G + m * (S * a) = p * w := by grind
theorem cb_h2 {R : Type} [Lean.Grind.CommRing R] {a p G S U m x : R} (e : G + m * (S * a) = p * U) (hm : m = -1) : S * a + U * p = G := by grind
theorem cb_h3 {R : Type} [Lean.Grind.CommRing R] {u x c l : R} (e : c * l = 1) : 0 * u + c * l = 1 := by grind
theorem cb_h4 {R : Type} [Lean.Grind.CommRing R] {p Q w r : R} (e : p * w = p * Q + r) : p * (w + -Q) = r := by grind
theorem exact_div2 {p f w Q r : zp_R} (p0 : 0 ≤ hi p) (dp : zp_deg p 176) (e1 : f = zp_mul p w) (e : f = zp_add (zp_mul p Q) r) (dr : zp_deg r (hi p).toNat) : w = Q := by
  have l := hi_lead (f := p) (by omega)
  have m := mkm_mo dp (by omega)
  rw [mkm_c (by omega)] at m
  have a1 : zp_mul p (zp_add w (zp_neg Q)) = r := @cb_h4 zp_R zp_ring p Q w r (e1.symm.trans e)
  have a2 : zp_mul (zp_mul (zp_C (p.1 (hi p).toNat ^ 32001)) p) (zp_add w (zp_neg Q)) = zp_mul (zp_C (p.1 (hi p).toNat ^ 32001)) r := by
    rw [← a1]; exact @cb_h5 zp_R zp_ring _ _ _
  have d0 := zp_monic_deg (t := 0) m.1 m.2 (W := zp_add w (zp_neg Q)) (by rw [a2]; exact deg_Cm _ (deg_le dr (by omega)))
  exact @cn_h2 zp_R zp_ring w Q (zp_zero_of d0)
where cb_h5 : ∀ {R : Type} [Lean.Grind.CommRing R] (a b c : R), a * b * c = a * (b * c) := by intro R _ a b c; grind
theorem isG_mo {a p G : zp_R} (hG : isG a p G) (p0 : p ≠ zp_C 0) : mo G := by
  obtain ⟨_, ⟨q, e⟩, _, g⟩ := hG
  exact g.resolve_left (fun z => p0 (by rw [e, z, zp_h20R, zp_mul0]))
theorem isG_co {a p G u v : zp_R} (hG : isG a p G) (mG : mo G) (e1 : a = zp_mul G u) (e2 : p = zp_mul G v) : co u v := by
  obtain ⟨_, _, ⟨x, y, l⟩, _⟩ := hG
  have w1 := mo_ne mG (@cn_h3 zp_R zp_ring a p G x y u v l e1 e2)
  exact ⟨x, y, by rw [zp_C1]; exact @cn_h4 zp_R zp_ring _ w1⟩
theorem V_combined (hv : RV h s A) {T : Nat → th} (hR : RI s A T) {x y z : Int} (hx : In3 x) (hy : In3 y) (hz : In3 z) : wm sw_P (d + 6) 421 [.index 1290, vi x, vi y, vi z] h (RA h (fun v s' A' => ∃ res, cmbS (s 1) T x y z res ∧ ends s A T res v s' A')) := by
  refine wm_in (cd := sw_c421) (nL := 4) (hd := sw_h421) rfl rfl ?_
  have b0 := hR.1.1
  refine k421_0 hv.1 (wm_mono (wq_A (fun v1 h1 s1 A1 w1 r1 φ => ?_)) (V_areWholeFor hv hR hx hy hz))
  obtain ⟨m1, c, hc, e1, q⟩ := φ
  rcases q with ⟨c0, ev⟩ | ⟨c0, ev, hz2, f, k, a, p, ef, ek, lf, lk, tf, tk, g98, g00, da, dp⟩
  · rw [ev]
    refine k421_7 (fun w => absurd rfl w) (fun _ => k421_10 ⟨vi 0, h1, s1, A1, w1, r1, ⟨.inr c, ⟨c, hc, fun _ => rfl, fun w => absurd w c0⟩, ?_⟩, rfl⟩)
    rw [e1]
    exact ⟨sm_sub m1 rfl, rfl, rfl, RI_sc hR m1 rfl⟩
  · rw [ev]
    subst ef
    subst ek
    have xf : (f : Int).toNat = f := by omega
    have yk : (k : Int).toNat = k := by omega
    have s11 : s1 1 = s 1 := by rw [e1]; rfl
    have sp : ∀ res : Sum th Int, cmbF (s 1) z (.inl (a, zp_C 1)) (.inl (p, zp_C 1)) res → cmbS (s 1) T f k z res := fun res w => ⟨c, hc, fun w2 => absurd c0 w2, fun _ => by rw [xf, yk, tf, tk]; exact w⟩
    have da6 := deg_le da (show 41 ≤ 176 by decide)
    have dp6 := deg_le dp (show 41 ≤ 176 by decide)
    have ba := hi_b a
    have bp := hi_b p
    rw [c0] at e1
    have go : ¬ (a = zp_C 0 ∧ p = zp_C 0) → wr sw_P (d + 5) sw_c421 sw_h421 (38, [.index 1290, vi (f : Int), vi (k : Int), vi z], [], h1, 0, 0) (RA h (fun v s' A' => ∃ res, cmbS (s 1) T f k z res ∧ ends s A T res v s' A')) := by
      intro hne
      refine k421_38 w1.1 (wm_mono (wq_Q (fun h2 w2 r2 => ?_)) (V_become w1 (c := 1303) rfl (z := 1) (by decide)))
      rw [nF_1] at w2
      refine k421_46 w2.1 (wm_mono (wq_N (fun h3 s3 A3 w3 r3 φ => ?_)) (V_commonOf w2 (p := 1298) (q := 1300) rfl rfl (by decide) (by decide) (by decide) (by rw [up_ne _ _ (by decide), g98]) (by rw [up_ne _ _ (by decide), g00]) da6 dp6))
      obtain ⟨es3, ⟨G, hG, dG, eG⟩, m3⟩ := φ
      rw [es3] at w3
      have r3' := FR_trans r1 (FR_trans r2 r3)
      have h98 : A3 1298 = cf a := by rw [m3 1298 rfl, up_ne _ _ (by decide), g98]
      have h00 : A3 1300 = cf p := by rw [m3 1300 rfl, up_ne _ _ (by decide), g00]
      have h03 : A3 1303 = cf (zp_C 1) := by rw [m3 1303 rfl, up_at]
      have mm3 : sm A A3 scr := sm_tr (sm_up m1 _ rfl) (sm_sub m3 rfl)
      refine k421_58 w3.1 (wm_mono (wq_Q (fun h4 w4 r4 => ?_)) (V_copy w3 (c := 1312) (e := 1306) rfl rfl (by decide)))
      refine k421_69 w4.1 (wm_mono (wq_r ?_) (V_high w4 (c := 1300) rfl (by rw [up_ne _ _ (by decide), h00])))
      refine k421_76 (fun q1 => ?_) (fun q1 => ?_)
      · have p0 := zp_ne0 q1
        have mG := isG_mo hG p0
        have iG := mo_hi mG dG
        obtain ⟨u, eu⟩ := hG.1
        obtain ⟨v, evv⟩ := hG.2.1
        have huv := isG_co hG mG eu evv
        refine k421_115 w4.1 (wm_mono (wq_Q (fun h5 w5 r5 => ?_)) (V_copy w4 (c := 1310) (e := 1298) rfl rfl (by decide)))
        refine k421_126 w5.1 (wm_mono (wq_N (fun h6 s6 A6 w6 r6 φ => ?_)) (V_divideBy w5 (p := 1310) (q := 1312) rfl rfl (by decide) (by decide) (by decide) (f := a) (g := G) (by rw [up_at, up_ne _ _ (by decide), h98]) (by rw [up_ne _ _ (by decide), up_at, eG]) da6 dG iG.1))
        obtain ⟨es6, Q, R, x1, x2, x3, x4, eA6⟩ := φ
        rw [es6] at w6
        have y1 := exact_div mG dG x1 x2 eu
        rw [← y1] at x4 eA6
        refine k421_138 w6.1 (wm_mono (wq_Q (fun h7 w7 r7 => ?_)) (V_copy w6 (c := 1311) (e := 1300) rfl rfl (by decide)))
        have l00 : A6 1300 = cf p := by rw [eA6, up_ne _ _ (by decide), up_ne _ _ (by decide), up_ne _ _ (by decide), up_ne _ _ (by decide), up_ne _ _ (by decide), h00]
        have l98 : A6 1298 = cf a := by rw [eA6, up_ne _ _ (by decide), up_ne _ _ (by decide), up_ne _ _ (by decide), up_ne _ _ (by decide), up_ne _ _ (by decide), h98]
        have l12 : A6 1312 = cf G := by rw [eA6, up_ne _ _ (by decide), up_ne _ _ (by decide), up_ne _ _ (by decide), up_ne _ _ (by decide), up_at, eG]
        have l03 : A6 1303 = cf (zp_C 1) := by rw [eA6, up_ne _ _ (by decide), up_ne _ _ (by decide), up_ne _ _ (by decide), up_ne _ _ (by decide), up_ne _ _ (by decide), h03]
        have l10 : A6 1310 = cf u := by rw [eA6, up_at]
        have mm6 : sm A A6 scr := by rw [eA6]; exact sm_up (sm_up (sm_up (sm_up (sm_up mm3 _ rfl) _ rfl) _ rfl) _ rfl) _ rfl
        refine k421_149 w7.1 (wm_mono (wq_N (fun h8 s8 A8 w8 r8 φ => ?_)) (V_divideBy w7 (p := 1311) (q := 1312) rfl rfl (by decide) (by decide) (by decide) (f := p) (g := G) (by rw [up_at, l00]) (by rw [up_ne _ _ (by decide), l12]) dp6 dG iG.1))
        obtain ⟨es8, Q8, R8, z1, z2, z3, z4, eA8⟩ := φ
        rw [es8] at w8
        have y2 := exact_div mG dG z1 z2 evv
        rw [← y2] at z4 eA8
        refine k421_161 w8.1 (wm_mono (wq_Q (fun h9 w9 r9 => ?_)) (V_empty w8 (c := 1308) rfl))
        have n11 : up A8 1308 (cf (zp_C 0)) 1311 = cf v := by rw [up_ne _ _ (by decide), eA8, up_at]
        have n10 : up A8 1308 (cf (zp_C 0)) 1310 = cf u := by rw [eA8]; (repeat rw [up_ne _ _ (by decide)]); exact l10
        have n00 : up A8 1308 (cf (zp_C 0)) 1300 = cf p := by rw [eA8]; (repeat rw [up_ne _ _ (by decide)]); exact l00
        have n98 : up A8 1308 (cf (zp_C 0)) 1298 = cf a := by rw [eA8]; (repeat rw [up_ne _ _ (by decide)]); exact l98
        have n12 : up A8 1308 (cf (zp_C 0)) 1312 = cf G := by rw [eA8]; (repeat rw [up_ne _ _ (by decide)]); exact l12
        have n03 : up A8 1308 (cf (zp_C 0)) 1303 = cf (zp_C 1) := by rw [eA8]; (repeat rw [up_ne _ _ (by decide)]); exact l03
        have mm9 : sm A (up A8 1308 (cf (zp_C 0))) scr := by rw [eA8]; exact sm_up (sm_up (sm_up (sm_up (sm_up mm6 _ rfl) _ rfl) _ rfl) _ rfl) _ rfl
        have r9' := FR_trans r3' (FR_trans r4 (FR_trans r5 (FR_trans r6 (FR_trans r7 (FR_trans r8 r9)))))
        have v0 : 0 ≤ hi v := hi_ge z4 (fun w => p0 (by rw [evv, w, zp_mul0]))
        have dv41 : zp_deg v 41 := by
          obtain ⟨q0, q1', q2'⟩ := iG
          exact zp_monic_deg q1' q2' (t := 41) (by rw [← evv]; exact deg_le dp (by omega))
        have bv := hi_lt dv41 (Nat.le_refl _)
        have fin : ∀ (S : zp_R) (B : Nat → Nat → Int) (h' : s_H), RV h' s1 B → FR h h' → sm A B scr → B 1308 = cf S → B 1300 = cf p → B 1298 = cf a → B 1312 = cf G → B 1303 = cf (zp_C 1) → ivM u v S → zp_deg S (hi v).toNat → zp_deg S 176 → wr sw_P (d + 5) sw_c421 sw_h421 (190, [.index 1290, vi (f : Int), vi (k : Int), vi z], [], h', 0, 0) (RA h (fun v s' A' => ∃ res, cmbS (s 1) T f k z res ∧ ends s A T res v s' A')) := by
          intro S B h' vB rB mB b08 b00 b98 b12 b03 ⟨w, hw⟩ dS dS6
          have dS41 := deg_le dS (show (hi v).toNat ≤ 41 by omega)
          have k1 := @cb_h1 zp_R zp_ring a p G u v S w (zp_C (nF (-1))) eu evv hw C_m1
          refine k421_190 vB.1 (wm_mono (wq_Q (fun ha va ra => ?_)) (V_copy vB (c := 1302) (e := 1308) rfl rfl (by decide)))
          refine k421_201 (fun q2 => ?_) (fun q2 => ?_)
          · refine k421_211 va.1 (wm_mono (wq_Q (fun hb vb rb => ?_)) (V_multiply va (p := 1308) (q := 1298) rfl rfl (by decide) (by decide) (by rw [up_ne _ _ (by decide), b08]) (by rw [up_ne _ _ (by decide), b98])))
            refine k421_223 vb.1 (wm_mono (wq_Q (fun hc' vc rc' => ?_)) (V_copy vb (c := 1302) (e := 1312) rfl rfl (by decide)))
            have c02 : up (up (up B 1302 (B 1308)) 1304 (cf (zp_mul S a))) 1302 (up (up B 1302 (B 1308)) 1304 (cf (zp_mul S a)) 1312) 1302 = cf G := by rw [up_at, up_ne _ _ (by decide), up_ne _ _ (by decide), b12]
            refine k421_234 vc.1 (wm_mono (wq_Q (fun hd' vd rd => ?_)) (V_more vc (c := 1302) (e := 1304) rfl rfl (by decide) (f := G) (g := zp_mul S a) c02 (by rw [up_ne _ _ (by decide), up_at]) (z := -1) (by decide)))
            have dN : zp_deg (zp_add G (zp_mul (zp_C (nF (-1))) (zp_mul S a))) 176 := deg_add dG (deg_Cm _ (deg_mul81 dS41 da))
            refine k421_248 vd.1 (wm_mono (wq_N (fun he se Ae we re φ => ?_)) (V_divideBy vd (p := 1302) (q := 1300) rfl rfl (by decide) (by decide) (by decide) (up_at _ _ _) (by rw [up_ne _ _ (by decide), up_ne _ _ (by decide), up_ne _ _ (by decide), up_ne _ _ (by decide), b00]) dN dp6 q1))
            obtain ⟨ese, U, Re, u1, u2, u3, u4, eAe⟩ := φ
            rw [ese] at we
            have y3 := exact_div2 q1 dp6 k1 u1 u2
            rw [y3] at k1
            refine k421_260 we.1 (wm_mono (wq_A (fun v5 h5 s5 A5 w5 r5 φ => ?_)) (V_keep we (by rw [s11]; exact b0) (N := U) (D := zp_C 1) (by rw [eAe, up_at]) (by rw [eAe, up_ne _ _ (by decide), up_ne _ _ (by decide), up_ne _ _ (by decide), up_ne _ _ (by decide), up_ne _ _ (by decide), up_ne _ _ (by decide), up_ne _ _ (by decide), b03])))
            rw [e1] at φ
            obtain ⟨res, t1, t3⟩ := ends_keeps 0 hR (by rw [eAe]; exact sm_up (sm_up (sm_up (sm_up (sm_up (sm_up (sm_up mB _ rfl) _ rfl) _ rfl) _ rfl) _ rfl) _ rfl) _ rfl) u4 φ
            obtain ⟨u', eu'⟩ := ends_vi t3
            subst eu'
            exact k421_265 ⟨_, h5, s5, A5, w5, FR_trans rB (FR_trans ra (FR_trans rb (FR_trans rc' (FR_trans rd (FR_trans re r5))))), ⟨res, sp res ⟨fun w => absurd w.2 p0, fun _ w => absurd w p0, fun _ => ⟨G, S, U, v, hG, evv, dv41, dS, u4, @cb_h2 zp_R zp_ring a p G S U _ (zp_C 0) k1 C_m1, by rw [if_neg q2]; exact t1⟩⟩, t3⟩, rfl⟩
          · refine k421_205 va.1 (wm_mono (wq_A (fun v5 h5 s5 A5 w5 r5 φ => ?_)) (V_keep va (by rw [s11]; exact b0) (N := S) (D := zp_C 1) (by rw [up_at, b08]) (by rw [up_ne _ _ (by decide), b03])))
            rw [e1] at φ
            obtain ⟨res, t1, t3⟩ := ends_keeps 0 hR (sm_up mB _ rfl) dS6 φ
            obtain ⟨u', eu'⟩ := ends_vi t3
            subst eu'
            refine k421_210 ⟨_, h5, s5, A5, w5, FR_trans rB (FR_trans ra r5), ⟨res, sp res ⟨fun w => absurd w.2 p0, fun _ w => absurd w p0, fun _ => ⟨G, S, cut w 176, v, hG, evv, dv41, dS, cut_deg _ _, ?_, by rw [if_pos (by omega)]; exact t1⟩⟩, t3⟩, rfl⟩
            have dN : zp_deg (zp_add G (zp_mul (zp_C (nF (-1))) (zp_mul S a))) 176 := deg_add dG (deg_Cm _ (deg_mul81 dS41 da))
            have dw : zp_deg w 176 := by
              have l := hi_lead (f := p) (by omega)
              have m := mkm_mo dp6 (by omega)
              rw [mkm_c (by omega)] at m
              refine zp_monic_deg (t := 176) m.1 m.2 (W := w) ?_
              rw [show zp_mul (zp_mul (zp_C (p.1 (hi p).toNat ^ 32001)) p) w = zp_mul (zp_C (p.1 (hi p).toNat ^ 32001)) (zp_mul p w) from @exact_div2.cb_h5 zp_R zp_ring _ _ _, show zp_mul p w = zp_add G (zp_mul (zp_C (nF (-1))) (zp_mul S a)) from k1.symm]
              exact deg_Cm _ (deg_le dN (by omega))
            have ew : cut w 176 = w := zp_ext (fun i => by
              show (if i < 176 then w.1 i else 0) = w.1 i
              by_cases hi2 : i < 176
              · rw [if_pos hi2]
              · rw [if_neg hi2, dw i (by omega)])
            rw [ew]
            exact @cb_h2 zp_R zp_ring a p G S w _ (zp_C 0) k1 C_m1
        refine k421_168 w9.1 (wm_mono (wq_r ?_) (V_high w9 (c := 1311) rfl n11))
        refine k421_175 (fun q2 => ?_) (fun q2 => ?_)
        · obtain ⟨t1, t2⟩ := hi_top v0 z4
          rw [show (hi v).toNat = 0 by omega] at t1 t2
          exact fin (zp_C 0) _ h9 w9 r9' mm9 (up_at _ _ _) n00 n98 n12 n03 ⟨_, @cb_h3 zp_R zp_ring u (zp_C 0) _ _ (C_inv t2 t1)⟩ (fun i hi2 => zp_C00 i) (fun i hi2 => zp_C00 i)
        · refine k421_178 w9.1 (wm_mono (wq_N (fun ha sa Aa wa ra φ => ?_)) (V_invert w9 n10 n11 x4 (deg_le dv41 (by decide)) (by omega) huv))
          obtain ⟨esa, ⟨S, i1, i2, i3, i4⟩, ma⟩ := φ
          rw [esa] at wa
          exact fin S Aa ha wa (FR_trans r9' ra) (sm_tr mm9 (sm_sub ma rfl)) i4 (by rw [ma 1300 rfl, n00]) (by rw [ma 1298 rfl, n98]) (by rw [ma 1312 rfl, n12]) (by rw [ma 1303 rfl, n03]) i1 i2 i3
      · have p0 := fr_0 dp6 q1
        have a0 : a ≠ zp_C 0 := fun w => hne ⟨w, p0⟩
        have ha0 := hi_ge da6 a0
        have mm4 : sm A (up A3 1312 (A3 1306)) scr := sm_up mm3 _ rfl
        have go2 : ∀ (zv : Int), (0 ≤ zv ∧ zv < 32003) → zp_C (nF zv) = (if z = 0 then zp_C (a.1 (hi a).toNat ^ 32001) else zp_C 0) → wr sw_P (d + 5) sw_c421 sw_h421 (106, [.index 1290, vi (f : Int), vi (k : Int), vi z], [vl zv, .index 1302], h4, 0, 0) (RA h (fun v s' A' => ∃ res, cmbS (s 1) T f k z res ∧ ends s A T res v s' A')) := by
          intro zv hzv ezv
          refine k421_106 (wm_mono (wq_Q (fun h5 w5 r5 => ?_)) (V_become w4 (c := 1302) rfl (z := zv) (in6_of (by omega) (by omega))))
          refine k421_109 w5.1 (wm_mono (wq_A (fun v6 h6 s6 A6 w6 r6 φ => ?_)) (V_keep w5 (by rw [s11]; exact b0) (N := zp_C (nF zv)) (D := zp_C 1) (up_at _ _ _) (by rw [up_ne _ _ (by decide), up_ne _ _ (by decide), h03])))
          rw [e1] at φ
          obtain ⟨res, t1, t3⟩ := ends_keeps 0 hR (sm_up mm4 _ rfl) (deg_le (zp_C_deg _) (by decide)) φ
          obtain ⟨u', eu'⟩ := ends_vi t3
          subst eu'
          exact k421_114 ⟨_, h6, s6, A6, w6, FR_trans r3' (FR_trans r4 (FR_trans r5 r6)), ⟨res, sp res ⟨fun w => absurd w.1 a0, fun _ _ => by rw [← ezv]; exact t1, fun w => absurd p0 w⟩, t3⟩, rfl⟩
        have h498 : up A3 1312 (A3 1306) 1298 = cf a := by rw [up_ne _ _ (by decide), h98]
        refine k421_79 w4.1 (fun q2 => ?_) (fun q2 => ?_)
        · exact k421_105 (go2 0 (by decide) (by rw [if_neg q2, nF_0]))
        · refine k421_87 w4.1 (wm_mono (wq_r ?_) (V_high w4 (c := 1298) rfl h498))
          have e4 : gi (mk 176 (up A3 1312 (A3 1306) 1298)) (hi a) = cf a (hi a).toNat := by rw [h498]; exact gi_mk (by omega) (by omega)
          have b4 := cf_b a (hi a).toNat
          refine k421_98 (RV_l w4 (c := 1298) rfl) (wm_mono (wq_r ?_) (t_inverse (by rw [e4]; exact in6_of (by omega) (by omega)))) (c4 := by rw [mk_len]; omega)
          have bz := ((nF (gi (mk 176 (up A3 1312 (A3 1306) 1298)) (hi a))) ^ 32001 : zp_F).isLt
          refine k421_102 (go2 _ ⟨by omega, by omega⟩ ?_)
          rw [if_pos (by omega), nF_val, e4, nF_cf]
    refine k421_7 (fun _ => ?_) (fun w => absurd (by decide) w)
    refine k421_12 w1.1 (wm_mono (wq_r ?_) (V_high w1 (c := 1298) rfl g98))
    refine k421_19 (fun q1 => go (fun w => zp_ne0 q1 w.1)) (fun q1 => ?_)
    refine k421_22 w1.1 (wm_mono (wq_r ?_) (V_high w1 (c := 1300) rfl g00))
    refine k421_29 (fun q2 => go (fun w => zp_ne0 q2 w.2)) (fun q2 => ?_)
    refine k421_32 w1.1 (wm_mono (wq_A (fun v3 h3 s3 A3 w3 r3 φ => ?_)) (V_raise w1))
    obtain ⟨y1, y2, y3⟩ := φ
    rw [e1] at y2
    subst y1
    have a0 := fr_0 da6 q1
    have p0 := fr_0 dp6 q2
    exact k421_37 ⟨_, h3, s3, A3, w3, FR_trans r1 r3, ⟨.inr 2, sp _ ⟨fun _ => rfl, fun w => absurd a0 w, fun w => absurd p0 w⟩, ends_bad hR m1 rfl y2 y3⟩, rfl⟩
end
