/-! the reference: lowest terms -/
theorem hi_mo {f : zp_R} {n : Nat} (h1 : f.1 n = 1) (h2 : zp_deg f (n + 1)) (hd : zp_deg f 176) : hi f = n := by
  have b := hi_lt h2 (Nat.le_refl _)
  refine Int.le_antisymm (by omega) (Int.not_lt.mp (fun q => ?_))
  have := hi_deg hd n (by omega)
  exact zp_F10 (h1.symm.trans this)
theorem mo_hi {f : zp_R} (h : mo f) (hd : zp_deg f 176) : 0 ≤ hi f ∧ f.1 (hi f).toNat = 1 ∧ zp_deg f ((hi f).toNat + 1) := by
  obtain ⟨n, h1, h2⟩ := h
  have := hi_mo h1 h2 hd
  rw [show (hi f).toNat = n by omega]
  exact ⟨by omega, h1, h2⟩
theorem mo_ne {G W : zp_R} (h : mo G) (e : zp_mul G W = zp_C 0) : W = zp_C 0 := by
  obtain ⟨n, h1, h2⟩ := h
  exact zp_zero_of (zp_monic_deg h1 h2 (t := 0) (by rw [e]; intro i hi2; show (if i = 0 then (0 : zp_F) else 0) = 0; split <;> rfl))
theorem cn_h1 {R : Type} [Lean.Grind.CommRing R] {f G Q q r : R} (e : f = G * Q + r) (e2 : f = G * q) : G * (q + -Q) = r := by grind
theorem cn_h2 {R : Type} [Lean.Grind.CommRing R] {q Q : R} (e : q + -Q = 0) : q = Q := by grind
theorem cn_h3 {R : Type} [Lean.Grind.CommRing R] {n d G u v q p : R} (e : G = u * n + v * d) (e1 : n = G * q) (e2 : d = G * p) : G * (u * q + v * p + -1) = 0 := by grind
theorem cn_h4 {R : Type} [Lean.Grind.CommRing R] {x : R} (e : x + -1 = 0) : x = 1 := by grind
theorem cn_h5 {R : Type} [Lean.Grind.CommRing R] {u v q p c l : R} (e : u * q + v * p = 1) (e1 : c * l = 1) : (u * l) * (c * q) + (v * l) * (c * p) = 1 := by grind
theorem cn_h6 {R : Type} [Lean.Grind.CommRing R] {n d G q p c : R} (e1 : n = G * q) (e2 : d = G * p) : n * (c * p) = (c * q) * d := by grind
theorem zp_h20R {a b : zp_R} : zp_mul a b = zp_mul b a := @zp_h20 zp_R zp_ring a b
theorem cn_h7 {R : Type} [Lean.Grind.CommRing R] (d : R) : 0 * 1 = 0 * d ∧ (0 : R) * 0 + 1 * 1 = 1 := by grind
theorem exact_div {G f Q r q : zp_R} (hG : mo G) (hd : zp_deg G 176) (e : f = zp_add (zp_mul G Q) r) (dr : zp_deg r (hi G).toNat) (e2 : f = zp_mul G q) : q = Q := by
  obtain ⟨_, h1, h2⟩ := mo_hi hG hd
  have a := @cn_h1 zp_R zp_ring f G Q q r e e2
  have : zp_deg (zp_add q (zp_neg Q)) 0 := zp_monic_deg h1 h2 (t := 0) (by
    intro i hi2
    have a' : zp_mul G (zp_add q (zp_neg Q)) = r := a
    rw [a']; exact dr i hi2)
  exact @cn_h2 zp_R zp_ring q Q (zp_zero_of this)
/-- N through D is n through d in lowest terms, D monic -/
def cn (n d N D : zp_R) : Prop := zp_mul n D = zp_mul N d ∧ (∃ u v, zp_add (zp_mul u N) (zp_mul v D) = zp_C 1) ∧ mo D
theorem cn_0 (d : zp_R) : cn (zp_C 0) d (zp_C 0) (zp_C 1) := by
  have := @cn_h7 zp_R zp_ring d
  refine ⟨?_, ⟨zp_C 0, zp_C 1, ?_⟩, ⟨0, rfl, zp_C_deg 1⟩⟩
  · rw [zp_C1]; exact this.1
  · rw [zp_C1]; exact this.2
theorem zp_mul0 (G : zp_R) : zp_mul G (zp_C 0) = zp_C 0 := @zp_h15 zp_R zp_ring G
theorem zp_C00 (i : Nat) : (zp_C 0).1 i = 0 := by
  show (if i = 0 then (0 : zp_F) else 0) = 0
  split <;> rfl
theorem zp_ne0 {f : zp_R} (h : 0 ≤ hi f) : f ≠ zp_C 0 := fun q => by
  subst q
  exact hi_ne (f := zp_C 0) (n := (hi (zp_C 0)).toNat) (by omega) (zp_C00 _)
theorem V_lower {d : Nat} {h : s_H} {s : Nat → Int} {A : Nat → Nat → Int} {n m : zp_R} (hv : RV h s A) (hf : A 1302 = cf n) (hg : A 1303 = cf m) (hdn : zp_deg n 176) (hdm : zp_deg m 176) (hm0 : 0 ≤ hi m) : wm sw_P (d + 6) 516 [.index 1290] h (RN h (fun s' A' => s' = s ∧ (∃ N D, cn n m N D ∧ zp_deg N 176 ∧ zp_deg D 176 ∧ A' 1302 = cf N ∧ A' 1303 = cf D) ∧ sm A A' [1302, 1303, 1305, 1306, 1307])) := by
  refine wm_in (cd := sw_c516) (nL := 3) (hd := sw_h516) rfl rfl ?_
  have bn := hi_b n
  refine k516_0 hv.1 (wm_mono (wq_r (k516_7 (fun q => ?_) (fun q => ?_))) (V_high hv (c := 1302) rfl hf))
  · refine k516_19 hv.1 (wm_mono (wq_N (fun h1 s1 A1 v1 r1 φ => ?_)) (V_commonOf hv (p := 1302) (q := 1303) rfl rfl (by decide) (by decide) (by decide) hf hg hdn hdm))
    obtain ⟨es, ⟨G, hG, dG, eG⟩, m1⟩ := φ
    rw [es] at v1
    obtain ⟨⟨q1, d1⟩, ⟨q2, d2⟩, ⟨u, v, l⟩, g0⟩ := hG
    have hn0 := zp_ne0 q
    have moG : mo G := g0.resolve_left (fun z => hn0 (by rw [d1, z, zp_h20R, zp_mul0]))
    have hiG := mo_hi moG dG
    have f1 : A1 1302 = cf n := by rw [m1 1302 rfl, hf]
    have f2 : A1 1303 = cf m := by rw [m1 1303 rfl, hg]
    refine k516_31 v1.1 (wm_mono (wq_N (fun h2 s2 A2 v2 r2 φ => ?_)) (V_divideBy v1 (p := 1302) (q := 1306) rfl rfl (by decide) (by decide) (by decide) f1 eG hdn dG hiG.1))
    obtain ⟨es2, Q, R, x1, x2, x3, x4, eA2⟩ := φ
    rw [es2] at v2
    have y1 := exact_div moG dG x1 x2 d1
    have f3 : A2 1303 = cf m := by rw [eA2, up_ne _ _ (by decide), up_ne _ _ (by decide), up_ne _ _ (by decide), f2]
    have f4 : A2 1306 = cf G := by rw [eA2, up_ne _ _ (by decide), up_ne _ _ (by decide), up_ne _ _ (by decide), eG]
    have f5 : A2 1302 = cf q1 := by rw [eA2, up_at, y1]
    refine k516_43 v2.1 (wm_mono (wq_N (fun h3 s3 A3 v3 r3 φ => ?_)) (V_divideBy v2 (p := 1303) (q := 1306) rfl rfl (by decide) (by decide) (by decide) f3 f4 hdm dG hiG.1))
    obtain ⟨es3, Q3, R3, z1, z2, z3, z4, eA3⟩ := φ
    rw [es3] at v3
    have y2 := exact_div moG dG z1 z2 d2
    have f6 : A3 1302 = cf q1 := by rw [eA3, up_ne _ _ (by decide), up_ne _ _ (by decide), up_ne _ _ (by decide), f5]
    have f7 : A3 1303 = cf q2 := by rw [eA3, up_at, y2]
    rw [← y1] at x4
    rw [← y2] at z4
    have q20 : ¬ hi q2 < 0 := fun z => zp_ne0 hm0 (by rw [d2, hi_0 z4 z, zp_mul0])
    have bq := hi_b q2
    refine k516_55 v3.1 (wm_mono (wq_r ?_) (V_high v3 (c := 1303) rfl f7))
    have e1 : gi (mk 176 (A3 1303)) (hi q2) = cf q2 (hi q2).toNat := by rw [f7]; exact gi_mk (by omega) (by omega)
    have b1 := cf_b q2 (hi q2).toNat
    refine k516_66 (RV_l v3 (c := 1303) rfl) (wm_mono (wq_r ?_) (t_inverse (by rw [e1]; exact ⟨by omega, by omega⟩))) (c4 := by rw [mk_len]; omega)
    have bz := ((nF (gi (mk 176 (A3 1303)) (hi q2))) ^ 32001 : zp_F).isLt
    refine k516_70 v3.1 (wm_mono (wq_Q (fun h4 v4 r4 => ?_)) (V_scale v3 (c := 1302) rfl f6 ⟨by omega, by omega⟩))
    refine k516_79 v4.1 (wm_mono (wq_Q (fun h5 v5 r5 => ?_)) (V_scale v4 (c := 1303) rfl (f := q2) (by rw [up_ne _ _ (by decide), f7]) ⟨by omega, by omega⟩))
    have ez : nF (((nF (gi (mk 176 (A3 1303)) (hi q2))) ^ 32001 : zp_F).val : Int) = q2.1 (hi q2).toNat ^ 32001 := by rw [nF_val, e1, nF_cf]
    rw [ez] at v5
    have mA : sm A A3 [1302, 1303, 1305, 1306, 1307] := by
      rw [eA3, eA2]
      exact sm_up (sm_up (sm_up (sm_up (sm_up (sm_up (sm_sub m1 rfl) _ rfl) _ rfl) _ rfl) _ rfl) _ rfl) _ rfl
    refine k516_87 ⟨h5, s, _, v5, FR_trans r1 (FR_trans r2 (FR_trans r3 (FR_trans r4 r5))), ⟨rfl, ⟨zp_mul (zp_C (q2.1 (hi q2).toNat ^ 32001)) q1, zp_mul (zp_C (q2.1 (hi q2).toNat ^ 32001)) q2, ⟨?_, ?_, ?_⟩, ?_, ?_, ?_, ?_⟩, sm_up (sm_up mA _ rfl) _ rfl⟩, rfl⟩
    · exact @cn_h6 zp_R zp_ring n m G q1 q2 _ d1 d2
    · have w1 : zp_add (zp_add (zp_mul u q1) (zp_mul v q2)) (zp_neg (letI := zp_ring; (1 : zp_R))) = zp_C 0 := mo_ne moG (@cn_h3 zp_R zp_ring n m G u v q1 q2 l d1 d2)
      have w2 := @cn_h4 zp_R zp_ring _ w1
      have el : zp_mul (zp_C (q2.1 (hi q2).toNat ^ 32001)) (zp_C (q2.1 (hi q2).toNat)) = (letI := zp_ring; (1 : zp_R)) := by
        rw [zp_C_mul, zp_h20, hi_lead q20, zp_C1]
      exact ⟨_, _, (@cn_h5 zp_R zp_ring u v q1 q2 _ _ w2 el).trans zp_C1.symm⟩
    · have := mkm_mo z4 q20
      rw [mkm_c q20] at this
      exact ⟨_, this⟩
    · intro i hi2; rw [zp_C_mul1, x4 i hi2]; exact zp_h15 _
    · intro i hi2; rw [zp_C_mul1, z4 i hi2]; exact zp_h15 _
    · rw [up_ne _ _ (by decide), up_at]
    · rw [up_at]
  · refine k516_10 hv.1 (wm_mono (wq_Q (fun h1 v1 r1 => ?_)) (V_become hv (c := 1303) rfl (z := 1) (by decide)))
    have e0 := hi_0 hdn (by omega)
    refine k516_18 ⟨h1, s, _, v1, r1, ⟨rfl, ⟨zp_C 0, zp_C 1, by rw [e0]; exact cn_0 m, fun i hi2 => ?_, fun i hi2 => if_neg (by omega), ?_, ?_⟩, sm_up sm_refl _ rfl⟩, rfl⟩
    · show (if i = 0 then (0 : zp_F) else 0) = 0
      split <;> rfl
    · rw [up_ne _ _ (by decide), hf, e0]
    · rw [up_at, nF_1]
