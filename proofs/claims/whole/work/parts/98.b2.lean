/-! the reference's invertModulo -/
theorem quo_deg {f g Q R : zp_R} {G H : Nat} (e : f = zp_add (zp_mul g Q) R) (dR : zp_deg R H) (eH : hi g = H) (df : zp_deg f (G + 1)) (dg : zp_deg g 176) (dQ : zp_deg Q 176) (hH : H ≤ G) : zp_deg Q (G - H + 1) := by
  intro i hi2
  refine Decidable.byContradiction (fun w => ?_)
  have k0 : 0 ≤ hi Q := hi_pos dQ w
  obtain ⟨t1, t2⟩ := hi_top k0 dQ
  obtain ⟨t3, t4⟩ := hi_top (b := g) (by omega) dg
  rw [show (hi g).toNat = H by omega] at t3 t4
  have k1 : i ≤ (hi Q).toNat := Nat.le_of_not_lt (fun l => w (t2 i (by omega)))
  have k2 := mul_top t4 t2
  have k3 : f.1 (H + (hi Q).toNat) = (zp_mul g Q).1 (H + (hi Q).toNat) + R.1 (H + (hi Q).toNat) := by rw [e]; rfl
  rw [df _ (by omega), dR _ (by omega), k2] at k3
  have k4 : g.1 H * Q.1 (hi Q).toNat = 0 := (@iv_h0 zp_F _ _ k3.symm)
  rcases zp_dom k4 with z | z
  · exact t3 z
  · exact t1 z
where iv_h0 : ∀ {R : Type} [Lean.Grind.CommRing R] {x : R}, x + 0 = 0 → x = 0 := by intro R _ x h; grind
theorem iv_h1 {R : Type} [Lean.Grind.CommRing R] {a b Q r S T p q w1 w2 m : R} (e : a = b * Q + r) (e1 : S * p + w1 * q = b) (e2 : T * p + w2 * q = a) (hm : m = -1) : (T + m * (Q * S)) * p + (w2 - w1 * Q) * q = r := by grind
theorem iv_h2 {R : Type} [Lean.Grind.CommRing R] {S p w q b c : R} (e : S * p + w * q = b) (h : c * b = 1) : (c * S) * p + (c * w) * q = 1 := by grind
theorem iv_h3 {R : Type} [Lean.Grind.CommRing R] {S p w q Q r : R} (e : S * p + w * q = 1) (h : S = q * Q + r) : r * p + (w + Q * p) * q = 1 := by grind
theorem iv_h4 {R : Type} [Lean.Grind.CommRing R] {Q p q r : R} (h : p = q * Q + r) : 1 * p + -Q * q = r := by grind
theorem iv_h5 {R : Type} [Lean.Grind.CommRing R] (p q : R) : 0 * p + 1 * q = q := by grind
theorem iv_h6 {R : Type} [Lean.Grind.CommRing R] {u v p q Q r : R} (e : u * p + v * q = 1) (h : p = q * Q + r) : 1 = (v + u * Q) * q + u * r := by grind
theorem iv_h7 {R : Type} [Lean.Grind.CommRing R] {a u v : R} (e : 1 = u * a + v * 0) : a * u = 1 := by grind
theorem iv_h8 {R : Type} [Lean.Grind.CommRing R] {a : R} (e : a + -1 * a = 0) (x : R) : x * 1 = x := by grind
theorem C_m1 : zp_C (nF (-1)) = zp_neg (letI := zp_ring; (1 : zp_R)) := by
  rw [← zp_C1]
  refine zp_ext (fun i => ?_)
  show (if i = 0 then nF (-1) else 0) = -(if i = 0 then (1 : zp_F) else 0)
  by_cases h : i = 0
  · rw [if_pos h, if_pos h]; decide +kernel
  · rw [if_neg h, if_neg h]; rfl
theorem C_inv {b : zp_R} (hd : zp_deg b 1) (h : b.1 0 ≠ 0) : zp_mul (zp_C (b.1 0 ^ 32001)) b = (letI := zp_ring; (1 : zp_R)) := by
  rw [← zp_C1]
  refine zp_ext (fun i => ?_)
  rw [zp_C_mul1]
  show _ = if i = 0 then (1 : zp_F) else 0
  by_cases hi2 : i = 0
  · rw [if_pos hi2, hi2]
    exact (@zp_h20 zp_F _ _ _).trans (zp_inv h)
  · rw [if_neg hi2, hd i (by omega)]; exact zp_h15 _
/-- nothing that isn't a number divides 1 -/
theorem no_unit {a u : zp_R} (hd : zp_deg a 176) (h : 1 ≤ hi a) (e : zp_mul a u = (letI := zp_ring; (1 : zp_R))) : False := by
  have l := hi_lead (f := a) (by omega)
  have m := mkm_mo hd (by omega)
  rw [mkm_c (by omega)] at m
  have e1 : zp_mul (zp_mul (zp_C (a.1 (hi a).toNat ^ 32001)) a) u = zp_C (a.1 (hi a).toNat ^ 32001) := by
    have := @nu_h zp_R zp_ring (zp_C (a.1 (hi a).toNat ^ 32001)) a u e
    exact this
  have d0 := zp_monic_deg (t := 0) m.1 m.2 (W := u) (by rw [e1]; exact deg_le (zp_C_deg _) (by omega))
  rw [zp_zero_of d0, zp_mul0, ← zp_C1] at e
  have : (zp_C 0).1 0 = (zp_C 1).1 0 := by rw [e]
  exact absurd this (by decide)
where nu_h : ∀ {R : Type} [Lean.Grind.CommRing R] (c a u : R), a * u = 1 → (c * a) * u = c := by intro R _ c a u h; grind
theorem swp_row {X Y f g : Nat → Int} {k : Nat} (hk : k < 176) (hX : ∀ i, i < 176 → X i = if i < k then f i else g i) (hY : ∀ i, i < 176 → Y i = if i < k then g i else f i) : ∀ i, i < 176 → (if i = (k : Int).toNat then gi (mk 176 Y) k else X i) = if i < k + 1 then f i else g i := fun i hi2 => by
  by_cases h5 : i = k
  · rw [if_pos (by omega), if_pos (by omega), gi_mkn (by omega), hY k (by omega), if_neg (by omega), h5]
  · rw [if_neg (by omega), hX i hi2]
    by_cases h6 : i < k
    · rw [if_pos h6, if_pos (by omega)]
    · rw [if_neg h6, if_neg (by omega)]
/-- S is what times p is 1 less multiples of q -/
def ivM (p q S : zp_R) : Prop := ∃ w, zp_add (zp_mul S p) (zp_mul w q) = (letI := zp_ring; (1 : zp_R))
section
variable {d : Nat} {h : s_H} {s : Nat → Int} {A : Nat → Nat → Int}
theorem V_invert (hv : RV h s A) {p q : zp_R} (hP : A 1310 = cf p) (hq : A 1311 = cf q) (dp : zp_deg p 176) (dq : zp_deg q 88) (q1 : 1 ≤ hi q) (hc : co p q) : wm sw_P (d + 4) 468 [.index 1290, .index 1310, .index 1311] h (RN h (fun s' A' => s' = s ∧ (∃ S, ivM p q S ∧ zp_deg S (hi q).toNat ∧ zp_deg S 176 ∧ A' 1308 = cf S) ∧ sm A A' [1304, 1305, 1306, 1307, 1308, 1309])) := by
  refine wm_in (cd := sw_c468) (nL := 6) (hd := sw_h468) rfl rfl ?_
  have dq6 := deg_le dq (show 88 ≤ 176 by decide)
  have hq8 := hi_lt dq (Nat.le_refl _)
  obtain ⟨D, eD⟩ : ∃ D : Nat, hi q = D := ⟨(hi q).toNat, by omega⟩
  have fin : ∀ (b S : zp_R) (B : Nat → Nat → Int) (h' : s_H) (t3 t4 t5 : Term), hi b = 0 → RV h' s B → FR h h' → sm A B [1304, 1305, 1306, 1307, 1308, 1309] → B 1307 = cf b → B 1308 = cf S → zp_deg b 176 → zp_deg S 176 → (∃ w, zp_add (zp_mul S p) (zp_mul w q) = b) → wr sw_P (d + 3) sw_c468 sw_h468 (162, [.index 1290, .index 1310, .index 1311, t3, t4, t5], [], h', 0, 0) (RN h (fun s' A' => s' = s ∧ (∃ S, ivM p q S ∧ zp_deg S (hi q).toNat ∧ zp_deg S 176 ∧ A' 1308 = cf S) ∧ sm A A' [1304, 1305, 1306, 1307, 1308, 1309])) := by
    intro b S B h' t3 t4 t5 hb v r m e1 e2 db dS ⟨w, ew⟩
    have b1 : zp_deg b 1 := fun i hi2 => hi_deg db i (by omega)
    have bn : b.1 0 ≠ 0 := hi_ne (n := 0) (by omega)
    have e4 : gi (mk 176 (B 1307)) 0 = cf b 0 := by rw [e1]; exact gi_mkn (k := 0) (by decide)
    have b4 := cf_b b 0
    refine k468_162 v.1 (Ra_h v) (wm_mono (wq_r ?_) (t_inverse (by rw [e4]; exact in6_of (by omega) (by omega)))) (c12 := by rw [mk_len]; decide)
    have bz := ((nF (gi (mk 176 (B 1307)) 0)) ^ 32001 : zp_F).isLt
    refine k468_175 (wm_mono (wq_Q (fun h2 v2 r2 => ?_)) (V_scale v (c := 1308) rfl e2 ⟨by omega, by omega⟩))
    have ez : nF (((nF (gi (mk 176 (B 1307)) 0)) ^ 32001 : zp_F).val : Int) = b.1 0 ^ 32001 := by rw [nF_val, e4, nF_cf]
    rw [ez] at v2
    refine k468_178 v2.1 (wm_mono (wq_N (fun h3 s3 B3 v3 r3 φ => ?_)) (V_divide v2 (p := 1308) (q := 1311) rfl rfl (by decide) (by decide) (by decide) (up_at _ _ _) (by rw [up_ne _ _ (by decide), m 1311 rfl, hq]) (deg_Cm _ dS) dq6 (by omega)))
    obtain ⟨es, Q, R, e, dR, dR6, dQ6, eB⟩ := φ
    rw [es] at v3
    refine k468_187 ⟨h3, s, _, v3, FR_trans r (FR_trans r2 r3), ⟨rfl, ⟨R, ?_, dR, dR6, by rw [eB, up_at]⟩, by rw [eB]; exact sm_up (sm_up (sm_up m _ rfl) _ rfl) _ rfl⟩, rfl⟩
    have a1 := @iv_h2 zp_R zp_ring S p w q b _ ew (C_inv b1 bn)
    exact ⟨_, @iv_h3 zp_R zp_ring _ p _ q Q R a1 e⟩
  have main : ∀ (m : Nat) (a b S U : zp_R) (G : Nat) (B : Nat → Nat → Int) (h' : s_H) (t3 t4 t5 : Term), hi b < m → RV h' s B → FR h h' → sm A B [1304, 1305, 1306, 1307, 1308, 1309] → B 1306 = cf a → B 1307 = cf b → B 1308 = cf S → B 1309 = cf U → zp_deg a 176 → zp_deg b 176 → hi a = G → 1 ≤ G → hi b < G → G ≤ D → zp_deg S (D - G + 1) → zp_deg U (D - G + 1) → (∃ w, zp_add (zp_mul S p) (zp_mul w q) = b) → (∃ w, zp_add (zp_mul U p) (zp_mul w q) = a) → lin a b (letI := zp_ring; (1 : zp_R)) → wr sw_P (d + 3) sw_c468 sw_h468 (40, [.index 1290, .index 1310, .index 1311, t3, t4, t5], [], h', 0, 0) (RN h (fun s' A' => s' = s ∧ (∃ S, ivM p q S ∧ zp_deg S (hi q).toNat ∧ zp_deg S 176 ∧ A' 1308 = cf S) ∧ sm A A' [1304, 1305, 1306, 1307, 1308, 1309])) := by
    intro m
    induction m with
    | zero =>
      intro a b S U G B h' t3 t4 t5 hm v r sB e1 e2 e3 e4 da db ha h1 hb hG dS dU wS wU l
      have b0 := hi_0 db (by omega)
      rw [b0] at l
      obtain ⟨u, v', l⟩ := l
      exact (no_unit da (by omega) (@iv_h7 zp_R zp_ring a u v' l)).elim
    | succ m ih =>
      intro a b S U G B h' t3 t4 t5 hm v r sB e1 e2 e3 e4 da db ha h1 hb hG dS dU wS wU l
      have bb := hi_b b
      have dS6 := deg_le dS (show D - G + 1 ≤ 176 by omega)
      have b0 : 0 ≤ hi b := hi_ge db (fun b0 => by
        rw [b0] at l
        obtain ⟨u, v', l⟩ := l
        exact no_unit da (by omega) (@iv_h7 zp_R zp_ring a u v' l))
      obtain ⟨H, eH⟩ : ∃ H : Nat, hi b = H := ⟨(hi b).toNat, by omega⟩
      refine k468_40 v.1 (wm_mono (wq_r (k468_47 (fun q0 => fin b S B h' t3 t4 t5 (by omega) v r sB e2 e3 db dS6 wS) (fun q0 => ?_))) (V_high v (c := 1307) rfl e2))
      refine k468_50 v.1 (wm_mono (wq_N (fun h1' s1 B1 v1 r1 φ => ?_)) (V_divide v (p := 1306) (q := 1307) rfl rfl (by decide) (by decide) (by decide) e1 e2 da db (by omega)))
      obtain ⟨es, Q, R, e, dR, dR6, dQ6, eB⟩ := φ
      rw [es] at v1
      rw [show (hi b).toNat = H by omega] at dR
      have dQ := quo_deg (G := G) (H := H) e dR eH (fun i hi2 => hi_deg da i (by omega)) db dQ6 (by omega)
      have f6 : B1 1306 = cf R := by rw [eB, up_at]
      have f7 : B1 1307 = cf b := by rw [eB, up_ne _ _ (by decide), up_ne _ _ (by decide), e2]
      have f8 : B1 1308 = cf S := by rw [eB, up_ne _ _ (by decide), up_ne _ _ (by decide), e3]
      have f9 : B1 1309 = cf U := by rw [eB, up_ne _ _ (by decide), up_ne _ _ (by decide), e4]
      have f5 : B1 1305 = cf Q := by rw [eB, up_ne _ _ (by decide), up_at]
      have sB1 : sm A B1 [1304, 1305, 1306, 1307, 1308, 1309] := by rw [eB]; exact sm_up (sm_up sB _ rfl) _ rfl
      refine k468_62 v1.1 (wm_mono (wq_Q (fun h2 v2 r2 => ?_)) (V_multiply v1 (p := 1305) (q := 1308) rfl rfl (by decide) (by decide) f5 f8))
      refine k468_74 v2.1 (wm_mono (wq_Q (fun h3 v3 r3 => ?_)) (V_more v2 (c := 1309) (e := 1304) rfl rfl (by decide) (f := U) (g := zp_mul Q S) (by rw [up_ne _ _ (by decide), f9]) (up_at _ _ _) (z := -1) (by decide)))
      refine k468_88 ?_
      have dN : zp_deg (zp_add U (zp_mul (zp_C (nF (-1))) (zp_mul Q S))) (D - H + 1) := by
        have := zp_deg_mul (n := G - H) (m := D - G) dQ dS
        rw [show G - H + (D - G) + 1 = D - H + 1 by omega] at this
        exact deg_add (deg_le dU (by omega)) (deg_Cm _ this)
      have dN6 := deg_le dN (show D - H + 1 ≤ 176 by omega)
      obtain ⟨w1, ew1⟩ := wS
      obtain ⟨w2, ew2⟩ := wU
      have wN : ∃ w, zp_add (zp_mul (zp_add U (zp_mul (zp_C (nF (-1))) (zp_mul Q S))) p) (zp_mul w q) = R := ⟨_, @iv_h1 zp_R zp_ring a b Q R S U p q w1 w2 _ e ew1 ew2 C_m1⟩
      have s3 : sm A (up (up B1 1304 (cf (zp_mul Q S))) 1309 (cf (zp_add U (zp_mul (zp_C (nF (-1))) (zp_mul Q S))))) [1304, 1305, 1306, 1307, 1308, 1309] := sm_up (sm_up sB1 _ rfl) _ rfl
      have swp : ∀ (l' k : Nat) (C : Nat → Nat → Int) (h2 : s_H) (t4 t5 : Term), k + l' = 176 → RV h2 s C → FR h h2 → sm A C [1304, 1305, 1306, 1307, 1308, 1309] → (∀ i, i < 176 → C 1306 i = if i < k then cf b i else cf R i) → (∀ i, i < 176 → C 1307 i = if i < k then cf R i else cf b i) → (∀ i, i < 176 → C 1309 i = if i < k then cf S i else cf (zp_add U (zp_mul (zp_C (nF (-1))) (zp_mul Q S))) i) → (∀ i, i < 176 → C 1308 i = if i < k then cf (zp_add U (zp_mul (zp_C (nF (-1))) (zp_mul Q S))) i else cf S i) → wr sw_P (d + 3) sw_c468 sw_h468 (90, [.index 1290, .index 1310, .index 1311, vi (k : Int), t4, t5], [], h2, 0, 0) (RN h (fun s' A' => s' = s ∧ (∃ S, ivM p q S ∧ zp_deg S (hi q).toNat ∧ zp_deg S 176 ∧ A' 1308 = cf S) ∧ sm A A' [1304, 1305, 1306, 1307, 1308, 1309])) := by
        intro l'
        induction l' with
        | zero =>
          intro k C h2 t4 t5 hk v2 r2 sC g1 g2 g3 g4
          refine k468_90 (fun _ => k468_159 ?_) (fun q => absurd q (by omega))
          have v3 := RV_c (RV_c v2 (c := 1306) rfl (g := cf b) (fun i hi2 => by rw [g1 i hi2, if_pos (by omega)])) (c := 1307) rfl (g := cf R) (fun i hi2 => by rw [up_ne _ _ (by decide), g2 i hi2, if_pos (by omega)])
          have v4 := RV_c (RV_c v3 (c := 1309) rfl (g := cf S) (fun i hi2 => by rw [up_ne _ _ (by decide), up_ne _ _ (by decide), g3 i hi2, if_pos (by omega)])) (c := 1308) rfl (g := cf (zp_add U (zp_mul (zp_C (nF (-1))) (zp_mul Q S)))) (fun i hi2 => by rw [up_ne _ _ (by decide), up_ne _ _ (by decide), up_ne _ _ (by decide), g4 i hi2, if_pos (by omega)])
          have hRH := hi_lt dR (Nat.le_refl _)
          exact ih b R _ S H _ h2 _ t4 t5 (by omega) v4 r2 (sm_up (sm_up (sm_up (sm_up sC _ rfl) _ rfl) _ rfl) _ rfl) (by rw [up_ne _ _ (by decide), up_ne _ _ (by decide), up_ne _ _ (by decide), up_at]) (by rw [up_ne _ _ (by decide), up_ne _ _ (by decide), up_at]) (up_at _ _ _) (by rw [up_ne _ _ (by decide), up_at]) db dR6 eH (by omega) hRH (by omega) dN (deg_le dS (by omega)) wN ⟨w1, ew1⟩ (lin_back e l)
        | succ l' ih2 =>
          intro k C h2 t4 t5 hk v2 r2 sC g1 g2 g3 g4
          refine k468_90 (fun q => absurd q (by omega)) (fun _ => ?_)
          have r6 := RV_l v2 (c := 1306) rfl
          have r7 := RV_l v2 (c := 1307) rfl
          have r8 := RV_l v2 (c := 1308) rfl
          have r9 := RV_l v2 (c := 1309) rfl
          have n1 : ∀ {X : s_C} {j : Nat} {K : s_C}, j ≠ 1306 → s_get h2 j = some K → s_get (hp h2 1306 X) j = some K := fun hj e => (hp_ne r6 hj).trans e
          have n2 : ∀ {X Y : s_C} {j : Nat} {K : s_C}, j ≠ 1306 → j ≠ 1307 → s_get h2 j = some K → s_get (hp (hp h2 1306 X) 1307 Y) j = some K := fun hj hj2 e => (hp_ne (n1 (by decide) r7) hj2).trans (n1 hj e)
          have n3 : ∀ {X Y Z : s_C} {j : Nat} {K : s_C}, j ≠ 1306 → j ≠ 1307 → j ≠ 1309 → s_get h2 j = some K → s_get (hp (hp (hp h2 1306 X) 1307 Y) 1309 Z) j = some K := fun hj hj2 hj3 e => (hp_ne (n2 (by decide) (by decide) r9) hj3).trans (n2 hj hj2 e)
          refine k468_97 v2.1 r6 r7 (n1 (by decide) v2.1) (n1 (by decide) r7) (n2 (by decide) (by decide) v2.1) (n2 (by decide) (by decide) r9) (n2 (by decide) (by decide) r8) (n3 (by decide) (by decide) (by decide) v2.1) (n3 (by decide) (by decide) (by decide) r8) ?_ (c10 := by rw [mk_len]; omega) (c18 := by rw [mk_len]; omega) (c27 := by rw [mk_len]; omega) (c36 := by rw [mk_len]; omega) (c42 := by rw [mk_len]; omega) (c51 := by rw [mk_len]; omega)
          rw [mk_set, mk_set, mk_set, mk_set]
          have x1 := RV_w v2 (c := 1306) rfl (fun i => if i = (k : Int).toNat then gi (mk 176 (C 1307)) k else C 1306 i)
          have x2 := RV_w x1 (c := 1307) rfl (fun i => if i = (k : Int).toNat then gi (mk 176 (C 1306)) k else C 1307 i)
          have x3 := RV_w x2 (c := 1309) rfl (fun i => if i = (k : Int).toNat then gi (mk 176 (C 1308)) k else C 1309 i)
          have x4 := RV_w x3 (c := 1308) rfl (fun i => if i = (k : Int).toNat then gi (mk 176 (C 1309)) k else C 1308 i)
          refine ih2 (k + 1) _ _ _ _ (by omega) x4 (FR_trans r2 (FR_trans (FR_w v2 (c := 1306) rfl _) (FR_trans (FR_w x1 (c := 1307) rfl _) (FR_trans (FR_w x2 (c := 1309) rfl _) (FR_w x3 (c := 1308) rfl _))))) (sm_up (sm_up (sm_up (sm_up sC _ rfl) _ rfl) _ rfl) _ rfl) ?_ ?_ ?_ ?_
          · rw [up_ne _ _ (by decide), up_ne _ _ (by decide), up_ne _ _ (by decide), up_at]
            exact swp_row (by omega) g1 g2
          · rw [up_ne _ _ (by decide), up_ne _ _ (by decide), up_at]
            exact swp_row (by omega) g2 g1
          · rw [up_ne _ _ (by decide), up_at]
            exact swp_row (by omega) g3 g4
          · rw [up_at]
            exact swp_row (by omega) g4 g3
      refine swp 176 0 _ h3 _ _ rfl v3 (FR_trans r (FR_trans r1 (FR_trans r2 r3))) s3 (fun i hi2 => ?_) (fun i hi2 => ?_) (fun i hi2 => ?_) (fun i hi2 => ?_)
      · rw [up_ne _ _ (by decide), up_ne _ _ (by decide), f6, if_neg (by omega)]
      · rw [up_ne _ _ (by decide), up_ne _ _ (by decide), f7, if_neg (by omega)]
      · rw [up_at, if_neg (by omega)]
      · rw [up_ne _ _ (by decide), up_ne _ _ (by decide), f8, if_neg (by omega)]
  refine k468_0 hv.1 (wm_mono (wq_Q (fun h1 v1 r1 => ?_)) (V_copy hv (c := 1306) (e := 1311) rfl rfl (by decide)))
  refine k468_8 v1.1 (wm_mono (wq_Q (fun h2 v2 r2 => ?_)) (V_copy v1 (c := 1307) (e := 1310) rfl rfl (by decide)))
  have g6 : up (up A 1306 (A 1311)) 1307 (up A 1306 (A 1311) 1310) 1306 = cf q := by rw [up_ne _ _ (by decide), up_at, hq]
  have g7 : up (up A 1306 (A 1311)) 1307 (up A 1306 (A 1311) 1310) 1307 = cf p := by rw [up_at, up_ne _ _ (by decide), hP]
  have g1 : up (up A 1306 (A 1311)) 1307 (up A 1306 (A 1311) 1310) 1311 = cf q := by rw [up_ne _ _ (by decide), up_ne _ _ (by decide), hq]
  refine k468_16 v2.1 (wm_mono (wq_N (fun h3 s3 B3 v3 r3 φ => ?_)) (V_divide v2 (p := 1307) (q := 1311) rfl rfl (by decide) (by decide) (by decide) g7 g1 dp dq6 (by omega)))
  obtain ⟨es, Q, R, e, dR, dR6, dQ6, eB⟩ := φ
  rw [es] at v3
  rw [show (hi q).toNat = D by omega] at dR
  refine k468_25 v3.1 (wm_mono (wq_Q (fun h4 v4 r4 => ?_)) (V_empty v3 (c := 1309) rfl))
  refine k468_32 v4.1 (wm_mono (wq_Q (fun h5 v5 r5 => ?_)) (V_become v4 (c := 1308) rfl (z := 1) (by decide)))
  rw [nF_1] at v5
  have hRD := hi_lt dR (Nat.le_refl _)
  have mm : sm A (up (up B3 1309 (cf (zp_C 0))) 1308 (cf (zp_C 1))) [1304, 1305, 1306, 1307, 1308, 1309] := by rw [eB]; exact sm_up (sm_up (sm_up (sm_up (sm_up (sm_up sm_refl _ rfl) _ rfl) _ rfl) _ rfl) _ rfl) _ rfl
  refine main 176 q R (zp_C 1) (zp_C 0) D _ h5 _ _ _ (hi_b R).2 v5 (FR_trans r1 (FR_trans r2 (FR_trans r3 (FR_trans r4 r5)))) mm ?_ ?_ (up_at _ _ _) (by rw [up_ne _ _ (by decide), up_at]) dq6 dR6 eD (by omega) hRD (Nat.le_refl _) (deg_le (zp_C_deg 1) (by omega)) (deg_le (zp_C_deg 0) (by omega)) ⟨_, by rw [zp_C1]; exact @iv_h4 zp_R zp_ring Q p q R e⟩ ⟨_, @iv_h5 zp_R zp_ring p q⟩ ?_
  · rw [up_ne _ _ (by decide), up_ne _ _ (by decide), eB, up_ne _ _ (by decide), up_ne _ _ (by decide), g6]
  · rw [up_ne _ _ (by decide), up_ne _ _ (by decide), eB, up_at]
  · obtain ⟨u, v, l⟩ := hc
    rw [zp_C1] at l
    exact ⟨_, _, @iv_h6 zp_R zp_ring u v p q Q R l e⟩
end
