/-! the class: fractions kept -/
theorem cq_h1 {R : Type} [Lean.Grind.CommRing R] {F G N D u v : R} (e : F * D = N * G) (c : u * N + v * D = 1) : G = D * (u * F + v * G) := by
  have : G = (u * N + v * D) * G := by rw [c]; grind
  grind
theorem cq_h2 {R : Type} [Lean.Grind.CommRing R] {F G N D q : R} (e : F * D = N * G) (c : G = D * q) : D * (F + -(N * q)) = 0 := by grind
theorem cq_h3 {R : Type} [Lean.Grind.CommRing R] {x y : R} (e : x + -y = 0) : x = y := by grind
theorem cn_q {F G N Dn : zp_R} (h : cn F G N Dn) : ∃ q, F = zp_mul N q ∧ G = zp_mul Dn q := by
  obtain ⟨e, ⟨u, v, c⟩, m⟩ := h
  rw [zp_C1] at c
  have g1 := @cq_h1 zp_R zp_ring F G N Dn u v e c
  refine ⟨_, ?_, g1⟩
  exact @cq_h3 zp_R zp_ring _ _ (mo_ne m (@cq_h2 zp_R zp_ring F G N Dn _ e g1))
theorem mul_lo {f q g : zp_R} (e : g = zp_mul f q) (q0 : q ≠ zp_C 0) {n : Nat} (dg : zp_deg g n) : zp_deg f n := by
  obtain ⟨a, ha⟩ := f.2
  obtain ⟨b, hb⟩ := q.2
  obtain ⟨x, hx⟩ := dgp_ex a ha
  obtain ⟨y, hy⟩ := dgp_ex b hb
  have y0 : 0 ≤ y := Int.not_lt.mp (fun w => q0 (dgp_0 hy w))
  by_cases x0 : 0 ≤ x
  · have d := dgp_mul hx hy x0 y0
    rw [← e] at d
    exact fun i hi2 => hx.2.1 i (by
      refine Int.not_le.mp (fun w => ?_)
      exact d.2.2 (x + y).toNat (by omega) (dg _ (by omega)))
  · rw [dgp_0 hx (by omega)]
    exact fun i _ => zp_C00 i
theorem cn_F {F G N Dn : zp_R} (h : cn F G N Dn) (G0 : G ≠ zp_C 0) {n : Nat} (dF : zp_deg F n) : zp_deg N n := by
  obtain ⟨q, e1, e2⟩ := cn_q h
  exact mul_lo e1 (fun w => G0 (by rw [e2, w, zp_mul0])) dF
theorem cn_G {F G N Dn : zp_R} (h : cn F G N Dn) (G0 : G ≠ zp_C 0) {n : Nat} (dG : zp_deg G n) : zp_deg Dn n := by
  obtain ⟨q, e1, e2⟩ := cn_q h
  exact mul_lo e2 (fun w => G0 (by rw [e2, w, zp_mul0])) dG
/-- what is kept of a fraction -/
def fkR (cnt : Int) (N Dn : zp_R) (bad : Int) (res : Sum th Int) : Prop := ((cnt = 150 ∨ 40 < hi N ∨ 40 < hi Dn) → res = .inr bad) ∧ (¬ (cnt = 150 ∨ 40 < hi N ∨ 40 < hi Dn) → res = .inl (th_fr N Dn))
theorem OUT_T {h : s_H} {t : Nat} {N Dn : zp_R} (H : OUT h t N Dn) (ot : 39 ≤ t) : TRD h t N Dn := ⟨t + 1, 41, t + 3, 41, 0, ot, by omega, by omega, H.1.2, H.2.1, H.2.2⟩
section
variable {D : Nat} {h : s_H} {n : Nat} {T : Nat → th} {tx lf lp tk : Int}
/-- what couldn't be made -/
theorem u_keepBad (H : CA h n T tx lf lp tk) {t : Nat} (O : OE h t 5) {bad : Int} {l : List Nat} (eb : exl l bad = 0) : wm sw_P (D + 2) 37 [.index 1, .index t] h (CE 5 100 10 l h n T tx lf lp tk (.inr bad)) := by
  refine wm_in (cd := sw_c37) (nL := 2) (hd := sw_h37) rfl rfl ?_
  have n150 := CA_n H
  refine k37_0 (z5 := 5) O.1.2 (fun _ => ?_) (fun w => absurd (by decide) w) (c7 := by decide)
  refine k37_16 H.1.1 (wm_mono (fun out => ?_) (u_needRoom rfl n150 H.1.1))
  intro w
  rcases w with ⟨n1, w⟩ | ⟨n1, w⟩
  · refine wq_v ?_ out w
    exact k37_20 (z5 := 5) O.1.2 (fun w => absurd w (by decide)) (fun _ => k37_27 (CE_t H (CF_refl _ _) bad eb (by omega) (by omega) (by omega))) (c7 := by decide)
  · rw [w]
    exact ⟨rfl, CE_t H (CF_refl _ _) bad eb (by omega) (by omega) (by omega)⟩
theorem u_keepZero (H : CA h n T tx lf lp tk) {t : Nat} (O : OE h t 4) {bad : Int} {l : List Nat} (eb : exl l bad = 2) : wm sw_P (D + 2) 37 [.index 1, .index t] h (CE 5 100 10 l h n T tx lf lp tk (.inr bad)) := by
  refine wm_in (cd := sw_c37) (nL := 2) (hd := sw_h37) rfl rfl ?_
  exact k37_0 (z5 := 4) O.1.2 (fun w => absurd rfl w) (fun _ => k37_8 (CE_t H (CF_refl _ _) bad eb (by omega) (by omega) (by omega))) (c7 := by decide)
/-- what was made -/
theorem u_keepOut (H : CA h n T tx lf lp tk) (r : RM h 10) {t : Nat} {N Dn : zp_R} (O : OUT h t N Dn) (ot : 39 ≤ t) (th1 : t + 4 < h.1) (lN : ∀ e, dgp N e → e ≤ 40) (lD : ∀ e, dgp Dn e → e ≤ 40) (mD : mo Dn) (cND : co N Dn) {bad : Int} {l : List Nat} (eb : exl l bad = 0) : wm sw_P (D + 3) 37 [.index 1, .index t] h (fun out => ∃ res, fkR n N Dn bad res ∧ CE 10 200 10 l h n T tx lf lp tk res out) := by
  refine wm_in (cd := sw_c37) (nL := 2) (hd := sw_h37) rfl rfl ?_
  have n150 := CA_n H
  have lo := H.1.2
  obtain ⟨O1, ON, OD⟩ := id O
  refine k37_0 (z5 := 0) O1.2 (fun _ => ?_) (fun w => absurd (by decide) w) (c7 := by decide)
  refine k37_16 H.1.1 (wm_mono (fun out => ?_) (u_needRoom rfl n150 H.1.1))
  intro w
  rcases w with ⟨n1, w⟩ | ⟨n1, w⟩
  · refine wq_v ?_ out w
    refine k37_20 (z5 := 0) O1.2 (fun _ => ?_) (fun w => absurd rfl w) (c7 := by decide)
    obtain ⟨eN, _, _, bN, _⟩ := id ON
    obtain ⟨eD, _, _, bD, _⟩ := id OD
    have n40 := lN eN bN
    have d40 := lD eD bD
    have dN : zp_deg N 41 := dgp_deg bN (by omega)
    have dD : zp_deg Dn 41 := dgp_deg bD (by omega)
    have hN := dgp_of bN (by omega)
    have hD := dgp_of bD (by omega)
    have bN1 := bN.1
    have bD1 := bD.1
    obtain ⟨c0, r0⟩ := r h.1 (Nat.le_refl _) (by omega)
    obtain ⟨c1, r1⟩ := r (h.1 + 1) (by omega) (by omega)
    obtain ⟨c2, r2⟩ := r (h.1 + 2) (by omega) (by omega)
    obtain ⟨c3, r3⟩ := r (h.1 + 3) (by omega) (by omega)
    obtain ⟨c4, r4⟩ := r (h.1 + 4) (by omega) (by omega)
    obtain ⟨ha, eha⟩ : ∃ ha, hq h (1, 8, s_df 8) = ha := ⟨_, rfl⟩
    have a1 : ha.1 = h.1 + 1 := by rw [← eha]; rfl
    have an : ∀ j, j ≠ h.1 → s_get ha j = s_get h j := fun j hj => by rw [← eha, hq_get r0, if_neg hj]
    have ac : s_get ha h.1 = some (1, 8, s_df 8) := by rw [← eha, hq_get r0, if_pos rfl]
    have Na := PF_same ON (an _ (by omega)) (an _ (by omega))
    refine k37_35 r0 (by rw [eha]; exact (an t (by omega)).trans O1.2) (by rw [eha]; exact PF_c Na) ?_
    rw [eha]
    refine wm_mono (fun out => ?_) (u_kept Na bN (by omega) (by omega) (c0 := c1) (c1 := c2) (by rw [a1]; exact (an _ (by omega)).trans r1) (by rw [a1]; exact (an _ (by omega)).trans r2))
    intro ⟨hb, Pb, b1', bn, eo⟩
    rw [eo]
    have bh : ∀ j, j < h.1 → s_get hb j = s_get h j := fun j hj => (bn j (by omega) (by omega)).trans (an j (by omega))
    have bc : s_get hb h.1 = some (1, 8, [vi 0, .null, .null, vi 0, vi 0, .null, .null, vi 0]) := (bn h.1 (by omega) (by omega)).trans ac
    have Ob : OUT hb t N Dn := ⟨⟨O1.1, (bh _ (by omega)).trans O1.2⟩, PF_same ON (bh _ (by omega)) (bh _ (by omega)), PF_same OD (bh _ (by omega)) (bh _ (by omega))⟩
    have lk : ∀ {e : Int}, e ≤ 40 → (if 1 ≤ e + 1 then (e + 1).toNat else 1) ≤ 41 := fun {e} he => by split <;> omega
    have l1 := lk n40
    have l2 := lk d40
    refine k37_47 Ob.1.2 (wm_mono (wq_r ?_) (u_isWhole (OUT_T Ob ot) bD))
    -- the object is filled in and kept
    have fin : ∀ (hb2 : s_H) (q lq : Nat) (x y : Nat), x ≤ 9 → y ≤ 190 → hb.1 ≤ hb2.1 → hb2.1 ≤ h.1 + 10 → (∀ j, j < hb.1 → s_get hb2 j = s_get hb j) → (∀ j, hb2.1 ≤ j → s_get hb2 j = s_get h j) → (q = 1276 ∨ (1376 ≤ q ∧ q + 1 < hb2.1)) → q ≠ h.1 → q + 1 ≠ h.1 → PF hb2 q lq Dn → wr sw_P (D + 2) sw_c37 sw_h37 (68, [.index 1, .index t], [.index q, .index ha.1, .index h.1, .index h.1, .index 1], hb2, x, y) (fun out => ∃ res, fkR n N Dn bad res ∧ CE 10 200 10 l h n T tx lf lp tk res out) := fun hb2 q lq x y hx hy g1 g2 g3 g4 g5 g6 g7 g8 => by
      refine k37_68 (wm_mono (fun out => ?_) (u_init2 (q := h.1) (a := ha.1) (b := q) (by omega) ((g3 h.1 (by omega)).trans bc)))
      intro ⟨hc, cc, cn', c1', eo⟩
      rw [eo]
      refine ⟨rfl, ?_⟩
      have cF : CF PN h hc := ⟨by omega, fun j _ w => (cn' j (by omega)).trans (by
        rcases w with w | w
        · exact (g3 j (by omega)).trans (bh j w)
        · exact g4 j (by omega))⟩
      have Hc := CA_G H cF
      refine k37_71 Hc.1.1 (wm_mono (wq_K (h0 := h) (t := th_fr N Dn) (CF_NA cF) (by omega) n1 (by show x + 0 ≤ 10; omega) (by show y + 0 ≤ 200; omega) ⟨fun w => ?_, fun _ => rfl⟩ (fun h' x y q => k37_74 q)) (u_keep Hc (c := h.1) (t := th_fr N Dn) ⟨by omega, by omega⟩ ⟨ha.1, _, q, lq, cc, .inr ⟨by omega, by omega⟩, by unfold kp; omega, PF_same Pb ((cn' _ (by omega)).trans (g3 _ (by omega))) ((cn' _ (by omega)).trans (g3 _ (by omega))), PF_same g8 (cn' _ g6) (cn' _ g7), dN, dD, mD, cND⟩ cc))
      exfalso
      omega
    by_cases e0 : eD = 0
    · rw [if_pos e0]
      refine k37_51 (fun w => absurd w (by decide)) (fun _ => ?_) (c1 := by decide)
      have eDn : Dn = zp_C 1 := mo_1 mD (deg_le dD (by decide)) (by omega)
      refine k37_54 ((bh 1 (by omega)).trans H.1.1) (fin hb 1276 1 _ _ (by show 0 + 1 + 2 + 0 ≤ 9; omega) (by show 0 + 8 + (2 + _) + 0 ≤ 190; omega) (Nat.le_refl _) (by omega) (fun _ _ => rfl) (fun j hj => (bn j (by omega) (by omega)).trans (an j (by omega))) (.inl rfl) (by omega) (by omega) ?_)
      rw [eDn]
      exact PF_same H.2.2.2.1 (bh _ (by omega)) (bh _ (by omega))
    · rw [if_neg e0]
      refine k37_51 (fun _ => ?_) (fun w => absurd rfl w) (c1 := by decide)
      refine k37_61 Ob.1.2 (PF_c Ob.2.2) (wm_mono (fun out => ?_) (u_kept Ob.2.2 bD (by omega) (by omega) (c0 := c3) (c1 := c4) ?_ ?_))
      · intro ⟨hd, Pd, d1', dn, eo⟩
        rw [eo]
        refine fin hd hb.1 _ _ _ (by show 0 + 1 + 2 + 0 + 2 ≤ 9; omega) (by show 0 + 8 + (2 + _) + 0 + (2 + _) ≤ 190; omega) (by omega) (by omega) (fun j hj => dn j (by omega) (by omega)) (fun j hj => (dn j (by omega) (by omega)).trans ((bn j (by omega) (by omega)).trans (an j (by omega)))) (.inr ⟨by omega, by omega⟩) (by omega) (by omega) Pd
      · exact (bn _ (by omega) (by omega)).trans ((an _ (by omega)).trans (by rw [show hb.1 = h.1 + 3 by omega]; exact r3))
      · exact (bn _ (by omega) (by omega)).trans ((an _ (by omega)).trans (by rw [show hb.1 + 1 = h.1 + 4 by omega]; exact r4))
  · rw [w]
    exact ⟨rfl, .inr bad, ⟨fun _ => rfl, fun q => absurd (.inl (by omega)) q⟩, CE_t H (CF_refl _ _) bad eb (by omega) (by omega) (by omega)⟩
/-- what settle left -/
theorem u_keepSet (H : CA h n T tx lf lp tk) (r : RM h 10) {t : Nat} {F G : zp_R} (S : setS h t F G) (ot : 39 ≤ t) (th1 : t + 4 < h.1) (G0 : G ≠ zp_C 0) (dF : zp_deg F 176) (dG : zp_deg G 176) {bad : Int} {l : List Nat} (eb : exl l bad = 0) : wm sw_P (D + 3) 37 [.index 1, .index t] h (fun out => ∃ res, (∃ N Dn, cn F G N Dn ∧ fkR n N Dn bad res) ∧ CE 10 200 10 l h n T tx lf lp tk res out) := by
  obtain ⟨N, Dn, cc, w⟩ := S
  rcases w with ⟨O, l1, l2⟩ | ⟨O, e, e40, w⟩
  · refine wm_mono (fun out => ?_) (u_keepOut H r O ot th1 l1 l2 cc.2.2 cc.2.1 eb)
    intro ⟨res, a1, a2⟩
    exact ⟨res, ⟨N, Dn, cc, a1⟩, a2⟩
  · refine wm_mono (fun out => ?_) (u_keepBad H O eb)
    intro ⟨h', x, y, hx, hy, w2⟩
    have big : (n : Int) = 150 ∨ 40 < hi N ∨ 40 < hi Dn := by
      rcases w with w | w
      · refine .inr (.inl ?_)
        have dN := cn_F cc G0 dF
        rw [dgp_of w (Int.not_le.mp (fun q => w.2.2 e.toNat (by omega) (dN _ (by omega))))]
        exact e40
      · refine .inr (.inr ?_)
        have dN := cn_G cc G0 dG
        rw [dgp_of w (Int.not_le.mp (fun q => w.2.2 e.toNat (by omega) (dN _ (by omega))))]
        exact e40
    exact ⟨.inr bad, ⟨N, Dn, cc, fun _ => rfl, fun q => absurd big q⟩, h', x, y, by omega, by omega, w2⟩
/-- a series -/
theorem u_keepSeries (H : CA h n T tx lf lp tk) (r : RM h 10) {a : Nat} {f : zp_R} (ka : kt h a) (ga : s_get h a = some (ai 25 (cf f))) (df : zp_deg f 25) {bad : Int} {l : List Nat} (eb : exl l bad = 0) : wm sw_P (D + 3) 39 [.index 1, .index a] h (fun out => ∃ res, ((n : Int) = 150 → res = .inr bad) ∧ ((n : Int) ≠ 150 → res = .inl (th_se f)) ∧ CE 5 100 10 l h n T tx lf lp tk res out) := by
  refine wm_in (cd := sw_c39) (nL := 2) (hd := sw_h39) rfl rfl ?_
  have n150 := CA_n H
  have lo := H.1.2
  have ka1 := ka.2
  obtain ⟨c0, r0⟩ := r h.1 (Nat.le_refl _) (by omega)
  obtain ⟨ha, eha⟩ : ∃ ha, hq h (1, 8, s_df 8) = ha := ⟨_, rfl⟩
  have a1 : ha.1 = h.1 + 1 := by rw [← eha]; rfl
  have an : ∀ j, j ≠ h.1 → s_get ha j = s_get h j := fun j hj => by rw [← eha, hq_get r0, if_neg hj]
  have ac : s_get ha h.1 = some (1, 8, s_df 8) := by rw [← eha, hq_get r0, if_pos rfl]
  refine k39_0 r0 ?_
  rw [eha]
  refine wm_mono (fun out => ?_) (u_initN (q := h.1) (a := a) (x := 1) (by omega) ac)
  intro ⟨hc, cc, cn', c1', eo⟩
  rw [eo]
  refine ⟨rfl, ?_⟩
  have cF : CF PN h hc := ⟨by omega, fun j _ w => (cn' j (by omega)).trans (an j (by omega))⟩
  have Hc := CA_G H cF
  have K : KT hc h.1 (th_se f) := ⟨a, cc, kt_le ka cF.1, (kt_get ka cF FX_N).trans ga, df⟩
  refine k39_10 Hc.1.1 (wm_mono (fun out => ?_) (u_keep Hc (c := h.1) (t := th_se f) ⟨by omega, by omega⟩ K cc))
  intro w
  rcases w with ⟨n1, h', C, F, e, eo⟩ | ⟨n1, eo⟩
  · rw [eo]
    exact k39_13 ⟨.inl (th_se f), fun q => absurd q (by omega), fun _ => rfl, h', 0 + 1 + 0 + 0, 0 + 8 + 0 + 0, by omega, by omega, CF_trans (CF_NA cF) F, by omega, rfl, C⟩
  · rw [eo]
    exact ⟨rfl, .inr bad, fun _ => rfl, fun q => absurd (by omega) q, CE_t Hc (CF_NA cF) bad eb (by omega) (by show 0 + 1 + 0 + 1 ≤ 5; omega) (by show 0 + 8 + 0 + 6 ≤ 100; omega)⟩
/-- a matrix that lies there, with all in it -/
theorem u_keepMatrix (H : CA h n T tx lf lp tk) {c : Nat} {t : th} (kc' : kt h c) (K : KT h c t) {fs : List Term} (gc : s_get h c = some (1, 8, fs)) (f0 : s_nth fs 7 = some (vi 0)) {bad : Int} {l : List Nat} (eb : exl l bad = 0) : wm sw_P (D + 3) 38 [.index 1, .index c] h (fun out => ∃ res, ((n : Int) = 150 → res = .inr bad) ∧ ((n : Int) ≠ 150 → res = .inl t) ∧ CE 5 100 10 l h n T tx lf lp tk res out) := by
  refine wm_in (cd := sw_c38) (nL := 2) (hd := sw_h38) rfl rfl ?_
  have n150 := CA_n H
  refine k38_0 H.1.1 (wm_mono (fun out => ?_) (u_needRoom rfl n150 H.1.1))
  intro w
  rcases w with ⟨n1, w⟩ | ⟨n1, w⟩
  · refine wq_v ?_ out w
    refine k38_4 (z5 := 0) gc (fun _ => ?_) (fun w => absurd rfl w) (n6 := f0) (c7 := by decide)
    refine k38_19 H.1.1 (wm_mono (fun out => ?_) (u_keep H (c := c) (t := t) kc' K gc))
    intro w
    rcases w with ⟨n1, h', C, F, e, eo⟩ | ⟨n1, eo⟩
    · rw [eo]
      exact k38_24 ⟨.inl t, fun q => absurd q (by omega), fun _ => rfl, h', 0 + 0 + 0, 0 + 0 + 0, by omega, by omega, F, by omega, rfl, C⟩
    · exfalso
      omega
  · rw [w]
    exact ⟨rfl, .inr bad, fun _ => rfl, fun q => absurd (by omega) q, CE_t H (CF_refl _ _) bad eb (by omega) (by omega) (by omega)⟩
/-- too great an entry -/
theorem u_keepMatrixBad (H : CA h n T tx lf lp tk) {c : Nat} {fs : List Term} (gc : s_get h c = some (1, 8, fs)) (f0 : s_nth fs 7 = some (vi 5)) {bad : Int} {l : List Nat} (eb : exl l bad = 0) : wm sw_P (D + 3) 38 [.index 1, .index c] h (CE 5 100 10 l h n T tx lf lp tk (.inr bad)) := by
  refine wm_in (cd := sw_c38) (nL := 2) (hd := sw_h38) rfl rfl ?_
  have n150 := CA_n H
  refine k38_0 H.1.1 (wm_mono (fun out => ?_) (u_needRoom rfl n150 H.1.1))
  intro w
  rcases w with ⟨n1, w⟩ | ⟨n1, w⟩
  · refine wq_v ?_ out w
    exact k38_4 (z5 := 5) gc (fun w => absurd w (by decide)) (fun _ => k38_11 (CE_t H (CF_refl _ _) bad eb (by omega) (by omega) (by omega))) (n6 := f0) (c7 := by decide)
  · rw [w]
    exact ⟨rfl, CE_t H (CF_refl _ _) bad eb (by omega) (by omega) (by omega)⟩
end
