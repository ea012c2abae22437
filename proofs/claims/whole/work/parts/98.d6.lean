/-! the reference's made in the picture -/
def sld (f : zp_R) : Nat → zp_R
  | 0 => f
  | i + 1 => zp_D (sld f i)
def srs (M : Nat → zp_R) (f : zp_R) : Nat → zp_R
  | 0 => zp_C 0
  | i + 1 => zp_add (srs M f i) (zp_mul (M i) (sld f i))
theorem sld_dg {f : zp_R} {n : Nat} (df : zp_deg f n) : ∀ i, zp_deg (sld f i) n
  | 0 => df
  | i + 1 => D_dg (deg_le (sld_dg df i) (Nat.le_succ n))
/-- what a fraction is kept as -/
def keptF (cnt : Int) (n d : zp_R) (bad : Int) (res : Sum th Int) : Prop := ∃ N D, cn n d N D ∧ ((cnt = 150 ∨ 40 < hi N ∨ 40 < hi D) → res = .inr bad) ∧ (¬ (cnt = 150 ∨ 40 < hi N ∨ 40 < hi D) → res = .inl (th_fr N D))
def madF (cnt w : Int) (t u : th) (res : Sum th Int) : Prop := match t, u with
  | .inr (.inr (.inl (_, L, M))), .inl (a, b) => (w = 0 → keptF cnt (stp a b (M 0) L L) (btb b (-1) L) 3 res) ∧ (w ≠ 0 → keptF cnt (slp a b (M 0) L L) (mpw (zp_C 1) b L) 3 res)
  | .inr (.inr (.inl (_, L, M))), .inr (.inl f) => res = .inl (th_se (cut (srs (M 0) f L) 25))
  | _, _ => True
/-- which may be made -/
def madO (w : Int) (t u : th) : Prop := rulP t ∧ (0 ≤ w ∧ w ≤ 1) ∧ kd u < 2 ∧ ¬ (kd u = 1 ∧ w = 0)
def madS (cnt : Int) (T : Nat → th) (x w y : Int) (res : Sum th Int) : Prop := (¬ (0 ≤ x ∧ x < cnt ∧ 0 ≤ y ∧ y < cnt) → res = .inr 1) ∧ ((0 ≤ x ∧ x < cnt ∧ 0 ≤ y ∧ y < cnt) → (¬ madO w (T x.toNat) (T y.toNat) → res = .inr 2) ∧ (madO w (T x.toNat) (T y.toNat) → (cnt = 150 → res = .inr 3) ∧ (cnt ≠ 150 → madF cnt w (T x.toNat) (T y.toNat) res)))
theorem rul_ma {t : th} (h : rulP t) : ∃ L M, t = th_ma 1 L M := by
  rcases t with ⟨a, b⟩ | a | ⟨r, c, M⟩ | ⟨n, so, va⟩
  · exact h.elim
  · exact h.elim
  · obtain ⟨e, _⟩ := h
    subst e
    exact ⟨c, M, rfl⟩
  · exact h.elim
section
variable {d : Nat} {h : s_H} {s : Nat → Int} {A : Nat → Nat → Int}
theorem RI_me {T : Nat → th} (hR : RI s A T) : ∀ t, t < 26400 → In3 (A 1296 t) := fun t ht => by
  have := hR.2.1 t ht
  unfold In3
  omega
theorem row0_T {f L : Nat} {M : Nat → Nat → zp_R} (h : isT A f (th_ma 1 L M)) (hb : ∀ t, t < 26400 → In3 (A 1296 t)) : row0 A f L (M 0) ∧ 1 ≤ L ∧ L ≤ 4 := by
  obtain ⟨_, _, p2, _, p4, p5⟩ := h
  exact ⟨⟨p4, fun i hi2 => p5 0 i (by decide) hi2, hb⟩, p2⟩
theorem V_made (hv : RV h s A) {T : Nat → th} (hR : RI s A T) {x w y : Int} (hx : In3 x) (hw : In3 w) (hy : In3 y) : wm sw_P (d + 8) 517 [.index 1290, vi x, vi w, vi y] h (RA h (fun v s' A' => ∃ res, madS (s 1) T x w y res ∧ endz s A T res v s' A')) := by
  refine wm_in (cd := sw_c517) (nL := 5) (hd := sw_h517) rfl rfl ?_
  have b0 := hR.1.1
  have bad : ∀ (z : Int) (B : Nat → Nat → Int) (h' : s_H), 0 < z → z < 4 → madS (s 1) T x w y (.inr z) → RV h' s B → FR h h' → sm A B scr → wr sw_P (d + 7) sw_c517 sw_h517 (89, [.index 1290, vi x, vi w, vi y, .result], [vi z, .index 1290], h', 0, 0) (RA h (fun v s' A' => ∃ res, madS (s 1) T x w y res ∧ endz s A T res v s' A')) := by
    intro z B h' hz2 hz3 hs v r m
    refine k517_89 (z10 := z) v.1 (hp_at v.1) (fun w => absurd w (by omega)) (fun _ => k517_99 ?_) (c12 := by unfold In3; omega)
    exact ⟨_, _, _, _, RV_fld v (up s 0 z) (rF_0 s z), FR_trans r (FR_fld v _), ⟨.inr z, hs, endz_bad hR (sq_refl s) (scr_A m) rfl rfl rfl⟩, rfl⟩
  refine k517_0 hv.1 (wm_mono (wq_r ?_) (V_isThere hv b0 hx))
  by_cases qx : 0 ≤ x ∧ x < s 1
  case neg =>
    rw [if_neg qx]
    exact k517_6 (fun _ => k517_17 (bad 1 A h (by decide) (by decide) ⟨fun _ => rfl, fun w => absurd ⟨w.1, w.2.1⟩ qx⟩ hv (FR_refl h) sm_refl)) (fun w => absurd rfl w)
  rw [if_pos qx]
  refine k517_6 (fun w => absurd w (by decide)) (fun _ => ?_)
  refine k517_9 hv.1 (wm_mono (wq_r ?_) (V_isThere hv b0 hy))
  by_cases qy : 0 ≤ y ∧ y < s 1
  case neg =>
    rw [if_neg qy]
    exact k517_14 (fun w => absurd rfl w) (fun _ => k517_17 (bad 1 A h (by decide) (by decide) ⟨fun _ => rfl, fun w => absurd w.2.2 qy⟩ hv (FR_refl h) sm_refl))
  rw [if_pos qy]
  refine k517_14 (fun _ => ?_) (fun w => absurd (by decide) w)
  obtain ⟨f, ef⟩ : ∃ f : Nat, x = f := ⟨x.toNat, by omega⟩
  obtain ⟨k, ek⟩ : ∃ k : Nat, y = k := ⟨y.toNat, by omega⟩
  subst ef
  subst ek
  have xf : (f : Int).toNat = f := by omega
  have yk : (k : Int).toNat = k := by omega
  refine k517_21 hv.1 (wm_mono (wq_A (fun v1 h1 s1 A1 w1 r1 φ => ?_)) (V_isRule hv hR (f := f) (by omega)))
  obtain ⟨e1, m1, y1, y2⟩ := φ
  subst e1
  have m1' : sm A A1 scr := sm_sub m1 rfl
  have R1 : RI s1 A1 T := RI_sc hR m1' rfl
  have hin : 0 ≤ (f : Int) ∧ (f : Int) < s1 1 ∧ 0 ≤ (k : Int) ∧ (k : Int) < s1 1 := ⟨qx.1, qx.2, qy⟩
  have two2 : ¬ madO w (T f) (T k) → wr sw_P (d + 7) sw_c517 sw_h517 (70, [.index 1290, vi (f : Int), vi w, vi (k : Int), .result], [.index 1290], h1, 0, 0) (RA h (fun v s' A' => ∃ res, madS (s1 1) T f w k res ∧ endz s1 A T res v s' A')) := fun q => k517_70 (bad 2 A1 h1 (by decide) (by decide) ⟨fun w => absurd hin w, fun _ => ⟨fun _ => rfl, fun w => absurd (by rw [xf, yk] at w; exact w) q⟩⟩ w1 r1 m1')
  have hk := R1.2.2 k qy.2
  have ik : A1 1291 (k : Int).toNat = kd (T k) := isT_kd hk
  have kb := kd_b (T k)
  have i3 : In3 (A1 1291 (k : Int).toNat) := by rw [ik]; unfold In3; omega
  by_cases q1 : rulP (T f)
  case neg =>
    rw [y2 q1]
    exact k517_26 (fun _ => two2 (fun w => q1 w.1)) (fun w => absurd rfl w)
  rw [y1 q1]
  refine k517_26 (fun w => absurd w (by decide)) (fun _ => ?_)
  refine k517_29 (wm_mono (wq_r ?_) (t_in (x := w) (lo := 0) (hi := 1) (by unfold In6; unfold In3 at hw; omega) (by decide) (by decide))) (c1 := hw)
  by_cases q3 : 0 ≤ w ∧ w ≤ 1
  case neg =>
    rw [if_neg q3]
    exact k517_36 (fun _ => two2 (fun w => q3 w.2.1)) (fun w => absurd rfl w)
  rw [if_pos q3]
  refine k517_36 (fun w => absurd w (by decide)) (fun _ => ?_)
  refine k517_39 w1.1 (wm_mono (wq_r ?_) (V_is w1 (x := (k : Int)) (k := 2) ⟨by omega, by omega⟩ i3 (by decide)))
  rw [ik]
  by_cases q4 : kd (T k) = 2
  · rw [if_pos q4]
    exact k517_45 (fun _ => two2 (fun w => by have := w.2.2.1; omega)) (fun w => absurd (by decide) w)
  rw [if_neg q4]
  refine k517_45 (fun w => absurd rfl w) (fun _ => ?_)
  refine k517_48 w1.1 (wm_mono (wq_r ?_) (V_is w1 (x := (k : Int)) (k := 3) ⟨by omega, by omega⟩ i3 (by decide)))
  rw [ik]
  by_cases q5 : kd (T k) = 3
  · rw [if_pos q5]
    exact k517_54 (fun _ => two2 (fun w => by have := w.2.2.1; omega)) (fun w => absurd (by decide) w)
  rw [if_neg q5]
  refine k517_54 (fun w => absurd rfl w) (fun _ => ?_)
  refine k517_57 w1.1 (wm_mono (wq_r ?_) (V_is w1 (x := (k : Int)) (k := 1) ⟨by omega, by omega⟩ i3 (by decide)))
  rw [ik]
  -- all is well
  have go : madO w (T f) (T k) → wr sw_P (d + 7) sw_c517 sw_h517 (74, [.index 1290, vi (f : Int), vi w, vi (k : Int), .result], [.index 1290], h1, 0, 0) (RA h (fun v s' A' => ∃ res, madS (s1 1) T f w k res ∧ endz s1 A T res v s' A')) := fun ok => by
    have sp : ∀ res : Sum th Int, (s1 1 = 150 → res = .inr 3) → (s1 1 ≠ 150 → madF (s1 1) w (T f) (T k) res) → madS (s1 1) T f w k res := fun res y3 y4 => ⟨fun w => absurd hin w, fun _ => ⟨fun w => absurd (by rw [xf, yk]; exact ok) w, fun _ => ⟨y3, by rw [xf, yk]; exact y4⟩⟩⟩
    refine k517_74 (z5 := s1 1) w1.1 (fun q6 => k517_88 ?_) (fun q6 => k517_84 (bad 3 A1 h1 (by decide) (by decide) (sp _ (fun _ => rfl) (fun w => absurd (by omega) w)) w1 r1 m1')) (c7 := by unfold In3; omega)
    refine k517_89 (z10 := 0) w1.1 (hp_at w1.1) (fun _ => ?_) (fun w => absurd (by decide) w)
    have w2 := RV_fld w1 (up s1 0 0) (rF_0 s1 0)
    have r2 : FR h (hp h1 1290 (1, 11, (rF s1).set 0 (vi 0))) := FR_trans r1 (FR_fld w1 _)
    have sq2 : sq s1 (up s1 0 0) := sq_up (sq_refl s1) _ rfl
    refine k517_101 w2.1 (wm_mono (wq_Q (fun h3 w3 r3 => ?_)) (V_load w2 (t := 1298) (b := 1299) rfl rfl (by decide) (x := (k : Int)) ⟨by omega, by omega⟩ (RB_t R1.1) (RB_b R1.1)))
    rw [yk] at w3
    have m3 : sm A (up (up A1 1298 (fp A1 1292 k)) 1299 (fp A1 1293 k)) scr := sm_up (sm_up m1' _ rfl) _ rfl
    have i3' : In3 (up (up A1 1298 (fp A1 1292 k)) 1299 (fp A1 1293 k) 1291 (k : Int).toNat) := by rw [up_ne _ _ (by decide), up_ne _ _ (by decide)]; exact i3
    obtain ⟨L, M, tf⟩ := rul_ma q1
    have R3 : RI (up s1 0 0) (up (up A1 1298 (fp A1 1292 k)) 1299 (fp A1 1293 k)) T := RI_sc hR m3 rfl
    have hf3 := R3.2.2 f qx.2
    rw [tf] at hf3
    obtain ⟨q0, hL⟩ := row0_T hf3 (RI_me R3)
    refine k517_114 w3.1 (wm_mono (wq_r ?_) (V_is w3 (x := (k : Int)) (k := 1) ⟨by omega, by omega⟩ i3' (by decide)))
    rw [up_ne _ _ (by decide), up_ne _ _ (by decide), ik]
    rcases ek1 : T k with ⟨a, b⟩ | a | ⟨r, c, M'⟩ | ⟨n, so, va⟩
    · rw [ek1] at hk
      obtain ⟨_, p1, p2, p3, p4⟩ := hk
      have d1 := fr_deg p1
      have d2 := fr_deg p2
      have h98 : up (up A1 1298 (fp A1 1292 k)) 1299 (fp A1 1293 k) 1298 = cf a := by rw [up_ne _ _ (by decide), up_at, p1]
      have h99 : up (up A1 1298 (fp A1 1292 k)) 1299 (fp A1 1293 k) 1299 = cf b := by rw [up_at, p2]
      have nb : b ≠ zp_C 0 := zp_ne0 (mo_pos p3 (deg_le d2 (by decide)))
      have fin : ∀ (n' d' : zp_R), (s1 1 ≠ 150 → ∀ res, keptF (s1 1) n' d' 3 res → madF (s1 1) w (T f) (T k) res) → ∀ (h4 : s_H) (s4 : Nat → Int) (A4 : Nat → Nat → Int), RV h4 s4 A4 → FR h3 h4 → s4 = up s1 0 0 → sm (up (up A1 1298 (fp A1 1292 k)) 1299 (fp A1 1293 k)) A4 scr → (∃ N D, cn n' d' N D ∧ zp_deg N 176 ∧ zp_deg D 176 ∧ A4 1302 = cf N ∧ A4 1303 = cf D) → wr sw_P (d + 7) sw_c517 sw_h517 (238, [.index 1290, vi (f : Int), vi w, vi (k : Int), .result], [], h4, 0, 0) (RA h (fun v s' A' => ∃ res, madS (s1 1) T f w k res ∧ endz s1 A T res v s' A')) := by
        intro n' d' hF h4 s4 A4 w4 r4 es m4 ⟨N, D, hcn, dN, dD, gN, gD⟩
        rw [es] at w4
        refine k517_238 w4.1 (wm_mono (wq_A (fun v5 h5 s5 A5 w5 r5 φ => ?_)) (V_keep w4 b0 gN gD))
        obtain ⟨res, z1, z2, z3⟩ := endz_kQ hR sq2 (scr_A (sm_tr m3 m4)) dN dD hcn.2.2 hcn.2.1 φ
        obtain ⟨u, eu⟩ := endz_vi z3
        subst eu
        exact k517_243 ⟨_, h5, s5, A5, w5, FR_trans r2 (FR_trans r3 (FR_trans r4 r5)), ⟨res, sp res (fun w => absurd w (by omega)) (fun w => hF w res ⟨N, D, hcn, z1, z2⟩), z3⟩, rfl⟩
      rw [if_neg (show ¬ kd (Sum.inl (a, b)) = 1 from fun w => (kdn w rfl).elim)]
      refine k517_120 (fun _ => ?_) (fun w => absurd rfl w)
      refine k517_221 (fun q7 => ?_) (fun q7 => ?_) (c1 := hw)
      · refine k517_233 w3.1 (wm_mono (wq_N (fun h4 s4 A4 w4 r4 φ => ?_)) (V_makeBySlopes w3 (f := f) (by omega) hL q0 h98 h99 d1 d2 nb))
        obtain ⟨es, m4, hh⟩ := φ
        exact fin _ _ (fun _ res w8 => by rw [tf, ek1]; exact ⟨fun w9 => absurd w9 q7, fun _ => w8⟩) h4 s4 A4 w4 r4 es m4 hh
      · refine k517_225 w3.1 (wm_mono (wq_N (fun h4 s4 A4 w4 r4 φ => ?_)) (V_makeBySteps w3 (f := f) (by omega) hL q0 h98 h99 d1 d2 nb))
        obtain ⟨es, m4, hh⟩ := φ
        exact k517_230 (fin _ _ (fun _ res w8 => by rw [tf, ek1]; exact ⟨fun _ => w8, fun w9 => absurd (Decidable.byContradiction q7) w9⟩) h4 s4 A4 w4 r4 es m4 hh)
    · rw [ek1] at hk
      obtain ⟨_, p1, p2, p3⟩ := hk
      have h98 : up (up A1 1298 (fp A1 1292 k)) 1299 (fp A1 1293 k) 1298 = cf a := by rw [up_ne _ _ (by decide), up_at, p1]
      rw [if_pos (show kd (Sum.inr (Sum.inl a)) = 1 from rfl)]
      refine k517_120 (fun w => absurd w (by decide)) (fun _ => ?_)
      refine k517_123 w3.1 (wm_mono (wq_Q (fun h4 w4 r4 => ?_)) (V_empty w3 (c := 1302) rfl))
      refine k517_130 ?_
      have loop : ∀ (l i : Nat) (B : Nat → Nat → Int) (h' : s_H), i + l = L → RV h' (up s1 0 0) B → FR h h' → sm (up (up A1 1298 (fp A1 1292 k)) 1299 (fp A1 1293 k)) B scr → B 1298 = cf (sld a i) → B 1302 = cf (srs (M 0) a i) → wr sw_P (d + 7) sw_c517 sw_h517 (133, [.index 1290, vi (f : Int), vi w, vi (k : Int), vi (i : Int)], [], h', 0, 0) (RA h (fun v s' A' => ∃ res, madS (s1 1) T f w k res ∧ endz s1 A T res v s' A')) := by
        intro l
        induction l with
        | zero =>
          intro i B h' hi2 v r m ga gr
          have iL : i = L := by omega
          subst iL
          have q0 := row0_sm q0 m
          have g1 : gi (mk 150 (B 1295)) (f : Int) = (i : Int) := by rw [gi_mkn (by omega)]; exact q0.1
          refine k517_133 v.1 (Ra_columns v) (fun _ => ?_) (fun w => absurd w (by rw [g1]; omega)) (c10 := by rw [mk_len]; omega) (c11 := by omega) (c12 := by unfold In3; omega) (c13 := by unfold In3; omega) (c14 := by rw [g1]; unfold In3; omega)
          refine k517_208 v.1 (wm_mono (wq_Q (fun h5 v5 r5 => ?_)) (V_cutOff v (c := 1302) rfl gr))
          refine k517_215 v5.1 (wm_mono (wq_A (fun v6 h6 s6 A6 w6 r6 φ => ?_)) (V_keepSeries v5 b0 (f := cut (srs (M 0) a i) 25) (up_at _ _ _)))
          obtain ⟨res, z1, z2, z3⟩ := endz_ksQ hR sq2 (scr_A (sm_tr m3 (sm_up m _ rfl))) (cut_deg _ 25) (c25_cf (cut_deg _ 25)) φ
          obtain ⟨u, eu⟩ := endz_vi z3
          subst eu
          exact k517_220 ⟨_, h6, s6, A6, w6, FR_trans r (FR_trans r5 r6), ⟨res, sp res (fun w => absurd w (by omega)) (fun w => by rw [tf, ek1]; exact z2 w), z3⟩, rfl⟩
        | succ l ih =>
          intro i B h' hi2 v r m ga gr
          have q0 := row0_sm q0 m
          have g1 : gi (mk 150 (B 1295)) (f : Int) = (L : Int) := by rw [gi_mkn (by omega)]; exact q0.1
          refine k517_133 v.1 (Ra_columns v) (fun w => absurd w (by rw [g1]; omega)) (fun _ => ?_) (c10 := by rw [mk_len]; omega) (c11 := by omega) (c12 := by unfold In3; omega) (c13 := by unfold In3; omega) (c14 := by rw [g1]; unfold In3; omega)
          refine k517_144 v.1 (wm_mono (wq_Q (fun h5 v5 r5 => ?_)) (V_loadEntry v (p := 1308) rfl (m := f) (i := 0) (j := i) (by omega) (by omega) (by omega) q0.2.2))
          rw [q0.2.1 i (by omega)] at v5
          refine k517_156 v5.1 (wm_mono (wq_Q (fun h6 v6 r6 => ?_)) (V_multiply v5 (p := 1308) (q := 1298) rfl rfl (by decide) (by decide) (f := M 0 i) (g := sld a i) (up_at _ _ _) (by rw [up_ne _ _ (by decide), ga])))
          refine k517_168 v6.1 (wm_mono (wq_Q (fun h7 v7 r7 => ?_)) (V_more v6 (c := 1302) (e := 1304) rfl rfl (by decide) (f := srs (M 0) a i) (g := zp_mul (M 0 i) (sld a i)) (by rw [up_ne _ _ (by decide), up_ne _ _ (by decide), gr]) (up_at _ _ _) (z := 1) (by decide)))
          rw [nF_1, mul1] at v7
          refine k517_180 v7.1 (wm_mono (wq_Q (fun h8 v8 r8 => ?_)) (V_slope v7 (c := 1309) (e := 1298) rfl rfl (by decide) (f := sld a i) (by (repeat rw [up_ne _ _ (by decide)]); rw [ga]) (deg_le (sld_dg p3 i) (by decide))))
          refine k517_191 v8.1 (wm_mono (wq_Q (fun h9 v9 r9 => ?_)) (V_copy v8 (c := 1298) (e := 1309) rfl rfl (by decide)))
          refine k517_202 ?_
          refine ih (i + 1) _ _ (by omega) v9 (FR_trans r (FR_trans r5 (FR_trans r6 (FR_trans r7 (FR_trans r8 r9))))) (sm_up (sm_up (sm_up (sm_up (sm_up m _ rfl) _ rfl) _ rfl) _ rfl) _ rfl) (by rw [up_at, up_at]; rfl) ?_
          (repeat rw [up_ne _ _ (by decide)]); rw [up_at]; rfl
      exact loop L 0 _ h4 (by omega) w4 (FR_trans r2 (FR_trans r3 r4)) (sm_up sm_refl _ rfl) (by rw [up_ne _ _ (by decide), h98]; rfl) (up_at _ _ _)
    · rw [ek1] at q4; exact absurd rfl q4
    · rw [ek1] at q5; exact absurd rfl q5
  by_cases q6 : kd (T k) = 1
  · rw [if_pos q6]
    refine k517_63 (fun w => absurd w (by decide)) (fun _ => ?_)
    refine k517_66 (fun q7 => go ⟨q1, q3, by omega, fun w => q7 w.2⟩) (fun q7 => two2 (fun w => w.2.2.2 ⟨q6, Decidable.byContradiction q7⟩)) (c1 := hw)
  · rw [if_neg q6]
    exact k517_63 (fun _ => go ⟨q1, q3, by omega, fun w => q6 w.1⟩) (fun w => absurd rfl w)
end
