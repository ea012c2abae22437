/-! the reference's fit in the picture -/
/-- products of moved tops, so many -/
def ftw (a : zp_R) : Nat → zp_R
  | 0 => zp_C 1
  | i + 1 => zp_mul (ftw a i) (mvf a (nF (i : Int)))
/-- v times the bottoms moved by i to i + n -/
def ftv (v b : zp_R) (i : Nat) : Nat → zp_R
  | 0 => v
  | n + 1 => zp_mul (ftv v b i n) (mvf b (nF ((i : Int) + n)))
def ftN (a b : zp_R) (M : Nat → zp_R) (L : Nat) : Nat → zp_R
  | 0 => zp_C 0
  | i + 1 => zp_add (ftN a b M L i) (zp_mul (ftv (ftw a i) b i (L - 1 - i)) (M i))
theorem ftw_dg {a : zp_R} (da : zp_deg a 41) : ∀ i, zp_deg (ftw a i) (40 * i + 1)
  | 0 => zp_C_deg 1
  | i + 1 => zp_deg_mul (n := 40 * i) (m := 40) (ftw_dg da i) (mvf_dg _ da (by decide))
theorem ftv_dg {v b : zp_R} {m : Nat} (dv : zp_deg v (m + 1)) (db : zp_deg b 41) (i : Nat) : ∀ n, zp_deg (ftv v b i n) (m + 40 * n + 1)
  | 0 => dv
  | n + 1 => zp_deg_mul (n := m + 40 * n) (m := 40) (ftv_dg dv db i n) (mvf_dg _ db (by decide))
theorem ftN_dg {a b : zp_R} {M : Nat → zp_R} {L : Nat} (hL : L ≤ 4) (da : zp_deg a 41) (db : zp_deg b 41) (dM : ∀ i, i < L → zp_deg (M i) 11) : ∀ i, i ≤ L → zp_deg (ftN a b M L i) 176
  | 0, _ => deg_le (zp_C_deg 0) (by decide)
  | i + 1, h => deg_add (ftN_dg hL da db dM i (by omega)) (deg_le (zp_deg_mul (n := 40 * i + 40 * (L - 1 - i)) (m := 10) (ftv_dg (ftw_dg da i) db i (L - 1 - i)) (dM i (by omega))) (by omega))
def fitF (cnt : Int) (t u : th) (res : Sum th Int) : Prop := match t, u with
  | .inr (.inr (.inl (_, L, M))), .inl (a, b) => keptF cnt (ftN a b (M 0) L L) (btb b (-1) (L - 1)) 3 res
  | _, _ => True
def fitS (cnt : Int) (T : Nat → th) (x y : Int) (res : Sum th Int) : Prop := (¬ (0 ≤ x ∧ x < cnt ∧ 0 ≤ y ∧ y < cnt) → res = .inr 1) ∧ ((0 ≤ x ∧ x < cnt ∧ 0 ≤ y ∧ y < cnt) → (¬ rkO 0 (T x.toNat) (T y.toNat) → res = .inr 2) ∧ (rkO 0 (T x.toNat) (T y.toNat) → (cnt = 150 → res = .inr 3) ∧ (cnt ≠ 150 → fitF cnt (T x.toNat) (T y.toNat) res)))
section
variable {d : Nat} {h : s_H} {s : Nat → Int} {A : Nat → Nat → Int}
theorem V_fit (hv : RV h s A) {T : Nat → th} (hR : RI s A T) {x y : Int} (hx : In3 x) (hy : In3 y) : wm sw_P (d + 7) 455 [.index 1290, vi x, vi y] h (RA h (fun v s' A' => ∃ res, fitS (s 1) T x y res ∧ endz s A T res v s' A')) := by
  refine wm_in (cd := sw_c455) (nL := 6) (hd := sw_h455) rfl rfl ?_
  have b0 := hR.1.1
  have bad : ∀ (z : Int) (B : Nat → Nat → Int) (h' : s_H), 0 < z → z < 4 → fitS (s 1) T x y (.inr z) → RV h' s B → FR h h' → sm A B scr → wr sw_P (d + 6) sw_c455 sw_h455 (57, [.index 1290, vi x, vi y, .result, .result, .result], [vi z, .index 1290], h', 0, 0) (RA h (fun v s' A' => ∃ res, fitS (s 1) T x y res ∧ endz s A T res v s' A')) := by
    intro z B h' hz2 hz3 hs v r m
    refine k455_57 (z10 := z) v.1 (hp_at v.1) (fun w => absurd w (by omega)) (fun _ => k455_67 ?_) (c12 := by unfold In3; omega)
    exact ⟨_, _, _, _, RV_fld v (up s 0 z) (rF_0 s z), FR_trans r (FR_fld v _), ⟨.inr z, hs, endz_bad hR (sq_refl s) (scr_A m) rfl rfl rfl⟩, rfl⟩
  refine k455_0 hv.1 (wm_mono (wq_r ?_) (V_isThere hv b0 hx))
  by_cases qx : 0 ≤ x ∧ x < s 1
  case neg =>
    rw [if_neg qx]
    exact k455_6 (fun _ => k455_17 (bad 1 A h (by decide) (by decide) ⟨fun _ => rfl, fun w => absurd ⟨w.1, w.2.1⟩ qx⟩ hv (FR_refl h) sm_refl)) (fun w => absurd rfl w)
  rw [if_pos qx]
  refine k455_6 (fun w => absurd w (by decide)) (fun _ => ?_)
  refine k455_9 hv.1 (wm_mono (wq_r ?_) (V_isThere hv b0 hy))
  by_cases qy : 0 ≤ y ∧ y < s 1
  case neg =>
    rw [if_neg qy]
    exact k455_14 (fun w => absurd rfl w) (fun _ => k455_17 (bad 1 A h (by decide) (by decide) ⟨fun _ => rfl, fun w => absurd w.2.2 qy⟩ hv (FR_refl h) sm_refl))
  rw [if_pos qy]
  refine k455_14 (fun _ => ?_) (fun w => absurd (by decide) w)
  obtain ⟨f, ef⟩ : ∃ f : Nat, x = f := ⟨x.toNat, by omega⟩
  obtain ⟨k, ek⟩ : ∃ k : Nat, y = k := ⟨y.toNat, by omega⟩
  subst ef
  subst ek
  have xf : (f : Int).toNat = f := by omega
  have yk : (k : Int).toNat = k := by omega
  refine k455_21 hv.1 (wm_mono (wq_A (fun v1 h1 s1 A1 w1 r1 φ => ?_)) (V_isRule hv hR (f := f) (by omega)))
  obtain ⟨e1, m1, y1, y2⟩ := φ
  subst e1
  have m1' : sm A A1 scr := sm_sub m1 rfl
  have R1 : RI s1 A1 T := RI_sc hR m1' rfl
  have hin : 0 ≤ (f : Int) ∧ (f : Int) < s1 1 ∧ 0 ≤ (k : Int) ∧ (k : Int) < s1 1 := ⟨qx.1, qx.2, qy⟩
  have two2 : ¬ rkO 0 (T f) (T k) → wr sw_P (d + 6) sw_c455 sw_h455 (38, [.index 1290, vi (f : Int), vi (k : Int), .result, .result, .result], [.index 1290], h1, 0, 0) (RA h (fun v s' A' => ∃ res, fitS (s1 1) T f k res ∧ endz s1 A T res v s' A')) := fun q => k455_38 (bad 2 A1 h1 (by decide) (by decide) ⟨fun w => absurd hin w, fun _ => ⟨fun _ => rfl, fun w => absurd (by rw [xf, yk] at w; exact w) q⟩⟩ w1 r1 m1')
  have hk := R1.2.2 k qy.2
  have ik : A1 1291 (k : Int).toNat = kd (T k) := isT_kd hk
  have kb := kd_b (T k)
  have i3 : In3 (A1 1291 (k : Int).toNat) := by rw [ik]; unfold In3; omega
  by_cases q1 : rulP (T f)
  case neg =>
    rw [y2 q1]
    exact k455_26 (fun _ => two2 (fun w => q1 w.1)) (fun w => absurd rfl w)
  rw [y1 q1]
  refine k455_26 (fun w => absurd w (by decide)) (fun _ => ?_)
  refine k455_29 w1.1 (wm_mono (wq_r ?_) (V_is w1 (x := (k : Int)) (k := 0) ⟨by omega, by omega⟩ i3 (by decide)))
  rw [ik]
  by_cases q4 : kd (T k) = 0
  case neg =>
    rw [if_neg q4]
    exact k455_35 (fun w => absurd rfl w) (fun _ => two2 (fun w => q4 w.2))
  rw [if_pos q4]
  refine k455_35 (fun _ => ?_) (fun w => absurd (by decide) w)
  have ok : rkO 0 (T f) (T k) := ⟨q1, q4⟩
  have sp : ∀ res : Sum th Int, (s1 1 = 150 → res = .inr 3) → (s1 1 ≠ 150 → fitF (s1 1) (T f) (T k) res) → fitS (s1 1) T f k res := fun ro y y' => ⟨fun w => absurd hin w, fun _ => ⟨fun w => absurd (by rw [xf, yk]; exact ok) w, fun _ => ⟨y, by rw [xf, yk]; exact y'⟩⟩⟩
  refine k455_42 (z5 := s1 1) w1.1 (fun q6 => k455_56 ?_) (fun q6 => k455_52 (bad 3 A1 h1 (by decide) (by decide) (sp _ (fun _ => rfl) (fun w => absurd (by omega) w)) w1 r1 m1')) (c7 := by unfold In3; omega)
  refine k455_57 (z10 := 0) w1.1 (hp_at w1.1) (fun _ => ?_) (fun w => absurd (by decide) w)
  have w2 := RV_fld w1 (up s1 0 0) (rF_0 s1 0)
  have r2 : FR h (hp h1 1290 (1, 11, (rF s1).set 0 (vi 0))) := FR_trans r1 (FR_fld w1 _)
  have sq2 : sq s1 (up s1 0 0) := sq_up (sq_refl s1) _ rfl
  obtain ⟨L, M, tf⟩ := rul_ma q1
  have R2 : RI (up s1 0 0) A1 T := RI_sc hR m1' rfl
  have hf2 := R2.2.2 f qx.2
  rw [tf] at hf2
  obtain ⟨q0, hL⟩ := row0_T hf2 (RI_me R2)
  have dM : ∀ i, i < L → zp_deg (M 0 i) 11 := fun i hi2 => me_deg (q0.2.1 i hi2)
  refine k455_69 w2.1 (wm_mono (wq_Q (fun h3 w3 r3 => ?_)) (V_load w2 (t := 1298) (b := 1299) rfl rfl (by decide) (x := (k : Int)) ⟨by omega, by omega⟩ (RB_t R1.1) (RB_b R1.1)))
  rw [yk] at w3
  have m3 : sm A (up (up A1 1298 (fp A1 1292 k)) 1299 (fp A1 1293 k)) scr := sm_up (sm_up m1' _ rfl) _ rfl
  have q03 := row0_sm q0 (B := up (up A1 1298 (fp A1 1292 k)) 1299 (fp A1 1293 k)) (sm_up (sm_up sm_refl _ rfl) _ rfl)
  have g1 : gi (mk 150 (up (up A1 1298 (fp A1 1292 k)) 1299 (fp A1 1293 k) 1295)) (f : Int) = (L : Int) := by rw [gi_mkn (by omega)]; exact q03.1
  rcases ek1 : T k with ⟨a, b⟩ | a | ⟨r', c, M'⟩ | ⟨n, so, va⟩
  · rw [ek1] at hk
    obtain ⟨_, p1, p2, p3, p4⟩ := hk
    have da := fr_deg p1
    have db := fr_deg p2
    have nb : b ≠ zp_C 0 := zp_ne0 (mo_pos p3 (deg_le db (by decide)))
    have h98 : up (up A1 1298 (fp A1 1292 k)) 1299 (fp A1 1293 k) 1298 = cf a := by rw [up_ne _ _ (by decide), up_at, p1]
    have h99 : up (up A1 1298 (fp A1 1292 k)) 1299 (fp A1 1293 k) 1299 = cf b := by rw [up_at, p2]
    refine k455_82 w3.1 (Ra_columns w3) (wm_mono (wq_Q (fun h4 w4 r4 => ?_)) (V_empty w3 (c := 1302) rfl)) (c10 := by rw [mk_len]; omega) (c11 := by omega) (c12 := by unfold In3; omega)
    rw [g1]
    refine k455_98 w4.1 (wm_mono (wq_Q (fun h5 w5 r5 => ?_)) (V_become w4 (c := 1312) rfl (z := 1) (by decide)))
    rw [nF_1] at w5
    refine k455_106 ?_
    have loop : ∀ (l i : Nat) (B : Nat → Nat → Int) (h' : s_H) (t5 : Term), i + l = L → RV h' (up s1 0 0) B → FR h h' → sm (up (up A1 1298 (fp A1 1292 k)) 1299 (fp A1 1293 k)) B scr → B 1298 = cf a → B 1299 = cf b → B 1302 = cf (ftN a b (M 0) L i) → (i < L → B 1312 = cf (ftw a i)) → wr sw_P (d + 6) sw_c455 sw_h455 (109, [.index 1290, vi (f : Int), vi (k : Int), vi ((L : Int) - 1), vi (i : Int), t5], [], h', 0, 0) (RA h (fun v s' A' => ∃ res, fitS (s1 1) T f k res ∧ endz s1 A T res v s' A')) := by
      intro l
      induction l with
      | zero =>
        intro i B h' t5 hi2 v rr m ga gb gr gw
        have iL : i = L := by omega
        subst iL
        refine k455_109 (fun _ => ?_) (fun w => absurd w (by omega)) (c1 := by unfold In3; omega) (c2 := by unfold In3; omega)
        refine k455_256 v.1 ?_
        rw [show (i : Int) - 1 - 1 = ((i - 1 : Nat) : Int) - 1 by omega]
        refine wm_mono (wq_N (fun h6 s6 A6 v6 r6 φ => ?_)) (V_bottomsBut v gb db (L := i - 1) (by omega) (but := -1) (by decide))
        obtain ⟨es, m6, g6⟩ := φ
        rw [es] at v6
        refine k455_264 v6.1 (wm_mono (wq_Q (fun h7 v7 r7 => ?_)) (V_copy v6 (c := 1303) (e := 1311) rfl rfl (by decide)))
        have dd := deg_le (btb_dg db (-1) (i - 1)) (show 40 * (i - 1) + 1 ≤ 176 by omega)
        refine k455_275 v7.1 (wm_mono (wq_N (fun h8 s8 A8 v8 r8 φ => ?_)) (V_lower v7 (n := ftN a b (M 0) i i) (m := btb b (-1) (i - 1)) (by rw [up_ne _ _ (by decide), m6 1302 rfl, gr]) (by rw [up_at, g6]) (ftN_dg hL.2 da db dM i (Nat.le_refl _)) dd (hi_ge dd (btb_n0 db nb (-1) (i - 1) (by omega)))))
        obtain ⟨es8, ⟨N, D, hcn, dN, dD, gN, gD⟩, m8⟩ := φ
        rw [es8] at v8
        refine k455_279 v8.1 (wm_mono (wq_A (fun v9 h9 s9 A9 w9 r9 φ => ?_)) (V_keep v8 b0 gN gD))
        have mm : sm A A8 scr := sm_tr m3 (sm_tr (sm_up (sm_tr m (sm_sub m6 rfl)) _ rfl) (sm_sub m8 rfl))
        obtain ⟨res, z1, z2, z3⟩ := endz_kQ hR sq2 (scr_A mm) dN dD hcn.2.2 hcn.2.1 φ
        obtain ⟨u, eu⟩ := endz_vi z3
        subst eu
        exact k455_284 ⟨_, h9, s9, A9, w9, FR_trans rr (FR_trans r6 (FR_trans r7 (FR_trans r8 r9))), ⟨res, sp res (fun w => absurd (by omega) q6) (fun _ => by rw [tf, ek1]; exact ⟨N, D, hcn, z1, z2⟩), z3⟩, rfl⟩
      | succ l ih =>
        intro i B h' t5 hi2 v rr m ga gb gr gw
        have gw := gw (by omega)
        refine k455_109 (fun w => absurd w (by omega)) (fun _ => ?_) (c1 := by unfold In3; omega) (c2 := by unfold In3; omega)
        refine k455_115 v.1 (wm_mono (wq_Q (fun h6 v6 r6 => ?_)) (V_copy v (c := 1311) (e := 1312) rfl rfl (by decide)))
        refine k455_126 ?_
        have pw : ∀ (l2 n : Nat) (C : Nat → Nat → Int) (h2 : s_H), n + l2 = L - 1 - i → RV h2 (up s1 0 0) C → FR h h2 → sm (up (up A1 1298 (fp A1 1292 k)) 1299 (fp A1 1293 k)) C scr → C 1298 = cf a → C 1299 = cf b → C 1302 = cf (ftN a b (M 0) L i) → C 1312 = cf (ftw a i) → C 1311 = cf (ftv (ftw a i) b i n) → wr sw_P (d + 6) sw_c455 sw_h455 (130, [.index 1290, vi (f : Int), vi (k : Int), vi ((L : Int) - 1), vi (i : Int), vi ((i : Int) + n)], [], h2, 0, 0) (RA h (fun v s' A' => ∃ res, fitS (s1 1) T f k res ∧ endz s1 A T res v s' A')) := by
          intro l2
          induction l2 with
          | zero =>
            intro n C h2 hn v7 r7 m7 ga7 gb7 gr7 gw7 gv7
            have nn : n = L - 1 - i := by omega
            have q0' := row0_sm q03 m7
            refine k455_130 (fun _ => ?_) (fun w => absurd w (by omega)) (c1 := by unfold In3; omega) (c2 := by unfold In3; omega)
            refine k455_175 v7.1 (wm_mono (wq_Q (fun h8 v8 r8 => ?_)) (V_loadEntry v7 (p := 1308) rfl (m := f) (i := 0) (j := i) (by omega) (by omega) (by omega) q0'.2.2))
            rw [q0'.2.1 i (by omega)] at v8
            refine k455_187 v8.1 (wm_mono (wq_Q (fun h9 v9 r9 => ?_)) (V_multiplyBy v8 (p := 1311) (q := 1308) rfl rfl (by decide) (by decide) (f := ftv (ftw a i) b i n) (g := M 0 i) (by rw [up_ne _ _ (by decide), gv7]) (up_at _ _ _)))
            refine k455_199 v9.1 (wm_mono (wq_Q (fun ha va ra => ?_)) (V_more v9 (c := 1302) (e := 1311) rfl rfl (by decide) (f := ftN a b (M 0) L i) (g := zp_mul (ftv (ftw a i) b i n) (M 0 i)) (by (repeat rw [up_ne _ _ (by decide)]); rw [gr7]) (up_at _ _ _) (z := 1) (by decide)))
            rw [nF_1, mul1] at va
            refine k455_211 va.1 (wm_mono (wq_Q (fun hb vb rb => ?_)) (V_copy va (c := 1310) (e := 1298) rfl rfl (by decide)))
            refine k455_222 vb.1 (wm_mono (wq_Q (fun hc vc rc' => ?_)) (V_move vb (t := 1310) rfl (f := a) (by rw [up_at]; (repeat rw [up_ne _ _ (by decide)]); rw [ga7]) (deg_le da (by decide)) (z := (i : Int)) (in6_of (by omega) (by omega)))) (c7 := by unfold In3; omega)
            have rC := FR_trans r7 (FR_trans r8 (FR_trans r9 (FR_trans ra (FR_trans rb rc'))))
            refine k455_232 (fun q7 => ?_) (fun q7 => ?_) (c1 := by unfold In3; omega) (c2 := by unfold In3; omega)
            · refine k455_250 (ih (i + 1) _ _ _ (by omega) vc rC (sm_up (sm_up (sm_up (sm_up (sm_up (sm_up m7 _ rfl) _ rfl) _ rfl) _ rfl) _ rfl) _ rfl) ?_ ?_ ?_ (fun w => by omega))
              · (repeat rw [up_ne _ _ (by decide)]); rw [ga7]
              · (repeat rw [up_ne _ _ (by decide)]); rw [gb7]
              · (repeat rw [up_ne _ _ (by decide)]); rw [up_at, nn]; rfl
            · refine k455_238 vc.1 (wm_mono (wq_Q (fun hd' vd rd => ?_)) (V_multiplyBy vc (p := 1312) (q := 1310) rfl rfl (by decide) (by decide) (f := ftw a i) (g := mvf a (nF (i : Int))) (by (repeat rw [up_ne _ _ (by decide)]); rw [gw7]) (up_at _ _ _)))
              refine k455_250 (ih (i + 1) _ _ _ (by omega) vd (FR_trans rC rd) (sm_up (sm_up (sm_up (sm_up (sm_up (sm_up (sm_up (sm_up m7 _ rfl) _ rfl) _ rfl) _ rfl) _ rfl) _ rfl) _ rfl) _ rfl) ?_ ?_ ?_ (fun _ => ?_))
              · (repeat rw [up_ne _ _ (by decide)]); rw [ga7]
              · (repeat rw [up_ne _ _ (by decide)]); rw [gb7]
              · (repeat rw [up_ne _ _ (by decide)]); rw [up_at, nn]; rfl
              · rw [up_at]; rfl
          | succ l2 ih2 =>
            intro n C h2 hn v7 r7 m7 ga7 gb7 gr7 gw7 gv7
            refine k455_130 (fun w => absurd w (by omega)) (fun _ => ?_) (c1 := by unfold In3; omega) (c2 := by unfold In3; omega)
            refine k455_136 v7.1 (wm_mono (wq_Q (fun h8 v8 r8 => ?_)) (V_copy v7 (c := 1310) (e := 1299) rfl rfl (by decide)))
            refine k455_147 v8.1 (wm_mono (wq_Q (fun h9 v9 r9 => ?_)) (V_move v8 (t := 1310) rfl (f := b) (by rw [up_at, gb7]) (deg_le db (by decide)) (z := (i : Int) + n) (in6_of (by omega) (by omega)))) (c7 := by unfold In3; omega)
            refine k455_157 v9.1 (wm_mono (wq_Q (fun ha va ra => ?_)) (V_multiplyBy v9 (p := 1311) (q := 1310) rfl rfl (by decide) (by decide) (f := ftv (ftw a i) b i n) (g := mvf b (nF ((i : Int) + n))) (by rw [up_ne _ _ (by decide), up_ne _ _ (by decide), gv7]) (up_at _ _ _)))
            refine k455_169 ?_
            rw [show (i : Int) + n + 1 = (i : Int) + ((n + 1 : Nat) : Int) by omega]
            refine ih2 (n + 1) _ _ (by omega) va (FR_trans r7 (FR_trans r8 (FR_trans r9 ra))) (sm_up (sm_up (sm_up (sm_up m7 _ rfl) _ rfl) _ rfl) _ rfl) ?_ ?_ ?_ ?_ (by rw [up_at]; rfl)
            · (repeat rw [up_ne _ _ (by decide)]); rw [ga7]
            · (repeat rw [up_ne _ _ (by decide)]); rw [gb7]
            · (repeat rw [up_ne _ _ (by decide)]); rw [gr7]
            · (repeat rw [up_ne _ _ (by decide)]); rw [gw7]
        have := pw (L - 1 - i) 0 _ h6 (by omega) v6 (FR_trans rr r6) (sm_up m _ rfl) (by rw [up_ne _ _ (by decide), ga]) (by rw [up_ne _ _ (by decide), gb]) (by rw [up_ne _ _ (by decide), gr]) (by rw [up_ne _ _ (by decide), gw]) (by rw [up_at, gw]; rfl)
        rw [show (i : Int) + ((0 : Nat) : Int) = i by omega] at this
        exact this
    exact loop L 0 _ h5 _ (by omega) w5 (FR_trans r2 (FR_trans r3 (FR_trans r4 r5))) (sm_up (sm_up sm_refl _ rfl) _ rfl) (by rw [up_ne _ _ (by decide), up_ne _ _ (by decide), h98]) (by rw [up_ne _ _ (by decide), up_ne _ _ (by decide), h99]) (by rw [up_ne _ _ (by decide), up_at]; rfl) (fun _ => up_at _ _ _)
  · rw [ek1] at q4; exact (kdn q4 rfl).elim
  · rw [ek1] at q4; exact (kdn q4 rfl).elim
  · rw [ek1] at q4; exact (kdn q4 rfl).elim
end
