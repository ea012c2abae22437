/-! the reference's isRule, isRuleFor, bottomsBut, makeBySteps and makeBySlopes -/
/-- the code of a rule and one of two ways -/
def rfS (cnt : Int) (T : Nat → th) (x w : Int) (c : Int) : Prop := (¬ (0 ≤ x ∧ x < cnt) → c = 1) ∧ ((0 ≤ x ∧ x < cnt) → (¬ (rulP (T x.toNat) ∧ 0 ≤ w ∧ w ≤ 1) → c = 2) ∧ ((rulP (T x.toNat) ∧ 0 ≤ w ∧ w ≤ 1) → c = 0))
section
variable {d : Nat} {h : s_H} {s : Nat → Int} {A : Nat → Nat → Int}
theorem V_isRule (hv : RV h s A) {T : Nat → th} (hR : RI s A T) {f : Nat} (lf : (f : Int) < s 1) : wm sw_P (d + 3) 486 [.index 1290, vi (f : Int)] h (RA h (fun v s' A' => s' = s ∧ sm A A' [1308] ∧ (rulP (T f) → v = vi 1) ∧ (¬ rulP (T f) → v = vi 0))) := by
  refine wm_in (cd := sw_c486) (nL := 2) (hd := sw_h486) rfl rfl ?_
  have b0 := hR.1.1
  have hf := hR.2.2 f lf
  have ik : A 1291 (f : Int).toNat = kd (T f) := isT_kd hf
  have kb := kd_b (T f)
  have i3 : In3 (A 1291 (f : Int).toNat) := by rw [ik]; unfold In3; omega
  refine k486_0 hv.1 (wm_mono (wq_r ?_) (V_is hv (x := (f : Int)) (k := 2) ⟨by omega, by omega⟩ i3 (by decide)))
  rw [ik]
  have no : ¬ rulP (T f) → wr sw_P (d + 2) sw_c486 sw_h486 (19, [.index 1290, vi (f : Int)], [], h, 0, 0) (RA h (fun v s' A' => s' = s ∧ sm A A' [1308] ∧ (rulP (T f) → v = vi 1) ∧ (¬ rulP (T f) → v = vi 0))) := fun q => k486_19 ⟨vi 0, h, s, A, hv, FR_refl h, ⟨rfl, sm_refl, fun w => absurd w q, fun _ => rfl⟩, rfl⟩
  by_cases k2 : kd (T f) = 2
  case neg =>
    rw [if_neg k2]
    refine k486_6 (fun _ => no (fun w => k2 ?_)) (fun w => absurd rfl w)
    rcases ef1 : T f with ⟨a, b⟩ | a | ⟨r, c, M⟩ | ⟨n, so, va⟩ <;> rw [ef1] at w
    · exact w.elim
    · exact w.elim
    · rfl
    · exact w.elim
  rw [if_pos k2]
  refine k486_6 (fun w => absurd w (by decide)) (fun _ => ?_)
  obtain ⟨t, et⟩ : ∃ t, T f = t := ⟨_, rfl⟩
  rw [et] at hf k2 no ⊢
  rcases t with ⟨a, b⟩ | a | ⟨r, c, M⟩ | ⟨n, so, va⟩
  · exact (kdn k2 rfl).elim
  · exact (kdn k2 rfl).elim
  · obtain ⟨_, p1, p2, p3, p4, p5⟩ := hf
    have g1 : gi (mk 150 (A 1294)) (f : Int) = (r : Int) := by rw [gi_mkn (by omega)]; exact p3
    have g3 : gi (mk 150 (A 1295)) (f : Int) = (c : Int) := by rw [gi_mkn (by omega)]; exact p4
    refine k486_9 hv.1 (Ra_rows hv) (fun w => ?_) (fun w => ?_) (c10 := by rw [mk_len]; omega) (c11 := by omega) (c12 := by unfold In3; omega) (c13 := by rw [g1]; unfold In3; omega)
    · rw [g1] at w
      refine k486_21 hv.1 (Ra_columns hv) ?_ (c12 := by rw [mk_len]; omega) (c13 := by omega) (c14 := by unfold In3; omega)
      rw [g3, show (c : Int) - 1 = ((c - 1 : Nat) : Int) by omega]
      refine wm_mono (wq_Q (fun h1 v1 r1 => ?_)) (V_loadEntry hv (p := 1308) rfl (m := f) (i := 0) (j := c - 1) (by omega) (by omega) (by omega) (fun t ht => by have := hR.2.1 t ht; unfold In3; omega))
      rw [p5 0 (c - 1) (by omega) (by omega)] at v1
      have dM := deg_le (me_deg (p5 0 (c - 1) (by omega) (by omega))) (show 11 ≤ 176 by decide)
      refine k486_39 v1.1 (wm_mono (wq_r ?_) (V_high v1 (c := 1308) rfl (up_at _ _ _)))
      refine k486_46 (fun w2 => k486_53 (k486_54 ?_)) (fun w2 => k486_49 (k486_54 ?_)) (c1 := by have := hi_b (M 0 (c - 1)); unfold In3; omega)
      · exact ⟨vi 0, h1, s, _, v1, r1, ⟨rfl, sm_up sm_refl _ rfl, fun w3 => absurd (hi_0 dM w2) w3.2, fun _ => rfl⟩, rfl⟩
      · exact ⟨vi 1, h1, s, _, v1, r1, ⟨rfl, sm_up sm_refl _ rfl, fun _ => rfl, fun w3 => absurd ⟨by omega, zp_ne0 (by omega)⟩ w3⟩, rfl⟩
    · rw [g1] at w
      exact no (fun w3 => w (by have := w3.1; omega))
  · exact (kdn k2 rfl).elim
/-- a rule that is there -/
def rfQ (s : Nat → Int) (A : Nat → Nat → Int) (T : Nat → th) (x w : Int) : Term → (Nat → Int) → (Nat → Nat → Int) → Prop := fun v s' A' => sm A A' [1308] ∧ ∃ c, rfS (s 1) T x w c ∧ s' = up s 0 c ∧ ((c ≠ 0 ∧ v = vi 0) ∨ (c = 0 ∧ v = vi 1 ∧ (0 ≤ w ∧ w ≤ 1) ∧ ∃ (f k : Nat) (M : Nat → Nat → zp_R), x = f ∧ (f : Int) < s 1 ∧ T f = th_ma 1 k M ∧ M 0 (k - 1) ≠ zp_C 0))
theorem V_isRuleFor (hv : RV h s A) {T : Nat → th} (hR : RI s A T) {x w : Int} (hx : In3 x) (hw : In3 w) : wm sw_P (d + 4) 487 [.index 1290, vi x, vi w] h (RA h (rfQ s A T x w)) := by
  refine wm_in (cd := sw_c487) (nL := 3) (hd := sw_h487) rfl rfl ?_
  have b0 := hR.1.1
  refine k487_0 hv.1 (wm_mono (wq_r ?_) (V_isThere hv b0 hx))
  have bad : ∀ (z : Int) (B : Nat → Nat → Int) (h' : s_H), 0 < z → z < 3 → rfS (s 1) T x w z → RV h' s B → FR h h' → sm A B [1308] → wr sw_P (d + 3) sw_c487 sw_h487 (36, [.index 1290, vi x, vi w], [vi z, .index 1290], h', 0, 0) (RA h (rfQ s A T x w)) := by
    intro z B h' hz2 hz3 hs v r m
    refine k487_36 (z10 := z) v.1 (hp_at v.1) (fun _ => k487_50 (k487_51 ?_)) (fun w => absurd w (by omega)) (c12 := by unfold In3; omega)
    exact ⟨_, _, _, _, RV_fld v (up s 0 z) (rF_0 s z), FR_trans r (FR_fld v _), ⟨m, z, hs, rfl, .inl ⟨by omega, rfl⟩⟩, rfl⟩
  by_cases hin : 0 ≤ x ∧ x < s 1
  · rw [if_pos hin]
    refine k487_6 (fun _ => ?_) (fun w => absurd (by decide) w)
    obtain ⟨f, ef⟩ : ∃ f : Nat, x = f := ⟨x.toNat, by omega⟩
    subst ef
    have xf : (f : Int).toNat = f := by omega
    refine k487_13 hv.1 (wm_mono (wq_A (fun v1 h1 s1 A1 w1 r1 φ => ?_)) (V_isRule hv hR (f := f) (by omega)))
    obtain ⟨e1, m1, y1, y2⟩ := φ
    subst e1
    have two2 : ¬ (rulP (T f) ∧ 0 ≤ w ∧ w ≤ 1) → wr sw_P (d + 3) sw_c487 sw_h487 (31, [.index 1290, vi (f : Int), vi w], [.index 1290], h1, 0, 0) (RA h (rfQ s1 A T f w)) := fun q => k487_31 (bad 2 A1 h1 (by decide) (by decide) ⟨fun w => absurd hin w, fun _ => ⟨fun _ => rfl, fun w => absurd (by rw [xf] at w; exact w) q⟩⟩ w1 r1 m1)
    by_cases q1 : rulP (T f)
    case neg =>
      rw [y2 q1]
      exact k487_18 (fun _ => two2 (fun w => q1 w.1)) (fun w => absurd rfl w)
    rw [y1 q1]
    refine k487_18 (fun w => absurd w (by decide)) (fun _ => ?_)
    refine k487_21 (wm_mono (wq_r ?_) (t_in (x := w) (lo := 0) (hi := 1) (by unfold In6; unfold In3 at hw; omega) (by decide) (by decide))) (c1 := hw)
    by_cases q3 : 0 ≤ w ∧ w ≤ 1
    · rw [if_pos q3]
      refine k487_28 (fun _ => k487_35 ?_) (fun w => absurd (by decide) w)
      refine k487_36 (z10 := 0) w1.1 (hp_at w1.1) (fun w => absurd rfl w) (fun _ => k487_46 (k487_51 ?_))
      refine ⟨vi 1, _, _, _, RV_fld w1 (up s1 0 0) (rF_0 s1 0), FR_trans r1 (FR_fld w1 _), ⟨m1, 0, ⟨fun w => absurd hin w, fun _ => ⟨fun w => absurd (by rw [xf]; exact ⟨q1, q3⟩) w, fun _ => rfl⟩⟩, rfl, .inr ⟨rfl, rfl, q3, ?_⟩⟩, rfl⟩
      rcases ef1 : T f with ⟨a, b⟩ | a | ⟨r, c, M⟩ | ⟨n, so, va⟩ <;> rw [ef1] at q1
      · exact q1.elim
      · exact q1.elim
      · obtain ⟨z1, z2⟩ := q1
        subst z1
        exact ⟨f, c, M, rfl, hin.2, ef1, z2⟩
      · exact q1.elim
    · rw [if_neg q3]
      exact k487_28 (fun w => absurd rfl w) (fun _ => two2 (fun w => q3 w.2))
  · rw [if_neg hin]
    exact k487_6 (fun w => absurd rfl w) (fun _ => k487_9 (bad 1 A h (by decide) (by decide) ⟨fun _ => rfl, fun w => absurd w hin⟩ hv (FR_refl h) sm_refl))
theorem V_bottomsBut (hv : RV h s A) {b : zp_R} (hb : A 1299 = cf b) (db : zp_deg b 41) {L : Nat} (hL : L ≤ 4) {but : Int} (i3 : In3 but) : wm sw_P (d + 4) 409 [.index 1290, vi ((L : Int) - 1), vi but] h (RN h (fun s' A' => s' = s ∧ sm A A' [1304, 1310, 1311] ∧ A' 1311 = cf (btb b but L))) := by
  refine wm_in (cd := sw_c409) (nL := 4) (hd := sw_h409) rfl rfl ?_
  refine k409_0 hv.1 (wm_mono (wq_Q (fun h1 v1 r1 => ?_)) (V_become hv (c := 1311) rfl (z := 1) (by decide)))
  rw [nF_1] at v1
  refine k409_8 ?_
  have loop : ∀ (l k : Nat) (B : Nat → Nat → Int) (h' : s_H), k + l = L → RV h' s B → FR h h' → sm A B [1304, 1310, 1311] → B 1311 = cf (btb b but k) → wr sw_P (d + 3) sw_c409 sw_h409 (10, [.index 1290, vi ((L : Int) - 1), vi but, vi (k : Int)], [], h', 0, 0) (RN h (fun s' A' => s' = s ∧ sm A A' [1304, 1310, 1311] ∧ A' 1311 = cf (btb b but L))) := by
    intro l
    induction l with
    | zero =>
      intro k B h' hk v r m g
      have kL : k = L := by omega
      subst kL
      exact k409_10 (fun _ => k409_61 ⟨h', s, B, v, r, ⟨rfl, m, g⟩, rfl⟩) (fun w => absurd w (by omega)) (c1 := by unfold In3; omega) (c2 := by unfold In3; omega)
    | succ l ih =>
      intro k B h' hk v r m g
      refine k409_10 (fun w => absurd w (by omega)) (fun _ => ?_) (c1 := by unfold In3; omega) (c2 := by unfold In3; omega)
      have es : btb b but (k + 1) = if (k : Int) = but then btb b but k else zp_mul (btb b but k) (mvf b (nF (k : Int))) := rfl
      refine k409_15 (fun w => ?_) (fun w => ?_) (c1 := by unfold In3; omega) (c2 := i3)
      · rw [if_neg w] at es
        refine k409_23 v.1 (wm_mono (wq_Q (fun h2 v2 r2 => ?_)) (V_copy v (c := 1310) (e := 1299) rfl rfl (by decide)))
        refine k409_34 v2.1 (wm_mono (wq_Q (fun h3 v3 r3 => ?_)) (V_move v2 (t := 1310) rfl (f := b) (by rw [up_at, m 1299 rfl, hb]) (deg_le db (by decide)) (z := (k : Int)) (in6_of (by omega) (by omega)))) (c7 := by unfold In3; omega)
        refine k409_43 v3.1 (wm_mono (wq_Q (fun h4 v4 r4 => ?_)) (V_multiplyBy v3 (p := 1311) (q := 1310) rfl rfl (by decide) (by decide) (f := btb b but k) (g := mvf b (nF (k : Int))) (by rw [up_ne _ _ (by decide), up_ne _ _ (by decide), g]) (up_at _ _ _)))
        refine k409_55 ?_
        exact ih (k + 1) _ _ (by omega) v4 (FR_trans r (FR_trans r2 (FR_trans r3 r4))) (sm_up (sm_up (sm_up (sm_up m _ rfl) _ rfl) _ rfl) _ rfl) (by rw [up_at, es])
      · rw [if_pos (Decidable.byContradiction w)] at es
        exact k409_20 (k409_55 (ih (k + 1) B h' (by omega) v r m (by rw [g, es])))
  exact loop L 0 _ h1 (by omega) v1 r1 (sm_up sm_refl _ rfl) (up_at _ _ _)
/-- the entries of row 0 of matrix f -/
def row0 (A : Nat → Nat → Int) (f L : Nat) (M : Nat → zp_R) : Prop := A 1295 f = L ∧ (∀ i, i < L → me A f 0 i = cf (M i)) ∧ ∀ t, t < 26400 → In3 (A 1296 t)
theorem row0_sm {A B : Nat → Nat → Int} {f L : Nat} {M : Nat → zp_R} (h : row0 A f L M) (m : sm A B scr) : row0 B f L M := by
  obtain ⟨h1, h2, h3⟩ := h
  refine ⟨by rw [m 1295 rfl]; exact h1, fun i hi2 => ?_, by rw [m 1296 rfl]; exact h3⟩
  rw [← h2 i hi2]
  unfold me
  rw [m 1296 rfl]
theorem V_makeBySteps (hv : RV h s A) {a b : zp_R} {f L : Nat} {M : Nat → zp_R} (hf : f < 150) (hL : 1 ≤ L ∧ L ≤ 4) (h0 : row0 A f L M) (ha : A 1298 = cf a) (hb : A 1299 = cf b) (da : zp_deg a 41) (db : zp_deg b 41) (nb : b ≠ zp_C 0) : wm sw_P (d + 7) 519 [.index 1290, vi (f : Int)] h (RN h (fun s' A' => s' = s ∧ sm A A' scr ∧ ∃ N D, cn (stp a b M L L) (btb b (-1) L) N D ∧ zp_deg N 176 ∧ zp_deg D 176 ∧ A' 1302 = cf N ∧ A' 1303 = cf D)) := by
  refine wm_in (cd := sw_c519) (nL := 4) (hd := sw_h519) rfl rfl ?_
  have g1 : gi (mk 150 (A 1295)) (f : Int) = (L : Int) := by rw [gi_mkn hf]; exact h0.1
  have dM : ∀ i, i < L → zp_deg (M i) 11 := fun i hi2 => me_deg (h0.2.1 i hi2)
  refine k519_0 hv.1 (Ra_columns hv) (wm_mono (wq_Q (fun h1 v1 r1 => ?_)) (V_empty hv (c := 1302) rfl)) (c10 := by rw [mk_len]; omega) (c11 := by omega) (c12 := by unfold In3; omega)
  rw [g1]
  refine k519_16 ?_
  have loop : ∀ (l i : Nat) (B : Nat → Nat → Int) (h' : s_H), i + l = L → RV h' s B → FR h h' → sm A B scr → B 1298 = cf a → B 1299 = cf b → B 1302 = cf (stp a b M L i) → wr sw_P (d + 6) sw_c519 sw_h519 (18, [.index 1290, vi (f : Int), vi ((L : Int) - 1), vi (i : Int)], [], h', 0, 0) (RN h (fun s' A' => s' = s ∧ sm A A' scr ∧ ∃ N D, cn (stp a b M L L) (btb b (-1) L) N D ∧ zp_deg N 176 ∧ zp_deg D 176 ∧ A' 1302 = cf N ∧ A' 1303 = cf D)) := by
    intro l
    induction l with
    | zero =>
      intro i B h' hi2 v r m ga gb gr
      have iL : i = L := by omega
      subst iL
      refine k519_18 (fun _ => ?_) (fun w => absurd w (by omega)) (c1 := by unfold In3; omega) (c2 := by unfold In3; omega)
      refine k519_102 v.1 (wm_mono (wq_N (fun h2 s2 A2 v2 r2 φ => ?_)) (V_bottomsBut v gb db (L := i) (by omega) (but := -1) (by decide)))
      obtain ⟨es, m2, g2⟩ := φ
      rw [es] at v2
      refine k519_108 v2.1 (wm_mono (wq_Q (fun h3 v3 r3 => ?_)) (V_copy v2 (c := 1303) (e := 1311) rfl rfl (by decide)))
      have dd := deg_le (btb_dg db (-1) i) (show 40 * i + 1 ≤ 176 by omega)
      refine k519_119 v3.1 (wm_mono (wq_N (fun h4 s4 A4 v4 r4 φ => ?_)) (V_lower v3 (n := stp a b M i i) (m := btb b (-1) i) (by rw [up_ne _ _ (by decide), m2 1302 rfl, gr]) (by rw [up_at, g2]) (stp_dg hL.2 da db dM i (Nat.le_refl _)) dd (hi_ge dd (btb_n0 db nb (-1) i hL.2))))
      obtain ⟨es4, ⟨N, D, hcn, dN, dD, gN, gD⟩, m4⟩ := φ
      exact k519_123 ⟨h4, s4, A4, v4, FR_trans r (FR_trans r2 (FR_trans r3 r4)), ⟨es4, sm_tr (sm_up (sm_tr m (sm_sub m2 rfl)) _ rfl) (sm_sub m4 rfl), N, D, hcn, dN, dD, gN, gD⟩, rfl⟩
    | succ l ih =>
      intro i B h' hi2 v r m ga gb gr
      refine k519_18 (fun w => absurd w (by omega)) (fun _ => ?_) (c1 := by unfold In3; omega) (c2 := by unfold In3; omega)
      refine k519_23 v.1 (wm_mono (wq_N (fun h2 s2 A2 v2 r2 φ => ?_)) (V_bottomsBut v gb db (L := L) (by omega) (but := (i : Int)) (by unfold In3; omega)))
      obtain ⟨es, m2, g2⟩ := φ
      rw [es] at v2
      have mA2 := sm_tr m (sm_sub (M := scr) m2 rfl)
      refine k519_29 v2.1 (wm_mono (wq_Q (fun h3 v3 r3 => ?_)) (V_copy v2 (c := 1310) (e := 1298) rfl rfl (by decide)))
      refine k519_40 v3.1 (wm_mono (wq_Q (fun h4 v4 r4 => ?_)) (V_move v3 (t := 1310) rfl (f := a) (by rw [up_at, m2 1298 rfl, ga]) (deg_le da (by decide)) (z := (i : Int)) (in6_of (by omega) (by omega)))) (c7 := by unfold In3; omega)
      refine k519_49 v4.1 (wm_mono (wq_Q (fun h5 v5 r5 => ?_)) (V_multiplyBy v4 (p := 1311) (q := 1310) rfl rfl (by decide) (by decide) (f := btb b (i : Int) L) (g := mvf a (nF (i : Int))) (by rw [up_ne _ _ (by decide), up_ne _ _ (by decide), g2]) (up_at _ _ _)))
      have mA5 : sm A _ scr := sm_up (sm_up (sm_up (sm_up mA2 (c := 1310) (A2 1298) rfl) (c := 1310) (cf (mvf a (nF (i : Int)))) rfl) (c := 1304) (cf (zp_mul (btb b (i : Int) L) (mvf a (nF (i : Int))))) rfl) (c := 1311) (cf (zp_mul (btb b (i : Int) L) (mvf a (nF (i : Int))))) rfl
      have q0 := row0_sm h0 mA5
      refine k519_61 v5.1 (wm_mono (wq_Q (fun h6 v6 r6 => ?_)) (V_loadEntry v5 (p := 1308) rfl (m := f) (i := 0) (j := i) hf (by omega) (by omega) q0.2.2))
      rw [q0.2.1 i (by omega)] at v6
      refine k519_72 v6.1 (wm_mono (wq_Q (fun h7 v7 r7 => ?_)) (V_multiplyBy v6 (p := 1311) (q := 1308) rfl rfl (by decide) (by decide) (f := zp_mul (btb b (i : Int) L) (mvf a (nF (i : Int)))) (g := M i) (by rw [up_ne _ _ (by decide), up_at]) (up_at _ _ _)))
      refine k519_84 v7.1 (wm_mono (wq_Q (fun h8 v8 r8 => ?_)) (V_more v7 (c := 1302) (e := 1311) rfl rfl (by decide) (f := stp a b M L i) (g := zp_mul (zp_mul (btb b (i : Int) L) (mvf a (nF (i : Int)))) (M i)) (by (repeat rw [up_ne _ _ (by decide)]); rw [m2 1302 rfl, gr]) (up_at _ _ _) (z := 1) (by decide)))
      rw [nF_1, mul1] at v8
      refine k519_96 ?_
      refine ih (i + 1) _ _ (by omega) v8 (FR_trans r (FR_trans r2 (FR_trans r3 (FR_trans r4 (FR_trans r5 (FR_trans r6 (FR_trans r7 r8))))))) (sm_up (sm_up (sm_up (sm_up mA5 _ rfl) _ rfl) _ rfl) _ rfl) ?_ ?_ (up_at _ _ _)
      · (repeat rw [up_ne _ _ (by decide)]); rw [m2 1298 rfl, ga]
      · (repeat rw [up_ne _ _ (by decide)]); rw [m2 1299 rfl, gb]
  exact loop L 0 _ h1 (by omega) v1 r1 (sm_up sm_refl _ rfl) (by rw [up_ne _ _ (by decide), ha]) (by rw [up_ne _ _ (by decide), hb]) (up_at _ _ _)
theorem V_makeBySlopes (hv : RV h s A) {a b : zp_R} {f L : Nat} {M : Nat → zp_R} (hf : f < 150) (hL : 1 ≤ L ∧ L ≤ 4) (h0 : row0 A f L M) (ha : A 1298 = cf a) (hb : A 1299 = cf b) (da : zp_deg a 41) (db : zp_deg b 41) (nb : b ≠ zp_C 0) : wm sw_P (d + 7) 518 [.index 1290, vi (f : Int)] h (RN h (fun s' A' => s' = s ∧ sm A A' scr ∧ ∃ N D, cn (slp a b M L L) (mpw (zp_C 1) b L) N D ∧ zp_deg N 176 ∧ zp_deg D 176 ∧ A' 1302 = cf N ∧ A' 1303 = cf D)) := by
  refine wm_in (cd := sw_c518) (nL := 5) (hd := sw_h518) rfl rfl ?_
  have g1 : gi (mk 150 (A 1295)) (f : Int) = (L : Int) := by rw [gi_mkn hf]; exact h0.1
  have dM : ∀ i, i < L → zp_deg (M i) 11 := fun i hi2 => me_deg (h0.2.1 i hi2)
  have dP : ∀ i, i < L → zp_deg (mpw (zp_mul (M i) (slt a b i)) b (L - 1 - i)) 176 := fun i hi2 => by
    have := mpw_dg (zp_deg_mul (n := 10) (m := 40 + 40 * i) (dM i hi2) (slt_dg da db i)) db (L - 1 - i)
    exact deg_le this (by omega)
  have dS : ∀ i, i ≤ L → zp_deg (slp a b M L i) 176 := by
    intro i
    induction i with
    | zero => intro _; exact deg_le (zp_C_deg 0) (by decide)
    | succ i ih => intro hi2; exact deg_add (ih (by omega)) (dP i (by omega))
  refine k518_0 hv.1 (Ra_columns hv) (wm_mono (wq_Q (fun h1 v1 r1 => ?_)) (V_empty hv (c := 1302) rfl)) (c10 := by rw [mk_len]; omega) (c11 := by omega) (c12 := by unfold In3; omega)
  rw [g1]
  refine k518_16 v1.1 (wm_mono (wq_Q (fun h2 v2 r2 => ?_)) (V_copy v1 (c := 1309) (e := 1298) rfl rfl (by decide)))
  refine k518_27 ?_
  have loop : ∀ (l i : Nat) (B : Nat → Nat → Int) (h' : s_H) (t4 : Term), i + l = L → RV h' s B → FR h h' → sm A B scr → B 1299 = cf b → (i < L → B 1309 = cf (slt a b i)) → B 1302 = cf (slp a b M L i) → wr sw_P (d + 6) sw_c518 sw_h518 (29, [.index 1290, vi (f : Int), vi ((L : Int) - 1), vi (i : Int), t4], [], h', 0, 0) (RN h (fun s' A' => s' = s ∧ sm A A' scr ∧ ∃ N D, cn (slp a b M L L) (mpw (zp_C 1) b L) N D ∧ zp_deg N 176 ∧ zp_deg D 176 ∧ A' 1302 = cf N ∧ A' 1303 = cf D)) := by
    intro l
    induction l with
    | zero =>
      intro i B h' t4 hi2 v r m gb gt gr
      have iL : i = L := by omega
      subst iL
      refine k518_29 (fun _ => ?_) (fun w => absurd w (by omega)) (c1 := by unfold In3; omega) (c2 := by unfold In3; omega)
      refine k518_186 v.1 (wm_mono (wq_Q (fun h2 v2 r2 => ?_)) (V_become v (c := 1303) rfl (z := 1) (by decide)))
      rw [nF_1] at v2
      refine k518_194 ?_
      have pw : ∀ (l2 k : Nat) (C : Nat → Nat → Int) (h3 : s_H), k + l2 = i → RV h3 s C → FR h h3 → sm A C scr → C 1299 = cf b → C 1302 = cf (slp a b M i i) → C 1303 = cf (mpw (zp_C 1) b k) → wr sw_P (d + 6) sw_c518 sw_h518 (196, [.index 1290, vi (f : Int), vi ((i : Int) - 1), vi (k : Int), t4], [], h3, 0, 0) (RN h (fun s' A' => s' = s ∧ sm A A' scr ∧ ∃ N D, cn (slp a b M i i) (mpw (zp_C 1) b i) N D ∧ zp_deg N 176 ∧ zp_deg D 176 ∧ A' 1302 = cf N ∧ A' 1303 = cf D)) := by
        intro l2
        induction l2 with
        | zero =>
          intro k C h3 hk v3 r3 m3 gb3 gr3 gq3
          have ki : k = i := by omega
          subst ki
          refine k518_196 (fun _ => ?_) (fun w => absurd w (by omega)) (c1 := by unfold In3; omega) (c2 := by unfold In3; omega)
          have dd : zp_deg (mpw (zp_C 1) b k) 176 := deg_le (mpw_dg (n := 0) (zp_C_deg 1) db k) (by omega)
          refine k518_219 v3.1 (wm_mono (wq_N (fun h4 s4 A4 v4 r4 φ => ?_)) (V_lower v3 gr3 gq3 (dS k (Nat.le_refl _)) dd (hi_ge dd (mpw_n0 (n := 0) (zp_C_deg 1) db C1_n0 nb k (by omega)))))
          obtain ⟨es4, ⟨N, D, hcn, dN, dD, gN, gD⟩, m4⟩ := φ
          exact k518_223 ⟨h4, s4, A4, v4, FR_trans r3 r4, ⟨es4, sm_tr m3 (sm_sub m4 rfl), N, D, hcn, dN, dD, gN, gD⟩, rfl⟩
        | succ l2 ih2 =>
          intro k C h3 hk v3 r3 m3 gb3 gr3 gq3
          refine k518_196 (fun w => absurd w (by omega)) (fun _ => ?_) (c1 := by unfold In3; omega) (c2 := by unfold In3; omega)
          refine k518_201 v3.1 (wm_mono (wq_Q (fun h4 v4 r4 => ?_)) (V_multiplyBy v3 (p := 1303) (q := 1299) rfl rfl (by decide) (by decide) gq3 gb3))
          refine k518_213 ?_
          exact ih2 (k + 1) _ _ (by omega) v4 (FR_trans r3 r4) (sm_up (sm_up m3 _ rfl) _ rfl) (by rw [up_ne _ _ (by decide), up_ne _ _ (by decide), gb3]) (by rw [up_ne _ _ (by decide), up_ne _ _ (by decide), gr3]) (up_at _ _ _)
      exact pw i 0 _ h2 (by omega) v2 (FR_trans r r2) (sm_up m _ rfl) (by rw [up_ne _ _ (by decide), gb]) (by rw [up_ne _ _ (by decide), gr]) (up_at _ _ _)
    | succ l ih =>
      intro i B h' t4 hi2 v r m gb gt gr
      have gt := gt (by omega)
      have q0 := row0_sm h0 m
      refine k518_29 (fun w => absurd w (by omega)) (fun _ => ?_) (c1 := by unfold In3; omega) (c2 := by unfold In3; omega)
      refine k518_34 v.1 (wm_mono (wq_Q (fun h3 v3 r3 => ?_)) (V_loadEntry v (p := 1308) rfl (m := f) (i := 0) (j := i) hf (by omega) (by omega) q0.2.2))
      rw [q0.2.1 i (by omega)] at v3
      refine k518_45 v3.1 (wm_mono (wq_Q (fun h4 v4 r4 => ?_)) (V_multiply v3 (p := 1308) (q := 1309) rfl rfl (by decide) (by decide) (f := M i) (g := slt a b i) (up_at _ _ _) (by rw [up_ne _ _ (by decide), gt])))
      refine k518_57 v4.1 (wm_mono (wq_Q (fun h5 v5 r5 => ?_)) (V_copy v4 (c := 1311) (e := 1304) rfl rfl (by decide)))
      refine k518_68 ?_
      have m5 : sm A (up (up (up B 1308 (cf (M i))) 1304 (cf (zp_mul (M i) (slt a b i)))) 1311 (up (up B 1308 (cf (M i))) 1304 (cf (zp_mul (M i) (slt a b i))) 1304)) scr := sm_up (sm_up (sm_up m _ rfl) _ rfl) _ rfl
      have pw : ∀ (l2 k : Nat) (C : Nat → Nat → Int) (h3 : s_H), k + l2 = L - 1 - i → RV h3 s C → FR h h3 → sm A C scr → C 1299 = cf b → C 1302 = cf (slp a b M L i) → C 1309 = cf (slt a b i) → C 1311 = cf (mpw (zp_mul (M i) (slt a b i)) b k) → wr sw_P (d + 6) sw_c518 sw_h518 (71, [.index 1290, vi (f : Int), vi ((L : Int) - 1), vi (i : Int), vi ((i : Int) + k)], [], h3, 0, 0) (RN h (fun s' A' => s' = s ∧ sm A A' scr ∧ ∃ N D, cn (slp a b M L L) (mpw (zp_C 1) b L) N D ∧ zp_deg N 176 ∧ zp_deg D 176 ∧ A' 1302 = cf N ∧ A' 1303 = cf D)) := by
        intro l2
        induction l2 with
        | zero =>
          intro k C h3 hk v3 r3 m3 gb3 gr3 gt3 gv3
          have ki : k = L - 1 - i := by omega
          refine k518_71 (fun _ => ?_) (fun w => absurd w (by omega)) (c1 := by unfold In3; omega) (c2 := by unfold In3; omega)
          refine k518_95 v3.1 (wm_mono (wq_Q (fun h4 v4 r4 => ?_)) (V_more v3 (c := 1302) (e := 1311) rfl rfl (by decide) gr3 gv3 (z := 1) (by decide)))
          rw [nF_1, mul1] at v4
          refine k518_107 v4.1 (wm_mono (wq_Q (fun h5 v5 r5 => ?_)) (V_slope v4 (c := 1310) (e := 1309) rfl rfl (by decide) (f := slt a b i) (by rw [up_ne _ _ (by decide), gt3]) (deg_le (slt_dg da db i) (by omega))))
          refine k518_118 v5.1 (wm_mono (wq_Q (fun h6 v6 r6 => ?_)) (V_multiplyBy v5 (p := 1310) (q := 1299) rfl rfl (by decide) (by decide) (f := zp_D (slt a b i)) (g := b) (up_at _ _ _) (by (repeat rw [up_ne _ _ (by decide)]); rw [gb3])))
          refine k518_130 v6.1 (wm_mono (wq_Q (fun h7 v7 r7 => ?_)) (V_slope v6 (c := 1311) (e := 1299) rfl rfl (by decide) (f := b) (by (repeat rw [up_ne _ _ (by decide)]); rw [gb3]) (deg_le db (by decide))))
          refine k518_141 v7.1 (wm_mono (wq_Q (fun h8 v8 r8 => ?_)) (V_multiplyBy v7 (p := 1311) (q := 1309) rfl rfl (by decide) (by decide) (f := zp_D b) (g := slt a b i) (up_at _ _ _) (by (repeat rw [up_ne _ _ (by decide)]); rw [gt3])))
          refine k518_153 v8.1 (wm_mono (wq_Q (fun h9 v9 r9 => ?_)) (V_more v8 (c := 1310) (e := 1311) rfl rfl (by decide) (f := zp_mul (zp_D (slt a b i)) b) (g := zp_mul (zp_D b) (slt a b i)) (by rw [up_ne _ _ (by decide), up_ne _ _ (by decide), up_ne _ _ (by decide), up_at]) (up_at _ _ _) (z := -((i : Int) + 1)) (in6_of (by omega) (by omega)))) (c9 := by unfold In3; omega)
          refine k518_169 v9.1 (wm_mono (wq_Q (fun ha va ra => ?_)) (V_copy v9 (c := 1309) (e := 1310) rfl rfl (by decide)))
          refine k518_180 ?_
          refine ih (i + 1) _ _ _ (by omega) va (FR_trans r3 (FR_trans r4 (FR_trans r5 (FR_trans r6 (FR_trans r7 (FR_trans r8 (FR_trans r9 ra))))))) (sm_up (sm_up (sm_up (sm_up (sm_up (sm_up (sm_up (sm_up (sm_up m3 _ rfl) _ rfl) _ rfl) _ rfl) _ rfl) _ rfl) _ rfl) _ rfl) _ rfl) ?_ (fun _ => ?_) ?_
          · (repeat rw [up_ne _ _ (by decide)]); rw [gb3]
          · rw [up_at, up_at]; rfl
          · (repeat rw [up_ne _ _ (by decide)]); rw [up_at, ki]; rfl
        | succ l2 ih2 =>
          intro k C h3 hk v3 r3 m3 gb3 gr3 gt3 gv3
          refine k518_71 (fun w => absurd w (by omega)) (fun _ => ?_) (c1 := by unfold In3; omega) (c2 := by unfold In3; omega)
          refine k518_77 v3.1 (wm_mono (wq_Q (fun h4 v4 r4 => ?_)) (V_multiplyBy v3 (p := 1311) (q := 1299) rfl rfl (by decide) (by decide) gv3 gb3))
          refine k518_89 ?_
          rw [show (i : Int) + k + 1 = (i : Int) + ((k + 1 : Nat) : Int) by omega]
          exact ih2 (k + 1) _ _ (by omega) v4 (FR_trans r3 r4) (sm_up (sm_up m3 _ rfl) _ rfl) (by rw [up_ne _ _ (by decide), up_ne _ _ (by decide), gb3]) (by rw [up_ne _ _ (by decide), up_ne _ _ (by decide), gr3]) (by rw [up_ne _ _ (by decide), up_ne _ _ (by decide), gt3]) (up_at _ _ _)
      have := pw (L - 1 - i) 0 _ h5 (by omega) v5 (FR_trans r (FR_trans r3 (FR_trans r4 r5))) m5 (by (repeat rw [up_ne _ _ (by decide)]); rw [gb]) (by (repeat rw [up_ne _ _ (by decide)]); rw [gr]) (by (repeat rw [up_ne _ _ (by decide)]); rw [gt]) (by rw [up_at, up_at]; rfl)
      rw [show (i : Int) + ((0 : Nat) : Int) = i by omega] at this
      exact this
  exact loop L 0 _ h2 _ (by omega) v2 (FR_trans r1 r2) (sm_up (sm_up sm_refl _ rfl) _ rfl) (by rw [up_ne _ _ (by decide), up_ne _ _ (by decide), hb]) (fun _ => by rw [up_at, up_ne _ _ (by decide), ha]; rfl) (by rw [up_ne _ _ (by decide), up_at]; rfl)
end
