/-! the reference's meet in the picture -/
/-- a call's end where the answer may be NONE -/
def endn (s : Nat → Int) (A : Nat → Nat → Int) (T : Nat → th) (ro : Option (Sum th Int)) : Term → (Nat → Int) → (Nat → Nat → Int) → Prop := fun v s' A' => match ro with
  | some res => endz s A T res v s' A'
  | none => v = vi (-1) ∧ sm A A' (sto ++ scrA) ∧ (∀ j, j ≠ 1 → ssc.contains j = false → s' j = s j) ∧ s' 0 = 0 ∧ s' 1 = s 1 ∧ RI s' A' T
theorem endn_none {s s1 : Nat → Int} {A B : Nat → Nat → Int} {T : Nat → th} (h : RI s A T) (e : sq s s1) (m : sm A B scrA) (e0 : s1 0 = 0) : endn s A T none (vi (-1)) s1 B := ⟨rfl, sm_sub m rfl, fun j _ hj => e j hj, e0, sq_1 e, RI_a h m e⟩
def meeF (cnt w : Int) (t u : th) (ro : Option (Sum th Int)) : Prop := match t, u with
  | .inr (.inr (.inl (_, L, M))), .inl (a, b) => (b ≠ zp_C 1 → ro = some (.inr 2)) ∧ (b = zp_C 1 → (cnt = 150 → ro = some (.inr 3)) ∧ (cnt ≠ 150 → ∃ B R, rr (rtb (M 0) L w a) B 41 21 R ∧ ((∃ k, pc R 21 ≤ k ∧ k < 41 ∧ B k 47 ≠ 0) → ro = none) ∧ (¬ (∃ k, pc R 21 ≤ k ∧ k < 41 ∧ B k 47 ≠ 0) → ∃ res, ro = some res ∧ keeps cnt (solp B R 21) 3 res)))
  | _, _ => True
def meeS (cnt : Int) (T : Nat → th) (x w y : Int) (ro : Option (Sum th Int)) : Prop := (¬ (0 ≤ x ∧ x < cnt ∧ 0 ≤ y ∧ y < cnt) → ro = some (.inr 1)) ∧ ((0 ≤ x ∧ x < cnt ∧ 0 ≤ y ∧ y < cnt) → (¬ (rulP (T x.toNat) ∧ (0 ≤ w ∧ w ≤ 1) ∧ kd (T y.toNat) = 0) → ro = some (.inr 2)) ∧ ((rulP (T x.toNat) ∧ (0 ≤ w ∧ w ≤ 1) ∧ kd (T y.toNat) = 0) → meeF cnt w (T x.toNat) (T y.toNat) ro))
section
variable {d : Nat} {h : s_H} {s : Nat → Int} {A : Nat → Nat → Int}
theorem V_meet (hv : RV h s A) {T : Nat → th} (hR : RI s A T) {x w y : Int} (hx : In3 x) (hw : In3 w) (hy : In3 y) : wm sw_P (d + 6) 527 [.index 1290, vi x, vi w, vi y] h (RA h (fun v s' A' => ∃ ro, meeS (s 1) T x w y ro ∧ endn s A T ro v s' A')) := by
  refine wm_in (cd := sw_c527) (nL := 5) (hd := sw_h527) rfl rfl ?_
  have b0 := hR.1.1
  have bad : ∀ (z : Int) (B : Nat → Nat → Int) (h' : s_H), 0 < z → z < 4 → meeS (s 1) T x w y (some (.inr z)) → RV h' s B → FR h h' → sm A B scr → wr sw_P (d + 5) sw_c527 sw_h527 (53, [.index 1290, vi x, vi w, vi y, .result], [vi z, .index 1290], h', 0, 0) (RA h (fun v s' A' => ∃ ro, meeS (s 1) T x w y ro ∧ endn s A T ro v s' A')) := by
    intro z B h' hz2 hz3 hs v r m
    refine k527_53 (z10 := z) v.1 (hp_at v.1) (fun w => absurd w (by omega)) (fun _ => k527_63 ?_) (c12 := by unfold In3; omega)
    exact ⟨_, _, _, _, RV_fld v (up s 0 z) (rF_0 s z), FR_trans r (FR_fld v _), ⟨some (.inr z), hs, endz_bad hR (sq_refl s) (scr_A m) rfl rfl rfl⟩, rfl⟩
  refine k527_0 hv.1 (wm_mono (wq_r ?_) (V_isThere hv b0 hx))
  by_cases qx : 0 ≤ x ∧ x < s 1
  case neg =>
    rw [if_neg qx]
    exact k527_6 (fun _ => k527_17 (bad 1 A h (by decide) (by decide) ⟨fun _ => rfl, fun w => absurd ⟨w.1, w.2.1⟩ qx⟩ hv (FR_refl h) sm_refl)) (fun w => absurd rfl w)
  rw [if_pos qx]
  refine k527_6 (fun w => absurd w (by decide)) (fun _ => ?_)
  refine k527_9 hv.1 (wm_mono (wq_r ?_) (V_isThere hv b0 hy))
  by_cases qy : 0 ≤ y ∧ y < s 1
  case neg =>
    rw [if_neg qy]
    exact k527_14 (fun w => absurd rfl w) (fun _ => k527_17 (bad 1 A h (by decide) (by decide) ⟨fun _ => rfl, fun w => absurd w.2.2 qy⟩ hv (FR_refl h) sm_refl))
  rw [if_pos qy]
  refine k527_14 (fun _ => ?_) (fun w => absurd (by decide) w)
  obtain ⟨f, ef⟩ : ∃ f : Nat, x = f := ⟨x.toNat, by omega⟩
  obtain ⟨k, ek⟩ : ∃ k : Nat, y = k := ⟨y.toNat, by omega⟩
  subst ef
  subst ek
  have xf : (f : Int).toNat = f := by omega
  have yk : (k : Int).toNat = k := by omega
  refine k527_21 hv.1 (wm_mono (wq_A (fun v1 h1 s1 A1 w1 r1 φ => ?_)) (V_isRule hv hR (f := f) (by omega)))
  obtain ⟨e1, m1, y1, y2⟩ := φ
  subst e1
  have m1' : sm A A1 scr := sm_sub m1 rfl
  have R1 : RI s1 A1 T := RI_sc hR m1' rfl
  have hin : 0 ≤ (f : Int) ∧ (f : Int) < s1 1 ∧ 0 ≤ (k : Int) ∧ (k : Int) < s1 1 := ⟨qx.1, qx.2, qy⟩
  have two2 : ¬ (rulP (T f) ∧ (0 ≤ w ∧ w ≤ 1) ∧ kd (T k) = 0) → wr sw_P (d + 5) sw_c527 sw_h527 (48, [.index 1290, vi (f : Int), vi w, vi (k : Int), .result], [.index 1290], h1, 0, 0) (RA h (fun v s' A' => ∃ ro, meeS (s1 1) T f w k ro ∧ endn s1 A T ro v s' A')) := fun q => k527_48 (bad 2 A1 h1 (by decide) (by decide) ⟨fun w => absurd hin w, fun _ => ⟨fun _ => rfl, fun w => absurd (by rw [xf, yk] at w; exact w) q⟩⟩ w1 r1 m1')
  have hk := R1.2.2 k qy.2
  have ik : A1 1291 (k : Int).toNat = kd (T k) := isT_kd hk
  have kb := kd_b (T k)
  have i3 : In3 (A1 1291 (k : Int).toNat) := by rw [ik]; unfold In3; omega
  by_cases q1 : rulP (T f)
  case neg =>
    rw [y2 q1]
    exact k527_26 (fun _ => two2 (fun w => q1 w.1)) (fun w => absurd rfl w)
  rw [y1 q1]
  refine k527_26 (fun w => absurd w (by decide)) (fun _ => ?_)
  refine k527_29 (wm_mono (wq_r ?_) (t_in (x := w) (lo := 0) (hi := 1) (by unfold In6; unfold In3 at hw; omega) (by decide) (by decide))) (c1 := hw)
  by_cases q3 : 0 ≤ w ∧ w ≤ 1
  case neg =>
    rw [if_neg q3]
    exact k527_36 (fun _ => two2 (fun w => q3 w.2.1)) (fun w => absurd rfl w)
  rw [if_pos q3]
  refine k527_36 (fun w => absurd w (by decide)) (fun _ => ?_)
  refine k527_39 w1.1 (wm_mono (wq_r ?_) (V_is w1 (x := (k : Int)) (k := 0) ⟨by omega, by omega⟩ i3 (by decide)))
  rw [ik]
  by_cases q4 : kd (T k) = 0
  case neg =>
    rw [if_neg q4]
    exact k527_45 (fun w => absurd rfl w) (fun _ => two2 (fun w => q4 w.2.2))
  rw [if_pos q4]
  refine k527_45 (fun _ => k527_52 ?_) (fun w => absurd (by decide) w)
  have ok : rulP (T f) ∧ (0 ≤ w ∧ w ≤ 1) ∧ kd (T k) = 0 := ⟨q1, q3, q4⟩
  have sp : ∀ ro : Option (Sum th Int), meeF (s1 1) w (T f) (T k) ro → meeS (s1 1) T f w k ro := fun ro y => ⟨fun w => absurd hin w, fun _ => ⟨fun w => absurd (by rw [xf, yk]; exact ok) w, fun _ => by rw [xf, yk]; exact y⟩⟩
  refine k527_53 (z10 := 0) w1.1 (hp_at w1.1) (fun _ => ?_) (fun w => absurd (by decide) w)
  have w2 := RV_fld w1 (up s1 0 0) (rF_0 s1 0)
  have r2 : FR h (hp h1 1290 (1, 11, (rF s1).set 0 (vi 0))) := FR_trans r1 (FR_fld w1 _)
  have sq2 : sq s1 (up s1 0 0) := sq_up (sq_refl s1) _ rfl
  refine k527_65 w2.1 (wm_mono (wq_Q (fun h3 w3 r3 => ?_)) (V_load w2 (t := 1298) (b := 1299) rfl rfl (by decide) (x := (k : Int)) ⟨by omega, by omega⟩ (RB_t R1.1) (RB_b R1.1)))
  rw [yk] at w3
  have r3' := FR_trans r2 r3
  have m3 : sm A (up (up A1 1298 (fp A1 1292 k)) 1299 (fp A1 1293 k)) scr := sm_up (sm_up m1' _ rfl) _ rfl
  obtain ⟨L, M, tf⟩ := rul_ma q1
  have R3 : RI (up s1 0 0) (up (up A1 1298 (fp A1 1292 k)) 1299 (fp A1 1293 k)) T := RI_sc hR m3 rfl
  have hf3 := R3.2.2 f qx.2
  rw [tf] at hf3
  obtain ⟨q0, hL⟩ := row0_T hf3 (RI_me R3)
  rcases ek1 : T k with ⟨a, b⟩ | a | ⟨r, c, M'⟩ | ⟨n, so, va⟩
  · rw [ek1] at hk
    obtain ⟨_, p1, p2, p3, p4⟩ := hk
    have d1 := fr_deg p1
    have d2 := fr_deg p2
    have h98 : up (up A1 1298 (fp A1 1292 k)) 1299 (fp A1 1293 k) 1298 = cf a := by rw [up_ne _ _ (by decide), up_at, p1]
    have h99 : up (up A1 1298 (fp A1 1292 k)) 1299 (fp A1 1293 k) 1299 = cf b := by rw [up_at, p2]
    have mF : ∀ ro : Option (Sum th Int), ((b ≠ zp_C 1 → ro = some (.inr 2)) ∧ (b = zp_C 1 → (s1 1 = 150 → ro = some (.inr 3)) ∧ (s1 1 ≠ 150 → ∃ B R, rr (rtb (M 0) L w a) B 41 21 R ∧ ((∃ k, pc R 21 ≤ k ∧ k < 41 ∧ B k 47 ≠ 0) → ro = none) ∧ (¬ (∃ k, pc R 21 ≤ k ∧ k < 41 ∧ B k 47 ≠ 0) → ∃ res, ro = some res ∧ keeps (s1 1) (solp B R 21) 3 res)))) → meeF (s1 1) w (T f) (T k) ro := fun ro y => by rw [tf, ek1]; exact y
    refine k527_78 w3.1 (wm_mono (wq_r ?_) (V_isOne w3 (c := 1299) rfl h99))
    by_cases qo : hi b = 0 ∧ cf b 0 = 1
    case neg =>
      rw [if_neg qo]
      have bo : b ≠ zp_C 1 := fun w => qo ((one_C (deg_le d2 (by decide))).mpr w)
      refine k527_85 (fun w => absurd rfl w) (fun _ => ?_)
      refine k527_88 w3.1 (wm_mono (wq_A (fun v4 h4 s4 A4 w4 r4 φ => ?_)) (V_raise w3))
      obtain ⟨z1, z2, z3⟩ := φ
      subst z1
      exact k527_93 ⟨_, h4, s4, A4, w4, FR_trans r3' r4, ⟨some (.inr 2), sp _ (mF _ ⟨fun _ => rfl, fun w => absurd w bo⟩), endz_bad hR sq2 (scr_A m3) rfl z2 z3⟩, rfl⟩
    rw [if_pos qo]
    have bo := (one_C (deg_le d2 (by decide))).mp qo
    refine k527_85 (fun _ => ?_) (fun w => absurd (by decide) w)
    refine k527_94 (z5 := s1 1) w3.1 (fun q6 => ?_) (fun q6 => ?_) (c7 := by unfold In3; omega)
    rotate_left
    · refine k527_104 w3.1 (wm_mono (wq_A (fun v4 h4 s4 A4 w4 r4 φ => ?_)) (V_raise w3))
      obtain ⟨z1, z2, z3⟩ := φ
      subst z1
      exact k527_109 ⟨_, h4, s4, A4, w4, FR_trans r3' r4, ⟨some (.inr 3), sp _ (mF _ ⟨fun w => absurd bo w, fun _ => ⟨fun _ => rfl, fun w => absurd (by omega) w⟩⟩), endz_bad hR sq2 (scr_A m3) rfl z2 z3⟩, rfl⟩
    refine k527_110 w3.1 (wm_mono (wq_N (fun h4 s4 A4 w4 r4 φ => ?_)) (V_clearRule w3 (f := f) (by omega) hL q0 hw (q := 1298) rfl rfl h98))
    obtain ⟨B, es, m4, g4, a4⟩ := φ
    have q4' : sq s1 s4 := by rw [es]; exact sq_up (sq_up sq2 _ rfl) _ rfl
    have m4' : sm A A4 scrA := sm_tr (scr_A m3) (sm_sub m4 rfl)
    have e37 : s4 37 = (pc (A4 1318) 21 : Int) := by rw [es, up_at]
    have e40 : s4 0 = 0 := by rw [es, up_ne _ _ (by decide), up_ne _ _ (by decide), up_at]
    have pb := pc_b (A4 1318) 21
    have r4' := FR_trans r3' r4
    refine k527_120 (z5 := s4 37) w4.1 ?_
    rw [e37]
    -- it is met
    have met : (∀ i, pc (A4 1318) 21 ≤ i → i < 41 → B i 47 = 0) → wr sw_P (d + 5) sw_c527 sw_h527 (159, [.index 1290, vi (f : Int), vi w, vi (k : Int), vi 41], [], h4, 0, 0) (RA h (fun v s' A' => ∃ ro, meeS (s1 1) T f w k ro ∧ endn s1 A T ro v s' A')) := fun hz => by
      refine k527_159 w4.1 (wm_mono (wq_Q (fun h5 w5 r5 => ?_)) (V_empty w4 (c := 1302) rfl))
      refine k527_166 ?_
      have loop : ∀ (l i : Nat) (C : Nat → Nat → Int) (h' : s_H), i + l = 21 → RV h' s4 C → FR h h' → (∀ x, x ≠ 1302 → C x = A4 x) → C 1302 = cf (solp B (A4 1318) i) → wr sw_P (d + 5) sw_c527 sw_h527 (169, [.index 1290, vi (f : Int), vi w, vi (k : Int), vi (i : Int)], [], h', 0, 0) (RA h (fun v s' A' => ∃ ro, meeS (s1 1) T f w k ro ∧ endn s1 A T ro v s' A')) := by
        intro l
        induction l with
        | zero =>
          intro i C h' hi2 v r o g
          have i21 : i = 21 := by omega
          subst i21
          have m5 : sm A C scrA := sm_tr m4' (fun j hj => o j (fun e => by rw [e] at hj; exact absurd hj (by decide)))
          refine k527_169 (fun _ => ?_) (fun w => absurd w (by omega))
          refine k527_218 v.1 (wm_mono (wq_Q (fun h6 v6 r6 => ?_)) (V_become v (c := 1303) rfl (z := 1) (by decide)))
          rw [nF_1] at v6
          refine k527_226 v6.1 (wm_mono (wq_A (fun v7 h7 s7 A7 w7 r7 φ => ?_)) (V_keep v6 (by rw [sq_1 q4']; exact b0) (N := solp B (A4 1318) 21) (D := zp_C 1) (by rw [up_ne _ _ (by decide), g]) (up_at _ _ _)))
          obtain ⟨res, z1, z3⟩ := endz_keeps hR q4' (sm_up m5 _ rfl) (deg_le (solp_dg _ _ _) (by decide)) φ
          obtain ⟨u, eu⟩ := endz_vi z3
          subst eu
          exact k527_231 ⟨_, h7, s7, A7, w7, FR_trans r (FR_trans r6 r7), ⟨some res, sp _ (mF _ ⟨fun w => absurd bo w, fun _ => ⟨fun w => absurd (by omega) q6, fun _ => ⟨B, A4 1318, a4, fun ⟨i, i1, i2, i3⟩ => absurd (hz i i1 i2) i3, fun _ => ⟨res, rfl, z1⟩⟩⟩⟩), z3⟩, rfl⟩
        | succ l ih =>
          intro i C h' hi2 v r o g
          have row := rr_row a4 (j := i) (by omega)
          have e1 : gi (mk 48 (C 1318)) (i : Int) = A4 1318 i := by rw [gi_mkn (by omega), o 1318 (by decide)]
          refine k527_169 (fun w => absurd w (by omega)) (fun _ => ?_)
          refine k527_176 v.1 (Ra_row v) (fun w => ?_) (fun w => ?_) (c10 := by rw [mk_len]; omega) (c11 := by omega) (c12 := by unfold In3; omega) (c13 := by rw [e1]; unfold In3; omega)
          · rw [e1] at w
            have es : solp B (A4 1318) (i + 1) = solp B (A4 1318) i := zp_ext (fun x => by
              show (if x < i + 1 ∧ A4 1318 x ≠ -1 then B (pc (A4 1318) x) 47 else 0) = if x < i ∧ A4 1318 x ≠ -1 then B (pc (A4 1318) x) 47 else 0
              by_cases q : x < i ∧ A4 1318 x ≠ -1
              · rw [if_pos q, if_pos ⟨by omega, q.2⟩]
              · rw [if_neg q, if_neg (fun w2 => q ⟨by
                  have : x ≠ i := fun e => w2.2 (by rw [e]; exact w)
                  omega, w2.2⟩)])
            exact k527_212 (ih (i + 1) C h' (by omega) v r o (by rw [g, es]))
          · rw [e1] at w
            obtain ⟨z1, z2⟩ := row.2.2 w
            have e2 := gi_fl ((o 1317 (by decide)).trans g4) (n := pc (A4 1318) i) (i := 47) (by omega) (by omega) (x := 48 * (A4 1318 i) + 47) (by omega)
            refine k527_187 v.1 (Ra_row v) (Ra_table v) (RV_l v (c := 1302) rfl) ?_ (c14 := by rw [mk_len]; omega) (c15 := by omega) (c16 := by unfold In3; omega) (c20 := by rw [e1, mk_len]; omega) (c21 := by rw [e1]; omega) (c22 := by rw [e1]; unfold In3; omega) (c26 := by rw [mk_len]; omega)
            have es : pst (solp B (A4 1318) i) i (B (pc (A4 1318) i) 47) = solp B (A4 1318) (i + 1) := zp_ext (fun x => by
              show (if x = i then B (pc (A4 1318) i) 47 else if x < i ∧ A4 1318 x ≠ -1 then B (pc (A4 1318) x) 47 else 0) = if x < i + 1 ∧ A4 1318 x ≠ -1 then B (pc (A4 1318) x) 47 else 0
              by_cases q : x = i
              · rw [if_pos q, q, if_pos ⟨Nat.lt_succ_self i, w⟩]
              · rw [if_neg q]
                by_cases q2 : x < i ∧ A4 1318 x ≠ -1
                · rw [if_pos q2, if_pos ⟨by omega, q2.2⟩]
                · rw [if_neg q2, if_neg (fun w2 => q2 ⟨by omega, w2.2⟩)])
            rw [e1, e2, mk_set, g, cf_pst (solp B (A4 1318) i) (n := i) (by omega) rfl, es]
            exact k527_212 (ih (i + 1) _ _ (by omega) (RV_w v (c := 1302) rfl _) (FR_trans r (FR_w v (c := 1302) rfl _)) (fun x hx => by rw [up_ne _ _ hx, o x hx]) (up_at _ _ _))
      refine loop 21 0 _ h5 rfl w5 (FR_trans r4' r5) (fun x hx => up_ne _ _ hx) ?_
      rw [up_at]
      congr 1
      refine zp_ext (fun x => ?_)
      rw [zp_C00]
      show (0 : zp_F) = if x < 0 ∧ A4 1318 x ≠ -1 then B (pc (A4 1318) x) 47 else 0
      rw [if_neg (fun w => absurd w.1 (Nat.not_lt_zero x))]
    have look : ∀ (l i : Nat), i + l = 41 → pc (A4 1318) 21 ≤ i → (∀ j, pc (A4 1318) 21 ≤ j → j < i → B j 47 = 0) → wr sw_P (d + 5) sw_c527 sw_h527 (126, [.index 1290, vi (f : Int), vi w, vi (k : Int), vi (i : Int)], [], h4, 0, 0) (RA h (fun v s' A' => ∃ ro, meeS (s1 1) T f w k ro ∧ endn s1 A T ro v s' A')) := by
      intro l
      induction l with
      | zero =>
        intro i hi2 hp2 hz
        have i41 : i = 41 := by omega
        subst i41
        exact k527_126 (fun _ => met hz) (fun w => absurd w (by omega))
      | succ l ih =>
        intro i hi2 hp2 hz
        have e2 := gi_fl g4 (n := i) (i := 47) (by omega) (by omega) (x := 48 * (i : Int) + 47) (by omega)
        have bz := (B i 47).isLt
        refine k527_126 (fun w => absurd w (by omega)) (fun _ => ?_)
        refine k527_133 w4.1 (Ra_table w4) (fun w => ?_) (fun w => ?_) (c10 := by rw [mk_len]; omega) (c11 := by omega) (c12 := by unfold In3; omega) (c13 := by rw [e2]; exact in6_of (by omega) (by omega))
        · rw [e2] at w
          have z0 : B i 47 = 0 := F_ext w
          refine k527_153 (ih (i + 1) (by omega) (by omega) (fun j h1 h2 => ?_))
          by_cases q : j = i
          · rw [q]; exact z0
          · exact hz j h1 (by omega)
        · rw [e2] at w
          have n0 : B i 47 ≠ 0 := fun q => w (by rw [q]; rfl)
          exact k527_151 ⟨_, h4, s4, A4, w4, r4', ⟨none, sp _ (mF _ ⟨fun w => absurd bo w, fun _ => ⟨fun w => absurd (by omega) q6, fun _ => ⟨B, A4 1318, a4, fun _ => rfl, fun w => absurd ⟨i, hp2, by omega, n0⟩ w⟩⟩⟩), endn_none hR q4' m4' e40⟩, rfl⟩
    exact look (41 - pc (A4 1318) 21) _ (by omega) (Nat.le_refl _) (fun j h1 h2 => absurd h1 (by omega))
  · rw [ek1] at q4; exact (kdn q4 rfl).elim
  · rw [ek1] at q4; exact (kdn q4 rfl).elim
  · rw [ek1] at q4; exact (kdn q4 rfl).elim
end
