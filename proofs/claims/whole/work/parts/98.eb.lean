/-! the reference's within, the whole call -/
section
variable {d : Nat} {h : s_H} {s : Nat → Int} {A : Nat → Nat → Int}
theorem V_within (hv : RV h s A) {T : Nat → th} (hR : RI s A T) {x y : Int} (hx : In3 x) (hy : In3 y) : wm sw_P (d + 4) 614 [.index 1290, vi x, vi y] h (RA h (fun v s' A' => ∃ res, witS (s 1) T x y res ∧ endz s A T res v s' A')) := by
  refine wm_in (cd := sw_c614) (nL := 6) (hd := sw_h614) rfl rfl ?_
  have b0 := hR.1.1
  have v0 : ∀ z : Int, RV (hp h 1290 (1, 11, (rF s).set 0 (vi z))) (up s 0 z) A := fun z => RV_fld hv (up s 0 z) (rF_0 s z)
  have r0 : ∀ z : Int, FR h (hp h 1290 (1, 11, (rF s).set 0 (vi z))) := fun z => FR_fld hv _
  have bad : ∀ z : Int, 0 < z → z < 3 → witS (s 1) T x y (.inr z) → wr sw_P (d + 3) sw_c614 sw_h614 (44, [.index 1290, vi x, vi y, .result, .result, .result], [vi z, .index 1290], h, 0, 0) (RA h (fun v s' A' => ∃ res, witS (s 1) T x y res ∧ endz s A T res v s' A')) := by
    intro z hz2 hz3 hs
    refine k614_44 (z10 := z) hv.1 (hp_at hv.1) (fun w => absurd w (by omega)) (fun _ => k614_54 ?_) (c12 := by unfold In3; omega)
    exact ⟨_, _, _, A, v0 z, r0 z, ⟨.inr z, hs, endz_bad hR (sq_refl s) sm_refl rfl rfl rfl⟩, rfl⟩
  have nin : ¬ ((0 ≤ x ∧ x < s 1) ∧ 0 ≤ y ∧ y < s 1) → witS (s 1) T x y (.inr 1) := fun w => ⟨fun _ => rfl, fun w2 => absurd w2 w⟩
  refine k614_0 hv.1 (wm_mono (wq_r ?_) (V_isThere hv b0 hx))
  by_cases hin : 0 ≤ x ∧ x < s 1
  rotate_left
  · rw [if_neg hin]
    exact k614_6 (fun _ => k614_17 (bad 1 (by decide) (by decide) (nin (fun w => hin w.1)))) (fun w => absurd rfl w)
  rw [if_pos hin]
  refine k614_6 (fun w => absurd w (by decide)) (fun _ => ?_)
  refine k614_9 hv.1 (wm_mono (wq_r ?_) (V_isThere hv b0 hy))
  by_cases hin2 : 0 ≤ y ∧ y < s 1
  rotate_left
  · rw [if_neg hin2]
    exact k614_14 (fun w => absurd rfl w) (fun _ => k614_17 (bad 1 (by decide) (by decide) (nin (fun w => hin2 w.2))))
  rw [if_pos hin2]
  refine k614_14 (fun _ => ?_) (fun w => absurd (by decide) w)
  obtain ⟨f, ef⟩ : ∃ f : Nat, x = f := ⟨x.toNat, by omega⟩
  obtain ⟨m, em⟩ : ∃ m : Nat, y = m := ⟨y.toNat, by omega⟩
  subst ef
  subst em
  have xf : (f : Int).toNat = f := by omega
  have xm : (m : Int).toNat = m := by omega
  have sp : ∀ res : Sum th Int, witF (s 1) (T f) (T m) res → witS (s 1) T f m res := fun res w => ⟨fun w2 => absurd ⟨hin, hin2⟩ w2, fun _ => by rw [xf, xm]; exact w⟩
  have hf := hR.2.2 f (by omega)
  have hm := hR.2.2 m (by omega)
  have kf := isT_kd hf
  have km := isT_kd hm
  have i3 : In3 (A 1291 (f : Int).toNat) := by rw [xf]; have := hR.1.2.1 f (by omega); unfold In3; omega
  have i4 : In3 (A 1291 (m : Int).toNat) := by rw [xm]; have := hR.1.2.1 m (by omega); unfold In3; omega
  refine k614_21 hv.1 (wm_mono (wq_r ?_) (V_is hv (x := (f : Int)) (k := 0) ⟨by omega, by omega⟩ i3 (by decide)))
  rw [xf, kf]
  rcases ef1 : T f with ⟨a, b⟩ | t
  rotate_left
  · rw [ef1] at sp
    have k0 : ¬ kd (.inr t) = 0 := by
      rcases t with a | ⟨r, c, M⟩ | ⟨n, so, va⟩
      · exact fun w => kdn w rfl
      · exact fun w => kdn w rfl
      · exact fun w => kdn w rfl
    rw [if_neg k0]
    exact k614_27 (fun _ => k614_39 (bad 2 (by decide) (by decide) (sp _ rfl))) (fun w => absurd rfl w)
  rw [ef1] at sp hf
  rw [if_pos (show kd (.inl (a, b)) = 0 from rfl)]
  refine k614_27 (fun w => absurd w (by decide)) (fun _ => ?_)
  refine k614_30 hv.1 (wm_mono (wq_r ?_) (V_is hv (x := (m : Int)) (k := 2) ⟨by omega, by omega⟩ i4 (by decide)))
  rw [xm, km]
  rcases em1 : T m with t | t | ⟨r, c, M⟩ | t
  · rw [em1] at sp
    rw [if_neg (fun w => kdn w rfl)]
    exact k614_36 (fun w => absurd rfl w) (fun _ => k614_39 (bad 2 (by decide) (by decide) (sp _ rfl)))
  · rw [em1] at sp
    rw [if_neg (fun w => kdn w rfl)]
    exact k614_36 (fun w => absurd rfl w) (fun _ => k614_39 (bad 2 (by decide) (by decide) (sp _ rfl)))
  rotate_left
  · rw [em1] at sp
    rw [if_neg (fun w => kdn w rfl)]
    exact k614_36 (fun w => absurd rfl w) (fun _ => k614_39 (bad 2 (by decide) (by decide) (sp _ rfl)))
  rw [em1] at sp hm
  rw [if_pos (show kd (.inr (.inr (.inl (r, c, M)))) = 2 from rfl)]
  refine k614_36 (fun _ => ?_) (fun w => absurd (by decide) w)
  refine k614_43 (k614_44 (z10 := 0) hv.1 (hp_at hv.1) (fun _ => ?_) (fun w => absurd (by decide) w))
  obtain ⟨_, p1, p2, p3, p4⟩ := hf
  obtain ⟨_, m1, m2, m3⟩ := hm
  have d1 := deg_le (fr_deg p1) (show 41 ≤ 176 by decide)
  have d2 := deg_le (fr_deg p2) (show 41 ≤ 176 by decide)
  have ba := hi_b a
  refine k614_56 (v0 0).1 (wm_mono (wq_Q (fun h1 w1 r1 => ?_)) (V_load (v0 0) (t := 1298) (b := 1299) rfl rfl (by decide) (x := (f : Int)) ⟨by omega, by omega⟩ (RB_t hR.1) (RB_b hR.1)))
  rw [xf, p1, p2] at w1
  have q1 : sq s (up s 0 0) := sq_up (sq_refl s) _ rfl
  have r01 := FR_trans (r0 0) r1
  obtain ⟨A1, eA1⟩ : ∃ A1, A1 = up (up A 1298 (cf a)) 1299 (cf b) := ⟨_, rfl⟩
  have mA1 : sm A A1 scrA := by rw [eA1]; exact sm_up (sm_up sm_refl _ rfl) _ rfl
  have h98 : A1 1298 = cf a := by rw [eA1, up_ne _ _ (by decide), up_at]
  have h99 : A1 1299 = cf b := by rw [eA1, up_at]
  rw [← eA1] at w1
  have R1 : RI (up s 0 0) A1 T := RI_a hR mA1 q1
  have s11 : up s 0 0 1 = s 1 := rfl
  have no : ∀ (B : Nat → Nat → Int) (h' : s_H), RV h' (up s 0 0) B → FR h h' → sm A B scrA → ¬ (b = zp_C 1 ∧ nums r c M) → wr sw_P (d + 3) sw_c614 sw_h614 (87, [.index 1290, vi (f : Int), vi (m : Int), .result, .result, .result], [], h', 0, 0) (RA h (fun v s' A' => ∃ res, witS (s 1) T f m res ∧ endz s A T res v s' A')) := fun B h' v rr mB hb => by
    refine k614_87 v.1 (wm_mono (wq_A (fun v3 h3 s3 A3 w3 r3 φ => ?_)) (V_raise v))
    obtain ⟨y1, y2, y3⟩ := φ
    subst y1
    exact k614_92 ⟨_, h3, s3, A3, w3, FR_trans rr r3, ⟨.inr 2, sp _ ⟨fun _ => rfl, fun w => absurd w hb⟩, endz_bad hR q1 mB rfl y2 y3⟩, rfl⟩
  refine k614_69 w1.1 (wm_mono (wq_r ?_) (V_isOne w1 (c := 1299) rfl h99))
  by_cases q2 : hi b = 0 ∧ cf b 0 = 1
  rotate_left
  · rw [if_neg q2]
    exact k614_76 (fun _ => no A1 h1 w1 r01 mA1 (fun w => q2 ((one_C d2).mpr w.1))) (fun w => absurd rfl w)
  rw [if_pos q2]
  have bo := (one_C d2).mp q2
  refine k614_76 (fun w => absurd w (by decide)) (fun _ => ?_)
  have hm1 := R1.2.2 m (by rw [s11]; omega)
  rw [em1] at hm1
  obtain ⟨_, _, _, n3⟩ := hm1
  refine k614_79 w1.1 (wm_mono (wq_A (fun v2 h2 s2 A2 w2 r2 φ => ?_)) (V_isOfNumbers w1 (f := m) (by omega) m1 m2 n3 R1.2.1))
  obtain ⟨e2, mA2, q⟩ := φ
  subst e2
  have r02 := FR_trans r01 r2
  have mA02 : sm A A2 scrA := sm_tr mA1 (sm_sub mA2 rfl)
  rcases q with ⟨ev, hn⟩ | ⟨ev, hn⟩
  rotate_left
  · rw [ev]
    exact k614_84 (fun w => absurd rfl w) (fun _ => no A2 h2 w2 r02 mA02 (fun w => hn w.2))
  rw [ev]
  refine k614_84 (fun _ => ?_) (fun w => absurd (by decide) w)
  have R2 : RI (up s 0 0) A2 T := RI_a hR mA02 q1
  have ok : b = zp_C 1 ∧ nums r c M := ⟨bo, hn⟩
  refine k614_93 (z5 := up s 0 0 1) w2.1 (fun q3 => ?_) (fun q3 => ?_) (c7 := by rw [s11]; unfold In3; omega)
  rotate_left
  · refine k614_103 w2.1 (wm_mono (wq_A (fun v3 h3 s3 A3 w3 r3 φ => ?_)) (V_raise w2))
    obtain ⟨y1, y2, y3⟩ := φ
    subst y1
    exact k614_108 ⟨_, h3, s3, A3, w3, FR_trans r02 r3, ⟨.inr 3, sp _ ⟨fun w => absurd ok w, fun _ => ⟨fun _ => rfl, fun w => absurd (by omega) w⟩⟩, endz_bad hR q1 mA02 rfl y2 y3⟩, rfl⟩
  rw [s11] at q3
  obtain ⟨rc, _⟩ := hn
  subst rc
  have hm2 := R2.2.2 m (by rw [s11]; omega)
  rw [em1] at hm2
  obtain ⟨_, _, _, n4, n5, n6⟩ := hm2
  have g1 : gi (mk 150 (A2 1294)) (m : Int) = (r : Int) := by rw [gi_mkn (by omega)]; exact n4
  have hN : ∀ i j, i < r → j < r → A2 1296 (eb m i j) = ((mN M i j).val : Int) := fun i j h1 h2 => by
    have e := congrFun (n6 i j h1 h2) 0
    exact ((if_pos (by decide)).symm.trans e : A2 1296 (eb m i j + 0) = _)
  refine k614_109 w2.1 (Ra_rows w2) ?_ (c10 := by rw [mk_len]; omega) (c11 := by omega) (c12 := by unfold In3; omega)
  rw [g1]
  have first : ∀ (l k : Nat) (B : Nat → Nat → Int) (h' : s_H) (t5 : Term), k + l = 16 → RV h' (up s 0 0) B → FR h h' → (∀ x, x ≠ 1330 → x ≠ 1331 → B x = A2 x) → (∀ t, t < k → B 1330 t = (if t % 5 = 0 then 1 else 0)) → (∀ t, t < k → B 1331 t = 0) → wr sw_P (d + 3) sw_c614 sw_h614 (119, [.index 1290, vi (f : Int), vi (m : Int), vi (r : Int), vi (k : Int), t5], [], h', 0, 0) (RA h (fun v s' A' => ∃ res, witS (s 1) T f m res ∧ endz s A T res v s' A')) := by
    intro l
    induction l with
    | zero =>
      intro k B h' t5 hk v rr o c1 c2
      have ek : k = 16 := by omega
      subst ek
      refine k614_119 (fun _ => ?_) (fun w => absurd (by omega) w)
      have mB : sm A B scrA := sm_tr mA02 (fun j hj => o j (fun w => by rw [w] at hj; exact absurd hj (by decide)) (fun w => by rw [w] at hj; exact absurd hj (by decide)))
      refine wr_mono (fun out φ => ?_) (W_sum (h := h) v rr (m := m) (n := r) (by omega) m1.2 (N := mN M) (a := a) ((o 1298 (by decide) (by decide)).trans ((mA2 1298 rfl).trans h98)) (by rw [o 1296 (by decide) (by decide)]; exact hN) ⟨fun t ht => ?_, fun i j hi2 hj => ?_⟩ c2 ⟨by rw [s11]; omega, by rw [s11]; omega⟩)
      · obtain ⟨v3, h3, s3, A3, w3, r3, ⟨C, mC, y1, y2, y3⟩, eo⟩ := φ
        exact ⟨v3, h3, s3, A3, w3, r3, ⟨.inl (th_ma r r (witM a r M)), sp _ ⟨fun w => absurd ok w, fun _ => ⟨fun w => absurd w q3, fun _ => rfl⟩⟩, endz_new hR q1 (sm_tr mB (sm_sub mC rfl)) m1 m1 q3 y1 y2 y3⟩, eo⟩
      · rw [c1 t ht]
        by_cases q5 : t % 5 = 0
        · rw [if_pos q5]; decide
        · rw [if_neg q5]; decide
      · rw [c1 _ (by omega)]
        show _ = (((if i = j then 1 else 0 : zp_F)).val : Int)
        by_cases q5 : i = j
        · rw [if_pos (by omega), if_pos q5]; rfl
        · rw [if_neg (by omega), if_neg q5]; rfl
    | succ l ih =>
      intro k B h' t5 hk v rr o c1 c2
      refine k614_119 (fun w => absurd w (by omega)) (fun _ => ?_) (c1 := by unfold In3; omega)
      have e5 : Int.tmod (k : Int) 5 = (k : Int) % 5 := Int.tmod_eq_emod_of_nonneg (by omega)
      have nx : ∀ z : Int, z = (if k % 5 = 0 then 1 else 0) → wr sw_P (d + 3) sw_c614 sw_h614 (152, [.index 1290, vi (f : Int), vi (m : Int), vi (r : Int), vi (k : Int), t5], [vl z, vi (k : Int), .index 1330], hp h' 1331 (0, 1, ((mk 16 (B 1331)).set (Int.toNat (k : Int)) 0).map vl), 0, 0) (RA h (fun v s' A' => ∃ res, witS (s 1) T f m res ∧ endz s A T res v s' A')) := fun z ez => by
        rw [mk_set, Int.toNat_natCast]
        have v2 := Rp_answers v (fun i => if i = k then 0 else B 1331 i)
        refine k614_152 (Ra_powers v2) ?_ (c4 := by rw [mk_len]; omega) (c5 := by omega) (c6 := by unfold In3; omega)
        rw [mk_set, Int.toNat_natCast]
        refine ih (k + 1) _ _ _ (by omega) (Rp_powers v2 _) (FR_trans rr (FR_trans (FR_put v (c := 1331) (by decide) (by decide) _) (FR_put v2 (c := 1330) (by decide) (by decide) _))) (fun x hx hx2 => by rw [up_ne _ _ hx, up_ne _ _ hx2]; exact o x hx hx2) (fun t ht => ?_) (fun t ht => ?_)
        · rw [up_at]
          show (if t = k then _ else _) = _
          by_cases q5 : t = k
          · rw [if_pos q5, ez, q5]
          · rw [if_neg q5, up_ne _ _ (by decide)]; exact c1 t (by omega)
        · rw [up_ne _ _ (by decide), up_at]
          show (if t = k then _ else _) = _
          by_cases q5 : t = k
          · rw [if_pos q5]
          · rw [if_neg q5]; exact c2 t (by omega)
      refine k614_126 v.1 (Ra_answers v) ((hp_ne (Ra_answers v) (by decide)).trans v.1) (fun w => k614_151 (nx 0 ?_)) (fun w => k614_147 (nx 1 ?_)) (c10 := by rw [mk_len]; omega) (c11 := by omega) (c12 := by unfold In3; omega) (c18 := by rw [e5]; unfold In3; omega)
      · rw [e5] at w
        rw [if_neg (by omega)]
      · rw [e5] at w
        rw [if_pos (by omega)]
  exact first 16 0 A2 h2 _ rfl w2 r02 (fun _ _ _ => rfl) (fun t ht => absurd ht (by omega)) (fun t ht => absurd ht (by omega))
end
