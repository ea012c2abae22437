/-! the reference's log and integral in the picture -/
theorem her_sq {a b K U W C r : zp_R} (h : herS a b K U W C r) (db : zp_deg b 41) (mb : mo b) : sqf W := by
  obtain ⟨Q, R, V, e1, e2, e3, e4, _⟩ := h
  exact (sqf_of (mo_n0 mb) db (Nat.le_refl _) e3 e4).1
theorem cn_dv {r W N D : zp_R} (h : cn r W N D) : dv D W := by
  obtain ⟨e, ⟨u, v, l⟩, _⟩ := h
  have c : co D N := co_sym ⟨u, v, l⟩
  exact co_dv c ⟨r, by rw [zp_h20R (a := D), e]⟩
theorem sqf_less {D W : zp_R} (h : sqf W) (w : dv D W) : sqf D := fun f hf w2 => h f hf (dv_tr2 w w2)
theorem sq_D {D f : zp_R} (sD : sqf D) (hf : irr f) (fD : dv f D) (mD : mo D) (dD : zp_deg D 41) : ¬ dv f (zp_D D) := fun w => by
  obtain ⟨q, e⟩ := id fD
  have nq : ¬ dv f q := fun ⟨x, ex⟩ => sD f hf ⟨x, by rw [e, ex]; exact @sd_h zp_R zp_ring _ _⟩
  rw [e, D_mu] at w
  have w2 : zp_add (zp_mul (zp_D f) q) (zp_mul f (zp_D q)) = zp_add (zp_mul f (zp_D q)) (zp_mul (zp_D f) q) := @dv_but.db_h zp_R zp_ring _ _
  rw [w2] at w
  have w3 := dv_can (dv_mr (dv_rf f) (zp_D q)) w
  obtain ⟨⟨k, k1, mf⟩, _⟩ := id hf
  have k41 : k ≤ 41 := by
    obtain ⟨m, z1, z2⟩ := mD
    have le := mon_le mf ⟨z1, z2⟩ fD
    have : m < 41 := Nat.lt_of_not_le (fun w2 => by
      rw [dD m w2] at z1
      exact zp_F10 z1.symm)
    omega
  exact nq ((irr_pr hf w3).resolve_left (irr_D hf mf k41))
where sd_h : ∀ {R : Type} [Lean.Grind.CommRing R] (f q : R), f * (f * q) = f * f * q := by intro R _ f q; grind
/-- the number z of the rest N over D at the factor f: N less z times the slope of D is a multiple of f -/
def lgz (N D f : zp_R) (z : zp_F) : Prop := dv f (zp_add N (zp_neg (zp_mul (zp_C z) (zp_D D))))
def logS (cnt : Int) (T : Nat → th) (x k c a : Int) : Prop :=
  (¬ (0 ≤ x ∧ x < cnt) → c = 1 ∧ a = 0) ∧ ((0 ≤ x ∧ x < cnt) → match T x.toNat with
  | .inl (P, B) => ∃ (K U W C r N D : zp_R) (n : Nat) (F : Nat → zp_R) (G O : Nat → Nat), herS P B K U W C r ∧ cn r W N D ∧ (D = zp_C 1 → n = 0) ∧ (D ≠ zp_C 1 → facs D n F G O) ∧ (¬ (0 ≤ k ∧ k < (n : Int)) → c = 1 ∧ a = 0) ∧ ((0 ≤ k ∧ k < (n : Int)) → c = 0 ∧ ((∃ z : zp_F, lgz N D (F k.toNat) z ∧ a = (z.val : Int)) ∨ ((∀ z, ¬ lgz N D (F k.toNat) z) ∧ a = -1)))
  | _ => c = 2 ∧ a = 0)
/-- how the number is found: by one number of what is left of both -/
theorem lgz_of {N D f Q1 R1 Q2 R2 : zp_R} {n m : Nat} (mf : mon f m) (eN : N = zp_add (zp_mul f Q1) R1) (d1 : zp_deg R1 m) (eD : zp_D D = zp_add (zp_mul f Q2) R2) (d2 : zp_deg R2 m) (n0 : R2.1 n ≠ 0) : (∀ z, lgz N D f z → z = R1.1 n * R2.1 n ^ 32001) ∧ (lgz N D f (R1.1 n * R2.1 n ^ 32001) ↔ zp_add R1 (zp_mul (zp_C (-(R1.1 n * R2.1 n ^ 32001))) R2) = zp_C 0) := by
  have iff : ∀ z, lgz N D f z ↔ zp_add R1 (zp_mul (zp_C (-z)) R2) = zp_C 0 := fun z => by
    have e : zp_add N (zp_neg (zp_mul (zp_C z) (zp_D D))) = zp_add (zp_mul f (zp_add Q1 (zp_neg (zp_mul (zp_C z) Q2)))) (zp_add R1 (zp_mul (zp_C (-z)) R2)) := by
      rw [eN, eD, cg_C_neg]
      exact @lo_h zp_R zp_ring _ _ _ _ _ _
    refine ⟨fun w => ?_, fun w => ?_⟩
    · unfold lgz at w
      rw [e] at w
      obtain ⟨q, eq⟩ := dv_can (dv_mr (dv_rf f) _) w
      have dd : zp_deg (zp_add R1 (zp_mul (zp_C (-z)) R2)) m := deg_add d1 (deg_Cm _ d2)
      have q0 : q = zp_C 0 := zp_zero_of (zp_monic_deg mf.1 mf.2 (t := 0) (by rw [← eq]; exact dd))
      rw [eq, q0, zp_mul0]
    · unfold lgz
      rw [e, w]
      exact ⟨_, @lo_h2 zp_R zp_ring _⟩
  refine ⟨fun z w => ?_, iff _⟩
  have w2 := congrFun (congrArg Subtype.val ((iff z).mp w)) n
  have w3 : R1.1 n + (zp_mul (zp_C (-z)) R2).1 n = (zp_C 0).1 n := w2
  rw [zp_C_mul1, zp_C00] at w3
  have inv := zp_inv n0
  exact @lo_h3 zp_F _ _ _ _ _ w3 inv
where
  lo_h : ∀ {R : Type} [Lean.Grind.CommRing R] (f Q1 R1 c Q2 R2 : R), f * Q1 + R1 + -(c * (f * Q2 + R2)) = f * (Q1 + -(c * Q2)) + (R1 + -c * R2) := by intro R _ f Q1 R1 c Q2 R2; grind
  lo_h2 : ∀ {R : Type} [Lean.Grind.CommRing R] (a : R), a + 0 = a := by intro R _ a; grind
  lo_h3 : ∀ {R : Type} [Lean.Grind.CommRing R] {a b z l : R} (_ : a + -z * b = 0) (_ : b * l = 1), z = a * l := by intro R _ a b z l e1 e2; grind
section
variable {d : Nat} {h : s_H} {s : Nat → Int} {A : Nat → Nat → Int}
theorem V_log (hv : RV h s A) {T : Nat → th} (hR : RI s A T) {x k : Int} (hx : In3 x) (hk : In3 k) : wm sw_P (d + 9) 514 [.index 1290, vi x, vi k] h (RA h (fun v s' A' => ∃ c a, logS (s 1) T x k c a ∧ v = vi a ∧ s' 0 = c ∧ sq s s' ∧ sm A A' scrA ∧ RI s' A' T)) := by
  refine wm_in (cd := sw_c514) (nL := 6) (hd := sw_h514) rfl rfl ?_
  have kb : -2147483648 ≤ k ∧ k ≤ 2147483647 := by unfold In3 at hk; omega
  refine k514_0 hv.1 (wm_mono (wq_A (fun v1 h1 s1 A1 w1 r1 φ => ?_)) (V_isOf hv hR hx (k := 0) (by decide)))
  rcases φ with ⟨ev, e1, q, eA⟩ | ⟨ev, e1, q, f, ef, lf, kf, m1, g, _⟩
  · rw [ev]
    have q1 : sq s s1 := by rw [e1]; exact sq_up (sq_refl s) _ rfl
    have m1 : sm A A1 scrA := by rw [eA]; exact sm_refl
    refine k514_6 (fun w => absurd rfl w) (fun _ => k514_9 ⟨vi 0, h1, s1, A1, w1, r1, ⟨one s T x 0, 0, ?_, rfl, by rw [e1, up_at], q1, m1, RI_a hR m1 q1⟩, rfl⟩)
    rcases one_c q with ⟨w, e⟩ | ⟨w, w2, e⟩
    · exact ⟨fun _ => ⟨e, rfl⟩, fun w2 => absurd w2 w⟩
    · refine ⟨fun w3 => absurd w w3, fun _ => ?_⟩
      rcases et : T x.toNat with ⟨a, b⟩ | t
      · rw [et] at w2; exact absurd rfl w2
      · rcases t with a | t
        · exact ⟨e, rfl⟩
        · rcases t with ⟨r, c, M⟩ | ⟨n, so, va⟩ <;> exact ⟨e, rfl⟩
  rw [ev]
  subst ef
  have xf : (f : Int).toNat = f := by omega
  obtain ⟨g98, g99⟩ := g (by decide)
  have hf := hR.2.2 f lf
  have q1 : sq s s1 := by rw [e1]; exact sq_up (sq_refl s) _ rfl
  refine k514_6 (fun _ => ?_) (fun w => absurd (by decide) w)
  rcases ef1 : T f with ⟨a, b⟩ | t
  rotate_left
  · rw [ef1] at kf
    rcases t with a | ⟨r, c, M⟩ | ⟨n, so, va⟩
    · exact (kdn kf rfl).elim
    · exact (kdn kf rfl).elim
    · exact (kdn kf rfl).elim
  rw [ef1] at hf
  obtain ⟨_, p1, p2, p3, p4⟩ := hf
  have db := fr_deg p2
  refine k514_11 w1.1 (wm_mono (wq_N (fun h2 s2 A2 v2 r2 φ => ?_)) (V_findCore w1 (g98.trans p1) (g99.trans p2) (fr_deg p1) db p3))
  obtain ⟨q2, m2, K, U, W, C, r, hS, gK, gU, gW, gC, gr⟩ := φ
  obtain ⟨dK, dU, dW, dC, dr, mU, mW⟩ := her_dg hS db p3
  have sW := her_sq hS db p3
  have q2' := sq_tr q1 (sq_cl q2)
  have s20 : s2 0 = 0 := by
    obtain ⟨y1, y2, e⟩ := q2
    rw [e, up_ne _ _ (by decide), up_ne _ _ (by decide), e1, up_at]
  have m2' := sm_tr (scr_A m1) (sm_sub m2 rfl)
  refine k514_15 v2.1 (wm_mono (wq_N (fun h3 s3 A3 v3 r3 φ => ?_)) (V_makeRest v2 gW gr dW dr mW))
  obtain ⟨e3, m3, N, D, y1, y2, y3, y4, y5⟩ := φ
  subst e3
  have DW := cn_dv y1
  have mD : mo D := y1.2.2
  have sD := sqf_less sW DW
  have dD : zp_deg D 41 := by
    obtain ⟨n, z1, z2⟩ := mD
    obtain ⟨m, z3, z4⟩ := mW
    have le := mon_le ⟨z1, z2⟩ ⟨z3, z4⟩ DW
    have : m < 41 := Nat.lt_of_not_le (fun w2 => by
      rw [dW m w2] at z3
      exact zp_F10 z3.symm)
    exact deg_le z2 (by omega)
  have m3' : sm A A3 scrA := sm_tr m2' (sm_sub m3 rfl)
  refine k514_19 v3.1 (wm_mono (wq_Q (fun h4 v4 r4 => ?_)) (V_copy v3 (c := 1298) (e := 1302) rfl rfl (by decide)))
  rw [y4] at v4
  refine k514_30 v4.1 (wm_mono (wq_Q (fun h5 v5 r5 => ?_)) (V_copy v4 (c := 1299) (e := 1303) rfl rfl (by decide)))
  have i3 : up A3 1298 (cf N) 1303 = cf D := by rw [up_ne _ _ (by decide), y5]
  rw [i3] at v5
  have m5 : sm A (up (up A3 1298 (cf N)) 1299 (cf D)) scrA := sm_up (sm_up m3' _ rfl) _ rfl
  have a98 : up (up A3 1298 (cf N)) 1299 (cf D) 1298 = cf N := by rw [up_ne _ _ (by decide), up_at]
  have a99 : up (up A3 1298 (cf N)) 1299 (cf D) 1299 = cf D := up_at _ _ _
  have R5 : FR h h5 := FR_trans r1 (FR_trans r2 (FR_trans r3 (FR_trans r4 r5)))
  generalize up (up A3 1298 (cf N)) 1299 (cf D) = A5 at v5 m5 a98 a99
  have v6 := RV_fld v5 (up s3 26 0) (rF_26 s3 0)
  have r6 := FR_fld v5 (1, 11, (rF s3).set 26 (vi 0))
  -- when the factors are there
  have go : ∀ (n : Nat) (F : Nat → zp_R) (G O : Nat → Nat) (s7 : Nat → Int) (A7 : Nat → Nat → Int) (h7 : s_H), RV h7 s7 A7 → FR h h7 → sq s s7 → s7 0 = 0 → sm A A7 scrA → s7 26 = (n : Int) → n ≤ 40 → A7 1298 = cf N → A7 1299 = cf D → (D = zp_C 1 → n = 0) → (D ≠ zp_C 1 → facs D n F G O) → (∀ i, i < n → pt A7 1315 i = cf (F i)) → wr sw_P (d + 8) sw_c514 sw_h514 (64, [.index 1290, vi (f : Int), vi k, .result, .result, .result], [], h7, 0, 0) (RA h (fun v s' A' => ∃ c a, logS (s 1) T f k c a ∧ v = vi a ∧ s' 0 = c ∧ sq s s' ∧ sm A A' scrA ∧ RI s' A' T)) := by
    intro n F G O s7 A7 h7 v7 r7 q7 z7 m7 e26 n40 hN hD nD fD fr
    refine k514_64 (z6 := (n : Int)) v7.1 (wm_mono (wq_r ?_) (t_in (in6_of (by omega) (by omega)) (by decide) (in6_of (by omega) (by omega)))) (n7 := by
      show some (vi (s7 26)) = _
      rw [e26]) (c1 := hk) (c8 := by unfold In3; omega)
    have tell : ∀ c a : Int, (¬ (0 ≤ k ∧ k < (n : Int)) → c = 1 ∧ a = 0) → ((0 ≤ k ∧ k < (n : Int)) → c = 0 ∧ ((∃ z : zp_F, lgz N D (F k.toNat) z ∧ a = (z.val : Int)) ∨ ((∀ z, ¬ lgz N D (F k.toNat) z) ∧ a = -1))) → logS (s 1) T f k c a := fun c a z1 z2 => by
      refine ⟨fun w => absurd ⟨by omega, lf⟩ w, fun _ => ?_⟩
      rw [xf, ef1]
      exact ⟨K, U, W, C, r, N, D, n, F, G, O, hS, y1, nD, fD, z1, z2⟩
    by_cases w : 0 ≤ k ∧ k ≤ (n : Int) - 1
    rotate_left
    · rw [if_neg w]
      refine k514_77 (fun w2 => absurd rfl w2) (fun _ => ?_) (c1 := by decide)
      refine k514_80 v7.1 (wm_mono (wq_A (fun v8 h8 s8 A8 w8 r8 φ => ?_)) (V_raise v7))
      obtain ⟨x1, x2, x3⟩ := φ
      rw [x1]
      have q8 : sq s s8 := by rw [x2]; exact sq_up q7 _ rfl
      have m8 : sm A A8 scrA := by rw [x3]; exact m7
      exact k514_85 ⟨vi 0, h8, s8, A8, w8, FR_trans r7 r8, ⟨1, 0, tell 1 0 (fun _ => ⟨rfl, rfl⟩) (fun w2 => absurd ⟨w2.1, by omega⟩ w), rfl, by rw [x2, up_at], q8, m8, RI_a hR m8 q8⟩, rfl⟩
    rw [if_pos w]
    obtain ⟨k', ek⟩ : ∃ k' : Nat, k = k' := ⟨k.toNat, by omega⟩
    subst ek
    have kk : (k' : Int).toNat = k' := by omega
    have kn : k' < n := by omega
    have D1 : D ≠ zp_C 1 := fun w3 => by have := nD w3; omega
    obtain ⟨hF, FD, mF, _⟩ := (fD D1).1 k' kn
    have dF42 := pt_deg (fr k' kn)
    have dF6 := deg_le dF42 (show 42 ≤ 176 by decide)
    have hF0 := mo_pos (irr_mo hF) dF6
    have hiF : (hi (F k')).toNat = G k' := by rw [hi_mo mF.1 mF.2 dF6]; omega
    refine k514_77 (fun _ => ?_) (fun w2 => absurd (by decide) w2) (c1 := by decide)
    refine k514_86 v7.1 (wm_mono (wq_Q (fun h8 v8 r8 => ?_)) (V_loadFactor v7 (p := 1312) rfl (k := k') (by omega)))
    rw [fr k' kn] at v8
    refine k514_95 v8.1 (wm_mono (wq_N (fun h9 s9 A9 v9 r9 φ => ?_)) (V_divide v8 (p := 1298) (q := 1312) rfl rfl (by decide) (by decide) (by decide) (f := N) (g := F k') (by rw [up_ne _ _ (by decide)]; exact hN) (up_at _ _ _) y2 dF6 hF0))
    obtain ⟨es9, Q1, R1, eN, d1, d16, _, eA9⟩ := φ
    subst es9
    have b99 : A9 1299 = cf D := by rw [eA9, up_ne _ _ (by decide), up_ne _ _ (by decide), up_ne _ _ (by decide), hD]
    have b12 : A9 1312 = cf (F k') := by rw [eA9, up_ne _ _ (by decide), up_ne _ _ (by decide), up_at]
    have b98 : A9 1298 = cf R1 := by rw [eA9, up_at]
    have m9 : sm A A9 scrA := by rw [eA9]; exact sm_up (sm_up (sm_up m7 _ rfl) _ rfl) _ rfl
    have dD6 := deg_le dD (show 41 ≤ 176 by decide)
    refine k514_107 v9.1 (wm_mono (wq_Q (fun h10 v10 r10 => ?_)) (V_slope v9 (c := 1310) (e := 1299) rfl rfl (by decide) b99 dD6))
    refine k514_118 v10.1 (wm_mono (wq_N (fun h11 s11 A11 v11 r11 φ => ?_)) (V_divide v10 (p := 1310) (q := 1312) rfl rfl (by decide) (by decide) (by decide) (f := zp_D D) (g := F k') (up_at _ _ _) (by rw [up_ne _ _ (by decide)]; exact b12) (D_deg dD6) dF6 hF0))
    obtain ⟨es11, Q2, R2, eD, d2, d26, _, eA11⟩ := φ
    subst es11
    have c10' : A11 1310 = cf R2 := by rw [eA11, up_at]
    have c98 : A11 1298 = cf R1 := by rw [eA11, up_ne _ _ (by decide), up_ne _ _ (by decide), up_ne _ _ (by decide), b98]
    have m11 : sm A A11 scrA := by rw [eA11]; exact sm_up (sm_up (sm_up m9 _ rfl) _ rfl) _ rfl
    have R20 : R2 ≠ zp_C 0 := fun w3 => sq_D sD hF FD mD dD ⟨Q2, by rw [eD, w3]; exact @lgz_of.lo_h2 zp_R zp_ring _⟩
    have h2' := hi_ge d26 R20
    obtain ⟨n2, en2⟩ : ∃ n2 : Nat, hi R2 = n2 := ⟨(hi R2).toNat, by omega⟩
    have n20 := hi_ne en2
    have bR := hi_b R2
    refine k514_130 v11.1 (wm_mono (wq_r ?_) (V_high v11 (c := 1310) rfl c10'))
    rw [en2]
    have g1 : gi (mk 176 (A11 1298)) (n2 : Int) = ((R1.1 n2).val : Int) := by rw [c98]; exact gi_mkn (by omega)
    have g2 : gi (mk 176 (A11 1310)) (n2 : Int) = ((R2.1 n2).val : Int) := by rw [c10']; exact gi_mkn (by omega)
    have f1 := F_bd (R1.1 n2)
    have f2 := F_bd (R2.1 n2)
    refine k514_137 v11.1 (RV_l v11 (c := 1298) rfl) (RV_l v11 (c := 1310) rfl) (wm_mono (wq_r ?_) (t_inverse (by rw [g2]; exact in6_of (by omega) (by omega)))) (c10 := by rw [mk_len]; omega) (c11 := by omega) (c12 := by unfold In3; omega) (c18 := by rw [mk_len]; omega)
    rw [g1, g2, nF_val]
    have f3 := F_bd (R2.1 n2 ^ 32001)
    have f4 := F_bd (R1.1 n2 * R2.1 n2 ^ 32001)
    have bm : ((R1.1 n2).val : Int) * ((R2.1 n2 ^ 32001 : zp_F).val : Int) ≤ 32003 * 32003 := Int.mul_le_mul (by omega) (by omega) (by omega) (by omega)
    have bn : 0 ≤ ((R1.1 n2).val : Int) * ((R2.1 n2 ^ 32001 : zp_F).val : Int) := Int.mul_nonneg (by omega) (by omega)
    refine k514_153 v11.1 (wm_mono (wq_Q (fun h12 v12 r12 => ?_)) (V_more v11 (c := 1298) (e := 1310) rfl rfl (by decide) c98 c10' (by rw [tm_mul]; exact in6_of (by omega) (by omega)))) (c1 := in6_of (by omega) (by omega))
    rw [tm_mul]
    rw [tm_mul, nF_neg, nF_val] at v12
    obtain ⟨one_z, is_z⟩ := lgz_of mF eN (by rw [← hiF]; exact d1) eD (by rw [← hiF]; exact d2) n20
    clear bm bn f3
    generalize R1.1 n2 * R2.1 n2 ^ 32001 = zz at v12 one_z is_z f4 ⊢
    have dE : zp_deg (zp_add R1 (zp_mul (zp_C (-zz)) R2)) 176 := deg_add d16 (deg_Cm _ d26)
    have m12 : sm A (up A11 1298 (cf (zp_add R1 (zp_mul (zp_C (-zz)) R2)))) scrA := sm_up m11 _ rfl
    have R12 : FR h h12 := FR_trans r7 (FR_trans r8 (FR_trans r9 (FR_trans r10 (FR_trans r11 r12))))
    have bE := hi_b (zp_add R1 (zp_mul (zp_C (-zz)) R2))
    refine k514_174 v12.1 (wm_mono (wq_r ?_) (V_high v12 (c := 1298) rfl (up_at _ _ _)))
    refine k514_181 (fun w3 => k514_190 (k514_191 ?_)) (fun w3 => ?_) (c1 := by unfold In3; omega)
    · refine ⟨vi (-1), h12, _, _, v12, R12, ⟨0, -1, tell 0 (-1) (fun w4 => absurd ⟨w.1, by omega⟩ w4) (fun _ => ⟨rfl, .inr ⟨fun z hz => ?_, rfl⟩⟩), rfl, z7, q7, m12, RI_a hR m12 q7⟩, rfl⟩
      rw [kk] at hz
      have ez := one_z z hz
      rw [ez] at hz
      exact zp_ne0 w3 (is_z.mp hz)
    · refine k514_184 (k514_191 ?_)
      refine ⟨_, h12, _, _, v12, R12, ⟨0, _, tell 0 _ (fun w4 => absurd ⟨w.1, by omega⟩ w4) (fun _ => ⟨rfl, .inl ⟨zz, ?_, rfl⟩⟩), rfl, z7, q7, m12, RI_a hR m12 q7⟩, rfl⟩
      rw [kk]
      exact is_z.mpr (hi_0 dE (by omega))
  refine k514_41 v5.1 v6.1 (wm_mono (wq_r ?_) (V_isOne v6 (c := 1299) rfl a99))
  by_cases q8 : hi D = 0 ∧ cf D 0 = 1
  · rw [if_pos q8]
    have eD : D = zp_C 1 := mo_1 mD (deg_le dD (by decide)) (by omega)
    refine k514_53 (fun _ => ?_) (fun w => absurd (by decide) w) (c1 := by decide)
    exact go 0 (fun _ => zp_C 0) (fun _ => 0) (fun _ => 0) _ A5 _ v6 (FR_trans R5 r6) (sq_up q2' _ rfl) (by rw [up_ne _ _ (by decide), s20]) m5 (up_at _ _ _) (by decide) a98 a99 (fun _ => rfl) (fun w => absurd eD w) (fun i hi2 => absurd hi2 (Nat.not_lt_zero i))
  · rw [if_neg q8]
    refine k514_53 (fun w => absurd rfl w) (fun _ => ?_) (c1 := by decide)
    refine k514_56 v6.1 (wm_mono (wq_N (fun h7 s7 A7 v7 r7 φ => ?_)) (V_findFactors v6 (p := 1299) rfl (.inr rfl) a99 dD))
    obtain ⟨q7, m7, n, F, G, O, n40, e26, ff⟩ := φ
    have D1 : D ≠ zp_C 1 := fun w => q8 (by
      rw [w]
      exact ⟨hi_mo (n := 0) rfl (zp_C_deg 1) (deg_le (zp_C_deg 1) (by decide)), rfl⟩)
    have h1' : 1 ≤ hi D := Int.not_lt.mp (fun w => D1 (mo_1 mD (deg_le dD (by decide)) (by omega)))
    exact go n F G O s7 A7 h7 v7 (FR_trans R5 (FR_trans r6 r7)) (sq_tr (sq_up q2' _ rfl) (ffq_sq q7)) (by rw [q7 0 (by decide) (by decide) (by decide) (by decide) (by decide), up_ne _ _ (by decide), s20]) (sm_tr m5 (ffL_A m7)) e26 n40 ((m7 1298 rfl).trans a98) ((m7 1299 rfl).trans a99) (fun w => absurd w D1) (fun _ => ff.1.2 h1') (fun i hi2 => (ff.2 i hi2).1)
end
