/-! the reference's resultant in the picture, second part -/
theorem el_h1 {R : Type} [Lean.Grind.CommRing R] {m D p e D' D1 : R} (h : m * D = D') (h1 : D1 = (-1) * D) (h2 : D1 = p * e) : (-m * p) * e = D' := by grind
theorem el_h2 {R : Type} [Lean.Grind.CommRing R] {m D p e D' D1 : R} (h : m * D = D') (h1 : D1 = 1 * D) (h2 : D1 = p * e) : (m * p) * e = D' := by grind
theorem sb_first {M : Nat → Nat → zp_F} {c N : Nat} (hc : c < N) (z : ∀ i, c < i → i < N → M i c = 0) : dt (N - c) (sb M c) = M c c * dt (N - (c + 1)) (sb M (c + 1)) := by
  rw [show N - c = N - (c + 1) + 1 by omega, dt_first (fun i h1 h2 => z (c + i) (by omega) (by omega))]
  refine congrArg (M c c * ·) (dt_congr (fun a b _ _ => ?_))
  show M (c + (a + 1)) (c + (b + 1)) = M (c + 1 + a) (c + 1 + b)
  rw [show c + (a + 1) = c + 1 + a by omega, show c + (b + 1) = c + 1 + b by omega]
section
variable {d : Nat} {h : s_H} {s : Nat → Int} {A : Nat → Nat → Int}
theorem res_find {x1 x2 : Int} {M : Nat → Nat → zp_F} {m n c : Nat} (hN : m + n ≤ 80) (hc : c < m + n) {z : Int} {t6 t9 t10 t11 t12 t13 t14 : Term} {Q : s_O → Prop} (hv : RV h s A) (hM : A 1313 = f8 M) (K : ∀ r, c ≤ r → r ≤ m + n → (∀ i, c ≤ i → i < r → M i c = 0) → (r < m + n → M r c ≠ 0) → wr sw_P d sw_c583 sw_h583 (247, [.index 1290, vi x1, vi x2, vi (m : Int), vi (n : Int), vl z, t6, vi (c : Int), vi (r : Int), t9, t10, t11, t12, t13, t14], [], h, 0, 0) Q) : ∀ (l r : Nat), r + l = m + n → c ≤ r → (∀ i, c ≤ i → i < r → M i c = 0) → wr sw_P d sw_c583 sw_h583 (214, [.index 1290, vi x1, vi x2, vi (m : Int), vi (n : Int), vl z, t6, vi (c : Int), vi (r : Int), t9, t10, t11, t12, t13, t14], [], h, 0, 0) Q := by
  intro l
  induction l with
  | zero =>
    intro r hr cr z0
    exact k583_214 (fun _ => K r cr (by omega) z0 (fun w => absurd w (by omega))) (fun w => absurd w (by omega)) (c1 := by unfold In3; omega) (c2 := by unfold In3; omega)
  | succ l ih =>
    intro r hr cr z0
    refine k583_214 (fun w => absurd w (by omega)) (fun _ => ?_) (c1 := by unfold In3; omega) (c2 := by unfold In3; omega)
    have g1 := gi_f8 hM (n := r) (i := c) (by omega) (by omega) (x := 80 * (r : Int) + c) rfl
    have bz := (M r c).isLt
    refine k583_223 hv.1 (Ra_shifted hv) (fun w => ?_) (fun w => ?_) (c10 := by rw [mk_len]; omega) (c11 := by omega) (c12 := by unfold In3; omega) (c13 := by rw [g1]; exact in6_of (by omega) (by omega))
    · rw [g1] at w
      exact K r cr (by omega) z0 (fun _ q => w (by rw [q]; rfl))
    · rw [g1] at w
      have zz : M r c = 0 := F_ext (by show ((M r c).val : Int) = 0; omega)
      refine k583_241 (ih (r + 1) (by omega) (by omega) (fun i h1 h2 => ?_))
      by_cases e : i = r
      · rw [e, zz]
      · exact z0 i h1 (by omega)
theorem res_elim {x1 x2 : Int} {m n : Nat} (hN : m + n ≤ 80) {D : zp_F} {Q : s_O → Prop} (K : ∀ (h' : s_H) (B : Nat → Nat → Int), RV h' s B → FR h h' → (∀ x, x ≠ 1313 → B x = A x) → Q (.inl (some (vi (D.val : Int))), h', 0, 0)) : ∀ (l c : Nat) (B : Nat → Nat → Int) (M : Nat → Nat → zp_F) (h' : s_H) (z : zp_F) (t6 t8 t9 t10 t11 t12 t13 t14 : Term), c + l = m + n → RV h' s B → FR h h' → (∀ x, x ≠ 1313 → B x = A x) → B 1313 = f8 M → z * dt (m + n - c) (sb M c) = D → wr sw_P (d + 3) sw_c583 sw_h583 (201, [.index 1290, vi x1, vi x2, vi (m : Int), vi (n : Int), vl (z.val : Int), t6, vi (c : Int), t8, t9, t10, t11, t12, t13, t14], [], h', 0, 0) Q := by
  intro l
  induction l with
  | zero =>
    intro c B M h' z t6 t8 t9 t10 t11 t12 t13 t14 hc v r o g hD
    have zl := z.isLt
    refine k583_201 (fun _ => ?_) (fun w => absurd w (by omega)) (c1 := by unfold In3; omega) (c2 := by unfold In3; omega)
    rw [show m + n - c = 0 by omega] at hD
    have : z = D := (@fil_t.fl_h8 zp_F _ z).symm.trans hD
    rw [this]
    have dl := D.isLt
    exact k583_508 (K h' B v r o)
  | succ l ih =>
    intro c B M h' z t6 t8 t9 t10 t11 t12 t13 t14 hc v r o g hD
    have zl := z.isLt
    refine k583_201 (fun w => absurd w (by omega)) (fun _ => ?_) (c1 := by unfold In3; omega) (c2 := by unfold In3; omega)
    refine k583_210 ?_
    refine res_find (d := d + 3) hN (by omega) v g (fun p cp pN z0 nz => ?_) (m + n - c) c (by omega) (Nat.le_refl _) (fun i h1 h2 => absurd h1 (by omega))
    by_cases q : p = m + n
    · refine k583_247 (fun w => absurd q (by omega)) (fun _ => ?_) (c1 := by unfold In3; omega) (c2 := by unfold In3; omega)
      have e0 : dt (m + n - c) (sb M c) = 0 := by
        rw [show m + n - c = m + n - (c + 1) + 1 by omega]
        exact dt_z (fun i hi2 => z0 (c + i) (by omega) (by omega))
      rw [e0, zp_ml0] at hD
      have := K h' B v r o
      rw [← hD] at this
      exact k583_256 this
    · have pN' : p < m + n := by omega
      refine k583_247 (fun _ => ?_) (fun w => absurd (Decidable.byContradiction w) (by omega)) (c1 := by unfold In3; omega) (c2 := by unfold In3; omega)
      have body : ∀ (w : zp_F) (t6 : Term), w = (if c < p then -z else z) → wr sw_P (d + 3) sw_c583 sw_h583 (273, [.index 1290, vi x1, vi x2, vi (m : Int), vi (n : Int), vl (w.val : Int), t6, vi (c : Int), vi (p : Int), t9, t10, t11, t12, t13, t14], [], h', 0, 0) Q := by
        intro w t6 ew
        refine k583_273 ?_
        refine res_swap (d := d + 3) (M := M) (c := c) (r := p) hN (by omega) (by omega) v (fun h2 t10 t11 t12 t13 t14 v2 r2 => ?_) (m + n) 0 B h' _ _ _ _ _ (by omega) v (FR_refl h') (fun _ _ => rfl) (by rw [g]; congr 1)
        have d2 := dt_sw2 (M := M) cp pN'
        have pv : mix M (sw2 M p c) (m + n) c c = M p c := by
          show (if c < m + n then (if c = c then M p c else _) else M c c) = M p c
          rw [if_pos (by omega), if_pos rfl]
        have n0 : mix M (sw2 M p c) (m + n) c c ≠ 0 := by rw [pv]; exact nz pN'
        have g1 := gi_f8 (A := up B 1313 (f8 (mix M (sw2 M p c) (m + n)))) (up_at _ _ _) (n := c) (i := c) (by omega) (by omega) (x := 80 * (c : Int) + c) rfl
        have bz := (mix M (sw2 M p c) (m + n) c c).isLt
        refine k583_347 v2.1 (Ra_shifted v2) (wm_mono (wq_r ?_) (t_inverse (by rw [g1]; exact in6_of (by omega) (by omega)))) (c10 := by rw [mk_len]; omega) (c11 := by omega) (c12 := by unfold In3; omega) (c13 := by rw [g1]; exact in_mul _ _)
        rw [g1, nF_val, tm_mul]
        refine k583_385 ?_
        refine res_rows (d := d + 2) (M0 := mix M (sw2 M p c) (m + n)) (c := c) hN (by omega) v2 n0 (fun h3 M3 t10 t12 t13 t14 v3 r3 e1 e2 e3 => ?_) (m + n - (c + 1)) (c + 1) _ _ h2 _ _ _ _ (by omega) (by omega) v2 (FR_refl h2) (fun _ _ => rfl) (up_at _ _ _) rfl rfl (fun a ha hb => absurd ha (by omega))
        refine k583_502 ?_
        have sf := sb_first (M := M3) (c := c) (N := m + n) (by omega) e3
        rw [e1, e2] at sf
        refine ih (c + 1) _ M3 h3 _ _ _ _ _ _ _ _ _ (by omega) v3 (FR_trans r (FR_trans r2 r3)) (fun x hx => by rw [up_ne _ _ hx, up_ne _ _ hx, o x hx]) (up_at _ _ _) ?_
        rw [ew]
        by_cases q2 : c < p
        · rw [if_pos q2] at d2 ⊢
          exact @el_h1 zp_F _ _ _ _ _ _ _ hD d2 sf
        · rw [if_neg q2] at d2 ⊢
          exact @el_h2 zp_F _ _ _ _ _ _ _ hD d2 sf
      refine k583_258 (fun w => ?_) (fun w => ?_) (c1 := by unfold In3; omega) (c2 := by unfold In3; omega)
      · exact body z t6 (if_neg (by omega)).symm
      · refine k583_265 (wm_mono (wq_r ?_) (t_modulo (in6_of (by omega) (by omega))))
        rw [md_neg]
        exact k583_271 (body (-z) .result (if_pos (by omega)).symm)
theorem V_resultant (hv : RV h s A) {T : Nat → th} (hR : RI s A T) {x y : Int} (hx : In3 x) (hy : In3 y) : wm sw_P (d + 4) 583 [.index 1290, vi x, vi y] h (RA h (fun v s' A' => ∃ c a, resS (s 1) T x y c a ∧ v = vi a ∧ s' = up s 0 c ∧ sm A A' (1313 :: scr) ∧ RI s' A' T)) := by
  refine wm_in (cd := sw_c583) (nL := 15) (hd := sw_h583) rfl rfl ?_
  have b0 := hR.1.1
  refine k583_0 hv.1 (wm_mono (wq_A (fun v1 h1 s1 A1 w1 r1 φ => ?_)) (V_areWhole hv hR hx hy))
  obtain ⟨m1, c, hc, e1, q⟩ := φ
  rcases q with ⟨c0, ev⟩ | ⟨c0, ev, f, k, a, p, ef, ek, lf, lk, tf, tk, g98, g00, da, dp⟩
  · rw [ev]
    refine k583_6 (fun w => absurd rfl w) (fun _ => k583_9 ⟨vi 0, h1, s1, A1, w1, r1, ⟨c, 0, ⟨c, hc, fun _ => ⟨rfl, rfl⟩, fun w => absurd w c0⟩, rfl, e1, sm_sub m1 rfl, ?_⟩, rfl⟩)
    exact RI_sc hR m1 (by rw [e1]; rfl)
  · rw [ev]
    subst ef
    subst ek
    have xf : (f : Int).toNat = f := by omega
    have yk : (k : Int).toNat = k := by omega
    have s11 : s1 1 = s 1 := by rw [e1]; rfl
    have sp : ∀ (cc v : Int), ((a = zp_C 0 ∨ p = zp_C 0) → cc = 2 ∧ v = 0) ∧ (¬ (a = zp_C 0 ∨ p = zp_C 0) → cc = 0 ∧ v = ((dt ((hi a).toNat + (hi p).toNat) (syl a p (hi a).toNat (hi p).toNat)).val : Int)) → resS (s 1) T f k cc v := fun cc v w => ⟨c, hc, fun w2 => absurd c0 w2, fun _ => by rw [xf, yk, tf, tk]; exact w⟩
    have da6 := deg_le da (show 41 ≤ 176 by decide)
    have dp6 := deg_le dp (show 41 ≤ 176 by decide)
    have ba := hi_b a
    have bp := hi_b p
    have la := hi_lt da (Nat.le_refl _)
    have lp := hi_lt dp (Nat.le_refl _)
    rw [c0] at e1
    have bad : (a = zp_C 0 ∨ p = zp_C 0) → wr sw_P (d + 3) sw_c583 sw_h583 (31, [.index 1290, vi (f : Int), vi (k : Int), .result, .result, .result, .result, .result, .result, .result, .result, .result, .result, .result, .result], [], h1, 0, 0) (RA h (fun v s' A' => ∃ c a, resS (s 1) T f k c a ∧ v = vi a ∧ s' = up s 0 c ∧ sm A A' (1313 :: scr) ∧ RI s' A' T)) := fun hz => by
      refine k583_31 w1.1 (wm_mono (wq_A (fun v3 h3 s3 A3 w3 r3 φ => ?_)) (V_raise w1))
      obtain ⟨y1, y2, y3⟩ := φ
      rw [e1, up2] at y2
      subst y1
      refine k583_36 ⟨_, h3, s3, A3, w3, FR_trans r1 r3, ⟨2, 0, sp 2 0 ⟨fun _ => ⟨rfl, rfl⟩, fun w => absurd hz w⟩, rfl, y2, by rw [y3]; exact sm_sub m1 rfl, ?_⟩, rfl⟩
      exact RI_sc hR (by rw [y3]; exact m1) (by rw [y2]; rfl)
    refine k583_6 (fun _ => ?_) (fun w => absurd (by decide) w)
    refine k583_11 w1.1 (wm_mono (wq_r ?_) (V_high w1 (c := 1298) rfl g98))
    refine k583_18 (fun q1 => bad (.inl (hi_0 da6 q1))) (fun q1 => ?_)
    refine k583_21 w1.1 (wm_mono (wq_r ?_) (V_high w1 (c := 1300) rfl g00))
    refine k583_28 (fun q2 => ?_) (fun q2 => bad (.inr (fr_0 dp6 q2)))
    obtain ⟨m, em⟩ : ∃ m : Nat, hi a = m := ⟨(hi a).toNat, by omega⟩
    obtain ⟨n, en⟩ : ∃ n : Nat, hi p = n := ⟨(hi p).toNat, by omega⟩
    have nz : ¬ (a = zp_C 0 ∨ p = zp_C 0) := fun w => by
      rcases w with w | w
      · exact zp_ne0 (f := a) (by omega) w
      · exact zp_ne0 (f := p) (by omega) w
    refine k583_37 w1.1 (wm_mono (wq_r ?_) (V_high w1 (c := 1298) rfl g98))
    refine k583_44 w1.1 (wm_mono (wq_r ?_) (V_high w1 (c := 1300) rfl g00))
    refine k583_52 ?_
    rw [em, en]
    -- all at 0
    have fz : ∀ (l t : Nat) (B : Nat → Nat → Int) (h' : s_H), t + l = 6400 → RV h' s1 B → FR h h' → (∀ x, x ≠ 1313 → B x = A1 x) → (∀ i, i < t → B 1313 i = 0) → (∀ (h2 : s_H), RV h2 s1 (up A1 1313 (f8 (fun _ _ => 0))) → FR h h2 → wr sw_P (d + 3) sw_c583 sw_h583 (79, [.index 1290, vi (f : Int), vi (k : Int), vi (m : Int), vi (n : Int), vi 6400, .result, .result, .result, .result, .result, .result, .result, .result, .result], [], h2, 0, 0) (RA h (fun v s' A' => ∃ c a, resS (s 1) T f k c a ∧ v = vi a ∧ s' = up s 0 c ∧ sm A A' (1313 :: scr) ∧ RI s' A' T))) → wr sw_P (d + 3) sw_c583 sw_h583 (57, [.index 1290, vi (f : Int), vi (k : Int), vi (m : Int), vi (n : Int), vi (t : Int), .result, .result, .result, .result, .result, .result, .result, .result, .result], [], h', 0, 0) (RA h (fun v s' A' => ∃ c a, resS (s 1) T f k c a ∧ v = vi a ∧ s' = up s 0 c ∧ sm A A' (1313 :: scr) ∧ RI s' A' T)) := by
      intro l
      induction l with
      | zero =>
        intro t B h' ht v r o g K
        have t6 : t = 6400 := by omega
        subst t6
        refine k583_57 (fun _ => K h' ?_ r) (fun w => absurd w (by omega))
        have v3 := RV_cg v (c := 1313) (g := f8 (fun _ _ => 0)) (fun i hi2 => by
          have : rl 1313 = 6400 := rfl
          rw [g i (by omega)]; rfl)
        have e : up B 1313 (f8 (fun _ _ => 0)) = up A1 1313 (f8 (fun _ _ => 0)) := by
          funext x
          by_cases hx : x = 1313
          · rw [hx, up_at, up_at]
          · rw [up_ne _ _ hx, up_ne _ _ hx, o x hx]
        rw [e] at v3
        exact v3
      | succ l ih =>
        intro t B h' ht v r o g K
        refine k583_57 (fun w => absurd w (by omega)) (fun _ => ?_)
        refine k583_65 v.1 (Ra_shifted v) ?_ (c10 := by rw [mk_len]; omega)
        rw [mk_set]
        refine ih (t + 1) _ _ (by omega) (Rp_shifted v _) (FR_trans r (FR_8 v _)) (fun x hx => by rw [up_ne _ _ hx, o x hx]) (fun i hi2 => ?_) K
        rw [up_at]
        show (if i = (t : Int).toNat then 0 else B 1313 i) = 0
        by_cases h5 : i = t
        · rw [if_pos (by omega)]
        · rw [if_neg (by omega), g i (by omega)]
    refine fz 6400 0 A1 h1 rfl w1 r1 (fun _ _ => rfl) (fun i hi2 => absurd hi2 (Nat.not_lt_zero i)) (fun h2 v2 r2 => ?_)
    refine k583_79 ?_
    have o2 : ∀ x, x ≠ 1313 → up A1 1313 (f8 (fun _ _ => 0)) x = A1 x := fun x hx => up_ne _ _ hx
    -- the end
    have fin : ∀ (B : Nat → Nat → Int) (h' : s_H) (u5 : Int) (t6 t7 t8 t9 t10 t11 t12 t13 t14 : Term), RV h' s1 B → FR h h' → (∀ x, x ≠ 1313 → B x = A1 x) → B 1313 = f8 (sy1 (syl a p m n) n m 0) → wr sw_P (d + 3) sw_c583 sw_h583 (195, [.index 1290, vi (f : Int), vi (k : Int), vi (m : Int), vi (n : Int), vi u5, t6, t7, t8, t9, t10, t11, t12, t13, t14], [], h', 0, 0) (RA h (fun v s' A' => ∃ c a, resS (s 1) T f k c a ∧ v = vi a ∧ s' = up s 0 c ∧ sm A A' (1313 :: scr) ∧ RI s' A' T)) := by
      intro B h' u5 t6 t7 t8 t9 t10 t11 t12 t13 t14 v r o g
      refine k583_195 ?_
      have e0 : (1 : zp_F) * dt (m + n - 0) (sb (sy1 (syl a p m n) n m 0) 0) = dt (m + n) (syl a p m n) := by
        rw [show (1 : zp_F) * dt (m + n - 0) (sb (sy1 (syl a p m n) n m 0) 0) = dt (m + n) (sb (sy1 (syl a p m n) n m 0) 0) from @rs_h zp_F _ _]
        refine dt_congr (fun i j hi2 hj => ?_)
        show (if 0 + i < n + m ∨ _ then syl a p m n (0 + i) (0 + j) else 0) = _
        rw [if_pos (.inl (by omega)), Nat.zero_add, Nat.zero_add]
      refine res_elim (d := d) (h := h) (A := A1) (D := dt (m + n) (syl a p m n)) (by omega) (fun h3 B3 v3 r3 o3 => ?_) (m + n) 0 B _ h' 1 _ _ _ _ _ _ _ _ (by omega) v r o g e0
      have ms : sm A B3 (1313 :: scr) := sm_tr (sm_sub m1 rfl) (fun j hj => o3 j (fun e => by rw [e] at hj; exact absurd hj (by decide)))
      refine ⟨_, h3, s1, B3, v3, r3, ⟨0, _, sp 0 _ ⟨fun w => absurd w nz, fun _ => ⟨rfl, by rw [em, en]; rfl⟩⟩, rfl, e1, ms, ?_⟩, rfl⟩
      have R1 := RI_sc (s' := s1) hR m1 (by rw [e1]; rfl)
      exact RI_k R1 o3 rfl rfl
    have sa : ∀ i e, i < n → e ≤ m → syl a p m n (0 + i) (i + e) = a.1 (m - e) := fun i e h1 h2 => by
      show (if 0 + i < n then (if 0 + i ≤ i + e ∧ i + e ≤ 0 + i + m then a.1 (m - (i + e - (0 + i))) else 0) else _) = _
      rw [if_pos (by omega), if_pos (by omega), show i + e - (0 + i) = e by omega]
    have sb' : ∀ i e, i < m → e ≤ n → syl a p m n (n + i) (i + e) = p.1 (n - e) := fun i e h1 h2 => by
      show (if n + i < n then _ else if n + i - n ≤ i + e ∧ i + e ≤ n + i - n + n then p.1 (n - (i + e - (n + i - n))) else 0) = _
      rw [if_neg (by omega), if_pos (by omega), show i + e - (n + i - n) = e by omega]
    -- rows of the second
    have lb : ∀ (l i : Nat) (B : Nat → Nat → Int) (h' : s_H) (t6 t7 t8 t9 t10 t11 t12 t13 t14 : Term), i + l = m → RV h' s1 B → FR h h' → (∀ x, x ≠ 1313 → B x = A1 x) → B 1313 = f8 (sy1 (syl a p m n) n i 0) → wr sw_P (d + 3) sw_c583 sw_h583 (138, [.index 1290, vi (f : Int), vi (k : Int), vi (m : Int), vi (n : Int), vi (i : Int), t6, t7, t8, t9, t10, t11, t12, t13, t14], [], h', 0, 0) (RA h (fun v s' A' => ∃ c a, resS (s 1) T f k c a ∧ v = vi a ∧ s' = up s 0 c ∧ sm A A' (1313 :: scr) ∧ RI s' A' T)) := by
      intro l
      induction l with
      | zero =>
        intro i B h' t6 t7 t8 t9 t10 t11 t12 t13 t14 hi2 v r o g
        have im : i = m := by omega
        subst im
        exact k583_138 (fun _ => fin B h' _ _ _ _ _ _ _ _ _ _ v r o g) (fun w => absurd w (by omega)) (c1 := by unfold In3; omega) (c2 := by unfold In3; omega)
      | succ l ih =>
        intro i B h' t6 t7 t8 t9 t10 t11 t12 t13 t14 hi2 v r o g
        refine k583_138 (fun w => absurd w (by omega)) (fun _ => k583_144 ?_) (c1 := by unfold In3; omega) (c2 := by unfold In3; omega)
        have inner : ∀ (l2 e : Nat) (B : Nat → Nat → Int) (h' : s_H) (t7 t8 t9 t10 t11 t12 t13 t14 : Term), e + l2 = n + 1 → RV h' s1 B → FR h h' → (∀ x, x ≠ 1313 → B x = A1 x) → B 1313 = f8 (sy1 (syl a p m n) n i e) → wr sw_P (d + 3) sw_c583 sw_h583 (147, [.index 1290, vi (f : Int), vi (k : Int), vi (m : Int), vi (n : Int), vi (i : Int), vi (e : Int), t7, t8, t9, t10, t11, t12, t13, t14], [], h', 0, 0) (RA h (fun v s' A' => ∃ c a, resS (s 1) T f k c a ∧ v = vi a ∧ s' = up s 0 c ∧ sm A A' (1313 :: scr) ∧ RI s' A' T)) := by
          intro l2
          induction l2 with
          | zero =>
            intro e B h' t7 t8 t9 t10 t11 t12 t13 t14 he v r o g
            refine k583_147 (fun _ => k583_189 ?_) (fun w => absurd w (by omega)) (c1 := by unfold In3; omega) (c2 := by unfold In3; omega)
            refine ih (i + 1) B h' _ _ _ _ _ _ _ _ _ (by omega) v r o ?_
            rw [g, ← sy1_s (w := e) (fun j hj => ?_)]
            show (if n + i < n then _ else if n + i - n ≤ j ∧ j ≤ n + i - n + n then p.1 (n - (j - (n + i - n))) else 0) = 0
            rw [if_neg (by omega), if_neg (by omega)]
          | succ l2 ih2 =>
            intro e B h' t7 t8 t9 t10 t11 t12 t13 t14 he v r o g
            refine k583_147 (fun w => absurd w (by omega)) (fun _ => ?_) (c1 := by unfold In3; omega) (c2 := by unfold In3; omega)
            have g0 : B 1300 = cf p := (o 1300 (by decide)).trans g00
            have e4 : gi (mk 176 (B 1300)) ((n : Int) - e) = cf p (n - e) := by rw [g0, gi_mk (by omega) (by omega), show ((n : Int) - e).toNat = n - e by omega]
            refine k583_154 v.1 (Ra_bt v) (Ra_shifted v) ?_ (c12 := by rw [mk_len]; omega) (c13 := by omega) (c14 := by unfold In3; omega) (c18 := by rw [mk_len]; omega) (c19 := by omega) (c20 := by unfold In3; omega)
            have e5 := f8_put (sy1 (syl a p m n) n i e) (n := n + i) (i := i + e) (by omega) (syl a p m n (n + i) (i + e)) (t0 := (80 * ((n : Int) + i) + i + e).toNat) (by omega) (x := gi (mk 176 (B 1300)) ((n : Int) - e)) (by rw [e4, sb' i e (by omega) (by omega)]; rfl)
            rw [mk_set, g, e5, sy1_put]
            exact ih2 (e + 1) _ _ _ _ _ _ _ _ _ _ (by omega) (RV_8 v rfl) (FR_trans r (FR_8 v _)) (fun x hx => by rw [up_ne _ _ hx, o x hx]) (up_at _ _ _)
        exact inner (n + 1) 0 B h' _ _ _ _ _ _ _ _ (by omega) v r o g
    -- rows of the first
    have la' : ∀ (l i : Nat) (B : Nat → Nat → Int) (h' : s_H) (t6 t7 t8 t9 t10 t11 t12 t13 t14 : Term), i + l = n → RV h' s1 B → FR h h' → (∀ x, x ≠ 1313 → B x = A1 x) → B 1313 = f8 (sy1 (syl a p m n) 0 i 0) → wr sw_P (d + 3) sw_c583 sw_h583 (82, [.index 1290, vi (f : Int), vi (k : Int), vi (m : Int), vi (n : Int), vi (i : Int), t6, t7, t8, t9, t10, t11, t12, t13, t14], [], h', 0, 0) (RA h (fun v s' A' => ∃ c a, resS (s 1) T f k c a ∧ v = vi a ∧ s' = up s 0 c ∧ sm A A' (1313 :: scr) ∧ RI s' A' T)) := by
      intro l
      induction l with
      | zero =>
        intro i B h' t6 t7 t8 t9 t10 t11 t12 t13 t14 hi2 v r o g
        have im : i = n := by omega
        subst im
        refine k583_82 (fun _ => k583_135 ?_) (fun w => absurd w (by omega)) (c1 := by unfold In3; omega) (c2 := by unfold In3; omega)
        refine lb m 0 B h' _ _ _ _ _ _ _ _ _ (by omega) v r o ?_
        rw [g]
        congr 1
        funext r j
        unfold sy1
        by_cases q : r < i
        · rw [if_pos (.inl (by omega)), if_pos (.inl (by omega))]
        · rw [if_neg (by omega), if_neg (by omega)]
      | succ l ih =>
        intro i B h' t6 t7 t8 t9 t10 t11 t12 t13 t14 hi2 v r o g
        refine k583_82 (fun w => absurd w (by omega)) (fun _ => k583_89 ?_) (c1 := by unfold In3; omega) (c2 := by unfold In3; omega)
        have inner : ∀ (l2 e : Nat) (B : Nat → Nat → Int) (h' : s_H) (t7 t8 t9 t10 t11 t12 t13 t14 : Term), e + l2 = m + 1 → RV h' s1 B → FR h h' → (∀ x, x ≠ 1313 → B x = A1 x) → B 1313 = f8 (sy1 (syl a p m n) 0 i e) → wr sw_P (d + 3) sw_c583 sw_h583 (92, [.index 1290, vi (f : Int), vi (k : Int), vi (m : Int), vi (n : Int), vi (i : Int), vi (e : Int), t7, t8, t9, t10, t11, t12, t13, t14], [], h', 0, 0) (RA h (fun v s' A' => ∃ c a, resS (s 1) T f k c a ∧ v = vi a ∧ s' = up s 0 c ∧ sm A A' (1313 :: scr) ∧ RI s' A' T)) := by
          intro l2
          induction l2 with
          | zero =>
            intro e B h' t7 t8 t9 t10 t11 t12 t13 t14 he v r o g
            refine k583_92 (fun _ => k583_129 ?_) (fun w => absurd w (by omega)) (c1 := by unfold In3; omega) (c2 := by unfold In3; omega)
            refine ih (i + 1) B h' _ _ _ _ _ _ _ _ _ (by omega) v r o ?_
            rw [g, ← sy1_s (w := e) (fun j hj => ?_)]
            show (if 0 + i < n then (if 0 + i ≤ j ∧ j ≤ 0 + i + m then a.1 (m - (j - (0 + i))) else 0) else _) = 0
            rw [if_pos (by omega), if_neg (by omega)]
          | succ l2 ih2 =>
            intro e B h' t7 t8 t9 t10 t11 t12 t13 t14 he v r o g
            refine k583_92 (fun w => absurd w (by omega)) (fun _ => ?_) (c1 := by unfold In3; omega) (c2 := by unfold In3; omega)
            have g0 : B 1298 = cf a := (o 1298 (by decide)).trans g98
            have e4 : gi (mk 176 (B 1298)) ((m : Int) - e) = cf a (m - e) := by rw [g0, gi_mk (by omega) (by omega), show ((m : Int) - e).toNat = m - e by omega]
            refine k583_98 v.1 (Ra_at v) (Ra_shifted v) ?_ (c12 := by rw [mk_len]; omega) (c13 := by omega) (c14 := by unfold In3; omega) (c18 := by rw [mk_len]; omega) (c19 := by omega) (c20 := by unfold In3; omega)
            have e5 := f8_put (sy1 (syl a p m n) 0 i e) (n := 0 + i) (i := i + e) (by omega) (syl a p m n (0 + i) (i + e)) (t0 := (80 * (i : Int) + i + e).toNat) (by omega) (x := gi (mk 176 (B 1298)) ((m : Int) - e)) (by rw [e4, sa i e (by omega) (by omega)]; rfl)
            rw [mk_set, g, e5, sy1_put]
            exact ih2 (e + 1) _ _ _ _ _ _ _ _ _ _ (by omega) (RV_8 v rfl) (FR_trans r (FR_8 v _)) (fun x hx => by rw [up_ne _ _ hx, o x hx]) (up_at _ _ _)
        exact inner (m + 1) 0 B h' _ _ _ _ _ _ _ _ (by omega) v r o g
    refine la' n 0 _ h2 _ _ _ _ _ _ _ _ _ (by omega) v2 r2 o2 ?_
    rw [up_at]
    congr 1
    funext r j
    unfold sy1
    rw [if_neg (by omega)]
where rs_h : ∀ {R : Type} [Lean.Grind.CommRing R] (a : R), 1 * a = a := by intro R _ a; grind
end
