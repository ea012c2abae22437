/-! the reference's same in the picture, second part -/
section
variable {d : Nat} {h : s_H} {s : Nat → Int} {A : Nat → Nat → Int}
theorem V_same (hv : RV h s A) {T : Nat → th} (hR : RI s A T) {x y : Int} (hx : In3 x) (hy : In3 y) : wm sw_P (d + 3) 591 [.index 1290, vi x, vi y] h (RA h (fun v s' A' => ∃ c a, samS (s 1) T x y c a ∧ v = vi a ∧ s' = up s 0 c ∧ A' = A ∧ RI s' A' T)) := by
  refine wm_in (cd := sw_c591) (nL := 6) (hd := sw_h591) rfl rfl ?_
  have b0 := hR.1.1
  have v0 : ∀ z : Int, RV (hp h 1290 (1, 11, (rF s).set 0 (vi z))) (up s 0 z) A := fun z => RV_fld hv (up s 0 z) (rF_0 s z)
  have r0 : ∀ z : Int, FR h (hp h 1290 (1, 11, (rF s).set 0 (vi z))) := fun z => FR_fld hv _
  have bad : ¬ (0 ≤ x ∧ x < s 1 ∧ 0 ≤ y ∧ y < s 1) → wr sw_P (d + 2) sw_c591 sw_h591 (21, [.index 1290, vi x, vi y, .result, .result, .result], [.index 1290], h, 0, 0) (RA h (fun v s' A' => ∃ c a, samS (s 1) T x y c a ∧ v = vi a ∧ s' = up s 0 c ∧ A' = A ∧ RI s' A' T)) := fun hb => by
    refine k591_21 (k591_22 (z10 := 1) hv.1 (hp_at hv.1) (fun _ => ?_) (fun w => absurd (by decide) w))
    exact k591_47 ⟨_, _, _, _, v0 1, r0 1, ⟨1, 0, ⟨fun _ => ⟨rfl, rfl⟩, fun w => absurd w hb⟩, rfl, rfl, rfl, RI_sc hR sm_refl rfl⟩, rfl⟩
  refine k591_0 hv.1 (wm_mono (wq_r ?_) (V_isThere hv b0 hx))
  by_cases q1 : 0 ≤ x ∧ x < s 1
  case neg =>
    rw [if_neg q1]
    exact k591_6 (fun _ => bad (fun w => q1 ⟨w.1, w.2.1⟩)) (fun w => absurd rfl w)
  rw [if_pos q1]
  refine k591_6 (fun w => absurd w (by decide)) (fun _ => ?_)
  refine k591_9 hv.1 (wm_mono (wq_r ?_) (V_isThere hv b0 hy))
  by_cases q2 : 0 ≤ y ∧ y < s 1
  case neg =>
    rw [if_neg q2]
    exact k591_14 (fun _ => bad (fun w => q2 w.2.2)) (fun w => absurd rfl w)
  rw [if_pos q2]
  refine k591_14 (fun w => absurd w (by decide)) (fun _ => k591_17 ?_)
  obtain ⟨f, ef⟩ : ∃ f : Nat, x = f := ⟨x.toNat, by omega⟩
  obtain ⟨k, ek⟩ : ∃ k : Nat, y = k := ⟨y.toNat, by omega⟩
  subst ef
  subst ek
  have xf : (f : Int).toNat = f := by omega
  have yk : (k : Int).toNat = k := by omega
  have hf := hR.2.2 f q1.2
  have hk := hR.2.2 k q2.2
  have ik : A 1291 f = kd (T f) := isT_kd hf
  have jk : A 1291 k = kd (T k) := isT_kd hk
  have kb := kd_b (T f)
  have kb2 := kd_b (T k)
  have w0 := v0 0
  have g1 : gi (mk 150 (A 1291)) (f : Int) = kd (T f) := by rw [gi_mkn (by omega), ik]
  have g2 : gi (mk 150 (A 1291)) (k : Int) = kd (T k) := by rw [gi_mkn (by omega), jk]
  have i3 : In3 (A 1291 (f : Int).toNat) := by rw [xf, ik]; unfold In3; omega
  have fin : ∀ v : Int, (eqT (T f) (T k) → v = 1) → (¬ eqT (T f) (T k) → v = 0) → (RA h (fun v s' A' => ∃ c a, samS (s 1) T f k c a ∧ v = vi a ∧ s' = up s 0 c ∧ A' = A ∧ RI s' A' T)) (.inl (some (vi v)), hp h 1290 (1, 11, (rF s).set 0 (vi 0)), 0, 0) := fun v h1 h2 => ⟨_, _, _, A, w0, r0 0, ⟨0, v, ⟨fun w => absurd ⟨q1.1, q1.2, q2⟩ w, fun _ => ⟨rfl, by rw [xf, yk]; exact h1, by rw [xf, yk]; exact h2⟩⟩, rfl, rfl, rfl, RI_sc hR sm_refl rfl⟩, rfl⟩
  have no : ¬ eqT (T f) (T k) → (RA h (fun v s' A' => ∃ c a, samS (s 1) T f k c a ∧ v = vi a ∧ s' = up s 0 c ∧ A' = A ∧ RI s' A' T)) (.inl (some (vi 0)), hp h 1290 (1, 11, (rF s).set 0 (vi 0)), 0, 0) := fun w => fin 0 (fun w2 => absurd w2 w) (fun _ => rfl)
  refine k591_22 (z10 := 0) hv.1 (hp_at hv.1) (fun w => absurd w (by decide)) (fun _ => ?_)
  refine k591_32 w0.1 (Ra_kind w0) (fun q3 => ?_) (fun q3 => ?_) (c10 := by rw [mk_len]; omega) (c11 := by omega) (c12 := by unfold In3; omega) (c13 := by rw [mk_len]; omega) (c14 := by omega) (c15 := by unfold In3; omega) (c16 := by rw [g1]; unfold In3; omega) (c17 := by rw [g2]; unfold In3; omega)
  rotate_left
  · rw [g1, g2] at q3
    refine k591_47 (no (fun w => q3 ?_))
    rcases ef1 : T f with ⟨a, b⟩ | a | ⟨r, c, M⟩ | ⟨n, so, va⟩ <;> rcases ek1 : T k with ⟨c', e'⟩ | c' | ⟨r', c', M'⟩ | ⟨n', so', va'⟩ <;> (rw [ef1, ek1] at w; first | rfl | exact w.elim)
  rw [g1, g2] at q3
  refine k591_49 w0.1 (wm_mono (wq_r ?_) (V_is w0 (x := (f : Int)) (k := 2) ⟨by omega, by omega⟩ i3 (by decide)))
  rw [xf, ik]
  -- rows
  have rws : ∀ (fr : Prop) [Decidable fr], kd (T f) ≠ 2 → kd (T f) ≠ 3 → (fr ↔ kd (T f) = 0) → (eqT (T f) (T k) ↔ (∀ i, i ≤ 40 → A 1292 (41 * f + i) = A 1292 (41 * k + i)) ∧ (fr → ∀ i, i ≤ 40 → A 1293 (41 * f + i) = A 1293 (41 * k + i))) → wr sw_P (d + 2) sw_c591 sw_h591 (213, [.index 1290, vi (f : Int), vi (k : Int), .result, .result, .result], [], hp h 1290 (1, 11, (rF s).set 0 (vi 0)), 0, 0) (RA h (fun v s' A' => ∃ c a, samS (s 1) T f k c a ∧ v = vi a ∧ s' = up s 0 c ∧ A' = A ∧ RI s' A' T)) := by
    intro fr _ n2 n3 hfr hE
    refine k591_213 ?_
    have loop : ∀ (l i : Nat), i + l = 41 → (∀ j, j < i → A 1292 (41 * f + j) = A 1292 (41 * k + j)) → (fr → ∀ j, j < i → A 1293 (41 * f + j) = A 1293 (41 * k + j)) → wr sw_P (d + 2) sw_c591 sw_h591 (215, [.index 1290, vi (f : Int), vi (k : Int), vi (i : Int), .result, .result], [], hp h 1290 (1, 11, (rF s).set 0 (vi 0)), 0, 0) (RA h (fun v s' A' => ∃ c a, samS (s 1) T f k c a ∧ v = vi a ∧ s' = up s 0 c ∧ A' = A ∧ RI s' A' T)) := by
      intro l
      induction l with
      | zero =>
        intro i hi2 z1 z2
        refine k591_215 (fun _ => k591_288 (fin 1 (fun _ => rfl) (fun w => absurd (hE.mpr ⟨fun j hj => z1 j (by omega), fun w j hj => z2 w j (by omega)⟩) w))) (fun w => absurd w (by omega))
      | succ l ih =>
        intro i hi2 z1 z2
        have t1 := hR.1.2.2.1 (41 * f + i) (by omega)
        have t2 := hR.1.2.2.1 (41 * k + i) (by omega)
        have t3 := hR.1.2.2.2 (41 * f + i) (by omega)
        have t4 := hR.1.2.2.2 (41 * k + i) (by omega)
        have e1 : gi (mk 6150 (A 1292)) (41 * (f : Int) + i) = A 1292 (41 * f + i) := by rw [show 41 * (f : Int) + i = ((41 * f + i : Nat) : Int) by omega]; exact gi_mkn (by omega)
        have e2 : gi (mk 6150 (A 1292)) (41 * (k : Int) + i) = A 1292 (41 * k + i) := by rw [show 41 * (k : Int) + i = ((41 * k + i : Nat) : Int) by omega]; exact gi_mkn (by omega)
        have e3 : gi (mk 6150 (A 1293)) (41 * (f : Int) + i) = A 1293 (41 * f + i) := by rw [show 41 * (f : Int) + i = ((41 * f + i : Nat) : Int) by omega]; exact gi_mkn (by omega)
        have e4 : gi (mk 6150 (A 1293)) (41 * (k : Int) + i) = A 1293 (41 * k + i) := by rw [show 41 * (k : Int) + i = ((41 * k + i : Nat) : Int) by omega]; exact gi_mkn (by omega)
        refine k591_215 (fun w => absurd w (by omega)) (fun _ => ?_)
        refine k591_221 w0.1 (Ra_tops w0) (fun w => ?_) (fun w => ?_) (c10 := by rw [mk_len]; omega) (c11 := by omega) (c12 := by unfold In3; omega) (c13 := by rw [mk_len]; omega) (c14 := by omega) (c15 := by unfold In3; omega) (c16 := by rw [e1]; unfold In3; omega) (c17 := by rw [e2]; unfold In3; omega)
        · rw [e1, e2] at w
          exact k591_280 (no (fun w2 => w ((hE.mp w2).1 i (by omega))))
        · rw [e1, e2] at w
          have te : A 1292 (41 * f + i) = A 1292 (41 * k + i) := Decidable.byContradiction w
          have nxt : (fr → A 1293 (41 * f + i) = A 1293 (41 * k + i)) → wr sw_P (d + 2) sw_c591 sw_h591 (282, [.index 1290, vi (f : Int), vi (k : Int), vi (i : Int), .result, .result], [], hp h 1290 (1, 11, (rF s).set 0 (vi 0)), 0, 0) (RA h (fun v s' A' => ∃ c a, samS (s 1) T f k c a ∧ v = vi a ∧ s' = up s 0 c ∧ A' = A ∧ RI s' A' T)) := fun be => by
            refine k591_282 (ih (i + 1) (by omega) (fun j hj => ?_) (fun w3 j hj => ?_))
            · by_cases q : j = i
              · rw [q]; exact te
              · exact z1 j (by omega)
            · by_cases q : j = i
              · rw [q]; exact be w3
              · exact z2 w3 j (by omega)
          refine k591_246 w0.1 (wm_mono (wq_r ?_) (V_is w0 (x := (f : Int)) (k := 0) ⟨by omega, by omega⟩ i3 (by decide)))
          rw [xf, ik]
          by_cases q0 : kd (T f) = 0
          · rw [if_pos q0]
            refine k591_252 (fun w => absurd w (by decide)) (fun _ => ?_)
            refine k591_255 w0.1 (Ra_bottoms w0) (fun w3 => ?_) (fun w3 => ?_) (c10 := by rw [mk_len]; omega) (c11 := by omega) (c12 := by unfold In3; omega) (c13 := by rw [mk_len]; omega) (c14 := by omega) (c15 := by unfold In3; omega) (c16 := by rw [e3]; unfold In3; omega) (c17 := by rw [e4]; unfold In3; omega)
            · rw [e3, e4] at w3
              exact nxt (fun _ => w3)
            · rw [e3, e4] at w3
              exact k591_280 (no (fun w2 => w3 ((hE.mp w2).2 (hfr.mpr q0) i (by omega))))
          · rw [if_neg q0]
            exact k591_252 (fun _ => nxt (fun w3 => absurd (hfr.mp w3) q0)) (fun w => absurd rfl w)
    exact loop 41 0 rfl (fun j hj => absurd hj (Nat.not_lt_zero j)) (fun _ j hj => absurd hj (Nat.not_lt_zero j))
  have to3 : kd (T f) ≠ 2 → wr sw_P (d + 2) sw_c591 sw_h591 (197, [.index 1290, vi (f : Int), vi (k : Int), .result, .result, .result], [], hp h 1290 (1, 11, (rF s).set 0 (vi 0)), 0, 0) (RA h (fun v s' A' => ∃ c a, samS (s 1) T f k c a ∧ v = vi a ∧ s' = up s 0 c ∧ A' = A ∧ RI s' A' T)) → wr sw_P (d + 2) sw_c591 sw_h591 (55, [.index 1290, vi (f : Int), vi (k : Int), .result, .result, .result], [vi (if kd (T f) = 2 then 1 else 0)], hp h 1290 (1, 11, (rF s).set 0 (vi 0)), 0, 0) (RA h (fun v s' A' => ∃ c a, samS (s 1) T f k c a ∧ v = vi a ∧ s' = up s 0 c ∧ A' = A ∧ RI s' A' T)) := fun n2 w => by
    rw [if_neg n2]
    exact k591_55 (fun _ => w) (fun w => absurd rfl w)
  have to213 : kd (T f) ≠ 3 → wr sw_P (d + 2) sw_c591 sw_h591 (213, [.index 1290, vi (f : Int), vi (k : Int), .result, .result, .result], [], hp h 1290 (1, 11, (rF s).set 0 (vi 0)), 0, 0) (RA h (fun v s' A' => ∃ c a, samS (s 1) T f k c a ∧ v = vi a ∧ s' = up s 0 c ∧ A' = A ∧ RI s' A' T)) → wr sw_P (d + 2) sw_c591 sw_h591 (197, [.index 1290, vi (f : Int), vi (k : Int), .result, .result, .result], [], hp h 1290 (1, 11, (rF s).set 0 (vi 0)), 0, 0) (RA h (fun v s' A' => ∃ c a, samS (s 1) T f k c a ∧ v = vi a ∧ s' = up s 0 c ∧ A' = A ∧ RI s' A' T)) := fun n3 w => by
    refine k591_197 w0.1 (wm_mono (wq_r ?_) (V_is w0 (x := (f : Int)) (k := 3) ⟨by omega, by omega⟩ i3 (by decide)))
    rw [xf, ik, if_neg n3]
    exact k591_203 (fun _ => w) (fun w => absurd rfl w)
  rcases ef1 : T f with ⟨a, b⟩ | a | ⟨r, c, M⟩ | ⟨n, so, va⟩
  · rw [← ef1]
    have kf : kd (T f) = 0 := by rw [ef1]; rfl
    rw [kf] at q3
    rcases ek1 : T k with ⟨c, e⟩ | c | ⟨r, c, M⟩ | ⟨n, so, va⟩
    · rw [ef1] at hf
      rw [ek1] at hk
      obtain ⟨_, p1, p2, _, _⟩ := hf
      obtain ⟨_, p5, p6, _, _⟩ := hk
      refine to3 (by omega) (to213 (by omega) (rws True (by omega) (by omega) ⟨fun _ => kf, fun _ => trivial⟩ ?_))
      rw [ef1, ek1]
      refine ⟨fun w => ⟨fun i hi2 => ?_, fun _ i hi2 => ?_⟩, fun w => ⟨cf_inj (fun i hi2 => ?_) (fr_deg p1) (fr_deg p5), cf_inj (fun i hi2 => ?_) (fr_deg p2) (fr_deg p6)⟩⟩
      · rw [fp_at p1 hi2, fp_at p5 hi2, w.1]
      · rw [fp_at p2 hi2, fp_at p6 hi2, w.2]
      · have := w.1 i hi2
        rw [fp_at p1 hi2, fp_at p5 hi2] at this
        exact this
      · have := w.2 trivial i hi2
        rw [fp_at p2 hi2, fp_at p6 hi2] at this
        exact this
    · rw [ek1] at q3; exact (kdn q3 rfl).elim
    · rw [ek1] at q3; exact (kdn q3 rfl).elim
    · rw [ek1] at q3; exact (kdn q3 rfl).elim
  · rw [← ef1]
    have kf : kd (T f) = 1 := by rw [ef1]; rfl
    rw [kf] at q3
    rcases ek1 : T k with ⟨c, e⟩ | c | ⟨r, c, M⟩ | ⟨n, so, va⟩
    · rw [ek1] at q3; exact (kdn q3 rfl).elim
    · rw [ef1] at hf
      rw [ek1] at hk
      obtain ⟨_, p1, p2, p3⟩ := hf
      obtain ⟨_, p5, p6, p7⟩ := hk
      refine to3 (by omega) (to213 (by omega) (rws False (by omega) (by omega) ⟨fun w => w.elim, fun w => by omega⟩ ?_))
      rw [ef1, ek1]
      refine ⟨fun w => ⟨fun i hi2 => ?_, fun w => w.elim⟩, fun w => cf_inj (fun i hi2 => ?_) (fr_deg p1) (fr_deg p5)⟩
      · have w' : a = c := w
        rw [fp_at p1 hi2, fp_at p5 hi2, w']
      · have := w.1 i hi2
        rw [fp_at p1 hi2, fp_at p5 hi2] at this
        exact this
    · rw [ek1] at q3; exact (kdn q3 rfl).elim
    · rw [ek1] at q3; exact (kdn q3 rfl).elim
  · rw [← ef1]
    have kf : kd (T f) = 2 := by rw [ef1]; rfl
    rw [if_pos kf]
    rw [kf] at q3
    rcases ek1 : T k with ⟨c', e⟩ | c' | ⟨r2, c2, M2⟩ | ⟨n, so, va⟩
    · rw [ek1] at q3; exact (kdn q3 rfl).elim
    · rw [ek1] at q3; exact (kdn q3 rfl).elim
    · rw [ef1] at hf
      rw [ek1] at hk
      obtain ⟨_, p1, p2, p3, p4, p5⟩ := hf
      obtain ⟨_, u1, u2, u3, u4, u5⟩ := hk
      have hE : eqT (T f) (T k) ↔ (r = r2 ∧ c = c2 ∧ ∀ i j, i < r → j < c → M i j = M2 i j) := by rw [ef1, ek1]; exact Iff.rfl
      have r1 : gi (mk 150 (A 1294)) (f : Int) = (r : Int) := by rw [gi_mkn (by omega)]; exact p3
      have r2' : gi (mk 150 (A 1294)) (k : Int) = (r2 : Int) := by rw [gi_mkn (by omega)]; exact u3
      have c1' : gi (mk 150 (A 1295)) (f : Int) = (c : Int) := by rw [gi_mkn (by omega)]; exact p4
      have c2' : gi (mk 150 (A 1295)) (k : Int) = (c2 : Int) := by rw [gi_mkn (by omega)]; exact u4
      refine k591_55 (fun w => absurd w (by decide)) (fun _ => ?_)
      refine k591_58 w0.1 (Ra_rows w0) (fun w => ?_) (fun w => ?_) (c10 := by rw [mk_len]; omega) (c11 := by omega) (c12 := by unfold In3; omega) (c13 := by rw [mk_len]; omega) (c14 := by omega) (c15 := by unfold In3; omega) (c16 := by rw [r1]; unfold In3; omega) (c17 := by rw [r2']; unfold In3; omega)
      · rw [r1, r2'] at w
        refine k591_88 (no (fun w2 => w ?_))
        have := (hE.mp w2).1
        omega
      rw [r1, r2'] at w
      have er : r = r2 := by omega
      subst er
      refine k591_73 w0.1 (Ra_columns w0) (fun w => ?_) (fun w => ?_) (c10 := by rw [mk_len]; omega) (c11 := by omega) (c12 := by unfold In3; omega) (c13 := by rw [mk_len]; omega) (c14 := by omega) (c15 := by unfold In3; omega) (c16 := by rw [c1']; unfold In3; omega) (c17 := by rw [c2']; unfold In3; omega)
      rotate_left
      · rw [c1', c2'] at w
        refine k591_88 (no (fun w2 => w ?_))
        have := (hE.mp w2).2.1
        omega
      rw [c1', c2'] at w
      have ec : c = c2 := by omega
      subst ec
      refine k591_90 ?_
      have ent : ∀ (i j n : Nat), i < r → j < c → n ≤ 10 → gi (mk 26400 (A 1296)) (176 * (f : Int) + 11 * (4 * (i : Int) + j) + n) = (((M i j).1 n).val : Int) ∧ gi (mk 26400 (A 1296)) (176 * (k : Int) + 11 * (4 * (i : Int) + j) + n) = (((M2 i j).1 n).val : Int) := fun i j n h1 h2 h3 => by
        have x1 := congrFun (p5 i j h1 h2) n
        have x2 := congrFun (u5 i j h1 h2) n
        unfold me at x1 x2
        rw [if_pos h3] at x1 x2
        refine ⟨?_, ?_⟩
        · rw [show 176 * (f : Int) + 11 * (4 * (i : Int) + j) + n = ((eb f i j + n : Nat) : Int) by show _ = ((176 * f + 11 * (4 * i + j) + n : Nat) : Int); omega, gi_mkn (by show 176 * f + 11 * (4 * i + j) + n < 26400; omega)]
          exact x1
        · rw [show 176 * (k : Int) + 11 * (4 * (i : Int) + j) + n = ((eb k i j + n : Nat) : Int) by show _ = ((176 * k + 11 * (4 * i + j) + n : Nat) : Int); omega, gi_mkn (by show 176 * k + 11 * (4 * i + j) + n < 26400; omega)]
          exact x2
      have md11 : ∀ i j, i < r → j < c → zp_deg (M i j) 11 ∧ zp_deg (M2 i j) 11 := fun i j h1 h2 => ⟨me_deg (p5 i j h1 h2), me_deg (u5 i j h1 h2)⟩
      have outer : ∀ (l i : Nat) (t4 t5 : Term), i + l = r → (∀ a b, a < i → b < c → M a b = M2 a b) → wr sw_P (d + 2) sw_c591 sw_h591 (92, [.index 1290, vi (f : Int), vi (k : Int), vi (i : Int), t4, t5], [], hp h 1290 (1, 11, (rF s).set 0 (vi 0)), 0, 0) (RA h (fun v s' A' => ∃ c a, samS (s 1) T f k c a ∧ v = vi a ∧ s' = up s 0 c ∧ A' = A ∧ RI s' A' T)) := by
        intro l
        induction l with
        | zero =>
          intro i t4 t5 hi2 z
          refine k591_92 w0.1 (Ra_rows w0) (fun _ => ?_) (fun w => absurd w (by rw [r1]; omega)) (c10 := by rw [mk_len]; omega) (c11 := by omega) (c12 := by unfold In3; omega) (c13 := by unfold In3; omega) (c14 := by rw [r1]; unfold In3; omega)
          exact k591_195 (fin 1 (fun _ => rfl) (fun w => absurd (hE.mpr ⟨rfl, rfl, fun a b h1 h2 => z a b (by omega) h2⟩) w))
        | succ l ih =>
          intro i t4 t5 hi2 z
          refine k591_92 w0.1 (Ra_rows w0) (fun w => absurd w (by rw [r1]; omega)) (fun _ => k591_102 ?_) (c10 := by rw [mk_len]; omega) (c11 := by omega) (c12 := by unfold In3; omega) (c13 := by unfold In3; omega) (c14 := by rw [r1]; unfold In3; omega)
          have inner : ∀ (l2 j : Nat) (t5 : Term), j + l2 = c → (∀ b, b < j → M i b = M2 i b) → wr sw_P (d + 2) sw_c591 sw_h591 (105, [.index 1290, vi (f : Int), vi (k : Int), vi (i : Int), vi (j : Int), t5], [], hp h 1290 (1, 11, (rF s).set 0 (vi 0)), 0, 0) (RA h (fun v s' A' => ∃ c a, samS (s 1) T f k c a ∧ v = vi a ∧ s' = up s 0 c ∧ A' = A ∧ RI s' A' T)) := by
            intro l2
            induction l2 with
            | zero =>
              intro j t5 hj z2
              refine k591_105 w0.1 (Ra_columns w0) (fun _ => ?_) (fun w => absurd w (by rw [c1']; omega)) (c10 := by rw [mk_len]; omega) (c11 := by omega) (c12 := by unfold In3; omega) (c13 := by unfold In3; omega) (c14 := by rw [c1']; unfold In3; omega)
              refine k591_189 (ih (i + 1) _ _ (by omega) (fun a b h1 h2 => ?_))
              by_cases q : a = i
              · rw [q]; exact z2 b (by omega)
              · exact z a b (by omega) h2
            | succ l2 ih2 =>
              intro j t5 hj z2
              refine k591_105 w0.1 (Ra_columns w0) (fun w => absurd w (by rw [c1']; omega)) (fun _ => k591_116 ?_) (c10 := by rw [mk_len]; omega) (c11 := by omega) (c12 := by unfold In3; omega) (c13 := by unfold In3; omega) (c14 := by rw [c1']; unfold In3; omega)
              have num : ∀ (l3 n : Nat), n + l3 = 11 → (∀ b, b < n → (M i j).1 b = (M2 i j).1 b) → wr sw_P (d + 2) sw_c591 sw_h591 (119, [.index 1290, vi (f : Int), vi (k : Int), vi (i : Int), vi (j : Int), vi (n : Int)], [], hp h 1290 (1, 11, (rF s).set 0 (vi 0)), 0, 0) (RA h (fun v s' A' => ∃ c a, samS (s 1) T f k c a ∧ v = vi a ∧ s' = up s 0 c ∧ A' = A ∧ RI s' A' T)) := by
                intro l3
                induction l3 with
                | zero =>
                  intro n hn z3
                  refine k591_119 (fun _ => ?_) (fun w => absurd w (by omega))
                  refine k591_183 (ih2 (j + 1) _ (by omega) (fun b hb => ?_))
                  by_cases q : b = j
                  · rw [q]
                    obtain ⟨y1, y2⟩ := md11 i j (by omega) (by omega)
                    refine zp_ext (fun e => ?_)
                    by_cases q2 : e < n
                    · exact z3 e q2
                    · rw [y1 e (by omega), y2 e (by omega)]
                  · exact z2 b (by omega)
                | succ l3 ih3 =>
                  intro n hn z3
                  obtain ⟨y1, y2⟩ := ent i j n (by omega) (by omega) (by omega)
                  have b1 := ((M i j).1 n).isLt
                  have b2 := ((M2 i j).1 n).isLt
                  refine k591_119 (fun w => absurd w (by omega)) (fun _ => ?_)
                  refine k591_126 w0.1 (Ra_entries w0) (fun w => ?_) (fun w => ?_) (c10 := by rw [mk_len]; omega) (c11 := by omega) (c12 := by unfold In3; omega) (c13 := by rw [mk_len]; omega) (c14 := by omega) (c15 := by unfold In3; omega) (c16 := by rw [y1]; unfold In3; omega) (c17 := by rw [y2]; unfold In3; omega)
                  · rw [y1, y2] at w
                    refine k591_177 (ih3 (n + 1) (by omega) (fun b hb => ?_))
                    by_cases q : b = n
                    · rw [q]; exact F_ext w
                    · exact z3 b (by omega)
                  · rw [y1, y2] at w
                    refine k591_175 (no (fun w2 => w ?_))
                    rw [(hE.mp w2).2.2 i j (by omega) (by omega)]
              exact num 11 0 rfl (fun b hb => absurd hb (Nat.not_lt_zero b))
          exact inner c 0 _ (by omega) (fun b hb => absurd hb (Nat.not_lt_zero b))
      exact outer r 0 _ _ (by omega) (fun a b hb => absurd hb (Nat.not_lt_zero a))
    · rw [ek1] at q3; exact (kdn q3 rfl).elim
  · rw [← ef1]
    have kf : kd (T f) = 3 := by rw [ef1]; rfl
    rw [kf] at q3
    rcases ek1 : T k with ⟨c', e⟩ | c' | ⟨r2, c2, M2⟩ | ⟨n2, so2, va2⟩
    · rw [ek1] at q3; exact (kdn q3 rfl).elim
    · rw [ek1] at q3; exact (kdn q3 rfl).elim
    · rw [ek1] at q3; exact (kdn q3 rfl).elim
    · refine to3 (by omega) ?_
      refine k591_197 w0.1 (wm_mono (wq_r ?_) (V_is w0 (x := (f : Int)) (k := 3) ⟨by omega, by omega⟩ i3 (by decide)))
      rw [xf, ik, if_pos kf]
      refine k591_203 (fun w => absurd w (by decide)) (fun _ => ?_)
      rw [ef1] at hf
      rw [ek1] at hk
      refine k591_206 w0.1 (wm_mono (fun out => ?_) (V_areSameTrees w0 (f := f) (k := k) (by omega) (by omega) hf hk))
      intro ⟨v, y1, y2, y3⟩
      have y1 : eqT (T f) (T k) → v = 1 := by rw [ef1, ek1]; exact y1
      have y2 : ¬ eqT (T f) (T k) → v = 0 := by rw [ef1, ek1]; exact y2
      have vb : v = 0 ∨ v = 1 := by
        by_cases q : eqT (T f) (T k)
        · exact .inr (y1 q)
        · exact .inl (y2 q)
      exact wq_r (k591_212 (fin v y1 y2) (c1 := vb)) out y3
end
