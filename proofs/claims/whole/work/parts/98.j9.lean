/-! the class: makeIntegral, isAheadOf, raised; polynomials that are 0 told loosely -/
theorem zp_0mulL (x : zp_F) : 0 * x = 0 := @z0_h zp_F _ x
where z0_h : ∀ {R : Type} [Lean.Grind.CommRing R] (a : R), 0 * a = 0 := by intro R _ a; grind
theorem zig_fin (f : zp_R) : zp_fin (fun i => if i = 0 then 0 else f.1 (i - 1) * nF (i : Int) ^ 32001) := by
  obtain ⟨n, hn⟩ := f.2
  refine ⟨n + 1, fun i hi2 => ?_⟩
  show (if i = 0 then 0 else f.1 (i - 1) * nF (i : Int) ^ 32001) = 0
  rw [if_neg (by omega), hn (i - 1) (by omega), zp_0mulL]
/-- the polynomial with this slope that is 0 at 0 -/
def zig (f : zp_R) : zp_R := ⟨fun i => if i = 0 then 0 else f.1 (i - 1) * nF (i : Int) ^ 32001, zig_fin f⟩
theorem zig_0 (f : zp_R) : (zig f).1 0 = 0 := rfl
theorem zig_s (f : zp_R) (i : Nat) : (zig f).1 (i + 1) = f.1 i * nF ((i + 1 : Nat) : Int) ^ 32001 := by
  show (if i + 1 = 0 then 0 else f.1 (i + 1 - 1) * nF ((i + 1 : Nat) : Int) ^ 32001) = _
  rw [if_neg (Nat.succ_ne_zero i), Nat.add_sub_cancel]
theorem zig_D {f : zp_R} (df : zp_deg f 32002) : zp_D (zig f) = f := zp_ext (fun i => by
  show zp_nat (i + 1) * (zig f).1 (i + 1) = f.1 i
  rw [zig_s, ← nF_nat]
  by_cases h : i < 32002
  · have n0 : nF ((i + 1 : Nat) : Int) ≠ 0 := fun e => by
      have := (nF_is0 (x := ((i + 1 : Nat) : Int)) (by omega)).mp e
      omega
    exact @zg_h zp_F _ _ _ _ (zp_inv n0)
  · rw [df i (by omega)]
    exact @zg_h2 zp_F _ _ _)
where
  zg_h : ∀ {R : Type} [Lean.Grind.CommRing R] (n w a : R), n * w = 1 → n * (a * w) = a := by intro R _ n w a h; grind
  zg_h2 : ∀ {R : Type} [Lean.Grind.CommRing R] (n w : R), n * (0 * w) = 0 := by intro R _ n w; grind
theorem pw_sq {R : Type} [Lean.Grind.CommRing R] (a : R) : ∀ k : Nat, (a * a) ^ k = a ^ (2 * k)
  | 0 => by rw [zp_pow_zero, Nat.mul_zero, zp_pow_zero]
  | k + 1 => by
    rw [zp_pow_succ, pw_sq a k, show 2 * (k + 1) = 2 * k + 1 + 1 by omega, zp_pow_succ, zp_pow_succ]
    generalize a ^ (2 * k) = y
    grind
theorem zi_odd {x : Nat} (hx : x < 2 ^ 31) : zi 24 (x : Int) 1 = ((x % 2 : Nat) : Int) := by
  have := zi_and hx (show 1 < 2 ^ 31 by decide)
  rw [Nat.and_one_is_mod] at this
  exact this
theorem zi_half {x : Nat} (hx : x < 2 ^ 31) : zi 28 (x : Int) 1 = ((x / 2 : Nat) : Int) := by
  have := zi_shr hx (show 1 < 31 by decide)
  rw [Nat.shiftRight_eq_div_pow] at this
  exact this
section
variable {D : Nat} {h : s_H} {p L : Nat}
theorem u_makeIntegral {f : zp_R} (hf : PF h p L f) (fit : ∀ e, dgp f e → e + 1 < L) : wm sw_P (D + 2) 172 [.index p] h (UN [p] h (fun h' => PF h' p L (zig f))) := by
  obtain ⟨d, g, P, b, c, eL, lL⟩ := hf
  have d1 := b.1
  have fd := fit d b
  refine wm_in (cd := sw_c172) (nL := 3) (hd := sw_h172) rfl rfl ?_
  have hlen : ((mk L g).map vi).length = L := by rw [List.length_map, mk_len]
  refine k172_0 (z5 := d) (a10 := (mk L g).map vi) (tg12 := 0) P.2.1 P.2.2 (fun w => absurd w (by rw [hlen]; omega)) (fun _ => k172_14 (z5 := d) P.2.1 ?_) (c13 := by unfold In3; omega) (c14 := by rw [hlen]; unfold In3; omega)
  refine k172_30 (z5 := d) P.2.1 (fun w => k172_39 ?_) (fun w => k172_38 ⟨h, ?_, FU_refl _ _, rfl⟩) (c7 := by unfold In3; omega)
  · obtain ⟨n, en⟩ : ∃ n : Nat, d = n := ⟨d.toNat, by omega⟩
    subst en
    have zd : ∀ i : Nat, (n : Int) + 1 < i → (zig f).1 i = 0 := fun i hi2 => by
      obtain ⟨j, ej⟩ : ∃ j, i = j + 1 := ⟨i - 1, by omega⟩
      rw [ej, zig_s, b.2.1 j (by omega), zp_0mulL]
    have loop : ∀ (i : Nat) (h' : s_H) (g' : Nat → Int), i ≤ n + 1 → PO h' p L n g' → FU [p] h h' → (∀ j : Nat, i < j → j ≤ n + 1 → g' j = cf (zig f) j) → (∀ j : Nat, j ≤ n → j ≤ i → g' j = cf f j) → wr sw_P (D + 1) sw_c172 sw_h172 (41, [.index p, vi ((n : Int) + 1), vi (i : Int)], [], h', 0, 0) (UN [p] h (fun h' => PF h' p L (zig f))) := by
      intro i
      induction i with
      | zero =>
        intro h' g' hi2 P' F' G1 G2
        obtain ⟨P2, F2⟩ := PO_g P' (fun t => if t = 0 then 0 else g' t)
        refine k172_41 (fun _ => ?_) (fun w => absurd (by decide) w) (c1 := by decide)
        refine k172_74 (a8 := mk L g') P'.2.1 P'.2.2 (f12 := [.index (p + 1), vi (n : Int)]) ?_ ?_ (c10 := by rw [mk_len]; omega)
        · rw [mk_set]
          exact P2.2.1
        · rw [mk_set]
          refine wm_mono (wq_U (fun h2 H F => k172_86 ⟨h2, H, FU_trans F' (FU_trans F2 F), rfl⟩)) (u_trim P2 lL (x := (n : Int) + 1) (by omega) (fun j hj => ?_) (fun j hj => zd j hj))
          show (if j = 0 then 0 else g' j) = _
          by_cases q : j = 0
          · rw [if_pos q, q]
            unfold cf
            rw [zig_0]
            rfl
          · rw [if_neg q]
            exact G1 j (by omega) (by omega)
      | succ i ih =>
        intro h' g' hi2 P' F' G1 G2
        have gk : gi (mk L g') (((i + 1 : Nat) : Int) - 1) = cf f i := by
          rw [show ((i + 1 : Nat) : Int) - 1 = (i : Int) by omega, gi_mkn (by omega)]
          exact G2 i (by omega) (by omega)
        have cb := cf_b f i
        have bi := (nF ((i + 1 : Nat) : Int) ^ 32001 : zp_F).isLt
        have bb := mm_le cb (y := ((nF ((i + 1 : Nat) : Int) ^ 32001 : zp_F).val : Int)) ⟨by omega, by omega⟩
        obtain ⟨P2, F2⟩ := PO_g P' (fun t => if t = i + 1 then cf (zig f) (i + 1) else g' t)
        refine k172_41 (fun w => absurd w (by omega)) (fun _ => ?_) (c1 := by unfold In3; omega)
        refine k172_45 (a8 := mk L g') P'.2.1 P'.2.2 (wm_mono (wq_r ?_) (u_inverseOf (v := i + 1) (by omega))) (c10 := by rw [mk_len]; omega) (c11 := by omega) (c12 := by unfold In3; omega)
        rw [gk]
        refine k172_62 (a3 := mk L g') P'.2.2 ?_ (c1 := by unfold In3; omega) (c5 := by rw [mk_len]; omega) (c6 := by omega) (c7 := by unfold In3; omega)
        have ev : Int.tmod (cf f i * ((nF ((i + 1 : Nat) : Int) ^ 32001 : zp_F).val : Int)) 32003 = cf (zig f) (i + 1) := by
          rw [tmod_nn bb.1]
          show _ = (((zig f).1 (i + 1)).val : Int)
          rw [zig_s, F_mul]
          rfl
        rw [ev, mk_set, show ((i + 1 : Nat) : Int) + (-1) = (i : Int) by omega]
        refine ih _ _ (by omega) P2 (FU_trans F' F2) (fun j h1 h2 => ?_) (fun j h1 h2 => ?_)
        · show (if j = i + 1 then cf (zig f) (i + 1) else g' j) = _
          by_cases q : j = i + 1
          · rw [if_pos q, q]
          · rw [if_neg q]
            exact G1 j (by omega) h2
        · show (if j = i + 1 then cf (zig f) (i + 1) else g' j) = _
          rw [if_neg (by omega)]
          exact G2 j h1 (by omega)
    exact loop (n + 1) h g (Nat.le_refl _) P (FU_refl _ _) (fun j h1 h2 => absurd h1 (by omega)) (fun j h1 _ => c j (by omega))
  · have f0 := dgp_0 b (by omega)
    have : zig f = f := zp_ext (fun i => by
      have z0 : ∀ j, f.1 j = 0 := fun j => b.2.1 j (by omega)
      cases i with
      | zero => rw [zig_0, z0]
      | succ i => rw [zig_s, z0, z0, zp_0mulL])
    rw [this]
    exact ⟨d, g, P, b, c, eL, lL⟩
theorem u_isAheadOf {f g : zp_R} (hf : PF h p L f) {q Lg : Nat} (hg : PF h q Lg g) (df : zp_deg f 176) (dg : zp_deg g 176) : wm sw_P (D + 1) 169 [.index p, .index q] h (fun out => ∃ z : Int, ((z = 1 ∧ ahd f g) ∨ (z = 0 ∧ ¬ ahd f g)) ∧ qr (vi z) h out) := by
  obtain ⟨d, gf, P, b, c, eL, lL⟩ := hf
  obtain ⟨e, gg, PQ, b', c', eL', lL'⟩ := hg
  have hd := dgp_one (dgp_hi df) b
  have he := dgp_one (dgp_hi dg) b'
  have b1 := b.1
  have b1' := b'.1
  refine wm_in (cd := sw_c169) (nL := 3) (hd := sw_h169) rfl rfl ?_
  refine k169_0 (z5 := d) (z11 := e) P.2.1 PQ.2.1 (fun w => ?_) (fun w => ?_) (c13 := by unfold In3; omega) (c14 := by unfold In3; omega)
  · subst w
    have loop : ∀ (l : Nat) (y : Int), y + 1 = l → y ≤ d → (∀ j : Nat, y < j → f.1 j = g.1 j) → wr sw_P D sw_c169 sw_h169 (33, [.index p, .index q, vi y], [], h, 0, 0) (fun out => ∃ z : Int, ((z = 1 ∧ ahd f g) ∨ (z = 0 ∧ ¬ ahd f g)) ∧ qr (vi z) h out) := by
      intro l
      induction l with
      | zero =>
        intro y hy yd E
        refine k169_33 (fun _ => k169_79 ⟨0, .inr ⟨rfl, fun a => ?_⟩, rfl⟩) (fun w => absurd (by omega) w) (c1 := by unfold In3; omega)
        rcases a with a | ⟨_, n, _, a⟩
        · omega
        · rw [E n (by omega)] at a
          omega
      | succ l ih =>
        intro y hy yd E
        obtain ⟨k, ek⟩ : ∃ k : Nat, y = k := ⟨y.toNat, by omega⟩
        subst ek
        have g1 : gi (mk L gf) (k : Int) = cf f k := by rw [gi_mkn (by omega)]; exact c k yd
        have g2 : gi (mk Lg gg) (k : Int) = cf g k := by rw [gi_mkn (by omega)]; exact c' k yd
        have cb := cf_b f k
        have cb' := cf_b g k
        refine k169_33 (fun w => absurd w (by omega)) (fun _ => ?_) (c1 := by unfold In3; omega)
        refine k169_37 (a8 := mk L gf) (a20 := mk Lg gg) P.2.1 P.2.2 PQ.2.1 PQ.2.2 (fun w => k169_73 ?_) (fun w => ?_) (c10 := by rw [mk_len]; omega) (c11 := by omega) (c12 := by unfold In3; omega) (c22 := by rw [mk_len]; omega) (c23 := by rw [g1]; unfold In3; omega) (c24 := by rw [g2]; unfold In3; omega)
        · rw [g1, g2] at w
          refine ih ((k : Int) + (-1)) (by omega) (by omega) (fun j hj => ?_)
          by_cases q : j = k
          · rw [q]
            unfold cf at w
            exact Fin.ext (by omega)
          · exact E j (by omega)
        · rw [g1, g2] at w
          refine k169_52 (a8 := mk L gf) (a20 := mk Lg gg) P.2.1 P.2.2 PQ.2.1 PQ.2.2 (fun w2 => k169_71 (k169_72 ⟨0, .inr ⟨rfl, fun a => ?_⟩, rfl⟩)) (fun w2 => k169_67 (k169_72 ⟨1, .inl ⟨rfl, .inr ⟨by omega, k, fun j hj => E j (by omega), ?_⟩⟩, rfl⟩)) (c10 := by rw [mk_len]; omega) (c11 := by omega) (c12 := by unfold In3; omega) (c22 := by rw [mk_len]; omega) (c23 := by rw [g1]; unfold In3; omega) (c24 := by rw [g2]; unfold In3; omega)
          · rw [g1, g2] at w2
            unfold cf at w w2
            rcases a with a | ⟨_, n, a1, a2⟩
            · omega
            · by_cases q1 : n < k
              · rw [a1 k q1] at w
                exact w rfl
              · by_cases q2 : n = k
                · rw [q2] at a2
                  omega
                · rw [E n (by omega)] at a2
                  omega
          · rw [g1, g2] at w2
            unfold cf at w2
            omega
    exact k169_28 (z5 := d) P.2.1 (loop (d + 1).toNat d (by omega) (Int.le_refl _) (fun j hj => by rw [b.2.1 j hj, b'.2.1 j hj]))
  · refine k169_11 (z5 := d) (z11 := e) P.2.1 PQ.2.1 (fun w2 => k169_26 (k169_27 ⟨0, .inr ⟨rfl, fun a => ?_⟩, rfl⟩)) (fun w2 => k169_22 (k169_27 ⟨1, .inl ⟨rfl, .inl (by omega)⟩, rfl⟩)) (c13 := by unfold In3; omega) (c14 := by unfold In3; omega)
    rcases a with a | ⟨a, _⟩ <;> omega
theorem u_raised {v : zp_F} {n : Nat} (hn : n < 2 ^ 31) : wm sw_P (D + 1) 175 [vi (v.val : Int), vi (n : Int)] h (qr (vi ((v ^ n : zp_F).val : Int)) h) := by
  refine wm_in (cd := sw_c175) (nL := 5) (hd := sw_h175) rfl rfl ?_
  have loop : ∀ (l left : Nat) (a s : zp_F), left ≤ l → left < 2 ^ 31 → a * s ^ left = v ^ n → wr sw_P D sw_c175 sw_h175 (7, [vi (v.val : Int), vi (n : Int), vi (a.val : Int), vi (s.val : Int), vi (left : Int)], [], h, 0, 0) (qr (vi ((v ^ n : zp_F).val : Int)) h) := by
    intro l
    induction l with
    | zero =>
      intro left a s hl _ e
      have z : left = 0 := by omega
      subst z
      rw [zp_pow_zero] at e
      have e2 : a = v ^ n := by rw [← e]; exact @ra_h zp_F _ a
      refine k175_7 (fun _ => k175_45 ?_) (fun w => absurd (by decide) w) (c1 := by decide)
      rw [e2]
    | succ l ih =>
      intro left a s hl l31 e
      have ba := a.isLt
      have bs := s.isLt
      have m1 := mm_le (x := (a.val : Int)) (y := (s.val : Int)) ⟨by omega, by omega⟩ ⟨by omega, by omega⟩
      have m2 := mm_le (x := (s.val : Int)) (y := (s.val : Int)) ⟨by omega, by omega⟩ ⟨by omega, by omega⟩
      have e1 : Int.tmod ((a.val : Int) * s.val) 32003 = ((a * s : zp_F).val : Int) := by rw [tmod_nn m1.1, F_mul]
      have e2 : Int.tmod ((s.val : Int) * s.val) 32003 = ((s * s : zp_F).val : Int) := by rw [tmod_nn m2.1, F_mul]
      have io := zi_odd l31
      refine k175_7 (fun w => k175_45 ?_) (fun w => ?_) (c1 := by unfold In3; omega)
      · have z : left = 0 := by omega
        subst z
        rw [zp_pow_zero] at e
        have e3 : a = v ^ n := by rw [← e]; exact @ra_h zp_F _ a
        rw [e3]
      · refine k175_12 (fun w2 => ?_) (fun w2 => ?_) (c1 := by rw [io]; unfold In3; omega)
        · rw [io] at w2
          refine k175_28 ?_ (c1 := by unfold In3; omega)
          rw [e2, zi_half l31]
          refine ih (left / 2) a (s * s) (by omega) (by omega) ?_
          rw [pw_sq, show 2 * (left / 2) = left by omega]
          exact e
        · rw [io] at w2
          refine k175_20 (k175_28 ?_ (c1 := by unfold In3; omega)) (c1 := by unfold In3; omega)
          rw [e1, e2, zi_half l31]
          refine ih (left / 2) (a * s) (s * s) (by omega) (by omega) ?_
          rw [pw_sq, ← e]
          have : left = 2 * (left / 2) + 1 := by omega
          rw [this, zp_pow_succ, show 2 * ((2 * (left / 2) + 1) / 2) = 2 * (left / 2) by omega]
          generalize s ^ (2 * (left / 2)) = y
          exact @ra_h2 zp_F _ a s y
  refine k175_0 (loop n n 1 v (Nat.le_refl _) hn ?_)
  exact @ra_h3 zp_F _ _
where
  ra_h : ∀ {R : Type} [Lean.Grind.CommRing R] (a : R), a = a * 1 := by intro R _ a; grind
  ra_h2 : ∀ {R : Type} [Lean.Grind.CommRing R] (a s y : R), a * s * y = a * (y * s) := by intro R _ a s y; grind
  ra_h3 : ∀ {R : Type} [Lean.Grind.CommRing R] (y : R), 1 * y = y := by intro R _ y; grind
end
