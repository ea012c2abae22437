/-! the class: setCopy, trim, scale, sameAs, valueAt -/
theorem zp_F_mul0 {a b : zp_F} (ha : a ≠ 0) (hb : b ≠ 0) : a * b ≠ 0 := fun e => by
  have i := zp_inv hb
  have : a * b * b ^ 32001 = a := by
    have h1 : ∀ {R : Type} [Lean.Grind.CommRing R] (x y z : R), y * z = 1 → x * y * z = x := fun {R} _ x y z h => by grind
    exact h1 a b _ i
  rw [e] at this
  have z0 : (0 : zp_F) * b ^ 32001 = 0 := by
    have h1 : ∀ {R : Type} [Lean.Grind.CommRing R] (x : R), 0 * x = 0 := fun {R} _ x => by grind
    exact h1 _
  rw [z0] at this
  exact ha this.symm
section
variable {D : Nat} {h : s_H} {p L : Nat}
theorem u_setCopy (hE : PE h p L) {a La : Nat} {f : zp_R} (ha : PF h a La f) (ap : apt a p) {e : Int} (he : dgp f e) (eL : e < L) : wm sw_P (D + 1) 179 [.index p, .index a] h (UN [p] h (fun h' => PF h' p L f)) := by
  obtain ⟨⟨d, g, P, dn, dL⟩, lL⟩ := hE
  obtain ⟨d2, g2, PA, b, c, ea, la⟩ := ha
  have ed := dgp_one he b
  subst ed
  have b1 := b.1
  refine wm_in (cd := sw_c179) (nL := 3) (hd := sw_h179) rfl rfl ?_
  have hlen : ((mk L g).map vi).length = L := by rw [List.length_map, mk_len]
  refine k179_0 (z6 := e) (a14 := (mk L g).map vi) (tg16 := 0) PA.2.1 P.2.1 P.2.2 (fun w => absurd w (by rw [hlen]; omega)) (fun _ => ?_) (c17 := by unfold In3; omega) (c18 := by rw [hlen]; unfold In3; omega)
  obtain ⟨P1, F1⟩ := PO_d P e
  refine k179_13 (z5 := e) PA.2.1 (k179_21 P.2.1 ?_ (c5 := P.1))
  have loop : ∀ (l i : Nat) (h' : s_H) (g' : Nat → Int), (i : Int) + l = e + 1 → PO h' p L e g' → FU [p] h h' → (∀ j, j < i → g' j = cf f j) → wr sw_P D sw_c179 sw_h179 (26, [.index p, .index a, vi (i : Int)], [], h', 0, 0) (UN [p] h (fun h' => PF h' p L f)) := by
    intro l
    induction l with
    | zero =>
      intro i h' g' hi2 P' F' G
      exact k179_26 (z5 := e) P'.2.1 (fun _ => k179_52 ⟨h', ⟨e, g', P', b, fun j hj => G j (by omega), eL, lL⟩, F', rfl⟩) (fun w => absurd (by omega) w) (c7 := by unfold In3; omega) (c8 := by unfold In3; omega)
    | succ l ih =>
      intro i h' g' hi2 P' F' G
      have PA' := PO_keep PA F' (fun q hq => by rw [List.mem_singleton.mp hq]; exact ap)
      refine k179_26 (z5 := e) P'.2.1 (fun w => absurd w (by omega)) (fun _ => ?_) (c7 := by unfold In3; omega) (c8 := by unfold In3; omega)
      obtain ⟨P2, F2⟩ := PO_g P' (fun t => if t = i then cf f i else g' t)
      refine k179_34 (a14 := mk La g2) (a20 := mk L g') P'.2.1 PA'.2.1 PA'.2.2 P'.2.2 ?_ (c16 := by rw [mk_len]; omega) (c17 := by omega) (c18 := by unfold In3; omega) (c22 := by rw [mk_len]; omega)
      rw [gi_mkn (by omega), c i (by omega), mk_set]
      refine ih (i + 1) _ _ (by omega) P2 (FU_trans F' F2) (fun j hj => ?_)
      show (if j = i then cf f i else g' j) = _
      by_cases q : j = i
      · rw [if_pos q, q]
      · rw [if_neg q]
        exact G j (by omega)
  exact loop (e + 1).toNat 0 _ g (by omega) P1 F1 (fun j hj => absurd hj (Nat.not_lt_zero _))
theorem u_trim {d : Int} {g : Nat → Int} (P : PO h p L d g) (lL : L ≤ 1000) {x : Int} (hx : -1 ≤ x ∧ x < L) {f : zp_R} (G : ∀ i : Nat, (i : Int) ≤ x → g i = cf f i) (Z : ∀ i : Nat, x < i → f.1 i = 0) : wm sw_P (D + 1) 186 [.index p, vi x] h (UN [p] h (fun h' => PF h' p L f)) := by
  refine wm_in (cd := sw_c186) (nL := 3) (hd := sw_h186) rfl rfl ?_
  have hlen : ((mk L g).map vi).length = L := by rw [List.length_map, mk_len]
  have loop : ∀ (l : Nat) (y : Int), y + 1 = l → y ≤ x → (∀ i : Nat, y < i → f.1 i = 0) → wr sw_P D sw_c186 sw_h186 (21, [.index p, vi x, vi y], [], h, 0, 0) (UN [p] h (fun h' => PF h' p L f)) := by
    intro l
    induction l with
    | zero =>
      intro y hy yx Z'
      have ey : y = -1 := by omega
      subst ey
      obtain ⟨P1, F1⟩ := PO_d P (-1)
      exact k186_21 (fun _ => k186_40 P.2.1 ⟨_, ⟨-1, g, P1, ⟨by decide, Z', fun i hi2 => absurd hi2 (by omega)⟩, fun i hi2 => absurd hi2 (by omega), by omega, lL⟩, F1, rfl⟩ (c6 := P.1)) (fun w => absurd (by decide) w) (c1 := by decide)
    | succ l ih =>
      intro y hy yx Z'
      obtain ⟨k, ek⟩ : ∃ k : Nat, y = k := ⟨y.toNat, by omega⟩
      subst ek
      have gk : gi (mk L g) (k : Int) = cf f k := by rw [gi_mkn (by omega)]; exact G k yx
      have cb := cf_b f k
      refine k186_21 (fun w => absurd w (by omega)) (fun _ => ?_) (c1 := by unfold In3; omega)
      refine k186_25 (a8 := mk L g) P.2.1 P.2.2 (fun w => ?_) (fun w => k186_34 ?_) (c10 := by rw [mk_len]; omega) (c11 := by omega) (c12 := by unfold In3; omega) (c13 := by rw [gk]; unfold In3; omega)
      · rw [gk] at w
        obtain ⟨P1, F1⟩ := PO_d P (k : Int)
        refine k186_40 P.2.1 ⟨_, ⟨(k : Int), g, P1, ⟨by omega, Z', fun i hi2 e => w ?_⟩, fun i hi2 => G i (by omega), by omega, lL⟩, F1, rfl⟩ (c6 := P.1)
        have : i = k := by omega
        subst this
        unfold cf
        rw [e]
        rfl
      · rw [gk] at w
        have z : f.1 k = 0 := by
          have e : cf f k = 0 := Classical.byContradiction w
          unfold cf at e
          exact Fin.ext (by omega)
        refine ih ((k : Int) + (-1)) (by omega) (by omega) (fun i hi2 => ?_)
        by_cases q : i = k
        · rw [q]
          exact z
        · exact Z' i (by omega)
  refine k186_0 (a8 := (mk L g).map vi) (tg10 := 0) P.2.1 P.2.2 (fun w => absurd w (by rw [hlen]; omega)) (fun _ => k186_9 (k186_20 (loop (x + 1).toNat x (by omega) (Int.le_refl _) Z))) (c11 := by unfold In3; omega) (c12 := by rw [hlen]; unfold In3; omega)
theorem u_scale {f : zp_R} (hf : PF h p L f) {x : Int} (hx : 0 ≤ x ∧ x < 32003) : wm sw_P (D + 1) 178 [.index p, vi x] h (UN [p] h (fun h' => PF h' p L (zp_mul (zp_C (nF x)) f))) := by
  obtain ⟨d, g, P, b, c, eL, lL⟩ := hf
  have b1 := b.1
  refine wm_in (cd := sw_c178) (nL := 3) (hd := sw_h178) rfl rfl ?_
  have ix : In3 x := by unfold In3; omega
  have sc : ∀ i, (zp_mul (zp_C (nF x)) f).1 i = nF x * f.1 i := fun i => zp_C_mul1 _ _ _
  have loop : ∀ (d' : Int), d' ≤ d → -1 ≤ d' → dgp (zp_mul (zp_C (nF x)) f) d' → ∀ (l i : Nat) (h' : s_H) (g' : Nat → Int), (i : Int) + l = d' + 1 → PO h' p L d' g' → FU [p] h h' → (∀ j : Nat, (j : Int) ≤ d' → g' j = if j < i then cf (zp_mul (zp_C (nF x)) f) j else cf f j) → wr sw_P D sw_c178 sw_h178 (11, [.index p, vi x, vi (i : Int)], [], h', 0, 0) (UN [p] h (fun h' => PF h' p L (zp_mul (zp_C (nF x)) f))) := by
    intro d' dd dm hd l
    induction l with
    | zero =>
      intro i h' g' hi2 P' F' G
      exact k178_11 (z5 := d') P'.2.1 (fun _ => k178_43 ⟨h', ⟨d', g', P', hd, fun j hj => by rw [G j hj, if_pos (by omega)], by omega, lL⟩, F', rfl⟩) (fun w => absurd (by omega) w) (c7 := by unfold In3; omega) (c8 := by unfold In3; omega)
    | succ l ih =>
      intro i h' g' hi2 P' F' G
      have gk : gi (mk L g') (i : Int) = cf f i := by rw [gi_mkn (by omega), G i (by omega), if_neg (by omega)]
      have cb := cf_b f i
      have mm := mm_le cb hx
      refine k178_11 (z5 := d') P'.2.1 (fun w => absurd w (by omega)) (fun _ => ?_) (c7 := by unfold In3; omega) (c8 := by unfold In3; omega)
      obtain ⟨P2, F2⟩ := PO_g P' (fun t => if t = i then cf (zp_mul (zp_C (nF x)) f) i else g' t)
      refine k178_19 (a8 := mk L g') P'.2.1 P'.2.2 ?_ (c10 := by rw [mk_len]; omega) (c11 := by omega) (c12 := by unfold In3; omega) (c13 := by rw [gk]; unfold In3; omega)
      have e1 : Int.tmod (cf f i * x) 32003 = cf (zp_mul (zp_C (nF x)) f) i := by
        rw [Int.tmod_eq_emod_of_nonneg mm.1]
        unfold cf
        rw [sc, F_mul, nF_v, show x % 32003 = x by omega, Int.mul_comm]
      rw [gk, e1, mk_set]
      refine ih (i + 1) _ _ (by omega) P2 (FU_trans F' F2) (fun j hj => ?_)
      show (if j = i then cf (zp_mul (zp_C (nF x)) f) i else g' j) = _
      by_cases q : j = i
      · rw [if_pos q, if_pos (by omega), q]
      · rw [if_neg q, G j hj]
        by_cases q2 : j < i
        · rw [if_pos q2, if_pos (by omega)]
        · rw [if_neg q2, if_neg (by omega)]
  refine k178_0 (fun w => k178_9 ?_) (fun w => ?_) (c1 := ix)
  · have n0 : nF x ≠ 0 := fun e => w ((nF_is0 hx).mp e)
    refine loop d (Int.le_refl _) b1 ⟨b1, fun i hi2 => ?_, fun i hi2 => ?_⟩ (d + 1).toNat 0 h g (by omega) P (FU_refl _ _) (fun j hj => by rw [if_neg (Nat.not_lt_zero _)]; exact c j hj)
    · rw [sc, b.2.1 i hi2]
      exact zp_h15 _
    · rw [sc]
      exact zp_F_mul0 n0 (b.2.2 i hi2)
  · have x0 : x = 0 := Classical.byContradiction w
    obtain ⟨P1, F1⟩ := PO_d P (-1)
    refine k178_4 P.2.1 (k178_9 ?_) (c6 := P.1)
    refine loop (-1) b1 (by decide) ⟨by decide, fun i _ => ?_, fun i hi2 => absurd hi2 (by omega)⟩ 0 0 _ g (by decide) P1 F1 (fun j hj => absurd hj (by omega))
    rw [sc, x0, nF_0]
    have h1 : ∀ {R : Type} [Lean.Grind.CommRing R] (x : R), 0 * x = 0 := fun {R} _ x => by grind
    exact h1 _
theorem u_sameAs {f : zp_R} (hf : PF h p L f) {a La : Nat} {f2 : zp_R} (ha : PF h a La f2) : wm sw_P (D + 1) 177 [.index p, .index a] h (qr (vi (@ite _ (f = f2) (Classical.propDecidable _) 1 0)) h) := by
  obtain ⟨d, g, P, b, c, eL, lL⟩ := hf
  obtain ⟨d2, g2, P2, b2, c2, eL2, lL2⟩ := ha
  have b1 := b.1
  have b21 := b2.1
  refine wm_in (cd := sw_c177) (nL := 3) (hd := sw_h177) rfl rfl ?_
  have no : f ≠ f2 → qr (vi (@ite _ (f = f2) (Classical.propDecidable _) 1 0)) h (.inl (some (vi 0)), h, 0, 0) := fun q => by
    rw [if_neg q]
  refine k177_0 (z5 := d) (z11 := d2) P.2.1 P2.2.1 (fun w => k177_13 ?_) (fun w => k177_11 (no (fun e => w (dgp_one b (by rw [e]; exact b2))))) (c13 := by unfold In3; omega) (c14 := by unfold In3; omega)
  subst w
  have loop : ∀ (l i : Nat), (i : Int) + l = d + 1 → (∀ j, j < i → f.1 j = f2.1 j) → wr sw_P D sw_c177 sw_h177 (15, [.index p, .index a, vi (i : Int)], [], h, 0, 0) (qr (vi (@ite _ (f = f2) (Classical.propDecidable _) 1 0)) h) := by
    intro l
    induction l with
    | zero =>
      intro i hi2 E
      refine k177_15 (z5 := d) P.2.1 (fun _ => k177_46 ?_) (fun w => absurd (by omega) w) (c7 := by unfold In3; omega) (c8 := by unfold In3; omega)
      have : f = f2 := zp_ext (fun j => by
        by_cases q : j < i
        · exact E j q
        · rw [b.2.1 j (by omega), b2.2.1 j (by omega)])
      rw [if_pos this]
    | succ l ih =>
      intro i hi2 E
      have g1 : gi (mk L g) (i : Int) = cf f i := by rw [gi_mkn (by omega)]; exact c i (by omega)
      have g2' : gi (mk La g2) (i : Int) = cf f2 i := by rw [gi_mkn (by omega)]; exact c2 i (by omega)
      have cb := cf_b f i
      have cb2 := cf_b f2 i
      refine k177_15 (z5 := d) P.2.1 (fun w => absurd w (by omega)) (fun _ => ?_) (c7 := by unfold In3; omega) (c8 := by unfold In3; omega)
      refine k177_23 (a8 := mk L g) (a20 := mk La g2) P.2.1 P.2.2 P2.2.1 P2.2.2 (fun w => k177_40 ?_) (fun w => k177_38 (no (fun e => w (by rw [g1, g2', e])))) (c10 := by rw [mk_len]; omega) (c11 := by omega) (c12 := by unfold In3; omega) (c22 := by rw [mk_len]; omega) (c23 := by rw [g1]; unfold In3; omega) (c24 := by rw [g2']; unfold In3; omega)
      rw [g1, g2'] at w
      rw [show (i : Int) + 1 = ((i + 1 : Nat) : Int) by omega]
      refine ih (i + 1) (by omega) (fun j hj => ?_)
      by_cases q : j = i
      · rw [q]
        exact F_ext w
      · exact E j (by omega)
  exact loop (d + 1).toNat 0 (by omega) (fun j hj => absurd hj (Nat.not_lt_zero _))
end
