/-! the class: setSum, setProduct -/
theorem dgp_none {f : zp_R} (e : f = zp_C 0) {d : Int} (h : dgp f d) : d = -1 := dgp_one h (by rw [e]; exact dgp_C0)
theorem cf_0i {f : zp_R} {i : Nat} (h : f.1 i = 0) : cf f i = 0 := by
  unfold cf
  rw [h]
  rfl
/-- the numbers of a from i on still lie there -/
def rdP (h : s_H) (a La : Nat) (d : Int) (f : zp_R) (i : Nat) : Prop := ∃ g, PO h a La d g ∧ ∀ j : Nat, i ≤ j → (j : Int) ≤ d → g j = cf f j
theorem rdP_s {h : s_H} {a La : Nat} {d : Int} {f : zp_R} {i : Nat} (h1 : rdP h a La d f i) : rdP h a La d f (i + 1) := by
  obtain ⟨g, P, c⟩ := h1
  exact ⟨g, P, fun j hj => c j (by omega)⟩
theorem rdP_keep {S : List Nat} {h h' : s_H} {a La : Nat} {d : Int} {f : zp_R} {i : Nat} (h1 : rdP h a La d f i) (F : FU S h h') (s : ∀ p, p ∈ S → apt a p) : rdP h' a La d f i := by
  obtain ⟨g, P, c⟩ := h1
  exact ⟨g, PO_keep P F s, c⟩
section
variable {D : Nat} {h : s_H} {p L : Nat}
theorem u_coef0 {a La : Nat} {d : Int} {f : zp_R} {i : Nat} (R : rdP h a La d f i) (b : dgp f d) (dl : d < La) (la : La ≤ 1000) (hi2 : i ≤ 100000) : wm sw_P (D + 1) 167 [.index a, vi (i : Int)] h (qr (vi (cf f i)) h) := by
  obtain ⟨g, ⟨h0, h1, h2⟩, c⟩ := R
  have b1 := b.1
  refine wm_in (cd := sw_c167) (nL := 2) (hd := sw_h167) rfl rfl ?_
  refine k167_0 (fun w => absurd w (by omega)) (fun w => ?_) (c1 := by unfold In3; omega)
  by_cases i3 : (i : Int) ≤ d
  · refine k167_4 (z5 := d) h1 (fun w2 => k167_16 (a8 := mk La g) h1 h2 (k167_22 ?_) (c10 := by rw [mk_len]; omega) (c11 := by omega) (c12 := by unfold In3; omega)) (fun w2 => absurd i3 w2) (c7 := by unfold In3; omega) (c8 := by unfold In3; omega)
    rw [gi_mkn (by omega), c i (Nat.le_refl _) i3]
  · refine k167_4 (z5 := d) h1 (fun w2 => absurd w2 i3) (fun w2 => k167_12 (k167_22 ?_)) (c7 := by unfold In3; omega) (c8 := by unfold In3; omega)
    rw [cf_0i (b.2.1 i (by omega))]
/-- where a summand lies: in the sum itself, or apart -/
def smd (h : s_H) (p L : Nat) (d : Int) (g : Nat → Int) (a La : Nat) (d1 : Int) (f : zp_R) (i : Nat) : Prop := (a = p ∧ La = L ∧ d1 = d ∧ ∀ j : Nat, i ≤ j → (j : Int) ≤ d1 → g j = cf f j) ∨ (apt a p ∧ rdP h a La d1 f i)
theorem smd_rd {d : Int} {g : Nat → Int} {a La : Nat} {d1 : Int} {f : zp_R} {i : Nat} (P : PO h p L d g) (s : smd h p L d g a La d1 f i) : rdP h a La d1 f i := by
  rcases s with ⟨e1, e2, e3, w⟩ | ⟨_, w⟩
  · subst e1 e2 e3
    exact ⟨g, P, w⟩
  · exact w
theorem W_setSum {d : Int} {g : Nat → Int} (P : PO h p L d g) (lL : L ≤ 1000) {a b La Lb : Nat} {f1 f2 : zp_R} {d1 d2 : Int} (b1 : dgp f1 d1) (b2 : dgp f2 d2) (ea : d1 < La) (eb : d2 < Lb) (la : La ≤ 1000) (lb : Lb ≤ 1000) (sa : smd h p L d g a La d1 f1 0) (sb : smd h p L d g b Lb d2 f2 0) {x : Int} (hx : 0 ≤ x ∧ x ≤ 32003) (l1 : d1 < L) (l2 : d2 < L) : wm sw_P (D + 2) 184 [.index p, .index a, .index b, vi x] h (UN [p] h (fun h' => PF h' p L (zp_add f1 (zp_mul (zp_C (nF x)) f2)))) := by
  have n1 := b1.1
  have n2 := b2.1
  obtain ⟨r, er⟩ : ∃ r, zp_add f1 (zp_mul (zp_C (nF x)) f2) = r := ⟨_, rfl⟩
  rw [er]
  have rc : ∀ i, r.1 i = f1.1 i + nF x * f2.1 i := fun i => by
    rw [← er]
    show f1.1 i + (zp_mul (zp_C (nF x)) f2).1 i = _
    rw [zp_C_mul1]
  have rcf : ∀ i, cf r i = (cf f1 i + x * cf f2 i) % 32003 := fun i => by
    unfold cf
    rw [rc, F_add, F_mul, nF_v]
    have e : (x % 32003 * ((f2.1 i).val : Int)) % 32003 = (x * ((f2.1 i).val : Int)) % 32003 := by
      rw [Int.mul_emod, Int.emod_emod, ← Int.mul_emod]
    rw [e]
    omega
  refine wm_in (cd := sw_c184) (nL := 6) (hd := sw_h184) rfl rfl ?_
  have hlen : ((mk L g).map vi).length = L := by rw [List.length_map, mk_len]
  have loop : ∀ (m : Int), -1 ≤ m → d1 ≤ m → d2 ≤ m → m < L → ∀ (l i : Nat) (h' : s_H) (g' : Nat → Int), (i : Int) + l = m + 1 → PO h' p L d g' → FU [p] h h' → smd h' p L d g' a La d1 f1 i → smd h' p L d g' b Lb d2 f2 i → (∀ j, j < i → g' j = cf r j) → wr sw_P (D + 1) sw_c184 sw_h184 (46, [.index p, .index a, .index b, vi x, vi m, vi (i : Int)], [], h', 0, 0) (UN [p] h (fun h' => PF h' p L r)) := by
    intro m em m1 m2 ml l
    induction l with
    | zero =>
      intro i h' g' hi2 P' F' RA_ RB_ G
      refine k184_46 (fun _ => k184_85 P'.2.1 (wm_mono (wq_U (fun h2 H F => k184_91 ⟨h2, H, FU_trans F' F, rfl⟩)) (u_trim P' lL (x := m) ⟨em, ml⟩ (fun j hj => G j (by omega)) (fun j hj => ?_)))) (fun w => absurd (by omega) w) (c1 := by unfold In3; omega) (c2 := by unfold In3; omega)
      rw [rc, b1.2.1 j (by omega), b2.2.1 j (by omega), zp_0mul]
      exact (zp_h19 (0 : zp_F)).symm
    | succ l ih =>
      intro i h' g' hi2 P' F' RA_ RB_ G
      have A0 := smd_rd P' RA_
      have B0 := smd_rd P' RB_
      obtain ⟨ga', PA', cA⟩ := id A0
      obtain ⟨gb', PB', cB⟩ := id B0
      have cb1 := cf_b f1 i
      have cb2 := cf_b f2 i
      have mm : 0 ≤ x * cf f2 i ∧ x * cf f2 i ≤ 1024160007 := by
        refine ⟨Int.mul_nonneg hx.1 cb2.1, ?_⟩
        have := Int.mul_le_mul hx.2 (show cf f2 i ≤ 32002 by omega) cb2.1 (by decide)
        omega
      refine k184_46 (fun w => absurd w (by omega)) (fun _ => ?_) (c1 := by unfold In3; omega) (c2 := by unfold In3; omega)
      refine k184_53 P'.2.1 PA'.2.1 (wm_mono (wq_r ?_) (u_coef0 A0 b1 ea la (by omega)))
      refine k184_65 PB'.2.1 (wm_mono (wq_r ?_) (u_coef0 B0 b2 eb lb (by omega)))
      obtain ⟨P2, F2⟩ := PO_g P' (fun t => if t = i then cf r i else g' t)
      refine k184_72 (a3 := mk L g') P'.2.2 ?_ (c1 := by unfold In3; omega) (c5 := by rw [mk_len]; omega) (c6 := by omega) (c7 := by unfold In3; omega)
      have e3 : Int.tmod (cf f1 i + x * cf f2 i) 32003 = cf r i := by rw [Int.tmod_eq_emod_of_nonneg (by omega), rcf]
      rw [e3, mk_set]
      have rd : ∀ {y Ly : Nat} {dy : Int} {fy : zp_R}, smd h' p L d g' y Ly dy fy i → smd (hp h' (p + 1) (ai L (fun t => if t = i then cf r i else g' t))) p L d (fun t => if t = i then cf r i else g' t) y Ly dy fy (i + 1) := fun {y Ly dy fy} hy => by
        rcases hy with ⟨e1, e2, e3, w⟩ | ⟨e, w⟩
        · refine .inl ⟨e1, e2, e3, fun j h1 h2 => ?_⟩
          show (if j = i then cf r i else g' j) = _
          rw [if_neg (by omega)]
          exact w j (by omega) h2
        · exact .inr ⟨e, rdP_keep (rdP_s w) F2 (fun q hq => by rw [List.mem_singleton.mp hq]; exact e)⟩
      refine ih (i + 1) _ _ (by omega) P2 (FU_trans F' F2) (rd RA_) (rd RB_) (fun j hj => ?_)
      show (if j = i then cf r i else g' j) = _
      by_cases q : j = i
      · rw [if_pos q, q]
      · rw [if_neg q]
        exact G j (by omega)
  have at22 : ∀ m : Int, -1 ≤ m → d1 ≤ m → d2 ≤ m → m < L → wr sw_P (D + 1) sw_c184 sw_h184 (22, [.index p, .index a, .index b, vi x, .result, .result], [vi m], h, 0, 0) (UN [p] h (fun h' => PF h' p L r)) := fun m em m1 m2 ml => by
    exact k184_22 (a8 := (mk L g).map vi) (tg10 := 0) P.2.1 P.2.2 (fun _ => k184_43 (loop m em m1 m2 ml (m + 1).toNat 0 h g (by omega) P (FU_refl _ _) sa sb (fun j hj => absurd hj (Nat.not_lt_zero _)))) (fun w => absurd (by rw [hlen]; omega) w) (c11 := by unfold In3; omega) (c12 := by rw [hlen]; unfold In3; omega)
  obtain ⟨ga, PA, _⟩ := smd_rd P sa
  obtain ⟨gb, PB, _⟩ := smd_rd P sb
  refine k184_0 (z5 := d1) (z11 := d2) PA.2.1 PB.2.1 (fun w => ?_) (fun w => ?_) (c13 := by unfold In3; omega) (c14 := by unfold In3; omega)
  · exact k184_18 (z5 := d2) PB.2.1 (at22 d2 n2 w (Int.le_refl _) l2)
  · exact k184_11 (z5 := d1) PA.2.1 (at22 d1 n1 (Int.le_refl _) (by omega) l1)
/-- p becomes a + x b: all apart -/
theorem u_setSum (hE : PE h p L) {a b La Lb : Nat} {f1 f2 : zp_R} (ha : PF h a La f1) (hb : PF h b Lb f2) (ap : apt a p) (bp : apt b p) {x : Int} (hx : 0 ≤ x ∧ x ≤ 32003) (l1 : ∀ e, dgp f1 e → e < L) (l2 : ∀ e, dgp f2 e → e < L) : wm sw_P (D + 2) 184 [.index p, .index a, .index b, vi x] h (UN [p] h (fun h' => PF h' p L (zp_add f1 (zp_mul (zp_C (nF x)) f2)))) := by
  obtain ⟨⟨d, g, P, _, _⟩, lL⟩ := hE
  obtain ⟨d1, ga, PA, b1, c1, ea, la⟩ := ha
  obtain ⟨d2, gb, PB, b2, c2, eb, lb⟩ := hb
  exact W_setSum P lL b1 b2 ea eb la lb (.inr ⟨ap, ga, PA, fun j _ hj => c1 j hj⟩) (.inr ⟨bp, gb, PB, fun j _ hj => c2 j hj⟩) hx (l1 d1 b1) (l2 d2 b2)
/-- p becomes p + x b -/
theorem u_setSum1 {b Lb : Nat} {f1 f2 : zp_R} (ha : PF h p L f1) (hb : PF h b Lb f2) (bp : apt b p) {x : Int} (hx : 0 ≤ x ∧ x ≤ 32003) (l2 : ∀ e, dgp f2 e → e < L) : wm sw_P (D + 2) 184 [.index p, .index p, .index b, vi x] h (UN [p] h (fun h' => PF h' p L (zp_add f1 (zp_mul (zp_C (nF x)) f2)))) := by
  obtain ⟨d1, ga, PA, b1, c1, ea, la⟩ := ha
  obtain ⟨d2, gb, PB, b2, c2, eb, lb⟩ := hb
  exact W_setSum PA la b1 b2 ea eb la lb (.inl ⟨rfl, rfl, rfl, fun j _ hj => c1 j hj⟩) (.inr ⟨bp, gb, PB, fun j _ hj => c2 j hj⟩) hx ea (l2 d2 b2)
/-- p becomes a + x p -/
theorem u_setSum2 {a La : Nat} {f1 f2 : zp_R} (ha : PF h a La f1) (hb : PF h p L f2) (ap : apt a p) {x : Int} (hx : 0 ≤ x ∧ x ≤ 32003) (l1 : ∀ e, dgp f1 e → e < L) : wm sw_P (D + 2) 184 [.index p, .index a, .index p, vi x] h (UN [p] h (fun h' => PF h' p L (zp_add f1 (zp_mul (zp_C (nF x)) f2)))) := by
  obtain ⟨d1, ga, PA, b1, c1, ea, la⟩ := ha
  obtain ⟨d2, gb, PB, b2, c2, eb, lb⟩ := hb
  exact W_setSum PB lb b1 b2 ea eb la lb (.inr ⟨ap, ga, PA, fun j _ hj => c1 j hj⟩) (.inl ⟨rfl, rfl, rfl, fun j _ hj => c2 j hj⟩) hx (l1 d1 b1) eb
end
