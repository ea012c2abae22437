/-! the class: makeMonic, valueAt, makeSlope, setSum -/
section
variable {D : Nat} {h : s_H} {p L : Nat}
theorem u_makeMonic {f : zp_R} (hf : PF h p L f) {e : Int} (he : dgp f e) : wm sw_P (D + 2) 173 [.index p] h (UN [p] h (fun h' => PF h' p L (if 0 ≤ e then zp_mul (zp_C (f.1 e.toNat ^ 32001)) f else f))) := by
  have hf' := hf
  obtain ⟨d, g, P, b, c, eL, lL⟩ := hf
  have b1 := b.1
  have ed := dgp_one he b
  subst ed
  refine wm_in (cd := sw_c173) (nL := 1) (hd := sw_h173) rfl rfl ?_
  refine k173_0 (z5 := e) P.2.1 (fun w => k173_36 ?_) (fun w => ?_) (c7 := by unfold In3; omega)
  · rw [if_neg (by omega)]
    exact ⟨h, hf', FU_refl _ _, rfl⟩
  rw [if_pos (by omega)]
  have gk : gi (mk L g) e = cf f e.toNat := by rw [gi_mk (by omega) (by omega)]; exact c _ (by omega)
  have cb := cf_b f e.toNat
  refine k173_7 (z7 := e) (a10 := mk L g) P.2.1 P.2.2 (fun w2 => k173_36 ?_) (fun w2 => ?_) (c12 := by rw [mk_len]; omega) (c13 := by omega) (c14 := by unfold In3; omega) (c15 := by rw [gk]; unfold In3; omega)
  · rw [gk] at w2
    have e1 : f.1 e.toNat = 1 := F_ext (by
      show cf f e.toNat = 1
      exact w2)
    have : zp_mul (zp_C (f.1 e.toNat ^ 32001)) f = f := zp_ext (fun i => by
      rw [zp_C_mul1, e1]
      have o : (1 : zp_F) ^ 32001 = 1 := zp_one_pow 32001
      rw [o]
      have h1 : ∀ {R : Type} [Lean.Grind.CommRing R] (x : R), 1 * x = x := fun {R} _ x => by grind
      exact h1 _)
    rw [this]
    exact ⟨h, hf', FU_refl _ _, rfl⟩
  · refine k173_20 (z7 := e) (a10 := mk L g) P.2.1 P.2.2 (wm_mono (wq_r ?_) (by
      rw [gk]
      exact u_inverseOf (D := D) (v := (f.1 e.toNat).val) (f.1 e.toNat).isLt)) (c12 := by rw [mk_len]; omega) (c13 := by omega) (c14 := by unfold In3; omega)
    have en : nF ((f.1 e.toNat).val : Int) = f.1 e.toNat := nF_val _
    rw [en]
    have vlt := (f.1 e.toNat ^ 32001 : zp_F).isLt
    refine k173_33 P.2.1 (wm_mono (wq_U (fun h' H F => k173_36 ⟨h', ?_, F, rfl⟩)) (u_scale hf' (x := ((f.1 e.toNat ^ 32001 : zp_F).val : Int)) (by omega)))
    rw [nF_val] at H
    exact H
theorem u_valueAt {f : zp_R} (hf : PF h p L f) {x : Int} (hx : 0 ≤ x ∧ x < 32003) : wm sw_P (D + 1) 187 [.index p, vi x] h (qr (vi ((zp_ev (nF x) f).val : Int)) h) := by
  obtain ⟨d, g, P, b, c, eL, lL⟩ := hf
  have b1 := b.1
  refine wm_in (cd := sw_c187) (nL := 4) (hd := sw_h187) rfl rfl ?_
  obtain ⟨n, hn⟩ : ∃ n : Nat, (n : Int) = d + 1 := ⟨(d + 1).toNat, by omega⟩
  have e0 : zp_ev (nF x) f = horu f (nF x) n n := by
    rw [zp_ev_eq (nF x) (N := n) (fun i hi2 => b.2.1 i (by omega)), horu_s f (nF x) n n (Nat.le_refl _), Nat.sub_self, zp_pow_zero]
    show (0 : zp_F) + 1 * horu f (nF x) n n = _
    generalize horu f (nF x) n n = y
    grind
  have loop : ∀ (k m : Nat), m + k = n → wr sw_P D sw_c187 sw_h187 (7, [.index p, vi x, vi ((horu f (nF x) n m).val : Int), vi ((k : Int) - 1)], [], h, 0, 0) (qr (vi ((zp_ev (nF x) f).val : Int)) h) := by
    intro k
    induction k with
    | zero =>
      intro m hm
      refine k187_7 (fun q => k187_32 ?_) (fun q => absurd q (by omega)) (c1 := by decide)
      rw [e0, show m = n by omega]
    | succ k ih =>
      intro m hm
      rw [show ((k + 1 : Nat) : Int) - 1 = k by omega]
      have gk : gi (mk L g) (k : Int) = cf f k := by rw [gi_mkn (by omega)]; exact c k (by omega)
      have cb := cf_b f k
      have b2 := (horu f (nF x) n m).isLt
      have b3 := mm_le (x := ((horu f (nF x) n m).val : Int)) (y := x) ⟨by omega, by omega⟩ hx
      refine k187_7 (fun q => absurd q (by omega)) (fun q => ?_) (c1 := by unfold In3; omega)
      refine k187_11 (a8 := mk L g) P.2.1 P.2.2 ?_ (c10 := by rw [mk_len]; omega) (c11 := by omega) (c12 := by unfold In3; omega) (c13 := by rw [gk]; unfold In3; omega)
      have e2 : ((horu f (nF x) n (m + 1)).val : Int) = Int.tmod (((horu f (nF x) n m).val : Int) * x + cf f k) 32003 := by
        rw [Int.tmod_eq_emod_of_nonneg (by omega), horu, F_add, F_mul, nF_is hx, show n - (m + 1) = k by omega]
        show (_ % 32003 + cf f k) % 32003 = _
        omega
      rw [gk, ← e2, show (k : Int) + (-1) = (k : Int) - 1 by omega]
      exact ih (m + 1) (by omega)
  refine k187_0 (z5 := d) P.2.1 ?_
  have := loop n 0 (Nat.zero_add n)
  rw [show (n : Int) - 1 = d by omega] at this
  exact this
theorem u_makeSlope {f : zp_R} (hf : PF h p L f) {e : Int} (he : dgp f e) (e0 : 0 ≤ e) (e99 : e ≤ 1000) : wm sw_P (D + 2) 174 [.index p] h (UN [p] h (fun h' => PF h' p L (zp_D f))) := by
  obtain ⟨d, g, P, b, c, eL, lL⟩ := hf
  have ed := dgp_one he b
  subst ed
  refine wm_in (cd := sw_c174) (nL := 2) (hd := sw_h174) rfl rfl ?_
  have loop : ∀ (l i : Nat) (h' : s_H) (g' : Nat → Int), 1 ≤ i → (i : Int) + l = e + 1 → PO h' p L e g' → FU [p] h h' → (∀ j, j + 1 < i → g' j = cf (zp_D f) j) → (∀ j : Nat, i ≤ j → (j : Int) ≤ e → g' j = cf f j) → wr sw_P (D + 1) sw_c174 sw_h174 (2, [.index p, vi (i : Int)], [], h', 0, 0) (UN [p] h (fun h' => PF h' p L (zp_D f))) := by
    intro l
    induction l with
    | zero =>
      intro i h' g' i1 hi2 P' F' G G2
      refine k174_2 (z5 := e) P'.2.1 (fun _ => k174_36 (z5 := e) P'.2.1 (wm_mono (wq_U (fun h2 H F => k174_46 ⟨h2, H, FU_trans F' F, rfl⟩)) (u_trim P' lL (x := e - 1) (by omega) (fun j hj => G j (by omega)) (fun j hj => ?_)))) (fun w => absurd (by omega) w) (c7 := by unfold In3; omega) (c8 := by unfold In3; omega)
      show zp_nat (j + 1) * f.1 (j + 1) = 0
      rw [b.2.1 (j + 1) (by omega)]
      exact zp_h15 _
    | succ l ih =>
      intro i h' g' i1 hi2 P' F' G G2
      have gk : gi (mk L g') (i : Int) = cf f i := by rw [gi_mkn (by omega)]; exact G2 i (Nat.le_refl _) (by omega)
      have cb := cf_b f i
      have mm := mm_le cb (y := (i : Int)) (by omega)
      refine k174_2 (z5 := e) P'.2.1 (fun w => absurd w (by omega)) (fun _ => ?_) (c7 := by unfold In3; omega) (c8 := by unfold In3; omega)
      obtain ⟨j, ej⟩ : ∃ j, i = j + 1 := ⟨i - 1, by omega⟩
      subst ej
      obtain ⟨P2, F2⟩ := PO_g P' (fun t => if t = j then cf (zp_D f) j else g' t)
      refine k174_10 (a8 := mk L g') P'.2.1 P'.2.2 ?_ (c10 := by rw [mk_len]; omega) (c11 := by omega) (c12 := by unfold In3; omega) (c13 := by rw [gk]; unfold In3; omega) (c14 := by rw [mk_len]; omega) (c15 := by omega) (c16 := by unfold In3; omega)
      have e1 : Int.tmod (cf f (j + 1) * ((j + 1 : Nat) : Int)) 32003 = cf (zp_D f) j := by
        rw [Int.tmod_eq_emod_of_nonneg mm.1]
        have : (zp_D f).1 j = nF (((j + 1 : Nat)) : Int) * f.1 (j + 1) := by
          show zp_nat (j + 1) * f.1 (j + 1) = _
          rw [nF_nat]
        unfold cf
        rw [this, F_mul, nF_v, show (((j + 1 : Nat)) : Int) % 32003 = ((j + 1 : Nat) : Int) by omega, Int.mul_comm]
      rw [gk, e1, mk_set, show (((j + 1 : Nat) : Int) - 1).toNat = j by omega]
      refine ih (j + 1 + 1) _ _ (by omega) (by omega) P2 (FU_trans F' F2) (fun k hk => ?_) (fun k h1 h2 => ?_)
      · show (if k = j then cf (zp_D f) j else g' k) = _
        by_cases q : k = j
        · rw [if_pos q, q]
        · rw [if_neg q]
          exact G k (by omega)
      · show (if k = j then cf (zp_D f) j else g' k) = _
        rw [if_neg (by omega)]
        exact G2 k (by omega) h2
  exact k174_0 (loop e.toNat 1 h g (Nat.le_refl _) (by omega) P (FU_refl _ _) (fun j hj => absurd hj (by omega)) (fun j _ hj => c j hj))
end
