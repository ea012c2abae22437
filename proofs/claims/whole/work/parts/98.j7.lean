/-! the class: floorMod, shift, setPower, setRow -/
theorem zi_in (o : Nat) (x y : Int) : In3 (zi o x y) := by
  have a : ∀ v : Int32, In3 v.toInt := fun v => by
    have h1 := Int32.le_toInt v
    have h2 := Int32.toInt_lt v
    unfold In3
    omega
  unfold zi
  exact a _
theorem zi_xs {x : Int} (hx : In3 x) : 0 ≤ zi 26 x 32003 ↔ 0 ≤ x := by
  have e : ∀ v : BitVec 32, v.msb = decide (v.toInt < 0) := fun v => BitVec.msb_eq_toInt
  have m := BitVec.msb_xor (x := (Int32.ofInt x).toBitVec) (y := (Int32.ofInt 32003).toBitVec)
  have k : (Int32.ofInt 32003).toBitVec.msb = false := by decide
  rw [k, Bool.xor_false, e, e] at m
  have z : zi 26 x 32003 = ((Int32.ofInt x).toBitVec ^^^ (Int32.ofInt 32003).toBitVec).toInt := rfl
  have w : (Int32.ofInt x).toBitVec.toInt = x := vi_int hx
  rw [← z, w] at m
  have := decide_eq_decide.mp m
  omega
section
variable {D : Nat} {h : s_H} {p L : Nat}
theorem u_floorMod {x : Int} (hx : In3 x) : wm sw_P (D + 1) 623 [vi x, vi 32003] h (qr (vi ((nF x).val : Int)) h) := by
  refine wm_in (cd := sw_c623) (nL := 3) (hd := sw_h623) rfl rfl ?_
  have ng : ¬ 0 ≤ x → Int.tmod x 32003 = -((-x) % 32003) := fun w => by
    have : x = -(-x) := by omega
    rw [this, Int.neg_tmod, Int.tmod_eq_emod_of_nonneg (by omega), Int.neg_neg]
  refine k623_0 (fun w => k623_18 ?_) (fun w => k623_10 (fun z => k623_18 ?_) (fun z => k623_14 ?_) (c1 := ?_)) (c1 := by decide) (c2 := hx) (c3 := by decide) (c4 := zi_in _ _ _)
  · rw [Int.tmod_eq_emod_of_nonneg ((zi_xs hx).mp w), ← nF_v]
  · have nx : ¬ 0 ≤ x := fun q => w ((zi_xs hx).mpr q)
    have e := ng nx
    rw [z]
    rw [z] at e
    have : ((nF x).val : Int) = 0 := by rw [nF_v]; omega
    rw [this]
  · have nx : ¬ 0 ≤ x := fun q => w ((zi_xs hx).mpr q)
    have e := ng nx
    have : Int.tmod x 32003 + 32003 = ((nF x).val : Int) := by rw [nF_v]; omega
    rw [this]
  · have nx : ¬ 0 ≤ x := fun q => w ((zi_xs hx).mpr q)
    have e := ng nx
    rw [e]
    unfold In3
    omega
/-- p becomes p with x + z put in for x -/
theorem u_shift {f : zp_R} (hf : PF h p L f) (df : zp_deg f 176) {z : Int} (hz : In3 z) : wm sw_P (D + 2) 185 [.index p, vi z] h (UN [p] h (fun h' => PF h' p L (mvf f (nF z)))) := by
  obtain ⟨d, g, P, b, c, eL, lL⟩ := hf
  have d1 := b.1
  refine wm_in (cd := sw_c185) (nL := 5) (hd := sw_h185) rfl rfl ?_
  refine k185_0 (wm_mono (wq_r ?_) (u_floorMod hz))
  refine k185_7 ?_
  obtain ⟨w, ew⟩ : ∃ w, nF z = w := ⟨_, rfl⟩
  rw [ew]
  have bw := w.isLt
  by_cases n0 : d < 0
  · have f0 := dgp_0 b n0
    have e : f = mvf f w := mvf_is df df (fun a => by rw [f0, zp_ev_C, zp_ev_C])
    rw [← e]
    exact k185_10 (z5 := d) P.2.1 (fun _ => k185_74 ⟨h, ⟨d, g, P, b, c, eL, lL⟩, FU_refl _ _, rfl⟩) (fun q => absurd (by omega) q) (c7 := by decide) (c8 := by unfold In3; omega)
  · obtain ⟨n, en⟩ : ∃ n : Nat, d = n := ⟨d.toNat, by omega⟩
    subst en
    have dn : zp_deg f (n + 1) := dgp_deg b (by omega)
    have n176 : n < 176 := Nat.lt_of_not_le (fun q => b.2.2 n rfl (df n q))
    have outer : ∀ (l i : Nat) (R : zp_R) (h' : s_H) (g' : Nat → Int) (t4 : Term), i + l = n → PO h' p L n g' → FU [p] h h' → (∀ j : Nat, j ≤ n → g' j = cf R j) → R.1 n = f.1 n → mvI f R w n i → wr sw_P (D + 1) sw_c185 sw_h185 (10, [.index p, vi z, vi (w.val : Int), vi (i : Int), t4], [], h', 0, 0) (UN [p] h (fun h' => PF h' p L (mvf f w))) := by
      intro l
      induction l with
      | zero =>
        intro i R h' g' t4 hi2 P' F' G top a
        have i_n : i = n := by omega
        subst i_n
        have e : R = mvf f w := mvf_is df (deg_le a.1 (by omega)) (mvI_e a)
        rw [← e]
        refine k185_10 (z5 := (i : Int)) P'.2.1 (fun _ => k185_74 ⟨h', ⟨(i : Int), g', P', ⟨by omega, fun j hj => a.1 j (by omega), fun j hj => ?_⟩, fun j hj => G j (by omega), eL, lL⟩, F', rfl⟩) (fun q => absurd (Int.le_refl _) q) (c7 := by unfold In3; omega) (c8 := by unfold In3; omega)
        have : j = i := by omega
        subst this
        rw [top]
        exact b.2.2 j rfl
      | succ l ih =>
        intro i R h' g' t4 hi2 P' F' G top a
        refine k185_10 (z5 := (n : Int)) P'.2.1 (fun q => absurd q (by omega)) (fun _ => k185_18 (z5 := (n : Int)) P'.2.1 ?_) (c7 := by unfold In3; omega) (c8 := by unfold In3; omega)
        rw [show (n : Int) - 1 = ((n - i : Nat) : Int) + i - 1 by omega]
        have inner : ∀ (m : Nat) (Q : zp_R) (h2 : s_H) (g2 : Nat → Int), m + i ≤ n → PO h2 p L n g2 → FU [p] h h2 → (∀ j : Nat, j ≤ n → g2 j = cf Q j) → zp_deg Q (n + 1) → (∀ k, k < m + i → Q.1 k = R.1 k) → (∀ k, m + i ≤ k → k < n → R.1 k = Q.1 k - w * Q.1 (k + 1)) → R.1 n = Q.1 n → wr sw_P (D + 1) sw_c185 sw_h185 (26, [.index p, vi z, vi (w.val : Int), vi (i : Int), vi ((m : Int) + i - 1)], [], h2, 0, 0) (UN [p] h (fun h' => PF h' p L (mvf f w))) := by
          intro m
          induction m with
          | zero =>
            intro Q h2 g2 hm P2 F2 G2 dQ q1 q2 q3
            refine k185_26 (fun _ => k185_68 ?_) (fun q => absurd (by omega) q) (c1 := by unfold In3; omega) (c2 := by unfold In3; omega)
            exact ih (i + 1) Q h2 g2 _ (by omega) P2 F2 G2 (q3 ▸ top) (mvI_s (by omega) a dQ (fun k hk => q1 k (by omega)) (fun k h1 h2 => q2 k (by omega) h2) q3)
          | succ m ih2 =>
            intro Q h2 g2 hm P2 F2 G2 dQ q1 q2 q3
            have ek : ((m + 1 : Nat) : Int) + i - 1 = ((m + i : Nat) : Int) := by omega
            rw [ek]
            have g3 : gi (mk L g2) ((m + i : Nat) : Int) = ((Q.1 (m + i)).val : Int) := by rw [gi_mkn (by omega)]; exact G2 _ (by omega)
            have g4 : gi (mk L g2) (((m + i : Nat) : Int) + 1) = ((Q.1 (m + i + 1)).val : Int) := by
              rw [show ((m + i : Nat) : Int) + 1 = ((m + i + 1 : Nat) : Int) by omega, gi_mkn (by omega)]
              exact G2 _ (by omega)
            have v1 := (Q.1 (m + i)).isLt
            have v2 := (Q.1 (m + i + 1)).isLt
            have mm := mm_le (x := (w.val : Int)) (y := ((Q.1 (m + i + 1)).val : Int)) ⟨by omega, by omega⟩ ⟨by omega, by omega⟩
            obtain ⟨P3, F3⟩ := PO_g P2 (fun t => if t = m + i then ((Q.1 (m + i) + w * Q.1 (m + i + 1) : zp_F).val : Int) else g2 t)
            refine k185_26 (fun q => absurd q (by omega)) (fun _ => ?_) (c1 := by unfold In3; omega) (c2 := by unfold In3; omega)
            refine k185_32 (a8 := mk L g2) P2.2.1 P2.2.2 ?_ (c10 := by rw [mk_len]; omega) (c11 := by omega) (c12 := by unfold In3; omega) (c13 := by rw [mk_len]; omega) (c14 := by omega) (c15 := by unfold In3; omega) (c16 := by rw [g3, g4]; unfold In3; omega)
            rw [g3, g4, tm_ab, mk_set, show ((m + i : Nat) : Int) + (-1) = (m : Int) + i - 1 by omega]
            refine ih2 (pst Q (m + i) (Q.1 (m + i) + w * Q.1 (m + i + 1))) _ _ (by omega) P3 (FU_trans F2 F3) (fun j hj => ?_) (pst_deg _ dQ (by omega)) (fun k hk => ?_) (fun k h1 h2 => ?_) ?_
            · show (if j = m + i then _ else g2 j) = (((pst Q (m + i) (Q.1 (m + i) + w * Q.1 (m + i + 1))).1 j).val : Int)
              by_cases q : j = m + i
              · rw [if_pos q, q, pst_at]
              · rw [if_neg q, pst_ne _ _ q]
                exact G2 j hj
            · rw [pst_ne _ _ (by omega)]; exact q1 k (by omega)
            · by_cases q : k = m + i
              · subst q
                rw [pst_at, pst_ne _ _ (by omega), ← q1 (m + i) (by omega)]
                exact @us_h zp_F _ _ _
              · rw [pst_ne _ _ q, pst_ne _ _ (by omega)]
                exact q2 k (by omega) h2
            · rw [pst_ne _ _ (by omega)]; exact q3
        exact inner (n - i) R h' g' (by omega) P' F' G a.1 (fun _ _ => rfl) (fun k h1 h2 => absurd h1 (by omega)) rfl
    exact outer n 0 f h g .result (Nat.zero_add n) P (FU_refl _ _) (fun j hj => c j (by omega)) rfl (mvI_0 dn)
where us_h : ∀ {R : Type} [Lean.Grind.CommRing R] (a b : R), a = a + b - b := by intro R _ a b; grind
theorem dgp_X (n : Nat) : dgp (zp_X n) n := ⟨by omega, fun i hi2 => by
  show (if i = n then (1 : zp_F) else 0) = 0
  rw [if_neg (by omega)], fun i hi2 => by
  show (if i = n then (1 : zp_F) else 0) ≠ 0
  rw [if_pos (by omega)]
  decide⟩
theorem u_setPower (hE : PE h p L) {n : Nat} (nL : n < L) : wm sw_P (D + 1) 181 [.index p, vi (n : Int)] h (UN [p] h (fun h' => PF h' p L (zp_X n))) := by
  obtain ⟨⟨d, g, P, _, _⟩, lL⟩ := hE
  refine wm_in (cd := sw_c181) (nL := 4) (hd := sw_h181) rfl rfl ?_
  have hlen : ((mk L g).map vi).length = L := by rw [List.length_map, mk_len]
  refine k181_0 (a8 := (mk L g).map vi) (tg10 := 0) P.2.1 P.2.2 (fun w => absurd w (by rw [hlen]; omega)) (fun _ => k181_9 (k181_20 ?_)) (c11 := by unfold In3; omega) (c12 := by rw [hlen]; unfold In3; omega)
  have cx : ∀ i, cf (zp_X n) i = if i = n then 1 else 0 := fun i => by
    show (((if i = n then (1 : zp_F) else 0) : zp_F).val : Int) = _
    split <;> rfl
  have loop : ∀ (l i : Nat) (h' : s_H) (g' : Nat → Int), i + l = n → PO h' p L d g' → FU [p] h h' → (∀ j, j < i → g' j = 0) → wr sw_P D sw_c181 sw_h181 (23, [.index p, vi (n : Int), vi (n : Int), vi (i : Int)], [], h', 0, 0) (UN [p] h (fun h' => PF h' p L (zp_X n))) := by
    intro l
    induction l with
    | zero =>
      intro i h' g' hi2 P' F' G
      have e : i = n := by omega
      subst e
      obtain ⟨P2, F2⟩ := PO_g P' (fun t => if t = i then 1 else g' t)
      obtain ⟨P3, F3⟩ := PO_d P2 (i : Int)
      refine k181_23 (fun _ => ?_) (fun q => absurd (Int.le_refl _) q) (c1 := by unfold In3; omega) (c2 := by unfold In3; omega)
      refine k181_41 (fun q => absurd q (by omega)) (fun _ => ?_) (c1 := by unfold In3; omega)
      refine k181_45 (a8 := mk L g') P'.2.1 P'.2.2 ?_ (c10 := by rw [mk_len]; omega) (c11 := by omega) (c12 := by unfold In3; omega)
      rw [mk_set]
      refine k181_52 P2.2.1 ⟨_, ⟨(i : Int), _, P3, dgp_X i, fun j hj => ?_, by omega, lL⟩, FU_trans F' (FU_trans F2 F3), rfl⟩ (c6 := P2.1)
      rw [cx]
      show (if j = i then 1 else g' j) = _
      by_cases q : j = i
      · rw [if_pos q, if_pos q]
      · rw [if_neg q, if_neg q]
        exact G j (by omega)
    | succ l ih =>
      intro i h' g' hi2 P' F' G
      obtain ⟨P2, F2⟩ := PO_g P' (fun t => if t = i then 0 else g' t)
      refine k181_23 (fun q => absurd q (by omega)) (fun _ => ?_) (c1 := by unfold In3; omega) (c2 := by unfold In3; omega)
      refine k181_28 (a8 := mk L g') P'.2.1 P'.2.2 ?_ (c10 := by rw [mk_len]; omega) (c11 := by omega) (c12 := by unfold In3; omega)
      rw [mk_set]
      refine ih (i + 1) _ _ (by omega) P2 (FU_trans F' F2) (fun j hj => ?_)
      show (if j = i then 0 else g' j) = 0
      by_cases q : j = i
      · rw [if_pos q]
      · rw [if_neg q]
        exact G j (by omega)
  exact loop n 0 h g (Nat.zero_add n) P (FU_refl _ _) (fun j hj => absurd hj (Nat.not_lt_zero _))
/-- p becomes the polynomial of n numbers of the row at r from x on; behind the row's end lie noughts -/
theorem u_setRow (hE : PE h p L) {r R : Nat} {v : Nat → Int} (gr0 : s_get h r = some (ai R v)) (r1 : r ≠ p ∧ r ≠ p + 1) (R1 : R ≤ 100000) {x n : Nat} (x1 : x ≤ 100000) (nL : n ≤ L) {f : zp_R} (G : ∀ i, i < n → cf f i = if x + i < R then v (x + i) else 0) (df : zp_deg f n) : wm sw_P (D + 2) 183 [.index p, .index r, vi (x : Int), vi (n : Int)] h (UN [p] h (fun h' => PF h' p L f)) := by
  obtain ⟨⟨d, g, P, _, _⟩, lL⟩ := hE
  refine wm_in (cd := sw_c183) (nL := 6) (hd := sw_h183) rfl rfl ?_
  have hlen : ((mk L g).map vi).length = L := by rw [List.length_map, mk_len]
  have rlen : ((mk R v).map vi).length = R := by rw [List.length_map, mk_len]
  have loop : ∀ (l i : Nat) (h' : s_H) (g' : Nat → Int), i + l = n → PO h' p L d g' → FU [p] h h' → (∀ j, j < i → g' j = cf f j) → wr sw_P (D + 1) sw_c183 sw_h183 (23, [.index p, .index r, vi (x : Int), vi (n : Int), vi (n : Int), vi (i : Int)], [], h', 0, 0) (UN [p] h (fun h' => PF h' p L f)) := by
    intro l
    induction l with
    | zero =>
      intro i h' g' hi2 P' F' C
      refine k183_23 (fun _ => k183_62 P'.2.1 (wm_mono (wq_U (fun h2 H F => k183_70 ⟨h2, H, FU_trans F' F, rfl⟩)) (u_trim P' lL (x := (n : Int) - 1) (by omega) (fun j hj => C j (by omega)) (fun j hj => df j (by omega))))) (fun q => absurd (by omega) q) (c1 := by unfold In3; omega) (c2 := by unfold In3; omega)
    | succ l ih =>
      intro i h' g' hi2 P' F' C
      have gr : s_get h' r = some (ai R v) := (F'.2 r (fun q hq => by rw [List.mem_singleton.mp hq]; exact r1)).trans gr0
      obtain ⟨P2, F2⟩ := PO_g P' (fun t => if t = i then cf f i else g' t)
      have next : wr sw_P (D + 1) sw_c183 sw_h183 (55, [.index p, .index r, vi (x : Int), vi (n : Int), vi (n : Int), vi (i : Int)], [vi (cf f i), vi (i : Int), .index (p + 1)], h', 0, 0) (UN [p] h (fun h' => PF h' p L f)) := by
        refine k183_55 (a2 := mk L g') P'.2.2 ?_ (c4 := by rw [mk_len]; omega) (c5 := by omega) (c6 := by unfold In3; omega)
        rw [mk_set]
        refine ih (i + 1) _ _ (by omega) P2 (FU_trans F' F2) (fun j hj => ?_)
        show (if j = i then cf f i else g' j) = _
        by_cases q : j = i
        · rw [if_pos q, q]
        · rw [if_neg q]
          exact C j (by omega)
      have Gi := G i (by omega)
      refine k183_23 (fun q => absurd q (by omega)) (fun _ => ?_) (c1 := by unfold In3; omega) (c2 := by unfold In3; omega)
      refine k183_30 (a9 := (mk R v).map vi) (tg11 := 0) P'.2.1 gr (fun w => k183_54 ?_) (fun w => k183_45 (a3 := mk R v) gr ?_ (c5 := ?_) (c6 := by omega) (c7 := by unfold In3; omega)) (c12 := by unfold In3; omega) (c13 := by rw [rlen]; unfold In3; omega)
      · rw [rlen] at w
        rw [if_neg (by omega)] at Gi
        rw [← Gi]
        exact next
      · rw [rlen] at w
        rw [if_pos (by omega)] at Gi
        rw [show (x : Int) + (i : Int) = ((x + i : Nat) : Int) by omega, gi_mkn (by omega), ← Gi]
        exact next
      · rw [rlen] at w
        rw [mk_len]
        omega
  have start : wr sw_P (D + 1) sw_c183 sw_h183 (18, [.index p, .index r, vi (x : Int), vi (n : Int), .result, .result], [vi (n : Int)], h, 0, 0) (UN [p] h (fun h' => PF h' p L f)) := k183_18 (loop n 0 h g (Nat.zero_add n) P (FU_refl _ _) (fun j hj => absurd hj (Nat.not_lt_zero _)))
  refine k183_0 (a8 := (mk L g).map vi) (tg10 := 0) P.2.1 P.2.2 (fun w => k183_13 (a8 := (mk L g).map vi) (tg10 := 0) P.2.1 P.2.2 ?_) (fun w => k183_9 start) (c11 := by unfold In3; omega) (c12 := by rw [hlen]; unfold In3; omega)
  rw [hlen] at w
  rw [hlen, show (L : Int) = (n : Int) by omega]
  exact start
end
