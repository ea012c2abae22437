/-! the reference: keeping, and the four ways of counting -/
theorem hi_pos {f : zp_R} {i : Nat} (hd : zp_deg f 176) (h : f.1 i ≠ 0) : 0 ≤ hi f :=
  Int.not_lt.mp (fun q => h (by rw [hi_0 hd q]; exact zp_C00 i))
theorem mul_top {f g : zp_R} {n m : Nat} (hf : zp_deg f (n + 1)) (hg : zp_deg g (m + 1)) : (zp_mul f g).1 (n + m) = f.1 n * g.1 m := zp_c_top hg n f.1 hf
theorem deg_le {f : zp_R} {n m : Nat} (h : zp_deg f n) (hnm : n ≤ m) : zp_deg f m := fun i hi2 => h i (by omega)
theorem mul_ne {f g : zp_R} (hf : zp_deg f 41) (hg : zp_deg g 41) (h1 : 0 ≤ hi f) (h2 : 0 ≤ hi g) : 0 ≤ hi (zp_mul f g) := by
  have d1 := hi_deg (deg_le hf (show 41 ≤ 176 by decide))
  have d2 := hi_deg (deg_le hg (show 41 ≤ 176 by decide))
  obtain ⟨n, en⟩ : ∃ n : Nat, hi f = n := ⟨(hi f).toNat, by omega⟩
  obtain ⟨m, em⟩ : ∃ m : Nat, hi g = m := ⟨(hi g).toNat, by omega⟩
  rw [en] at d1
  rw [em] at d2
  refine hi_pos (i := n + m) (deg_le (zp_deg_mul (n := 40) (m := 40) hf hg) (by decide)) ?_
  rw [mul_top (deg_le d1 (by omega)) (deg_le d2 (by omega))]
  exact fun q => (zp_dom q).elim (hi_ne en) (hi_ne em)
section
variable {d : Nat} {h : s_H} {s : Nat → Int} {A : Nat → Nat → Int}
/-- a fraction kept: rows N and D at the place m -/
def kept (A : Nat → Nat → Int) (m : Nat) (k : Int) (n e : Nat → Int) : Nat → Nat → Int := up (up (up A 1291 (fun i => if i = m then k else A 1291 i)) 1292 (wrow (A 1292) m n)) 1293 (wrow (A 1293) m e)
theorem kept_of {h' : s_H} {s1 : Nat → Int} {B : Nat → Nat → Int} {m : Nat} {k : Int} {n e : Nat → Int} (v : RV h' s1 B) (o : ∀ j, j ≠ 1291 → j ≠ 1292 → j ≠ 1293 → B j = A j) (g0 : ∀ i, i < 150 → B 1291 i = if i = m then k else A 1291 i) (g1 : ∀ i, i < 6150 → B 1292 i = wrow (A 1292) m n i) (g2 : ∀ i, i < 6150 → B 1293 i = wrow (A 1293) m e i) : RV h' s1 (kept A m k n e) := by
  have v3 := RV_cg (RV_cg (RV_cg v (c := 1291) (g := fun i => if i = m then k else A 1291 i) g0) (c := 1292) (g := wrow (A 1292) m n) (fun i hi2 => by rw [up_ne _ _ (by decide)]; exact g1 i hi2)) (c := 1293) (g := wrow (A 1293) m e) (fun i hi2 => by rw [up_ne _ _ (by decide), up_ne _ _ (by decide)]; exact g2 i hi2)
  have e : up (up (up B 1291 (fun i => if i = m then k else A 1291 i)) 1292 (wrow (A 1292) m n)) 1293 (wrow (A 1293) m e) = kept A m k n e := by
    unfold kept
    funext j
    by_cases h3 : j = 1293
    · rw [h3, up_at, up_at]
    · rw [up_ne _ _ h3, up_ne _ _ h3]
      by_cases h2 : j = 1292
      · rw [h2, up_at, up_at]
      · rw [up_ne _ _ h2, up_ne _ _ h2]
        by_cases h1 : j = 1291
        · rw [h1, up_at, up_at]
        · rw [up_ne _ _ h1, up_ne _ _ h1, o j h1 h2 h3]
  rw [e] at v3
  exact v3
/-- one more number of a row of 41 written -/
theorem wr_step {m k : Nat} {g n G : Nat → Int} {z : Int} (hz : z = n k) (hG : ∀ i, i < 6150 → G i = if 41 * m ≤ i ∧ i < 41 * m + k then n (i - 41 * m) else g i) {t : Nat} (ht : t = 41 * m + k) : ∀ i, i < 6150 → (if i = t then z else G i) = if 41 * m ≤ i ∧ i < 41 * m + (k + 1) then n (i - 41 * m) else g i := fun i hi2 => by
  by_cases h5 : i = t
  · rw [if_pos h5, if_pos (by omega), hz, show i - 41 * m = k by omega]
  · rw [if_neg h5, hG i hi2]
    by_cases h6 : 41 * m ≤ i ∧ i < 41 * m + k
    · rw [if_pos h6, if_pos (by omega)]
    · rw [if_neg h6, if_neg (by omega)]
/-- how keep ends -/
def full (s : Nat → Int) (N D : zp_R) : Prop := s 1 = 150 ∨ 40 < hi N ∨ 40 < hi D
def kQ (s : Nat → Int) (A : Nat → Nat → Int) (bad : Int) (N D : zp_R) : Term → (Nat → Int) → (Nat → Nat → Int) → Prop := fun v s' A' => (full s N D → v = vi 0 ∧ s' = up s 0 bad ∧ A' = A) ∧ (¬ full s N D → v = vi (s 1) ∧ s' = up (up s 0 0) 1 (s 1 + 1) ∧ A' = kept A (s 1).toNat 0 (cf N) (cf D))
theorem V_keep (hv : RV h s A) (hm : 0 ≤ s 1 ∧ s 1 ≤ 150) {N D : zp_R} (hN : A 1302 = cf N) (hD : A 1303 = cf D) {bad : Int} : wm sw_P (d + 3) 495 [.index 1290, vi bad] h (RA h (kQ s A bad N D)) := by
  refine wm_in (cd := sw_c495) (nL := 3) (hd := sw_h495) rfl rfl ?_
  have bN := hi_b N
  have bD := hi_b D
  have bad0 : (s 1 = 150 ∨ 40 < hi N ∨ 40 < hi D) → ∀ t : Term, wr sw_P (d + 2) sw_c495 sw_h495 (17, [.index 1290, vi bad, t], [], h, 0, 0) (RA h (kQ s A bad N D)) := fun q t => by
    refine k495_17 hv.1 (wm_mono (wq_A (fun v h1 s1 A1 v1 r1 φ => ?_)) (V_raise hv))
    obtain ⟨e1, e2, e3⟩ := φ
    rw [e1]
    refine k495_22 ⟨vi 0, h1, s1, A1, v1, r1, ⟨fun _ => ⟨rfl, e2, e3⟩, fun z => absurd q z⟩, rfl⟩
  refine k495_0 (z5 := s 1) hv.1 (fun q => bad0 (.inl q) _) (fun q => ?_) (c7 := by unfold In3; omega)
  refine k495_10 hv.1 (wm_mono (wq_r ?_) (V_isGreat hv hN hD))
  by_cases qg : 40 < hi N ∨ 40 < hi D
  · rw [if_pos qg]
    exact k495_14 (fun z => absurd z (by decide)) (fun _ => bad0 (.inr qg) _)
  · rw [if_neg qg]
    refine k495_14 (fun _ => ?_) (fun z => absurd rfl z)
    have hn : ¬ (s 1 = 150 ∨ 40 < hi N ∨ 40 < hi D) := by omega
    have v0 := RV_fld hv (up s 0 0) (rF_0 s 0)
    refine k495_23 (z11 := s 1) hv.1 (hp_at hv.1) (Ra_kind v0) ?_ (c16 := by rw [mk_len]; omega) (c17 := hm.1) (c18 := by unfold In3; omega)
    rw [mk_set]
    have w0 := Rp_kind v0 (fun i => if i = (s 1).toNat then 0 else A 1291 i)
    have loop : ∀ (l k : Nat) (B : Nat → Nat → Int) (h' : s_H), k + l = 41 → RV h' (up s 0 0) B → FR h h' → (∀ j, j ≠ 1291 → j ≠ 1292 → j ≠ 1293 → B j = A j) → (∀ i, i < 150 → B 1291 i = if i = (s 1).toNat then 0 else A 1291 i) → (∀ i, i < 6150 → B 1292 i = if 41 * (s 1).toNat ≤ i ∧ i < 41 * (s 1).toNat + k then cf N (i - 41 * (s 1).toNat) else A 1292 i) → (∀ i, i < 6150 → B 1293 i = if 41 * (s 1).toNat ≤ i ∧ i < 41 * (s 1).toNat + k then cf D (i - 41 * (s 1).toNat) else A 1293 i) → wr sw_P (d + 2) sw_c495 sw_h495 (40, [.index 1290, vi bad, vi (k : Int)], [], h', 0, 0) (RA h (kQ s A bad N D)) := by
      intro l
      induction l with
      | zero =>
        intro k B h' hk v r o g0 g1 g2
        have k41 : k = 41 := by omega
        subst k41
        refine k495_40 (fun _ => ?_) (fun z => absurd z (by omega))
        have vk := kept_of (A := A) (m := (s 1).toNat) (k := 0) (n := cf N) (e := cf D) v o g0 g1 g2
        have vf := RV_fld vk (up (up s 0 0) 1 (s 1 + 1)) (rF_1 (up s 0 0) (s 1 + 1))
        refine k495_94 (z5 := s 1) (z11 := s 1 + 1) v.1 (hp_at v.1) ⟨vi (s 1 + 1 - 1), _, _, _, vf, FR_trans r (FR_fld v _), ⟨fun z => absurd z hn, fun _ => ⟨by rw [show s 1 + 1 - 1 = s 1 by omega], rfl, rfl⟩⟩, rfl⟩
      | succ l ih =>
        intro k B h' hk v r o g0 g1 g2
        refine k495_40 (fun z => absurd z (by omega)) (fun _ => ?_)
        have g5 : gi (mk 176 (B 1302)) (k : Int) = cf N k := by rw [gi_mkn (by omega), o 1302 (by decide) (by decide) (by decide), hN]
        have g6 : gi (mk 176 (B 1303)) (k : Int) = cf D k := by rw [gi_mkn (by omega), o 1303 (by decide) (by decide) (by decide), hD]
        have w1 := Rp_tops v (fun i => if i = (41 * s 1 + (k : Int)).toNat then gi (mk 176 (B 1302)) (k : Int) else B 1292 i)
        have w2 := Rp_bottoms w1 (fun i => if i = (41 * s 1 + (k : Int)).toNat then gi (mk 176 (B 1303)) (k : Int) else B 1293 i)
        refine k495_46 (z7 := s 1) (z28 := s 1) v.1 (Ra_rt v) (Ra_tops v) ((hp_ne (Ra_tops v) (by decide)).trans v.1) ((hp_ne (Ra_tops v) (by decide)).trans (Ra_rb v)) ((hp_ne (Ra_tops v) (by decide)).trans (Ra_bottoms v)) ?_ (c14 := by rw [mk_len]; omega) (c20 := by rw [mk_len]; omega) (c21 := by omega) (c22 := by unfold In3; omega) (c35 := by rw [mk_len]; omega) (c39 := by rw [mk_len]; omega) (c40 := by omega) (c41 := by unfold In3; omega)
        rw [mk_set, mk_set]
        refine ih (k + 1) _ _ (by omega) w2 (FR_trans r (FR_trans (FR_put v (c := 1292) (by decide) (by decide) _) (FR_put w1 (c := 1293) (by decide) (by decide) _))) (fun j h1 h2 h3 => by rw [up_ne _ _ h3, up_ne _ _ h2, o j h1 h2 h3]) (fun i hi2 => by rw [up_ne _ _ (by decide), up_ne _ _ (by decide)]; exact g0 i hi2) (fun i hi2 => ?_) (fun i hi2 => ?_)
        · rw [up_ne _ _ (by decide), up_at]
          exact wr_step g5 g1 (by omega) i hi2
        · rw [up_at]
          exact wr_step g6 g2 (by omega) i hi2
    refine loop 41 0 _ _ rfl w0 (FR_trans (FR_fld hv _) (FR_put v0 (c := 1291) (by decide) (by decide) _)) (fun j h1 h2 h3 => up_ne _ _ h1) (fun i hi2 => by rw [up_at]) (fun i hi2 => by rw [up_ne _ _ (by decide), if_neg (by omega)]) (fun i hi2 => by rw [up_ne _ _ (by decide), if_neg (by omega)])
end
