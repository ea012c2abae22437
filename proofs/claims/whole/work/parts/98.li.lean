/-! the class's table of numbers: free columns, weights -/
section
variable {D : Nat} {h : s_H}
theorem u_isFree {H W : Nat} {σ : Nat → Nat} {G : Nat → Nat → Int} (L : LR h H W σ G) {R : Nat → Int} (gR : s_get h 105 = some (ai 44 R)) (bR : ∀ j, j < W → In3 (R j)) {x : Int} (hx : In3 x) : wm sw_P (D + 1) 129 [.index 39, vi x] h (qr (vi (if 0 ≤ x ∧ x < (W : Int) ∧ R x.toNat < 0 then 1 else 0)) h) := by
  refine wm_in (cd := sw_c129) (nL := 2) (hd := sw_h129) rfl rfl ?_
  obtain ⟨b1, _, _, _, ⟨H64, W44⟩, _⟩ := id L
  have no : ¬ (0 ≤ x ∧ x < (W : Int) ∧ R x.toNat < 0) → wr sw_P D sw_c129 sw_h129 (25, [.index 39, vi x], [], h, 0, 0) (qr (vi (if 0 ≤ x ∧ x < (W : Int) ∧ R x.toNat < 0 then 1 else 0)) h) := fun w => k129_25 (k129_26 (by rw [if_neg w]) (c1 := .inl rfl))
  refine k129_0 (fun w => no (fun q => by omega)) (fun w1 => ?_) (c1 := hx)
  refine k129_4 (z5 := (W : Int)) b1 (fun w => no (fun q => by omega)) (fun w2 => ?_) (c7 := hx) (c8 := by unfold In3; omega)
  have gx : gi (mk 44 R) x = R x.toNat := gi_mk (by omega) (by omega)
  refine k129_12 (a8 := mk 44 R) b1 gR (fun w => no (fun q => by rw [gx] at w; omega)) (fun w => ?_) (c10 := by rw [mk_len]; omega) (c11 := by omega) (c12 := hx) (c13 := by rw [gx]; exact bR _ (by omega))
  rw [gx] at w
  exact k129_21 (k129_26 (by rw [if_pos ⟨by omega, by omega, by omega⟩]) (c1 := .inr rfl))
theorem u_firstFree {H W : Nat} {σ : Nat → Nat} {G : Nat → Nat → Int} (L : LR h H W σ G) {R : Nat → Int} (gR : s_get h 105 = some (ai 44 R)) (bR : ∀ j, j < W → In3 (R j)) : wm sw_P (D + 1) 128 [.index 39] h (fun out => ∃ k : Nat, (∀ j, j < k → 0 ≤ R j) ∧ (k = W ∨ (k < W ∧ R k < 0)) ∧ qr (vi (k : Int)) h out) := by
  refine wm_in (cd := sw_c128) (nL := 2) (hd := sw_h128) rfl rfl ?_
  obtain ⟨b1, _, _, _, ⟨H64, W44⟩, _⟩ := id L
  refine k128_0 ?_
  have loop : ∀ (l k : Nat), k + l = W → (∀ j, j < k → 0 ≤ R j) → wr sw_P D sw_c128 sw_h128 (2, [.index 39, vi (k : Int)], [], h, 0, 0) (fun out => ∃ k : Nat, (∀ j, j < k → 0 ≤ R j) ∧ (k = W ∨ (k < W ∧ R k < 0)) ∧ qr (vi (k : Int)) h out) := by
    intro l
    induction l with
    | zero =>
      intro k hk ok
      exact k128_2 (z5 := (W : Int)) b1 (fun _ => k128_25 ⟨k, ok, .inl (by omega), rfl⟩) (fun w => absurd (by omega) w) (c7 := by unfold In3; omega) (c8 := by unfold In3; omega)
    | succ l ih =>
      intro k hk ok
      have gx : gi (mk 44 R) (k : Int) = R k := gi_mkn (by omega)
      refine k128_2 (z5 := (W : Int)) b1 (fun w => absurd w (by omega)) (fun _ => ?_) (c7 := by unfold In3; omega) (c8 := by unfold In3; omega)
      refine k128_10 (a8 := mk 44 R) b1 gR (fun w => k128_25 ⟨k, ok, .inr ⟨by omega, by rw [gx] at w; exact w⟩, rfl⟩) (fun w => k128_19 (ih (k + 1) (by omega) (fun j hj => ?_))) (c10 := by rw [mk_len]; omega) (c11 := by omega) (c12 := by unfold In3; omega) (c13 := by rw [gx]; exact bR k (by omega))
      rw [gx] at w
      by_cases e : j = k
      · rw [e]
        omega
      · exact ok j (by omega)
  exact loop W 0 (by omega) (fun j q => absurd q (Nat.not_lt_zero j))
theorem u_weigh {H W : Nat} {σ : Nat → Nat} {G : Nat → Nat → Int} (L : LR h H W σ G) {R : Nat → Int} (gR : s_get h 105 = some (ai 44 R)) (bR : ∀ j, j < W → R j = -1 ∨ (0 ≤ R j ∧ R j < (H : Int))) {x : Nat} (x3 : x < 100000) : wm sw_P (D + 1) 132 [.index 39, vi (x : Int)] h (fun out => ∃ h' wt, LR h' H W σ G ∧ s_get h' 106 = some (ai 44 wt) ∧ (∀ j, j < W → wt j = if j < x ∧ x < W ∧ R j ≠ -1 then G (R j).toNat x else 0) ∧ (∀ j, j ≠ 106 → s_get h' j = s_get h j) ∧ h'.1 = h.1 ∧ out = (.inl none, h', 0, 0)) := by
  refine wm_in (cd := sw_c132) (nL := 4) (hd := sw_h132) rfl rfl ?_
  obtain ⟨_, _, _, _, ⟨H64, W44⟩, _⟩ := id L
  refine k132_0 ?_
  have loop : ∀ (l k : Nat) (h' : s_H) (t3 : Term) (wt : Nat → Int), k + l = W → LR h' H W σ G → s_get h' 106 = some (ai 44 wt) → (∀ j, j < k → wt j = if j < x ∧ x < W ∧ R j ≠ -1 then G (R j).toNat x else 0) → (∀ j, j ≠ 106 → s_get h' j = s_get h j) → h'.1 = h.1 → wr sw_P D sw_c132 sw_h132 (2, [.index 39, vi (x : Int), vi (k : Int), t3], [], h', 0, 0) (fun out => ∃ h' wt, LR h' H W σ G ∧ s_get h' 106 = some (ai 44 wt) ∧ (∀ j, j < W → wt j = if j < x ∧ x < W ∧ R j ≠ -1 then G (R j).toNat x else 0) ∧ (∀ j, j ≠ 106 → s_get h' j = s_get h j) ∧ h'.1 = h.1 ∧ out = (.inl none, h', 0, 0)) := by
    intro l
    induction l with
    | zero =>
      intro k h' t3 wt hk L' g6 ok nn e1
      exact k132_2 (z5 := (W : Int)) L'.1 (fun _ => k132_71 ⟨h', wt, L', g6, fun j hj => ok j (by omega), nn, e1, rfl⟩) (fun w => absurd (by omega) w) (c7 := by unfold In3; omega) (c8 := by unfold In3; omega)
    | succ l ih =>
      intro k h' t3 wt hk L' g6 ok nn e1
      obtain ⟨b1, ⟨lst, b2, b3, b4⟩, b5, _⟩ := id L'
      have gR' : s_get h' 105 = some (ai 44 R) := (nn 105 (by decide)).trans gR
      have gk : gi (mk 44 R) (k : Int) = R k := gi_mkn (by omega)
      have bk := bR k (by omega)
      have put : ∀ (z s : Int), z = (if k < x ∧ x < W ∧ R k ≠ -1 then G (R k).toNat x else 0) → wr sw_P D sw_c132 sw_h132 (64, [.index 39, vi (x : Int), vi (k : Int), vi s], [vi z, vi (k : Int), .index 106], h', 0, 0) (fun out => ∃ h' wt, LR h' H W σ G ∧ s_get h' 106 = some (ai 44 wt) ∧ (∀ j, j < W → wt j = if j < x ∧ x < W ∧ R j ≠ -1 then G (R j).toNat x else 0) ∧ (∀ j, j ≠ 106 → s_get h' j = s_get h j) ∧ h'.1 = h.1 ∧ out = (.inl none, h', 0, 0)) := fun z s ez => by
        refine k132_64 (a2 := mk 44 wt) g6 ?_ (c4 := by rw [mk_len]; omega) (c5 := by omega) (c6 := by unfold In3; omega)
        rw [mk_set, show Int.toNat (k : Int) = k by omega]
        obtain ⟨L3, _, n3, g3⟩ := LR_6 L' (wt := fun t => if t = k then z else wt t)
        refine ih (k + 1) _ _ _ (by omega) L3 g3 (fun j hj => ?_) (fun j hj => (n3 j hj).trans (nn j hj)) e1
        show (if j = k then z else wt j) = _
        by_cases e : j = k
        · rw [if_pos e, e]
          exact ez
        · rw [if_neg e]
          exact ok j (by omega)
      have zero : ¬ (k < x ∧ x < W ∧ R k ≠ -1) → wr sw_P D sw_c132 sw_h132 (36, [.index 39, vi (x : Int), vi (k : Int), t3], [], h', 0, 0) (fun out => ∃ h' wt, LR h' H W σ G ∧ s_get h' 106 = some (ai 44 wt) ∧ (∀ j, j < W → wt j = if j < x ∧ x < W ∧ R j ≠ -1 then G (R j).toNat x else 0) ∧ (∀ j, j ≠ 106 → s_get h' j = s_get h j) ∧ h'.1 = h.1 ∧ out = (.inl none, h', 0, 0)) := fun w => k132_36 (k132_37 b1 (fun _ => k132_63 (put 0 0 (if_neg w).symm)) (fun q => absurd rfl q) (c7 := by decide))
      refine k132_2 (z5 := (W : Int)) b1 (fun w => absurd w (by omega)) (fun _ => ?_) (c7 := by unfold In3; omega) (c8 := by unfold In3; omega)
      refine k132_10 (fun w => zero (fun q => by omega)) (fun w1 => ?_) (c1 := by unfold In3; omega) (c2 := by unfold In3; omega)
      refine k132_15 (z5 := (W : Int)) b1 (fun w => zero (fun q => by omega)) (fun w2 => ?_) (c7 := by unfold In3; omega) (c8 := by unfold In3; omega)
      refine k132_23 (a8 := mk 44 R) b1 gR' (fun w => zero (fun q => by rw [gk] at w; omega)) (fun w3 => ?_) (c10 := by rw [mk_len]; omega) (c11 := by omega) (c12 := by unfold In3; omega) (c13 := by rw [gk]; unfold In3; omega)
      rw [gk] at w3
      have on : k < x ∧ x < W ∧ R k ≠ -1 := ⟨by omega, by omega, by omega⟩
      refine k132_32 (k132_37 b1 (fun q => absurd q (by decide)) (fun _ => ?_) (c7 := by decide))
      obtain ⟨s1, s2, s3⟩ := b5 (R k).toNat (by omega)
      refine k132_47 (a10 := mk 44 R) (a16 := lst) (v19 := .index (σ (R k).toNat)) (a25 := mk 44 (G (R k).toNat)) b1 gR' b2 s3 ?_ (n20 := by rw [gk]; exact b4 _ (by omega)) (c12 := by rw [mk_len]; omega) (c13 := by omega) (c14 := by unfold In3; omega) (c22 := by rw [gk]; unfold In3; omega) (c23 := by rw [gk]; omega) (c27 := by rw [mk_len]; omega) (c28 := by omega) (c29 := by unfold In3; omega)
      rw [gi_mkn (by omega)]
      exact put _ 1 (if_pos on).symm
  obtain ⟨wt, g6⟩ := L.2.2.2.2.2.2
  exact loop W 0 h _ wt (by omega) L g6 (fun j q => absurd q (Nat.not_lt_zero j)) (fun _ _ => rfl) rfl
theorem tm_n32 (a : zp_F) : Int.tmod (32003 - (a.val : Int)) 32003 = ((-a : zp_F).val : Int) := by
  have e := nF_v (32003 - (a.val : Int))
  rw [nF_cmpl, nF_val] at e
  have l := a.isLt
  rw [tmod_nn (by omega), e]
/-- the weights that make a free column's sum 0 -/
theorem u_cancel {H W : Nat} {σ : Nat → Nat} {G : Nat → Nat → Int} (L : LR h H W σ G) {B : Nat → Nat → zp_F} (eG : ∀ i, i < H → ∀ j, j < 44 → G i j = ((B i j).val : Int)) {R : Nat → Int} (gR : s_get h 105 = some (ai 44 R)) (bR : ∀ j, j < W → R j = -1 ∨ (0 ≤ R j ∧ R j < (H : Int))) {x : Nat} (xW : x < W) : wm sw_P (D + 2) 125 [.index 39, vi (x : Int)] h (fun out => ∃ h' wt, LR h' H W σ G ∧ s_get h' 106 = some (ai 44 wt) ∧ (∀ j, j < W → wt j = (((if j = x then 1 else if j < x ∧ R j ≠ -1 then -(B (R j).toNat x) else 0) : zp_F).val : Int)) ∧ (∀ j, j ≠ 106 → s_get h' j = s_get h j) ∧ h'.1 = h.1 ∧ out = (.inl none, h', 0, 0)) := by
  refine wm_in (cd := sw_c125) (nL := 3) (hd := sw_h125) rfl rfl ?_
  obtain ⟨_, _, _, _, ⟨H64, W44⟩, _⟩ := id L
  refine k125_0 L.1 (wm_mono (fun out => ?_) (u_weigh L gR bR (x := x) (by omega)))
  intro ⟨h1, w1, L1, g1, e1, n1, c1, eo⟩
  rw [eo]
  have e1' : ∀ j, j < W → w1 j = (((if j < x ∧ R j ≠ -1 then B (R j).toNat x else 0) : zp_F).val : Int) := fun j hj => by
    rw [e1 j hj]
    by_cases q : j < x ∧ R j ≠ -1
    · rw [if_pos ⟨q.1, xW, q.2⟩, if_pos q]
      have := bR j hj
      exact eG _ (by omega) x (by omega)
    · rw [if_neg (fun w => q ⟨w.1, w.2.2⟩), if_neg q]
      rfl
  refine k125_5 ?_
  have loop : ∀ (l k : Nat) (h' : s_H) (wt : Nat → Int), k + l = W → LR h' H W σ G → s_get h' 106 = some (ai 44 wt) → (∀ j, j < W → wt j = if j < k then ((-(if j < x ∧ R j ≠ -1 then B (R j).toNat x else 0) : zp_F).val : Int) else w1 j) → (∀ j, j ≠ 106 → s_get h' j = s_get h j) → h'.1 = h.1 → wr sw_P (D + 1) sw_c125 sw_h125 (7, [.index 39, vi (x : Int), vi (k : Int)], [], h', 0, 0) (fun out => ∃ h' wt, LR h' H W σ G ∧ s_get h' 106 = some (ai 44 wt) ∧ (∀ j, j < W → wt j = (((if j = x then 1 else if j < x ∧ R j ≠ -1 then -(B (R j).toNat x) else 0) : zp_F).val : Int)) ∧ (∀ j, j ≠ 106 → s_get h' j = s_get h j) ∧ h'.1 = h.1 ∧ out = (.inl none, h', 0, 0)) := by
    intro l
    induction l with
    | zero =>
      intro k h' wt hk L' g6 ok nn e1
      refine k125_7 (z5 := (W : Int)) L'.1 (fun _ => ?_) (fun w => absurd (by omega) w) (c7 := by unfold In3; omega) (c8 := by unfold In3; omega)
      refine k125_41 (fun w => absurd w (by omega)) (fun _ => ?_) (c1 := by unfold In3; omega)
      refine k125_45 (z5 := (W : Int)) L'.1 (fun w => absurd w (by omega)) (fun _ => ?_) (c7 := by unfold In3; omega) (c8 := by unfold In3; omega)
      refine k125_53 (a8 := mk 44 wt) L'.1 g6 ?_ (c10 := by rw [mk_len]; omega) (c11 := by omega) (c12 := by unfold In3; omega)
      rw [mk_set, show Int.toNat (x : Int) = x by omega]
      obtain ⟨L3, _, n3, g3⟩ := LR_6 L' (wt := fun t => if t = x then 1 else wt t)
      refine k125_60 ⟨_, _, L3, g3, fun j hj => ?_, fun j hj => (n3 j hj).trans (nn j hj), e1, rfl⟩
      show (if j = x then 1 else wt j) = _
      by_cases q : j = x
      · rw [if_pos q, if_pos q]
        rfl
      · rw [if_neg q, if_neg q, ok j hj, if_pos (by omega)]
        by_cases q2 : j < x ∧ R j ≠ -1
        · rw [if_pos q2, if_pos q2]
        · rw [if_neg q2, if_neg q2]
          rfl
    | succ l ih =>
      intro k h' wt hk L' g6 ok nn e1
      have gk : gi (mk 44 wt) (k : Int) = (((if k < x ∧ R k ≠ -1 then B (R k).toNat x else 0) : zp_F).val : Int) := by
        rw [gi_mkn (by omega), ok k (by omega), if_neg (Nat.lt_irrefl k), e1' k (by omega)]
      refine k125_7 (z5 := (W : Int)) L'.1 (fun w => absurd w (by omega)) (fun _ => ?_) (c7 := by unfold In3; omega) (c8 := by unfold In3; omega)
      refine k125_15 (a8 := mk 44 wt) L'.1 g6 ?_ (c10 := by rw [mk_len]; omega) (c11 := by omega) (c12 := by unfold In3; omega) (c13 := by rw [gk]; have := ((if k < x ∧ R k ≠ -1 then B (R k).toNat x else 0) : zp_F).isLt; unfold In3; omega)
      rw [gk, tm_n32, mk_set, show Int.toNat (k : Int) = k by omega]
      obtain ⟨L3, _, n3, g3⟩ := LR_6 L' (wt := fun t => if t = k then ((-(if k < x ∧ R k ≠ -1 then B (R k).toNat x else 0) : zp_F).val : Int) else wt t)
      refine ih (k + 1) _ _ (by omega) L3 g3 (fun j hj => ?_) (fun j hj => (n3 j hj).trans (nn j hj)) e1
      show (if j = k then ((-(if k < x ∧ R k ≠ -1 then B (R k).toNat x else 0) : zp_F).val : Int) else wt j) = _
      by_cases q : j = k
      · rw [if_pos q, if_pos (show j < k + 1 by omega), q]
      · rw [if_neg q, ok j hj]
        by_cases q2 : j < k
        · rw [if_pos q2, if_pos (show j < k + 1 by omega)]
        · rw [if_neg q2, if_neg (show ¬ j < k + 1 by omega)]
  exact loop W 0 h1 w1 (by omega) L1 g1 (fun j _ => by rw [if_neg (Nat.not_lt_zero j)]) n1 c1
end
