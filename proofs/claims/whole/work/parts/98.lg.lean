/-! the class's table of numbers (Linear): its rows may stand in any order -/
/-- its rows' cells and numbers -/
def LR (h : s_H) (H W : Nat) (σ : Nat → Nat) (G : Nat → Nat → Int) : Prop := s_get h 39 = some (1, 1, [.index 40, .index 105, .index 106, vi (H : Int), vi (W : Int)]) ∧ (∃ lst, s_get h 40 = some (0, 4, lst) ∧ lst.length = 64 ∧ ∀ i, i < 64 → s_nth lst i = some (.index (σ i))) ∧ (∀ i, i < 64 → 41 ≤ σ i ∧ σ i < 105 ∧ s_get h (σ i) = some (ai 44 (G i))) ∧ (∀ i j, i < 64 → j < 64 → σ i = σ j → i = j) ∧ (H ≤ 64 ∧ W ≤ 44) ∧ (∃ R, s_get h 105 = some (ai 44 R)) ∧ ∃ wt, s_get h 106 = some (ai 44 wt)
/-- nothing but the table has changed -/
def FLn (h h' : s_H) : Prop := h'.1 = h.1 ∧ ∀ j, (j < 39 ∨ 107 ≤ j) → s_get h' j = s_get h j
theorem FLn_refl (h : s_H) : FLn h h := ⟨rfl, fun _ _ => rfl⟩
theorem FLn_trans {h h' h'' : s_H} (a : FLn h h') (b : FLn h' h'') : FLn h h'' := ⟨b.1.trans a.1, fun j w => (b.2 j w).trans (a.2 j w)⟩
/-- its numbers are M's -/
def LM (h : s_H) (H W : Nat) (M : Nat → Nat → zp_F) : Prop := ∃ σ G, LR h H W σ G ∧ ∀ i, i < H → ∀ j, j < 44 → G i j = ((M i j).val : Int)
theorem LR_put {h : s_H} {H W : Nat} {σ : Nat → Nat} {G : Nat → Nat → Int} (L : LR h H W σ G) {i : Nat} (i64 : i < 64) (g : Nat → Int) : LR (hp h (σ i) (ai 44 g)) H W σ (fun n => if n = i then g else G n) ∧ FLn h (hp h (σ i) (ai 44 g)) := by
  obtain ⟨a1, ⟨lst, a2, a3, a4⟩, a5, a6, a7, ⟨R, a8⟩, wt, a9⟩ := L
  obtain ⟨s1, s2, s3⟩ := a5 i i64
  have nn : ∀ j, j ≠ σ i → s_get (hp h (σ i) (ai 44 g)) j = s_get h j := fun j hj => hp_ne s3 hj
  refine ⟨⟨(nn _ (by omega)).trans a1, ⟨lst, (nn _ (by omega)).trans a2, a3, a4⟩, fun n hn => ?_, a6, a7, ⟨R, (nn _ (by omega)).trans a8⟩, wt, (nn _ (by omega)).trans a9⟩, rfl, fun j hj => nn j (by omega)⟩
  obtain ⟨t1, t2, t3⟩ := a5 n hn
  refine ⟨t1, t2, ?_⟩
  by_cases e : n = i
  · subst e
    show s_get _ _ = some (ai 44 (if n = n then g else G n))
    rw [if_pos rfl]
    exact hp_at s3
  · show s_get _ _ = some (ai 44 (if n = i then g else G n))
    rw [if_neg e]
    exact (nn _ (fun q => e (a6 n i hn i64 q))).trans t3
theorem LR_5 {h : s_H} {H W : Nat} {σ : Nat → Nat} {G : Nat → Nat → Int} (L : LR h H W σ G) {R : Nat → Int} : LR (hp h 105 (ai 44 R)) H W σ G ∧ FLn h (hp h 105 (ai 44 R)) ∧ (∀ j, j ≠ 105 → s_get (hp h 105 (ai 44 R)) j = s_get h j) ∧ s_get (hp h 105 (ai 44 R)) 105 = some (ai 44 R) := by
  obtain ⟨a1, ⟨lst, a2, a3, a4⟩, a5, a6, a7, ⟨R0, a8⟩, wt, a9⟩ := L
  have nn : ∀ j, j ≠ 105 → s_get (hp h 105 (ai 44 R)) j = s_get h j := fun j hj => hp_ne a8 hj
  exact ⟨⟨(nn _ (by decide)).trans a1, ⟨lst, (nn _ (by decide)).trans a2, a3, a4⟩, fun n hn => ⟨(a5 n hn).1, (a5 n hn).2.1, (nn _ (by have := (a5 n hn).2.1; omega)).trans (a5 n hn).2.2⟩, a6, a7, ⟨R, hp_at a8⟩, wt, (nn _ (by decide)).trans a9⟩, ⟨rfl, fun j hj => nn j (by omega)⟩, nn, hp_at a8⟩
theorem LR_6 {h : s_H} {H W : Nat} {σ : Nat → Nat} {G : Nat → Nat → Int} (L : LR h H W σ G) {wt : Nat → Int} : LR (hp h 106 (ai 44 wt)) H W σ G ∧ FLn h (hp h 106 (ai 44 wt)) ∧ (∀ j, j ≠ 106 → s_get (hp h 106 (ai 44 wt)) j = s_get h j) ∧ s_get (hp h 106 (ai 44 wt)) 106 = some (ai 44 wt) := by
  obtain ⟨a1, ⟨lst, a2, a3, a4⟩, a5, a6, a7, ⟨R0, a8⟩, wt0, a9⟩ := L
  have nn : ∀ j, j ≠ 106 → s_get (hp h 106 (ai 44 wt)) j = s_get h j := fun j hj => hp_ne a9 hj
  exact ⟨⟨(nn _ (by decide)).trans a1, ⟨lst, (nn _ (by decide)).trans a2, a3, a4⟩, fun n hn => ⟨(a5 n hn).1, (a5 n hn).2.1, (nn _ (by have := (a5 n hn).2.1; omega)).trans (a5 n hn).2.2⟩, a6, a7, ⟨R0, (nn _ (by decide)).trans a8⟩, wt, hp_at a9⟩, ⟨rfl, fun j hj => nn j (by omega)⟩, nn, hp_at a9⟩
section
variable {D : Nat} {h : s_H}
/-- a row of ints is filled -/
theorem u_fill {q n : Nat} {g : Nat → Int} (q0 : 0 < q) (n3 : n < 100000) (e : s_get h q = some (ai n g)) {v : Int} : wm sw_P (D + 1) 631 [.index q, vi v] h (fun out => ∃ h', s_get h' q = some (ai n (fun _ => v)) ∧ (∀ j, j ≠ q → s_get h' j = s_get h j) ∧ h'.1 = h.1 ∧ out = (.inl none, h', 0, 0)) := by
  refine wm_in (cd := sw_c631) (nL := 4) (hd := sw_h631) rfl rfl ?_
  have eL : (((mk n g).map vi).length : Int) = n := by rw [List.length_map, mk_len]
  refine k631_0 (a3 := (mk n g).map vi) (tg5 := 0) e ?_
  rw [eL]
  have loop : ∀ (l i : Nat) (h' : s_H) (g' : Nat → Int), i + l = n → s_get h' q = some (ai n g') → (∀ j, j ≠ q → s_get h' j = s_get h j) → h'.1 = h.1 → (∀ t, t < i → g' t = v) → wr sw_P D sw_c631 sw_h631 (5, [.index q, vi v, vi (i : Int), vi (n : Int)], [], h', 0, 0) (fun out => ∃ h', s_get h' q = some (ai n (fun _ => v)) ∧ (∀ j, j ≠ q → s_get h' j = s_get h j) ∧ h'.1 = h.1 ∧ out = (.inl none, h', 0, 0)) := by
    intro l
    induction l with
    | zero =>
      intro i h' g' hi2 e' nn e1 done
      refine k631_5 (fun _ => k631_20 ⟨h', ?_, nn, e1, rfl⟩) (fun w => absurd (by omega) w) (c1 := by unfold In3; omega) (c2 := by unfold In3; omega)
      rw [e']
      show some (0, 0, (mk n g').map vi) = some (0, 0, (mk n (fun _ => v)).map vi)
      rw [mk_congr (g' := fun _ => v) (fun t ht => done t (by omega))]
    | succ l ih =>
      intro i h' g' hi2 e' nn e1 done
      refine k631_5 (fun w => absurd w (by omega)) (fun _ => ?_) (c1 := by unfold In3; omega) (c2 := by unfold In3; omega)
      refine k631_10 (a3 := mk n g') e' ?_ (c5 := by rw [mk_len]; omega) (c6 := by omega) (c7 := by unfold In3; omega) (c8 := q0)
      rw [mk_set, show Int.toNat (i : Int) = i by omega]
      refine ih (i + 1) _ _ (by omega) (hp_at e') (fun j hj => (hp_ne e' hj).trans (nn j hj)) e1 (fun t ht => ?_)
      show (if t = i then v else g' t) = v
      by_cases w : t = i
      · rw [if_pos w]
      · rw [if_neg w]
        exact done t (by omega)
  exact loop n 0 h g (by omega) e (fun _ _ => rfl) rfl (fun t q => absurd q (Nat.not_lt_zero t))
/-- a new table -/
theorem u_begin {H0 W0 : Nat} {σ : Nat → Nat} {G : Nat → Nat → Int} (L : LR h H0 W0 σ G) {H W : Nat} (H64 : H ≤ 64) (W44 : W ≤ 44) : wm sw_P (D + 2) 124 [.index 39, vi (H : Int), vi (W : Int)] h (fun out => ∃ h', LM h' H W (fun _ _ => 0) ∧ FLn h h' ∧ out = (.inl none, h', 0, 0)) := by
  refine wm_in (cd := sw_c124) (nL := 4) (hd := sw_h124) rfl rfl ?_
  obtain ⟨a1, ⟨lst, a2, a3, a4⟩, a5, a6, a7, ⟨R, a8⟩, wt, a9⟩ := L
  have x1 := hp_at (cc := (1, 1, [.index 40, .index 105, .index 106, vi (H : Int), vi (W0 : Int)])) a1
  have x2 := hp_at (cc := (1, 1, [.index 40, .index 105, .index 106, vi (H : Int), vi (W : Int)])) x1
  obtain ⟨h2, e2⟩ : ∃ h2, hp (hp h 39 (1, 1, [.index 40, .index 105, .index 106, vi (H : Int), vi (W0 : Int)])) 39 (1, 1, [.index 40, .index 105, .index 106, vi (H : Int), vi (W : Int)]) = h2 := ⟨_, rfl⟩
  have n2 : ∀ j, j ≠ 39 → s_get h2 j = s_get h j := fun j hj => by
    rw [← e2]
    exact (hp_ne x1 hj).trans (hp_ne a1 hj)
  have g2 : s_get h2 39 = some (1, 1, [.index 40, .index 105, .index 106, vi (H : Int), vi (W : Int)]) := by
    rw [← e2]
    exact x2
  have L2 : LR h2 H W σ G := ⟨g2, ⟨lst, (n2 _ (by decide)).trans a2, a3, a4⟩, fun n hn => ⟨(a5 n hn).1, (a5 n hn).2.1, (n2 _ (by have := (a5 n hn).1; omega)).trans (a5 n hn).2.2⟩, a6, ⟨H64, W44⟩, ⟨R, (n2 _ (by decide)).trans a8⟩, wt, (n2 _ (by decide)).trans a9⟩
  have F2 : FLn h h2 := ⟨by rw [← e2]; rfl, fun j hj => n2 j (by omega)⟩
  have loop : ∀ (l i : Nat) (h' : s_H) (G' : Nat → Nat → Int), i + l = H → LR h' H W σ G' → FLn h h' → (∀ n, n < i → ∀ j, G' n j = 0) → wr sw_P (D + 1) sw_c124 sw_h124 (34, [.index 39, vi (H : Int), vi (W : Int), vi (i : Int)], [], h', 0, 0) (fun out => ∃ h', LM h' H W (fun _ _ => 0) ∧ FLn h h' ∧ out = (.inl none, h', 0, 0)) := by
    intro l
    induction l with
    | zero =>
      intro i h' G' hi2 L' F' done
      exact k124_34 (z5 := (H : Int)) L'.1 (fun _ => k124_58 ⟨h', ⟨σ, G', L', fun n hn j _ => (done n (by omega) j).trans rfl⟩, F', rfl⟩) (fun w => absurd (by omega) w) (c7 := by unfold In3; omega) (c8 := by unfold In3; omega)
    | succ l ih =>
      intro i h' G' hi2 L' F' done
      obtain ⟨b1, ⟨lst', b2, b3, b4⟩, b5, b6, b7, ⟨R', b8⟩, wt', b9⟩ := id L'
      obtain ⟨s1, s2, s3⟩ := b5 i (by omega)
      refine k124_34 (z5 := (H : Int)) b1 (fun w => absurd w (by omega)) (fun _ => ?_) (c7 := by unfold In3; omega) (c8 := by unfold In3; omega)
      refine k124_42 (v11 := .index (σ i)) b1 b2 (wm_mono (fun out => ?_) (u_fill (by omega) (by decide) s3)) (n12 := by rw [show Int.toNat (i : Int) = i by omega]; exact b4 i (by omega)) (c14 := by unfold In3; omega) (c15 := by omega)
      intro ⟨h3, c1, c2, c3, eo⟩
      rw [eo]
      refine k124_52 (ih (i + 1) h3 (fun n => if n = i then (fun _ => 0) else G' n) (by omega) ⟨(c2 _ (by omega)).trans b1, ⟨lst', (c2 _ (by omega)).trans b2, b3, b4⟩, fun n hn => ⟨(b5 n hn).1, (b5 n hn).2.1, ?_⟩, b6, b7, ⟨R', (c2 _ (by omega)).trans b8⟩, wt', (c2 _ (by omega)).trans b9⟩ (FLn_trans F' ⟨c3, fun j hj => c2 j (by omega)⟩) (fun n hn j => ?_))
      · by_cases w : n = i
        · subst w
          show _ = some (ai 44 (if n = n then (fun _ => 0) else G' n))
          rw [if_pos rfl]
          exact c1
        · show _ = some (ai 44 (if n = i then (fun _ => 0) else G' n))
          rw [if_neg w]
          exact (c2 _ (fun q => w (b6 n i hn (by omega) q))).trans (b5 n hn).2.2
      · show (if n = i then (fun _ => 0) else G' n) j = 0
        by_cases w : n = i
        · rw [if_pos w]
        · rw [if_neg w]
          exact done n (by omega) j
  have go : wr sw_P (D + 1) sw_c124 sw_h124 (34, [.index 39, vi (H : Int), vi (W : Int), vi 0], [], h2, 0, 0) (fun out => ∃ h', LM h' H W (fun _ _ => 0) ∧ FLn h h' ∧ out = (.inl none, h', 0, 0)) := loop H 0 h2 G (by omega) L2 F2 (fun n q => absurd q (Nat.not_lt_zero n))
  have last : wr sw_P (D + 1) sw_c124 sw_h124 (29, [.index 39, vi (H : Int), vi (W : Int), .result], [vi (W : Int), .index 39], hp h 39 (1, 1, [.index 40, .index 105, .index 106, vi (H : Int), vi (W0 : Int)]), 0, 0) (fun out => ∃ h', LM h' H W (fun _ _ => 0) ∧ FLn h h' ∧ out = (.inl none, h', 0, 0)) := k124_29 x1 (by
    have : hp (hp h 39 (1, 1, [.index 40, .index 105, .index 106, vi (H : Int), vi (W0 : Int)])) 39 (1, 1, [.index 40, .index 105, .index 106, vi (H : Int), vi (W : Int)]) = h2 := e2
    show wr sw_P (D + 1) sw_c124 sw_h124 (34, _, [], hp (hp h 39 (1, 1, [.index 40, .index 105, .index 106, vi (H : Int), vi (W0 : Int)])) 39 (1, 1, [.index 40, .index 105, .index 106, vi (H : Int), vi (W : Int)]), 0, 0) _
    rw [this]
    exact go)
  have mid : wr sw_P (D + 1) sw_c124 sw_h124 (13, [.index 39, vi (H : Int), vi (W : Int), .result], [vi (H : Int), .index 39], h, 0, 0) (fun out => ∃ h', LM h' H W (fun _ _ => 0) ∧ FLn h h' ∧ out = (.inl none, h', 0, 0)) := by
    refine k124_13 a1 (fun w => k124_27 ?_) (fun _ => k124_23 last) (c7 := by unfold In3; omega)
    rw [show (44 : Int) = (W : Int) by omega]
    exact last
  refine k124_0 (fun w => k124_11 ?_) (fun _ => k124_7 mid) (c2 := by unfold In3; omega)
  rw [show (64 : Int) = (H : Int) by omega]
  exact mid
/-- one number is put down -/
theorem u_setL {H W : Nat} {M : Nat → Nat → zp_F} (L : LM h H W M) {n c : Nat} {v : zp_F} (n3 : n < 100000) (c3 : c < 100000) : wm sw_P (D + 1) 130 [.index 39, vi (n : Int), vi (c : Int), vi (v.val : Int)] h (fun out => ∃ h', LM h' H W (fun i j => if n < H ∧ c < W ∧ i = n ∧ j = c then v else M i j) ∧ FLn h h' ∧ out = (.inl none, h', 0, 0)) := by
  refine wm_in (cd := sw_c130) (nL := 4) (hd := sw_h130) rfl rfl ?_
  obtain ⟨σ, G, LL, e⟩ := id L
  obtain ⟨b1, ⟨lst, b2, b3, b4⟩, b5, b6, b7, _⟩ := id LL
  have no : ¬ (n < H ∧ c < W) → wr sw_P D sw_c130 sw_h130 (33, [.index 39, vi (n : Int), vi (c : Int), vi (v.val : Int)], [], h, 0, 0) (fun out => ∃ h', LM h' H W (fun i j => if n < H ∧ c < W ∧ i = n ∧ j = c then v else M i j) ∧ FLn h h' ∧ out = (.inl none, h', 0, 0)) := fun w => k130_33 ⟨h, ⟨σ, G, LL, fun i hi2 j hj => by
    show G i j = (((if n < H ∧ c < W ∧ i = n ∧ j = c then v else M i j) : zp_F).val : Int)
    rw [if_neg (fun q => w ⟨q.1, q.2.1⟩)]
    exact e i hi2 j hj⟩, FLn_refl h, rfl⟩
  refine k130_0 (fun w => absurd w (by omega)) (fun _ => ?_) (c1 := by unfold In3; omega)
  refine k130_4 (z5 := (H : Int)) b1 (fun w => no (by omega)) (fun w1 => ?_) (c7 := by unfold In3; omega) (c8 := by unfold In3; omega)
  refine k130_12 (fun w => absurd w (by omega)) (fun _ => ?_) (c1 := by unfold In3; omega)
  refine k130_16 (z5 := (W : Int)) b1 (fun w => no (by omega)) (fun w2 => ?_) (c7 := by unfold In3; omega) (c8 := by unfold In3; omega)
  obtain ⟨s1, s2, s3⟩ := b5 n (by omega)
  refine k130_24 (v11 := .index (σ n)) (a17 := mk 44 (G n)) b1 b2 s3 ?_ (n12 := by rw [show Int.toNat (n : Int) = n by omega]; exact b4 n (by omega)) (c14 := by unfold In3; omega) (c15 := by omega) (c19 := by rw [mk_len]; omega) (c20 := by omega) (c21 := by unfold In3; omega)
  rw [mk_set, show Int.toNat (c : Int) = c by omega]
  obtain ⟨L2, F2⟩ := LR_put LL (i := n) (by omega) (fun i => if i = c then (v.val : Int) else G n i)
  refine k130_33 ⟨_, ⟨σ, _, L2, fun i hi2 j hj => ?_⟩, F2, rfl⟩
  show (if i = n then (fun i => if i = c then (v.val : Int) else G n i) else G i) j = (((if n < H ∧ c < W ∧ i = n ∧ j = c then v else M i j) : zp_F).val : Int)
  by_cases q : i = n
  · rw [if_pos q]
    show (if j = c then (v.val : Int) else G n j) = _
    by_cases q2 : j = c
    · rw [if_pos q2, if_pos ⟨by omega, by omega, q, q2⟩]
    · rw [if_neg q2, if_neg (fun w => q2 w.2.2.2), q]
      exact e n (by omega) j hj
  · rw [if_neg q, if_neg (fun w => q w.2.2.1)]
    exact e i hi2 j hj
/-- a polynomial is put down in a column of zeros -/
theorem u_setColumn {H W : Nat} {M : Nat → Nat → zp_F} (L : LM h H W M) {c p Lp : Nat} {f : zp_R} (cW : c < W) (P : PF h p Lp f) (pa : p + 1 < 39 ∨ 107 ≤ p) (z : ∀ i, i < H → M i c = 0) : wm sw_P (D + 2) 131 [.index 39, vi (c : Int), .index p] h (fun out => ∃ h', LM h' H W (fun i j => if j = c then f.1 i else M i j) ∧ FLn h h' ∧ out = (.inl none, h', 0, 0)) := by
  refine wm_in (cd := sw_c131) (nL := 4) (hd := sw_h131) rfl rfl ?_
  obtain ⟨e, g, Po, b, eg, el, lL⟩ := id P
  have be := b.1
  have WL : W ≤ 44 := by
    obtain ⟨_, _, LL, _⟩ := L
    exact LL.2.2.2.2.1.2
  refine k131_0 ?_
  have loop : ∀ (l i : Nat) (h' : s_H), (i : Int) + l = e + 1 → LM h' H W (fun i' j => if j = c ∧ i' < i then f.1 i' else M i' j) → FLn h h' → wr sw_P (D + 1) sw_c131 sw_h131 (2, [.index 39, vi (c : Int), .index p, vi (i : Int)], [], h', 0, 0) (fun out => ∃ h', LM h' H W (fun i j => if j = c then f.1 i else M i j) ∧ FLn h h' ∧ out = (.inl none, h', 0, 0)) := by
    intro l
    induction l with
    | zero =>
      intro i h' hi2 L' F'
      have g1 := (F'.2 p (by omega)).trans Po.2.1
      refine k131_2 (z5 := e) g1 (fun _ => k131_28 ⟨h', ?_, F', rfl⟩) (fun w => absurd (by omega) w) (c7 := by unfold In3; omega) (c8 := by unfold In3; omega)
      obtain ⟨σ, G, LL, eG⟩ := L'
      refine ⟨σ, G, LL, fun i' hi' j hj => (eG i' hi' j hj).trans ?_⟩
      show (((if j = c ∧ i' < i then f.1 i' else M i' j) : zp_F).val : Int) = (((if j = c then f.1 i' else M i' j) : zp_F).val : Int)
      by_cases q : j = c
      · rw [if_pos q]
        by_cases q2 : i' < i
        · rw [if_pos ⟨q, q2⟩]
        · rw [if_neg (fun w => q2 w.2), q, z i' hi', b.2.1 i' (by omega)]
      · rw [if_neg q, if_neg (fun w => q w.1)]
    | succ l ih =>
      intro i h' hi2 L' F'
      have g1 := (F'.2 p (by omega)).trans Po.2.1
      have g2 := (F'.2 (p + 1) (by omega)).trans Po.2.2
      have L39 := (show ∃ f15, s_get h' 39 = some (1, 1, f15) by
        obtain ⟨_, _, LL, _⟩ := L'
        exact ⟨_, LL.1⟩)
      obtain ⟨f15, g3⟩ := L39
      refine k131_2 (z5 := e) g1 (fun w => absurd w (by omega)) (fun _ => ?_) (c7 := by unfold In3; omega) (c8 := by unfold In3; omega)
      refine k131_10 (a9 := mk Lp g) g1 g2 g3 ?_ (c11 := by rw [mk_len]; omega) (c12 := by omega) (c13 := by unfold In3; omega)
      rw [gi_mkn (by omega), eg i (by omega)]
      refine wm_mono (fun out => ?_) (u_setL L' (n := i) (c := c) (v := f.1 i) (by omega) (by omega))
      intro ⟨h3, L3, F3, eo⟩
      rw [eo]
      refine k131_22 (ih (i + 1) h3 (by omega) ?_ (FLn_trans F' F3))
      obtain ⟨σ, G, LL, eG⟩ := L3
      refine ⟨σ, G, LL, fun i' hi' j hj => (eG i' hi' j hj).trans ?_⟩
      show (((if i < H ∧ c < W ∧ i' = i ∧ j = c then f.1 i else (if j = c ∧ i' < i then f.1 i' else M i' j)) : zp_F).val : Int) = (((if j = c ∧ i' < i + 1 then f.1 i' else M i' j) : zp_F).val : Int)
      by_cases q : i' = i ∧ j = c
      · rw [if_pos ⟨by omega, cW, q.1, q.2⟩, if_pos ⟨q.2, by omega⟩, q.1]
      · rw [if_neg (fun w => q ⟨w.2.2.1, w.2.2.2⟩)]
        by_cases q2 : j = c ∧ i' < i
        · rw [if_pos q2, if_pos ⟨q2.1, by omega⟩]
        · rw [if_neg q2, if_neg (fun w => q2 ⟨w.1, by omega⟩)]
  refine loop (e + 1).toNat 0 h (by omega) ?_ (FLn_refl h)
  obtain ⟨σ, G, LL, eG⟩ := L
  refine ⟨σ, G, LL, fun i' hi' j hj => (eG i' hi' j hj).trans ?_⟩
  show _ = (((if j = c ∧ i' < 0 then f.1 i' else M i' j) : zp_F).val : Int)
  rw [if_neg (fun w => absurd w.2 (Nat.not_lt_zero _))]
end
