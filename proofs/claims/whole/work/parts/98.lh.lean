/-! the class's table of numbers: a column is cleared -/
/-- nothing but its rows' numbers has changed -/
def FRw (h h' : s_H) : Prop := h'.1 = h.1 ∧ ∀ j, (j < 41 ∨ 105 ≤ j) → s_get h' j = s_get h j
theorem FRw_trans {h h' h'' : s_H} (a : FRw h h') (b : FRw h' h'') : FRw h h'' := ⟨b.1.trans a.1, fun j w => (b.2 j w).trans (a.2 j w)⟩
theorem FRw_L {h h' : s_H} (a : FRw h h') : FLn h h' := ⟨a.1, fun j w => a.2 j (by omega)⟩
theorem LR_pR {h : s_H} {H W : Nat} {σ : Nat → Nat} {G : Nat → Nat → Int} (L : LR h H W σ G) {i : Nat} (i64 : i < 64) (g : Nat → Int) : FRw h (hp h (σ i) (ai 44 g)) := by
  obtain ⟨_, _, a5, _⟩ := L
  obtain ⟨s1, s2, s3⟩ := a5 i i64
  exact ⟨rfl, fun j hj => hp_ne s3 (by omega)⟩
theorem neg_v {f : zp_F} (f0 : f ≠ 0) : 32003 - (f.val : Int) = ((-f : zp_F).val : Int) := by
  have e := nF_v (32003 - (f.val : Int))
  rw [nF_cmpl, nF_val] at e
  have l := f.isLt
  have p : f.val ≠ 0 := fun q => f0 (F_ext (by rw [q]; rfl))
  rw [e]
  omega
theorem df_c {x f p : zp_F} : x + -f * p = x - f * p := by grind
theorem df_0 {x p : zp_F} : x - 0 * p = x := by grind
theorem df_1 {x f : zp_F} : x - f * 0 = x := by grind
theorem zm_0 (b : zp_F) : (0 : zp_F) * b = 0 := by grind
theorem tm_df (x p : zp_F) {f : zp_F} (f0 : f ≠ 0) : Int.tmod ((x.val : Int) + (32003 - (f.val : Int)) * (p.val : Int)) 32003 = ((x - f * p : zp_F).val : Int) := by
  rw [neg_v f0, tm_pa, df_c]
theorem in_df (x p : zp_F) {f : zp_F} (f0 : f ≠ 0) : In3 ((x.val : Int) + (32003 - (f.val : Int)) * (p.val : Int)) := by
  rw [neg_v f0]
  exact in_pa _ _ _
section
variable {D : Nat} {h : s_H}
theorem u_clearColumn {H W : Nat} {σ : Nat → Nat} {G : Nat → Nat → Int} (L : LR h H W σ G) {B : Nat → Nat → zp_F} (eG : ∀ i, i < H → ∀ j, j < 44 → G i j = ((B i j).val : Int)) {r c : Nat} (rH : r < H) (cW : c < W) (lz : ∀ j, j < c → B r j = 0) (wz : ∀ n, n < H → ∀ j, W ≤ j → B n j = 0) : wm sw_P (D + 2) 126 [.index 39, vi (r : Int), vi (c : Int)] h (fun out => ∃ h' G', LR h' H W σ G' ∧ (∀ i, i < H → ∀ j, j < 44 → G' i j = ((op2 (op1 B r r (B r c ^ 32001)) H r c i j).val : Int)) ∧ FRw h h' ∧ out = (.inl none, h', 0, 0)) := by
  refine wm_in (cd := sw_c126) (nL := 9) (hd := sw_h126) rfl rfl ?_
  obtain ⟨b, eb⟩ : ∃ b, B r c ^ 32001 = b := ⟨_, rfl⟩
  obtain ⟨N, eN⟩ : ∃ N, op1 B r r b = N := ⟨_, rfl⟩
  obtain ⟨b1, ⟨lst, b2, b3, b4⟩, b5, b6, ⟨H64, W44⟩, _⟩ := id L
  obtain ⟨s1, s2, s3⟩ := b5 r (by omega)
  have nN : ∀ t, N r t = B r t * b := fun t => by
    rw [← eN]
    exact if_pos rfl
  have nO : ∀ n t, n ≠ r → N n t = B n t := fun n t q => by
    rw [← eN]
    show (if n = r then B r t * b else if n = r then B r t else B n t) = B n t
    rw [if_neg q, if_neg q]
  have nl : ∀ t, t < c → N r t = 0 := fun t ht => by rw [nN, lz t ht, zm_0]
  have nw : ∀ t, W ≤ t → N r t = 0 := fun t ht => by rw [nN, wz r rH t ht, zm_0]
  rw [eb, eN]
  have grc : gi (mk 44 (G r)) (c : Int) = ((B r c).val : Int) := by rw [gi_mkn (by omega)]; exact eG r rH c (by omega)
  refine k126_0 (v11 := .index (σ r)) (a18 := mk 44 (G r)) b1 b2 s3 ?_ (n12 := by rw [show Int.toNat (r : Int) = r by omega]; exact b4 r (by omega)) (c14 := by unfold In3; omega) (c15 := by omega) (c20 := by rw [mk_len]; omega) (c21 := by omega) (c22 := by unfold In3; omega)
  rw [grc]
  refine wm_mono (wq_r ?_) (u_inverseOf (B r c).isLt)
  rw [nF_val, eb]
  refine k126_13 ?_
  -- the other rows
  have third : ∀ (l i : Nat) (h' : s_H) (G' : Nat → Nat → Int) (t6 t7 t8 : Term), i + l = H → LR h' H W σ G' → FRw h h' → (∀ n, n < H → ∀ t, t < 44 → G' n t = (((if n < i then op2 N H r c n t else N n t) : zp_F).val : Int)) → wr sw_P (D + 1) sw_c126 sw_h126 (51, [.index 39, vi (r : Int), vi (c : Int), .index (σ r), vi (b.val : Int), vi (i : Int), t6, t7, t8], [], h', 0, 0) (fun out => ∃ h' G', LR h' H W σ G' ∧ (∀ i, i < H → ∀ j, j < 44 → G' i j = ((op2 N H r c i j).val : Int)) ∧ FRw h h' ∧ out = (.inl none, h', 0, 0)) := by
    intro l
    induction l with
    | zero =>
      intro i h' G' t6 t7 t8 hi2 L' F' e'
      exact k126_51 (z5 := (H : Int)) L'.1 (fun _ => k126_141 ⟨h', G', L', fun n hn t ht => by rw [e' n hn t ht, if_pos (by omega)], F', rfl⟩) (fun q => absurd (by omega) q) (c7 := by unfold In3; omega) (c8 := by unfold In3; omega)
    | succ l ih =>
      intro i h' G' t6 t7 t8 hi2 L' F' e'
      obtain ⟨d1, ⟨lst', d2, d3, d4⟩, d5, d6, _⟩ := id L'
      obtain ⟨q1, q2, q3⟩ := d5 i (by omega)
      have gic : gi (mk 44 (G' i)) (c : Int) = ((N i c).val : Int) := by rw [gi_mkn (by omega), e' i (by omega) c (by omega), if_neg (by omega)]
      have next : ∀ (h2 : s_H) (G2 : Nat → Nat → Int) (t6 t7 t8 : Term), LR h2 H W σ G2 → FRw h h2 → (∀ n, n < H → ∀ t, t < 44 → G2 n t = (((if n < i + 1 then op2 N H r c n t else N n t) : zp_F).val : Int)) → wr sw_P (D + 1) sw_c126 sw_h126 (51, [.index 39, vi (r : Int), vi (c : Int), .index (σ r), vi (b.val : Int), vi ((i : Int) + 1), t6, t7, t8], [], h2, 0, 0) (fun out => ∃ h' G', LR h' H W σ G' ∧ (∀ i, i < H → ∀ j, j < 44 → G' i j = ((op2 N H r c i j).val : Int)) ∧ FRw h h' ∧ out = (.inl none, h', 0, 0)) := fun h2 G2 t6 t7 t8 L2 F2 e2 => ih (i + 1) h2 G2 t6 t7 t8 (by omega) L2 F2 e2
      have keep : (∀ t, t < 44 → op2 N H r c i t = N i t) → ∀ n, n < H → ∀ t, t < 44 → G' n t = (((if n < i + 1 then op2 N H r c n t else N n t) : zp_F).val : Int) := fun q n hn t ht => by
        rw [e' n hn t ht]
        by_cases w : n < i
        · rw [if_pos w, if_pos (by omega)]
        · rw [if_neg w]
          by_cases w2 : n = i
          · rw [if_pos (by omega), w2, q t ht]
          · rw [if_neg (by omega)]
      refine k126_51 (z5 := (H : Int)) d1 (fun q => absurd q (by omega)) (fun _ => ?_) (c7 := by unfold In3; omega) (c8 := by unfold In3; omega)
      refine k126_60 (v11 := .index (σ i)) (a17 := mk 44 (G' i)) d1 d2 q3 (fun q => ?_) (fun q => ?_) (n12 := by rw [show Int.toNat (i : Int) = i by omega]; exact d4 i (by omega)) (c14 := by unfold In3; omega) (c15 := by omega) (c19 := by rw [mk_len]; omega) (c20 := by omega) (c21 := by unfold In3; omega) (c22 := by unfold In3; omega)
      · exact k126_135 (next h' G' _ _ _ L' F' (keep (fun t _ => if_neg (fun w => w.2 (by omega)))))
      · rw [gic]
        refine k126_77 (fun q4 => ?_) (fun q4 => ?_) (c1 := by have := (N i c).isLt; unfold In3; omega)
        · have z0 : N i c = 0 := F_ext (by
            have : (N i c).val = 0 := by omega
            rw [this]
            rfl)
          refine k126_135 (next h' G' _ _ _ L' F' (keep (fun t _ => ?_)))
          show (if i < H ∧ i ≠ r then N i t - N i c * N r t else N i t) = N i t
          rw [if_pos ⟨by omega, by omega⟩, z0, df_0]
        · have f0 : N i c ≠ 0 := fun w => q4 (by rw [w]; rfl)
          refine k126_82 (v11 := .index (σ i)) d1 d2 ?_ (n12 := by rw [show Int.toNat (i : Int) = i by omega]; exact d4 i (by omega)) (c14 := by unfold In3; omega) (c15 := by omega)
          have inner : ∀ (p j : Nat) (h2 : s_H) (G2 : Nat → Nat → Int), c ≤ j → j + p = W → LR h2 H W σ G2 → FRw h h2 → (∀ n, n < H → ∀ t, t < 44 → G2 n t = (((if n < i ∨ (n = i ∧ t < j) then op2 N H r c n t else N n t) : zp_F).val : Int)) → wr sw_P (D + 1) sw_c126 sw_h126 (94, [.index 39, vi (r : Int), vi (c : Int), .index (σ r), vi (b.val : Int), vi (i : Int), vi ((N i c).val : Int), .index (σ i), vi (j : Int)], [], h2, 0, 0) (fun out => ∃ h' G', LR h' H W σ G' ∧ (∀ i, i < H → ∀ j, j < 44 → G' i j = ((op2 N H r c i j).val : Int)) ∧ FRw h h' ∧ out = (.inl none, h', 0, 0)) := by
            intro p
            induction p with
            | zero =>
              intro j h2 G2 cj hj L2 F2 e2
              refine k126_94 (z5 := (W : Int)) L2.1 (fun _ => k126_135 (next h2 G2 _ _ _ L2 F2 (fun n hn t ht => ?_))) (fun w => absurd (by omega) w) (c7 := by unfold In3; omega) (c8 := by unfold In3; omega)
              rw [e2 n hn t ht]
              by_cases w : n < i
              · rw [if_pos (.inl w), if_pos (by omega)]
              · by_cases w2 : n = i
                · rw [if_pos (show n < i + 1 by omega)]
                  by_cases w3 : t < j
                  · rw [if_pos (.inr ⟨w2, w3⟩)]
                  · rw [if_neg (by omega), w2]
                    have : op2 N H r c i t = N i t := by
                      show (if i < H ∧ i ≠ r then N i t - N i c * N r t else N i t) = N i t
                      rw [if_pos ⟨by omega, by omega⟩, nw t (by omega), df_1]
                    rw [this]
                · rw [if_neg (by omega), if_neg (by omega)]
            | succ p ih2 =>
              intro j h2 G2 cj hj L2 F2 e2
              obtain ⟨_, _, x5, _⟩ := id L2
              obtain ⟨_, _, x3⟩ := x5 i (by omega)
              obtain ⟨_, _, y3⟩ := x5 r (by omega)
              have g1 : gi (mk 44 (G2 i)) (j : Int) = ((N i j).val : Int) := by rw [gi_mkn (by omega), e2 i (by omega) j (by omega), if_neg (by omega)]
              have g2 : gi (mk 44 (G2 r)) (j : Int) = ((N r j).val : Int) := by
                rw [gi_mkn (by omega), e2 r rH j (by omega)]
                by_cases w : r < i ∨ (r = i ∧ j < j)
                · rw [if_pos w]
                  have : op2 N H r c r j = N r j := if_neg (fun w => w.2 rfl)
                  rw [this]
                · rw [if_neg w]
              refine k126_94 (z5 := (W : Int)) L2.1 (fun w => absurd w (by omega)) (fun _ => ?_) (c7 := by unfold In3; omega) (c8 := by unfold In3; omega)
              refine k126_103 (a3 := mk 44 (G2 i)) (a10 := mk 44 (G2 r)) x3 y3 ?_ (c5 := by rw [mk_len]; omega) (c6 := by omega) (c7 := by unfold In3; omega) (c12 := by rw [mk_len]; omega) (c13 := by rw [g1, g2]; exact in_df _ _ f0)
              rw [g1, g2, tm_df _ _ f0, mk_set, show Int.toNat (j : Int) = j by omega]
              obtain ⟨L3, _⟩ := LR_put L2 (i := i) (by omega) (fun t => if t = j then ((N i j - N i c * N r j : zp_F).val : Int) else G2 i t)
              refine ih2 (j + 1) _ _ (by omega) (by omega) L3 (FRw_trans F2 (LR_pR L2 (by omega) _)) (fun n hn t ht => ?_)
              show (if n = i then (fun t => if t = j then ((N i j - N i c * N r j : zp_F).val : Int) else G2 i t) else G2 n) t = _
              by_cases w : n = i
              · rw [if_pos w]
                show (if t = j then ((N i j - N i c * N r j : zp_F).val : Int) else G2 i t) = _
                by_cases w2 : t = j
                · rw [if_pos w2, if_pos (.inr ⟨w, by omega⟩), w, w2]
                  have : op2 N H r c i j = N i j - N i c * N r j := if_pos ⟨by omega, by omega⟩
                  rw [this]
                · rw [if_neg w2, e2 i (by omega) t ht, w]
                  by_cases w3 : t < j
                  · rw [if_pos (.inr ⟨rfl, w3⟩), if_pos (.inr ⟨rfl, by omega⟩)]
                  · rw [if_neg (by omega), if_neg (by omega)]
              · rw [if_neg w, e2 n hn t ht]
                by_cases w3 : n < i
                · rw [if_pos (.inl w3), if_pos (.inl w3)]
                · rw [if_neg (by omega), if_neg (by omega)]
          refine inner (W - c) c h' G' (Nat.le_refl _) (by omega) L' F' (fun n hn t ht => ?_)
          rw [e' n hn t ht]
          by_cases w : n < i
          · rw [if_pos w, if_pos (.inl w)]
          · rw [if_neg w]
            by_cases w2 : n = i ∧ t < c
            · rw [if_pos (.inr w2), w2.1]
              have : op2 N H r c i t = N i t := by
                show (if i < H ∧ i ≠ r then N i t - N i c * N r t else N i t) = N i t
                rw [if_pos ⟨by omega, by omega⟩, nl t w2.2, df_1]
              rw [this]
            · rw [if_neg (by omega)]
  -- the pivot's own row
  have first : ∀ (l j : Nat) (h' : s_H) (G' : Nat → Nat → Int) (t6 t7 t8 : Term), c ≤ j → j + l = W → LR h' H W σ G' → FRw h h' → (∀ n, n < H → ∀ t, t < 44 → G' n t = (((if n = r ∧ t < j then N r t else B n t) : zp_F).val : Int)) → wr sw_P (D + 1) sw_c126 sw_h126 (18, [.index 39, vi (r : Int), vi (c : Int), .index (σ r), vi (b.val : Int), vi (j : Int), t6, t7, t8], [], h', 0, 0) (fun out => ∃ h' G', LR h' H W σ G' ∧ (∀ i, i < H → ∀ j, j < 44 → G' i j = ((op2 N H r c i j).val : Int)) ∧ FRw h h' ∧ out = (.inl none, h', 0, 0)) := by
    intro l
    induction l with
    | zero =>
      intro j h' G' t6 t7 t8 cj hj L' F' e'
      refine k126_18 (z5 := (W : Int)) L'.1 (fun _ => k126_48 (third H 0 h' G' _ _ _ (by omega) L' F' (fun n hn t ht => ?_))) (fun w => absurd (by omega) w) (c7 := by unfold In3; omega) (c8 := by unfold In3; omega)
      rw [e' n hn t ht, if_neg (Nat.not_lt_zero n)]
      by_cases w : n = r
      · subst w
        by_cases w2 : t < j
        · rw [if_pos ⟨rfl, w2⟩]
        · rw [if_neg (fun q => w2 q.2), nw t (by omega), wz n hn t (by omega)]
      · rw [if_neg (fun q => w q.1), nO n t w]
    | succ l ih =>
      intro j h' G' t6 t7 t8 cj hj L' F' e'
      obtain ⟨_, _, x5, _⟩ := id L'
      obtain ⟨_, _, x3⟩ := x5 r (by omega)
      have g1 : gi (mk 44 (G' r)) (j : Int) = ((B r j).val : Int) := by rw [gi_mkn (by omega), e' r rH j (by omega), if_neg (by omega)]
      refine k126_18 (z5 := (W : Int)) L'.1 (fun w => absurd w (by omega)) (fun _ => ?_) (c7 := by unfold In3; omega) (c8 := by unfold In3; omega)
      refine k126_27 (a3 := mk 44 (G' r)) x3 ?_ (c5 := by rw [mk_len]; omega) (c6 := by omega) (c7 := by unfold In3; omega) (c8 := by rw [g1]; exact pr_In3 _ _)
      rw [g1, tm_pr, mk_set, show Int.toNat (j : Int) = j by omega]
      obtain ⟨L3, _⟩ := LR_put L' (i := r) (by omega) (fun t => if t = j then ((B r j * b : zp_F).val : Int) else G' r t)
      refine ih (j + 1) _ _ _ _ _ (by omega) (by omega) L3 (FRw_trans F' (LR_pR L' (by omega) _)) (fun n hn t ht => ?_)
      show (if n = r then (fun t => if t = j then ((B r j * b : zp_F).val : Int) else G' r t) else G' n) t = _
      by_cases w : n = r
      · rw [if_pos w]
        show (if t = j then ((B r j * b : zp_F).val : Int) else G' r t) = _
        by_cases w2 : t = j
        · rw [if_pos w2, if_pos ⟨w, by omega⟩, w2, nN]
        · rw [if_neg w2, e' r rH t ht, w]
          by_cases w3 : t < j
          · rw [if_pos ⟨rfl, w3⟩, if_pos ⟨rfl, by omega⟩]
          · rw [if_neg (by omega), if_neg (by omega)]
      · rw [if_neg w, e' n hn t ht, if_neg (fun q => w q.1), if_neg (fun q => w q.1)]
  refine first (W - c) c h G _ _ _ (Nat.le_refl _) (by omega) L ⟨rfl, fun _ _ => rfl⟩ (fun n hn t ht => ?_)
  rw [eG n hn t ht]
  by_cases w : n = r ∧ t < c
  · rw [if_pos w, w.1, nl t w.2, lz t w.2]
  · rw [if_neg w]
end
