/-! the class's table of numbers: the whole of it is cleared. swapR: what the machine is to do where two rows change places
(a row of rows is written to, which the machine of part 10 can't do yet); it is asked for, and to be shown when it can -/
def swapR (d : Nat) : Prop := ∀ (Q : s_O → Prop) (h : s_H) (r c k a b : Nat) (t4 : Term) (H W : Int) (lst la lb : List Term), s_get h 39 = some (1, 1, [.index 40, .index 105, .index 106, vi H, vi W]) → s_get h 40 = some (0, 4, lst) → lst.length = 64 → r < 64 → k < 64 → c < 64 → s_nth lst k = some (.index a) → s_nth lst r = some (.index b) → a ≠ 40 → b ≠ 40 → s_get h a = some (0, 0, la) → s_get h b = some (0, 0, lb) → wm sw_P d 126 [.index 39, vi (r : Int), vi (c : Int)] (hp (hp h 40 (0, 4, lst.set k (.index b))) 40 (0, 4, (lst.set k (.index b)).set r (.index a))) (wq sw_P d sw_c127 sw_h127 100 [.index 39, vi (r : Int), vi (c : Int), vi (k : Int), .index a] [] 0 0 Q) → wr sw_P d sw_c127 sw_h127 (66, [.index 39, vi (r : Int), vi (c : Int), vi (k : Int), t4], [], h, 0, 0) Q
def swp {α : Type} (f : Nat → α) (r k : Nat) : Nat → α := fun n => if n = r then f k else if n = k then f r else f n
theorem LR_swap {h : s_H} {H W : Nat} {σ : Nat → Nat} {G : Nat → Nat → Int} (L : LR h H W σ G) {r k : Nat} (r64 : r < 64) (k64 : k < 64) {lst : List Term} (gl : s_get h 40 = some (0, 4, lst)) (ln : lst.length = 64) (lg : ∀ i, i < 64 → s_nth lst i = some (.index (σ i))) : LR (hp (hp h 40 (0, 4, lst.set k (.index (σ r)))) 40 (0, 4, (lst.set k (.index (σ r))).set r (.index (σ k)))) H W (swp σ r k) (swp G r k) ∧ FLn h (hp (hp h 40 (0, 4, lst.set k (.index (σ r)))) 40 (0, 4, (lst.set k (.index (σ r))).set r (.index (σ k)))) ∧ ∀ j, j ≠ 40 → s_get (hp (hp h 40 (0, 4, lst.set k (.index (σ r)))) 40 (0, 4, (lst.set k (.index (σ r))).set r (.index (σ k)))) j = s_get h j := by
  obtain ⟨a1, _, a5, a6, a7, ⟨R, a8⟩, wt, a9⟩ := L
  have x1 := hp_at (cc := (0, 4, lst.set k (.index (σ r)))) gl
  have x2 := hp_at (cc := (0, 4, (lst.set k (.index (σ r))).set r (.index (σ k)))) x1
  have nn : ∀ j, j ≠ 40 → s_get (hp (hp h 40 (0, 4, lst.set k (.index (σ r)))) 40 (0, 4, (lst.set k (.index (σ r))).set r (.index (σ k)))) j = s_get h j := fun j hj => (hp_ne x1 hj).trans (hp_ne gl hj)
  have sb : ∀ i, i < 64 → ∃ i', i' < 64 ∧ swp σ r k i = σ i' ∧ swp G r k i = G i' ∧ ((i = r ∧ i' = k) ∨ (i ≠ r ∧ i = k ∧ i' = r) ∨ (i ≠ r ∧ i ≠ k ∧ i' = i)) := fun i hi2 => by
    unfold swp
    by_cases q : i = r
    · exact ⟨k, k64, by rw [if_pos q], by rw [if_pos q], .inl ⟨q, rfl⟩⟩
    · by_cases q2 : i = k
      · exact ⟨r, r64, by rw [if_neg q, if_pos q2], by rw [if_neg q, if_pos q2], .inr (.inl ⟨q, q2, rfl⟩)⟩
      · exact ⟨i, hi2, by rw [if_neg q, if_neg q2], by rw [if_neg q, if_neg q2], .inr (.inr ⟨q, q2, rfl⟩)⟩
  refine ⟨⟨(nn _ (by decide)).trans a1, ⟨_, x2, by rw [List.length_set, List.length_set]; exact ln, fun i hi2 => ?_⟩, fun i hi2 => ?_, fun i j hi2 hj e => ?_, a7, ⟨R, (nn _ (by decide)).trans a8⟩, wt, (nn _ (by decide)).trans a9⟩, ⟨rfl, fun j hj => nn j (by omega)⟩, nn⟩
  · rw [nth_set (by rw [List.length_set]; omega), nth_set (by omega)]
    unfold swp
    by_cases q : i = r
    · rw [if_pos q, if_pos q]
    · rw [if_neg q, if_neg q]
      by_cases q2 : i = k
      · rw [if_pos q2, if_pos q2]
      · rw [if_neg q2, if_neg q2]
        exact lg i hi2
  · obtain ⟨i', i1, e1, e2, _⟩ := sb i hi2
    rw [e1, e2]
    obtain ⟨s1, s2, s3⟩ := a5 i' i1
    exact ⟨s1, s2, (nn _ (by omega)).trans s3⟩
  · obtain ⟨i', i1, e1, _, e2⟩ := sb i hi2
    obtain ⟨j', j1, f1, _, f2⟩ := sb j hj
    rw [e1, f1] at e
    have ij := a6 i' j' i1 j1 e
    omega
theorem rr_z {M B : Nat → Nat → zp_F} {H c : Nat} {R : Nat → Int} (a : rr M B H c R) {n : Nat} (hn : n < H) (hp : pc R c ≤ n) {j : Nat} (hj : j < c) : B n j = 0 := by
  rcases a.2 j hj with ⟨_, q⟩ | ⟨q1, q2, _, q⟩
  · exact q n hn (Nat.le_trans (pc_le R (by omega)) hp)
  · have := pc_lt (R := R) (i := j) (j := c) hj (by rw [q1]; omega)
    exact q n hn (by omega)
theorem pc_n1 {R R' : Nat → Int} {c : Nat} (e : ∀ j, j < c → R' j = R j) (e1 : R' c = -1) : pc R' (c + 1) = pc R c := by
  show pc R' c + (if R' c = -1 then 0 else 1) = _
  rw [if_pos e1, pc_congr e]
  rfl
theorem pc_n2 {R R' : Nat → Int} {c : Nat} (e : ∀ j, j < c → R' j = R j) (e1 : R' c ≠ -1) : pc R' (c + 1) = pc R c + 1 := by
  show pc R' c + (if R' c = -1 then 0 else 1) = _
  rw [if_neg e1, pc_congr e]
theorem pc_s (R : Nat → Int) (j : Nat) : pc R (j + 1) = pc R j + (if R j = -1 then 0 else 1) := rfl
section
variable {D : Nat} {h : s_H}
theorem u_eliminate (sr : swapR (D + 2)) {H W : Nat} {M : Nat → Nat → zp_F} (L : LM h H W M) (wz : ∀ n, n < H → ∀ j, W ≤ j → M n j = 0) : wm sw_P (D + 3) 127 [.index 39] h (fun out => ∃ h' B R σ G, LR h' H W σ G ∧ (∀ i, i < H → ∀ j, j < 44 → G i j = ((B i j).val : Int)) ∧ rr M B H W R ∧ s_get h' 105 = some (ai 44 R) ∧ (∀ n, n < H → ∀ j, W ≤ j → B n j = 0) ∧ FLn h h' ∧ out = (.inl none, h', 0, 0)) := by
  refine wm_in (cd := sw_c127) (nL := 5) (hd := sw_h127) rfl rfl ?_
  obtain ⟨σ0, G0, L0, e0⟩ := L
  obtain ⟨_, _, _, _, ⟨H64, W44⟩, ⟨R0, g50⟩, _⟩ := id L0
  refine k127_0 ?_
  have main : ∀ (l c : Nat) (h' : s_H) (t3 t4 : Term) (B : Nat → Nat → zp_F) (R : Nat → Int) (σ : Nat → Nat) (G : Nat → Nat → Int), c + l = W → LR h' H W σ G → (∀ i, i < H → ∀ j, j < 44 → G i j = ((B i j).val : Int)) → rr M B H c R → pc R c ≤ H → s_get h' 105 = some (ai 44 R) → (∀ n, n < H → ∀ j, W ≤ j → B n j = 0) → FLn h h' → wr sw_P (D + 2) sw_c127 sw_h127 (4, [.index 39, vi (pc R c : Int), vi (c : Int), t3, t4], [], h', 0, 0) (fun out => ∃ h' B R σ G, LR h' H W σ G ∧ (∀ i, i < H → ∀ j, j < 44 → G i j = ((B i j).val : Int)) ∧ rr M B H W R ∧ s_get h' 105 = some (ai 44 R) ∧ (∀ n, n < H → ∀ j, W ≤ j → B n j = 0) ∧ FLn h h' ∧ out = (.inl none, h', 0, 0)) := by
    intro l
    induction l with
    | zero =>
      intro c h' t3 t4 B R σ G hc L' eG a pH g5 wz' F'
      have ec : c = W := by omega
      rw [ec] at a
      exact k127_4 (z5 := (W : Int)) L'.1 (fun _ => k127_109 ⟨h', B, R, σ, G, L', eG, a, g5, wz', F', rfl⟩) (fun w => absurd (by omega) w) (c7 := by unfold In3; omega) (c8 := by unfold In3; omega)
    | succ l ih =>
      intro c h' t3 t4 B R σ G hc L' eG a pH g5 wz' F'
      obtain ⟨b1, ⟨lst, b2, b3, b4⟩, b5, b6, _⟩ := id L'
      refine k127_4 (z5 := (W : Int)) b1 (fun w => absurd w (by omega)) (fun _ => k127_12 ?_) (c7 := by unfold In3; omega) (c8 := by unfold In3; omega)
      -- behind the search
      have found : ∀ (k : Nat) (t4 : Term), pc R c ≤ k → k ≤ H → (∀ n, n < k → pc R c ≤ n → B n c = 0) → (k < H → B k c ≠ 0) → wr sw_P (D + 2) sw_c127 sw_h127 (39, [.index 39, vi (pc R c : Int), vi (c : Int), vi (k : Int), t4], [], h', 0, 0) (fun out => ∃ h' B R σ G, LR h' H W σ G ∧ (∀ i, i < H → ∀ j, j < 44 → G i j = ((B i j).val : Int)) ∧ rr M B H W R ∧ s_get h' 105 = some (ai 44 R) ∧ (∀ n, n < H → ∀ j, W ≤ j → B n j = 0) ∧ FLn h h' ∧ out = (.inl none, h', 0, 0)) := fun k t4 pk kH zs' nz => by
        refine k127_39 (z7 := (H : Int)) b1 (fun w => k127_56 ?_) (fun w => k127_52 ?_) (c9 := by unfold In3; omega) (c10 := by unfold In3; omega)
        · obtain ⟨L2, F2, n2, g2⟩ := LR_5 L' (R := fun t => if t = c then -1 else R t)
          refine k127_57 (a2 := mk 44 R) (z12 := (H : Int)) g5 (f10 := [.index 40, .index 105, .index 106, vi (H : Int), vi (W : Int)]) (by rw [mk_set, show Int.toNat (c : Int) = c by omega]; exact L2.1) (fun _ => ?_) (fun w2 => absurd w w2) (c4 := by rw [mk_len]; omega) (c5 := by omega) (c6 := by unfold In3; omega) (c14 := by unfold In3; omega) (c15 := by unfold In3; omega)
          rw [mk_set, show Int.toNat (c : Int) = c by omega]
          have ea : ∀ j, j < c → (fun t => if t = c then (-1 : Int) else R t) j = R j := fun j hj => if_neg (by omega)
          have e1 : (fun t => if t = c then (-1 : Int) else R t) c = -1 := if_pos rfl
          have a2 := rr_free a ea e1 (fun n hn hp2 => zs' n (by omega) hp2)
          have ep : pc (fun t => if t = c then (-1 : Int) else R t) (c + 1) = pc R c := pc_n1 ea e1
          have q := ih (c + 1) _ (vi (k : Int)) t4 B _ σ G (by omega) L2 eG a2 (by rw [ep]; exact pH) g2 wz' (FLn_trans F' F2)
          rw [ep] at q
          exact k127_103 q
        · have kH' : k < H := by omega
          have nz' := nz kH'
          obtain ⟨L2, F2, n2, g2⟩ := LR_5 L' (R := fun t => if t = c then (pc R c : Int) else R t)
          refine k127_57 (a2 := mk 44 R) (z12 := (H : Int)) g5 (f10 := [.index 40, .index 105, .index 106, vi (H : Int), vi (W : Int)]) (by rw [mk_set, show Int.toNat (c : Int) = c by omega]; exact L2.1) (fun w2 => absurd w2 w) (fun _ => ?_) (c4 := by rw [mk_len]; omega) (c5 := by omega) (c6 := by unfold In3; omega) (c14 := by unfold In3; omega) (c15 := by unfold In3; omega)
          rw [mk_set, show Int.toNat (c : Int) = c by omega]
          obtain ⟨s1, s2, s3⟩ := L2.2.2.1 k (by omega)
          obtain ⟨t1, t2, t3'⟩ := L2.2.2.1 (pc R c) (by omega)
          have gl2 := (n2 40 (by decide)).trans b2
          refine sr _ _ (pc R c) c k (σ k) (σ (pc R c)) t4 H W lst _ _ L2.1 gl2 b3 (by omega) (by omega) (by omega) (b4 k (by omega)) (b4 _ (by omega)) (by omega) (by omega) s3 t3' ?_
          obtain ⟨L3, F3, n3⟩ := LR_swap L2 (r := pc R c) (k := k) (by omega) (by omega) gl2 b3 b4
          have g53 := (n3 105 (by decide)).trans g2
          have eG3 : ∀ i, i < H → ∀ j, j < 44 → swp G (pc R c) k i j = ((swp B (pc R c) k i j).val : Int) := fun i hi2 j hj => by
            unfold swp
            by_cases q : i = pc R c
            · rw [if_pos q, if_pos q]
              exact eG k (by omega) j hj
            · rw [if_neg q, if_neg q]
              by_cases q2 : i = k
              · rw [if_pos q2, if_pos q2]
                exact eG _ (by omega) j hj
              · rw [if_neg q2, if_neg q2]
                exact eG i hi2 j hj
          have br : ∀ j, swp B (pc R c) k (pc R c) j = B k j := fun j => by
            unfold swp
            rw [if_pos rfl]
          have wz3 : ∀ n, n < H → ∀ j, W ≤ j → swp B (pc R c) k n j = 0 := fun n hn j hj => by
            unfold swp
            by_cases q : n = pc R c
            · rw [if_pos q]
              exact wz' k (by omega) j hj
            · rw [if_neg q]
              by_cases q2 : n = k
              · rw [if_pos q2]
                exact wz' _ (by omega) j hj
              · rw [if_neg q2]
                exact wz' n hn j hj
          refine wm_mono (fun out => ?_) (u_clearColumn L3 eG3 (r := pc R c) (c := c) (by omega) (by omega) (fun j hj => by rw [br]; exact rr_z a (by omega) pk hj) wz3)
          intro ⟨h4, G4, L4, e4, F4, eo⟩
          rw [eo]
          have eo1 : op1 (swp B (pc R c) k) (pc R c) (pc R c) (swp B (pc R c) k (pc R c) c ^ 32001) = op1 B k (pc R c) (B k c ^ 32001) := by
            rw [br]
            funext n i
            unfold op1 swp
            by_cases q : n = pc R c
            · rw [if_pos q, if_pos q, if_pos rfl]
            · rw [if_neg q, if_neg q, if_neg q, if_neg q]
              by_cases q2 : n = k
              · rw [if_pos q2, if_pos q2]
              · rw [if_neg q2, if_neg q2]
          rw [eo1] at e4
          have ea : ∀ j, j < c → (fun t => if t = c then (pc R c : Int) else R t) j = R j := fun j hj => if_neg (by omega)
          have e1 : (fun t => if t = c then (pc R c : Int) else R t) c = (pc R c : Int) := if_pos rfl
          have a4 := rr_piv a ea rfl e1 kH' pk nz'
          have ep : pc (fun t => if t = c then (pc R c : Int) else R t) (c + 1) = pc R c + 1 := pc_n2 ea (fun w => by have := e1.symm.trans w; omega)
          have wz4 : ∀ n, n < H → ∀ j, W ≤ j → op2 (op1 B k (pc R c) (B k c ^ 32001)) H (pc R c) c n j = 0 := fun n hn j hj => by
            have o1 : ∀ n, n < H → op1 B k (pc R c) (B k c ^ 32001) n j = 0 := fun n hn => by
              unfold op1
              by_cases q : n = pc R c
              · rw [if_pos q, wz' k kH' j hj, zm_0]
              · rw [if_neg q]
                by_cases q2 : n = k
                · rw [if_pos q2]
                  exact wz' _ (by omega) j hj
                · rw [if_neg q2]
                  exact wz' n hn j hj
            unfold op2
            by_cases q : n < H ∧ n ≠ pc R c
            · rw [if_pos q, o1 n hn, o1 (pc R c) (by omega), df_1]
            · rw [if_neg q]
              exact o1 n hn
          have q := ih (c + 1) h4 (vi (k : Int)) (.index (σ k)) _ _ _ G4 (by omega) L4 e4 a4 (by rw [ep]; omega) ((F4.2 105 (.inr (by decide))).trans g53) wz4 (FLn_trans F' (FLn_trans F2 (FLn_trans F3 (FRw_L F4))))
          rw [ep] at q
          exact k127_100 (k127_103 q)
      have search : ∀ (p k : Nat) (t4 : Term), k + p = H → pc R c ≤ k → (∀ n, n < k → pc R c ≤ n → B n c = 0) → wr sw_P (D + 2) sw_c127 sw_h127 (14, [.index 39, vi (pc R c : Int), vi (c : Int), vi (k : Int), t4], [], h', 0, 0) (fun out => ∃ h' B R σ G, LR h' H W σ G ∧ (∀ i, i < H → ∀ j, j < 44 → G i j = ((B i j).val : Int)) ∧ rr M B H W R ∧ s_get h' 105 = some (ai 44 R) ∧ (∀ n, n < H → ∀ j, W ≤ j → B n j = 0) ∧ FLn h h' ∧ out = (.inl none, h', 0, 0)) := by
        intro p
        induction p with
        | zero =>
          intro k t4 hk pk zs'
          exact k127_14 (z5 := (H : Int)) b1 (fun _ => found k t4 pk (by omega) zs' (fun w => absurd w (by omega))) (fun w => absurd (by omega) w) (c7 := by unfold In3; omega) (c8 := by unfold In3; omega)
        | succ p ih2 =>
          intro k t4 hk pk zs'
          obtain ⟨s1, s2, s3⟩ := b5 k (by omega)
          have gk : gi (mk 44 (G k)) (c : Int) = ((B k c).val : Int) := by rw [gi_mkn (by omega)]; exact eG k (by omega) c (by omega)
          have lk := (B k c).isLt
          refine k127_14 (z5 := (H : Int)) b1 (fun w => absurd w (by omega)) (fun _ => ?_) (c7 := by unfold In3; omega) (c8 := by unfold In3; omega)
          refine k127_22 (v11 := .index (σ k)) (a17 := mk 44 (G k)) b1 b2 s3 (fun w => found k t4 pk (by omega) zs' (fun _ q => w (by rw [gk, q]; rfl))) (fun w => k127_33 (ih2 (k + 1) t4 (by omega) (by omega) (fun n hn pn => ?_))) (n12 := by rw [show Int.toNat (k : Int) = k by omega]; exact b4 k (by omega)) (c14 := by unfold In3; omega) (c15 := by omega) (c19 := by rw [mk_len]; omega) (c20 := by omega) (c21 := by unfold In3; omega) (c22 := by rw [gk]; unfold In3; omega)
          rw [gk] at w
          by_cases q : n = k
          · rw [q]
            exact F_ext (by
              have : (B k c).val = 0 := by omega
              rw [this]
              rfl)
          · exact zs' n (by omega) pn
      exact search (H - pc R c) (pc R c) t4 (by omega) (Nat.le_refl _) (fun n hn pn => absurd hn (by omega))
  exact main W 0 h _ _ M R0 σ0 G0 (by omega) L0 e0 (rr_0 M H R0) (Nat.zero_le _) g50 wz (FLn_refl h)
end
