/-! the reference's bringOut: one column of the wide table -/
/-- the wide table's rows of 24, 22 of them spoken of -/
def wlr (B : Nat → Nat → Int) (M : Nat → Nat → zp_F) : Prop := ∀ n i, n < 80 → i < 22 → B 1326 (24 * n + i) = ((M n i).val : Int)
theorem wlr_put {B : Nat → Nat → Int} {M : Nat → Nat → zp_F} (h : wlr B M) {n i : Nat} (hi2 : i < 22) (z : zp_F) {t0 : Nat} (ht : t0 = 24 * n + i) {x : Int} (hx : x = (z.val : Int)) : wlr (up B 1326 (fun t => if t = t0 then x else B 1326 t)) (put1 M n i z) := fun a e ha he => by
  rw [up_at]
  show (if 24 * a + e = t0 then x else B 1326 (24 * a + e)) = ((if a = n ∧ e = i then z else M a e : zp_F).val : Int)
  by_cases q : a = n ∧ e = i
  · rw [if_pos q, if_pos (by omega), hx]
  · rw [if_neg q, if_neg (by omega), h a e ha he]
theorem wlr_gi {B : Nat → Nat → Int} {M : Nat → Nat → zp_F} (h : wlr B M) {n i : Nat} (hn : n < 80) (hi2 : i < 22) {x : Int} (hx : x = 24 * (n : Int) + i) : gi (mk 1920 (B 1326)) x = ((M n i).val : Int) := by
  rw [show x = ((24 * n + i : Nat) : Int) by omega, gi_mkn (by omega)]
  exact h n i hn hi2
theorem wlr_cg {B : Nat → Nat → Int} {M N : Nat → Nat → zp_F} (h : wlr B M) (e : ∀ n i, n < 80 → i < 22 → N n i = M n i) : wlr B N := fun n i hn hi2 => by rw [e n i hn hi2]; exact h n i hn hi2
section
variable {d : Nat} {h : s_H} {s : Nat → Int} {A : Nat → Nat → Int}
theorem brg_swap {x3 : Int} {M : Nat → Nat → zp_F} {k r : Nat} (hk : k < 80) (hr : r < 80) {b : zp_F} {Q : s_O → Prop} (K : ∀ (B : Nat → Nat → Int) (h' : s_H) (t5 t7 t8 t9 : Term), RV h' s B → FR h h' → (∀ x, x ≠ 1326 → B x = A x) → wlr B (op1 M k r b) → wr sw_P d sw_c410 sw_h410 (91, [.index 1290, vi (k : Int), vi (r : Int), vi x3, vl (b.val : Int), t5, vi 22, t7, t8, t9], [], h', 0, 0) Q) : ∀ (l i : Nat) (B : Nat → Nat → Int) (h' : s_H) (t5 t7 t8 t9 : Term), i + l = 22 → RV h' s B → FR h h' → (∀ x, x ≠ 1326 → B x = A x) → wlr B (mix M (op1 M k r b) i) → wr sw_P d sw_c410 sw_h410 (19, [.index 1290, vi (k : Int), vi (r : Int), vi x3, vl (b.val : Int), t5, vi (i : Int), t7, t8, t9], [], h', 0, 0) Q := by
  intro l
  induction l with
  | zero =>
    intro i B h' t5 t7 t8 t9 hi2 v rr' o g
    have i22 : i = 22 := by omega
    subst i22
    exact k410_19 (fun _ => K B h' t5 t7 t8 t9 v rr' o (wlr_cg g (fun n i _ hi3 => (if_pos hi3).symm))) (fun w => absurd (by decide) w) (c1 := by decide)
  | succ l ih =>
    intro i B h' t5 t7 t8 t9 hi2 v rr' o g
    have mlt : ∀ n, mix M (op1 M k r b) i n i = M n i := fun n => if_neg (Nat.lt_irrefl i)
    have g1 : gi (mk 1920 (B 1326)) (24 * (k : Int) + i) = ((M k i).val : Int) := by rw [wlr_gi g hk (by omega) rfl, mlt]
    have g2 : gi (mk 1920 (B 1326)) (24 * (r : Int) + i) = ((M r i).val : Int) := by rw [wlr_gi g hr (by omega) rfl, mlt]
    refine k410_19 (fun w => absurd w (by omega)) (fun _ => ?_) (c1 := by unfold In3; omega)
    refine k410_26 v.1 (Ra_wide v) ((hp_ne (Ra_wide v) (by decide)).trans v.1) (hp_at (Ra_wide v)) ?_ (c10 := by rw [mk_len]; omega) (c11 := by omega) (c12 := by unfold In3; omega) (c13 := by rw [g1]; exact in_mul _ _) (c14 := by rw [mk_len]; omega) (c15 := by omega) (c16 := by unfold In3; omega) (c25 := by rw [List.length_set, mk_len]; omega)
    rw [g1, g2, tm_mul, mk_set, mk_set]
    have e1 := wlr_put g (n := k) (i := i) (by omega) (M r i) (t0 := (24 * (k : Int) + i).toNat) (by omega) rfl
    have v1 := Rp_wide v (fun t => if t = (24 * (k : Int) + i).toNat then ((M r i).val : Int) else B 1326 t)
    have e2 := wlr_put e1 (n := r) (i := i) (by omega) (M k i * b) (t0 := (24 * (r : Int) + i).toNat) (by omega) rfl
    rw [mix_put2, up_at] at e2
    have v2 := Rp_wide v1 (fun t => if t = (24 * (r : Int) + i).toNat then ((M k i * b : zp_F).val : Int) else if t = (24 * (k : Int) + i).toNat then ((M r i).val : Int) else B 1326 t)
    exact ih (i + 1) _ _ _ _ _ _ (by omega) v2 (FR_trans rr' (FR_trans (FR_put v (c := 1326) (by decide) (by decide) _) (FR_put v1 (c := 1326) (by decide) (by decide) _))) (fun x hx => by rw [up_ne _ _ hx, up_ne _ _ hx, o x hx]) e2
theorem brg_row {x1 x3 x4 : Int} {M : Nat → Nat → zp_F} {n r : Nat} (hn : n < 80) (hr : r < 80) {z : zp_F} (nz : z ≠ 0 → n ≠ r) {t5 : Term} {Q : s_O → Prop} (K : ∀ (B : Nat → Nat → Int) (h' : s_H) (t8 : Term) (u : Int), RV h' s B → FR h h' → (∀ x, x ≠ 1326 → B x = A x) → wlr B (rowop M n r z) → wr sw_P (d + 1) sw_c410 sw_h410 (193, [.index 1290, vi x1, vi (r : Int), vi x3, vl x4, t5, vi (n : Int), vl (z.val : Int), t8, vi u], [], h', 0, 0) Q) : ∀ (l i : Nat) (B : Nat → Nat → Int) (h' : s_H) (t8 : Term), i + l = 22 → RV h' s B → FR h h' → (∀ x, x ≠ 1326 → B x = A x) → wlr B (mix M (rowop M n r z) i) → wr sw_P (d + 1) sw_c410 sw_h410 (128, [.index 1290, vi x1, vi (r : Int), vi x3, vl x4, t5, vi (n : Int), vl (z.val : Int), t8, vi (i : Int)], [], h', 0, 0) Q := by
  have zl := z.isLt
  intro l
  induction l with
  | zero =>
    intro i B h' t8 hi2 v rr' o g
    have i22 : i = 22 := by omega
    subst i22
    exact k410_128 (fun _ => K B h' t8 _ v rr' o (wlr_cg g (fun n i _ hi3 => (if_pos hi3).symm))) (fun w => absurd (by decide) w) (c1 := by decide)
  | succ l ih =>
    intro i B h' t8 hi2 v rr' o g
    refine k410_128 (fun w => absurd w (by omega)) (fun _ => ?_) (c1 := by unfold In3; omega)
    refine k410_135 (fun w => ?_) (fun w => ?_) (c1 := in6_of (by omega) (by omega))
    · have z0 : z = 0 := F_ext (by show (z.val : Int) = 0; omega)
      refine K B h' t8 _ v rr' o (wlr_cg g (fun n' i' _ _ => ?_))
      rw [z0, row_0]
      unfold mix
      split <;> rfl
    · have mlt : ∀ n', mix M (rowop M n r z) i n' i = M n' i := fun n' => if_neg (Nat.lt_irrefl i)
      have g1 : gi (mk 1920 (B 1326)) (24 * (n : Int) + i) = ((M n i).val : Int) := by rw [wlr_gi g hn (by omega) rfl, mlt]
      have g2 : gi (mk 1920 (B 1326)) (24 * (r : Int) + i) = ((M r i).val : Int) := by rw [wlr_gi g hr (by omega) rfl, mlt]
      refine k410_142 v.1 (Ra_wide v) (wm_mono (wq_r ?_) (t_modulo (by rw [g1, g2]; exact in_dif _ _ _))) (c10 := by rw [mk_len]; omega) (c11 := by omega) (c12 := by unfold In3; omega) (c13 := by rw [mk_len]; omega) (c14 := by omega) (c15 := by unfold In3; omega)
      rw [g1, g2, md_dif]
      refine k410_186 (Ra_wide v) ?_ (c4 := by rw [mk_len]; omega) (c5 := by omega) (c6 := by unfold In3; omega)
      have e1 := wlr_put g (n := n) (i := i) (by omega) (M n i - z * M r i) (t0 := (24 * (n : Int) + i).toNat) (by omega) rfl
      rw [mix_put] at e1
      rw [mk_set]
      exact ih (i + 1) _ _ _ (by omega) (Rp_wide v _) (FR_trans rr' (FR_put v (c := 1326) (by decide) (by decide) _)) (fun x hx => by rw [up_ne _ _ hx, o x hx]) e1
theorem V_bringOut (hv : RV h s A) {M : Nat → Nat → zp_F} (hM : wlr A M) {k r c : Nat} (hk : k < 80) (hr : r < 80) (hc : c < 22) : wm sw_P (d + 3) 410 [.index 1290, vi (k : Int), vi (r : Int), vi (c : Int)] h (RN h (fun s' A' => s' = s ∧ (∀ x, x ≠ 1326 → A' x = A x) ∧ wlr A' (op2 (op1 M k r (M k c ^ 32001)) 80 r c))) := by
  refine wm_in (cd := sw_c410) (nL := 10) (hd := sw_h410) rfl rfl ?_
  have g1 : gi (mk 1920 (A 1326)) (24 * (k : Int) + c) = ((M k c).val : Int) := wlr_gi hM hk hc rfl
  have b1 := F_bd (M k c)
  refine k410_0 hv.1 (Ra_wide hv) (wm_mono (wq_r ?_) (t_inverse (by rw [g1]; exact in6_of (by omega) (by omega)))) (c10 := by rw [mk_len]; omega) (c11 := by omega) (c12 := by unfold In3; omega)
  rw [g1, nF_val]
  generalize M k c ^ 32001 = b
  refine k410_14 ?_
  refine brg_swap (d := d + 2) (h := h) (s := s) (A := A) (M := M) (k := k) (r := r) hk hr (b := b) (fun B h1 t5 t7 t8 t9 v1 r1 o1 g => ?_) 22 0 A h _ _ _ _ (Nat.zero_add 22) hv (FR_refl h) (fun _ _ => rfl) (wlr_cg hM (fun n i _ _ => if_neg (Nat.not_lt_zero i)))
  generalize op1 M k r b = N at g
  refine k410_91 ?_
  have rows : ∀ (l m : Nat) (C : Nat → Nat → Int) (h' : s_H) (t5 t7 t8 t9 : Term), m + l = 80 → RV h' s C → FR h h' → (∀ x, x ≠ 1326 → C x = A x) → wlr C (mixr N (op2 N 80 r c) m) → wr sw_P (d + 2) sw_c410 sw_h410 (94, [.index 1290, vi (k : Int), vi (r : Int), vi (c : Int), vl (b.val : Int), t5, vi (m : Int), t7, t8, t9], [], h', 0, 0) (RN h (fun s' A' => s' = s ∧ (∀ x, x ≠ 1326 → A' x = A x) ∧ wlr A' (op2 N 80 r c))) := by
    intro l
    induction l with
    | zero =>
      intro m C h' t5 t7 t8 t9 hm v r' o g
      have m80 : m = 80 := by omega
      subst m80
      exact k410_94 (fun _ => k410_199 ⟨h', s, C, v, r', ⟨rfl, o, wlr_cg g (fun n i hn _ => (if_pos hn).symm)⟩, rfl⟩) (fun w => absurd (by decide) w) (c1 := by decide)
    | succ l ih =>
      intro m C h' t5 t7 t8 t9 hm v r' o g
      refine k410_94 (fun w => absurd w (by omega)) (fun _ => ?_) (c1 := by unfold In3; omega)
      have body : ∀ (t7 t8 t9 : Term) (z : zp_F), z = (if m = r then 0 else N m c) → wr sw_P (d + 2) sw_c410 sw_h410 (123, [.index 1290, vi (k : Int), vi (r : Int), vi (c : Int), vl (b.val : Int), t5, vi (m : Int), t7, t8, t9], [vl (z.val : Int)], h', 0, 0) (RN h (fun s' A' => s' = s ∧ (∀ x, x ≠ 1326 → A' x = A x) ∧ wlr A' (op2 N 80 r c))) := by
        intro t7 t8 t9 z ez
        refine k410_123 ?_
        refine brg_row (d := d + 1) (h := h) (s := s) (A := A) (M := mixr N (op2 N 80 r c) m) (n := m) (r := r) (z := z) (by omega) hr (fun w q => w (by rw [ez, if_pos q])) (fun C2 h2 t8' u v2 r2 o2 g2 => ?_) 22 0 C h' _ (Nat.zero_add 22) v r' o (wlr_cg g (fun n i _ _ => if_neg (Nat.not_lt_zero i)))
        refine k410_193 ?_
        rw [ez, mixr_s (by omega)] at g2
        exact ih (m + 1) _ h2 _ _ _ _ (by omega) v2 r2 o2 g2
      refine k410_101 (fun w => ?_) (fun w => ?_) (c1 := by unfold In3; omega) (c2 := by unfold In3; omega)
      · have g3 : gi (mk 1920 (C 1326)) (24 * (m : Int) + c) = ((N m c).val : Int) := by
          rw [wlr_gi g (n := m) (i := c) (by omega) hc rfl]
          show ((if m < m then op2 N 80 r c m c else N m c : zp_F).val : Int) = _
          rw [if_neg (Nat.lt_irrefl m)]
        refine k410_111 v.1 (Ra_wide v) ?_ (c10 := by rw [mk_len]; omega) (c11 := by omega) (c12 := by unfold In3; omega)
        rw [g3]
        exact body _ _ _ _ (if_neg (by omega)).symm
      · exact k410_107 (body _ _ _ 0 (if_pos (by omega)).symm)
  exact rows 80 0 B h1 _ _ _ _ (Nat.zero_add 80) v1 r1 o1 (wlr_cg g (fun n i _ _ => if_neg (Nat.not_lt_zero n)))
end
