/-! the reference's workTree -/
/-- how many of the first nodes stand over node i -/
noncomputable def dpc (g : Nat → nod) : Nat → Nat → Nat
  | 0, _ => 0
  | k + 1, i => dpc g k i + (if k < i ∧ i < k + siz g k then 1 else 0)
/-- a node's place where the parts come ahead of the whole -/
noncomputable def pso (g : Nat → nod) (N n : Nat) : Int := (n : Int) + siz g n - 1 - dpc g N n
/-- what a node fails with, and its worth, out of its parts' -/
def wok (g : Nat → nod) (R : Nat → Int) (F D : Nat → zp_R) (j : Nat) : Prop := ((npa (g j).1 = 0 ∨ (R (j + 1) = 0 ∧ (npa (g j).1 ≠ 2 ∨ R (snd_ g j) = 0))) → wnd (g j) (F (j + 1)) (D (j + 1)) (F (snd_ g j)) (D (snd_ g j)) (R j) (F j) (D j) ∧ (R j = 0 ∨ R j = 3 ∨ R j = 4)) ∧ (¬ (npa (g j).1 = 0 ∨ (R (j + 1) = 0 ∧ (npa (g j).1 ≠ 2 ∨ R (snd_ g j) = 0))) → R j = 1)
/-- the first that fails of those from q on -/
def bst (g : Nat → nod) (N : Nat) (R : Nat → Int) (q : Nat) (f p : Int) : Prop := (f = 0 ∧ p = N ∧ ∀ j, q ≤ j → j < N → R j ≤ 1) ∨ ∃ j, q ≤ j ∧ j < N ∧ 1 < R j ∧ f = R j ∧ p = pso g N j ∧ ∀ i, q ≤ i → i < N → 1 < R i → pso g N j ≤ pso g N i
def wkL : List Nat := scr ++ [1361, 1362, 1363, 1364]
/-- the nodes from q on are worked -/
def wkI_ (A : Nat → Nat → Int) (N : Nat) (B : Nat → Nat → Int) (R : Nat → Int) (F D : Nat → zp_R) (q : Nat) : Prop := sm A B wkL ∧ (∀ i, i < N → B 1363 i = dpc (gr A 1352 1353) N i) ∧ (∀ j, q ≤ j → j < N → wok (gr A 1352 1353) R F D j ∧ (0 ≤ R j ∧ R j ≤ 4) ∧ B 1364 j = R j ∧ (R j = 0 → fp B 1361 j = cf (F j) ∧ fp B 1362 j = cf (D j) ∧ frt (F j) (D j))) ∧ (q < N → R q = 0 → B 1302 = cf (F q) ∧ B 1303 = cf (D q))
theorem siz_in {g : Nat → nod} {N k : Nat} (C : ctx g N) (hk : k < N) : wlk (pce g k (siz g k)) 1 0 ∧ k + siz g k ≤ N ∧ 0 < siz g k := by
  obtain ⟨m, nm, hm⟩ := sub_ex C.1 hk
  rw [siz_eq hm]
  have := wlk_ne hm
  rw [pce_len] at this
  exact ⟨hm, nm, this⟩
theorem wnd_up {x : nod} {a b c e a' b' c' e' : zp_R} {f : Int} {N D : zp_R} (h : wnd x a b c e f N D) (h0 : 0 ≤ x.1 ∧ x.1 ≤ 7) (h1 : npa x.1 ≠ 0 → a' = a ∧ b' = b) (h2 : npa x.1 = 2 → c' = c ∧ e' = e) : wnd x a' b' c' e' f N D := by
  obtain ⟨p0, p1, p2⟩ := npa_s h0
  by_cases w : npa x.1 = 2
  · obtain ⟨e1, e2⟩ := h1 (by omega)
    obtain ⟨e3, e4⟩ := h2 w
    rw [e1, e2, e3, e4]
    exact h
  · have n4 : ¬ ((2 ≤ x.1 ∧ x.1 ≤ 4) ∨ x.1 = 5) := fun y => w (p2 (by omega))
    by_cases w0 : npa x.1 = 0
    · have n67 : ¬ (x.1 = 6 ∨ x.1 = 7) := fun y => by
        have := p1 y
        omega
      obtain ⟨y0, y1, _⟩ := h
      exact ⟨y0, y1, fun y => absurd (.inr y) n67, fun y => absurd (.inl y) n67, fun y => absurd (.inr y.1) n4, fun y => absurd (y.elim .inl (fun z => .inr z.1)) n4⟩
    · obtain ⟨e1, e2⟩ := h1 w0
      rw [e1, e2]
      obtain ⟨y0, y1, y7, y6, _⟩ := h
      exact ⟨y0, y1, y7, y6, fun y => absurd (.inr y.1) n4, fun y => absurd (y.elim .inl (fun z => .inr z.1)) n4⟩
section
variable {d : Nat} {h : s_H} {s : Nat → Int} {A : Nat → Nat → Int}
/-- how deep every node lies -/
theorem W_deep {N : Nat} (C : ctx (gr A 1352 1353) N) (hv : RV h s A) (e82 : s 82 = (N : Int)) {Q : s_O → Prop} {t1 t2 t3 t4 t5 t6 : Term} (k : ∀ (B : Nat → Nat → Int) (h' : s_H) (x1 : Int) (t2 t3 : Term), RV h' s B → FR h h' → (∀ x, x ≠ 1363 → B x = A x) → (∀ i, i < N → B 1363 i = dpc (gr A 1352 1353) N i) → wr sw_P (d + 3) sw_c618 sw_h618 (70, [.index 1290, vi x1, t2, t3, t4, t5, t6], [], h', 0, 0) Q) : wr sw_P (d + 3) sw_c618 sw_h618 (0, [.index 1290, t1, t2, t3, t4, t5, t6], [], h, 0, 0) Q := by
  have n200 := C.2.2
  have rd82 : s_nth (rF s) 82 = some (vi (N : Int)) := by
    show some (vi (s 82)) = _
    rw [e82]
  have bump : ∀ (l j : Nat) (B : Nat → Nat → Int) (h' : s_H) (t2 t3 : Term), j + l = N → RV h' s B → FR h h' → (∀ x, x ≠ 1363 → B x = A x) → (∀ i, i < N → B 1363 i = dpc (gr A 1352 1353) j i) → wr sw_P (d + 3) sw_c618 sw_h618 (25, [.index 1290, vi (j : Int), t2, t3, t4, t5, t6], [], h', 0, 0) Q := by
    intro l
    induction l with
    | zero =>
      intro j B h' t2 t3 hj v r o g
      have ej : j = N := by omega
      subst ej
      exact k618_25 (z5 := (j : Int)) v.1 (fun _ => k B h' _ t2 t3 v r o g) (fun w => absurd (Int.le_refl _) w) (n6 := rd82) (c7 := by unfold In3; omega) (c8 := by unfold In3; omega)
    | succ l ih =>
      intro j B h' t2 t3 hj v r o g
      obtain ⟨hm, nm, m0⟩ := siz_in C (show j < N by omega)
      obtain ⟨m, em⟩ : ∃ m, siz (gr A 1352 1353) j = m := ⟨_, rfl⟩
      rw [em] at hm nm m0
      refine k618_25 (z5 := (N : Int)) v.1 (fun w => absurd w (by omega)) (fun _ => ?_) (n6 := rd82) (c7 := by unfold In3; omega) (c8 := by unfold In3; omega)
      have eg : gr B 1352 1353 = gr A 1352 1353 := by
        unfold gr
        rw [o 1352 (by decide), o 1353 (by decide)]
      refine k618_33 v.1 (wm_mono (wq_r (k618_38 ?_)) (V_behind v (n := j) (m := m) (by rw [eg]; exact hm) (by omega) (fun i hi2 => by
        rw [o 1352 (by decide)]
        have : 0 ≤ A 1352 (j + i) ∧ A 1352 (j + i) ≤ 7 := (C.2.1 (j + i) (Nat.zero_le _) (by omega)).1
        unfold In3
        omega)))
      have inner : ∀ (l2 i : Nat) (B : Nat → Nat → Int) (h' : s_H), i + l2 = j + m → j < i → RV h' s B → FR h h' → (∀ x, x ≠ 1363 → B x = A x) → (∀ y, y < N → B 1363 y = (dpc (gr A 1352 1353) j y : Int) + (if j < y ∧ y < i then 1 else 0)) → wr sw_P (d + 3) sw_c618 sw_h618 (43, [.index 1290, vi (j : Int), vi ((j : Int) + (m : Int)), vi (i : Int), t4, t5, t6], [], h', 0, 0) Q := by
        intro l2
        induction l2 with
        | zero =>
          intro i B h' hi2 ji v r o g
          refine k618_43 (fun _ => k618_64 ?_) (fun w => absurd (by omega) w) (c1 := by unfold In3; omega) (c2 := by unfold In3; omega)
          refine ih (j + 1) B h' _ _ (by omega) v r o (fun y hy => ?_)
          rw [g y hy]
          have e1 : dpc (gr A 1352 1353) (j + 1) y = dpc (gr A 1352 1353) j y + (if j < y ∧ y < j + siz (gr A 1352 1353) j then 1 else 0) := rfl
          rw [e1, em, show i = j + m by omega]
          by_cases q : j < y ∧ y < j + m
          · rw [if_pos q, if_pos q]
            omega
          · rw [if_neg q, if_neg q]
            omega
        | succ l2 ih2 =>
          intro i B h' hi2 ji v r o g
          have w1 := Rp_deep v (fun t => if t = i then B 1363 i + 1 else B 1363 t)
          refine k618_43 (fun w => absurd w (by omega)) (fun _ => ?_) (c1 := by unfold In3; omega) (c2 := by unfold In3; omega)
          refine k618_48 (a9 := mk 200 (B 1363)) v.1 (Ra_deep v) ?_ (c11 := by rw [mk_len]; omega) (c12 := by omega) (c13 := by unfold In3; omega)
          rw [gi_mkn (by omega), mk_set]
          refine ih2 (i + 1) _ _ (by omega) (by omega) w1 (FR_trans r (FR_put v (c := 1363) (by decide) (by decide) _)) (fun x hx => by rw [up_ne _ _ hx]; exact o x hx) (fun y hy => ?_)
          rw [up_at]
          show (if y = i then B 1363 i + 1 else B 1363 y) = _
          by_cases q : y = i
          · rw [if_pos q, if_pos (by omega), g i (by omega), if_neg (by omega), q]
            omega
          · rw [if_neg q, g y hy]
            by_cases q2 : j < y ∧ y < i
            · rw [if_pos q2, if_pos (by omega)]
            · rw [if_neg q2, if_neg (by omega)]
      have := inner (m - 1) (j + 1) B h' (by omega) (by omega) v r o (fun y hy => by
        rw [g y hy, if_neg (by omega), Int.add_zero])
      exact this
  have clear : ∀ (l j : Nat) (B : Nat → Nat → Int) (h' : s_H), j + l = N → RV h' s B → FR h h' → (∀ x, x ≠ 1363 → B x = A x) → (∀ i, i < j → B 1363 i = 0) → wr sw_P (d + 3) sw_c618 sw_h618 (2, [.index 1290, vi (j : Int), t2, t3, t4, t5, t6], [], h', 0, 0) Q := by
    intro l
    induction l with
    | zero =>
      intro j B h' hj v r o g
      have ej : j = N := by omega
      subst ej
      exact k618_2 (z5 := (j : Int)) v.1 (fun _ => k618_23 (bump j 0 B h' _ _ (Nat.zero_add j) v r o (fun i hi2 => g i hi2))) (fun w => absurd (Int.le_refl _) w) (n6 := rd82) (c7 := by unfold In3; omega) (c8 := by unfold In3; omega)
    | succ l ih =>
      intro j B h' hj v r o g
      have w1 := Rp_deep v (fun t => if t = j then 0 else B 1363 t)
      refine k618_2 (z5 := (N : Int)) v.1 (fun w => absurd w (by omega)) (fun _ => ?_) (n6 := rd82) (c7 := by unfold In3; omega) (c8 := by unfold In3; omega)
      refine k618_10 (a8 := mk 200 (B 1363)) v.1 (Ra_deep v) ?_ (c10 := by rw [mk_len]; omega) (c11 := by omega) (c12 := by unfold In3; omega)
      rw [mk_set]
      refine ih (j + 1) _ _ (by omega) w1 (FR_trans r (FR_put v (c := 1363) (by decide) (by decide) _)) (fun x hx => by rw [up_ne _ _ hx]; exact o x hx) (fun i hi2 => ?_)
      rw [up_at]
      show (if i = j then 0 else B 1363 i) = 0
      by_cases q : i = j
      · exact if_pos q
      · rw [if_neg q]
        exact g i (by omega)
  exact k618_0 (clear N 0 A h (Nat.zero_add N) hv (FR_refl h) (fun _ _ => rfl) (fun i hi2 => absurd hi2 (Nat.not_lt_zero _)))
end
