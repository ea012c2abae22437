/-! a tree's letters -/
/-- whether a part of a node stands in brackets: of sorts, and which part -/
def isb (so w pa : Int) : Prop := if so = 7 then 1 < pa else if so = 6 then pa = 2 ∨ pa = 3 ∨ pa = 6 else if so = 2 ∨ so = 3 then w = 1 ∧ (pa = 2 ∨ pa = 3 ∨ pa = 6) else (pa = 2 ∨ pa = 3 ∨ pa = 6) ∨ (w = 1 ∧ (pa = 4 ∨ pa = 5))
theorem isb_1 {so w pa : Int} (h : isb so w pa) : 1 < pa := by
  unfold isb at h
  split at h
  · exact h
  · split at h
    · omega
    · split at h <;> omega
def sgn (so : Int) : Int := if so = 2 then 43 else if so = 3 then 45 else if so = 4 then 42 else 47
/-- an exponent's letters -/
def exL (e : Nat) : List Int := if e ≤ 9 then [94, 48 + ((e % 10 : Nat) : Int)] else [94, 48 + ((e / 10 : Nat) : Int), 48 + ((e % 10 : Nat) : Int)]
theorem exL_len (e : Nat) : 2 ≤ (exL e).length ∧ (exL e).length ≤ 3 := by
  unfold exL
  split
  · exact ⟨Nat.le_refl _, Nat.le_succ 2⟩
  · exact ⟨Nat.le_succ 2, Nat.le_refl _⟩
noncomputable def brk (c : Prop) (l : List Int) : List Int := @ite _ c (Classical.propDecidable _) (40 :: (l ++ [41])) l
theorem brk_1 {c : Prop} (h : c) (l : List Int) : brk c l = 40 :: (l ++ [41]) := if_pos h
theorem brk_0 {c : Prop} (h : ¬ c) (l : List Int) : brk c l = l := if_neg h
/-- how many nodes the tree from n on has -/
noncomputable def siz (g : Nat → nod) (n : Nat) : Nat := @dite _ (∃ m, wlk (pce g n m) 1 0) (Classical.propDecidable _) (fun h => Classical.choose h) (fun _ => 0)
theorem siz_eq {g : Nat → nod} {n m : Nat} (h : wlk (pce g n m) 1 0) : siz g n = m := by
  unfold siz
  have e : ∃ m, wlk (pce g n m) 1 0 := ⟨m, h⟩
  rw [dif_pos e]
  exact sub_one (Classical.choose_spec e) h
/-- the letters of the tree from n on -/
noncomputable def shT (g : Nat → nod) : Nat → Nat → List Int
  | 0, _ => []
  | f + 1, n => if (g n).1 = 0 then dgl (g n).2.toNat else if (g n).1 = 1 then [120] else if (g n).1 = 6 then 45 :: brk (isb 6 0 (g (n + 1)).1) (shT g f (n + 1)) else if (g n).1 = 7 then brk (isb 7 0 (g (n + 1)).1) (shT g f (n + 1)) ++ exL (g n).2.toNat else brk (isb (g n).1 0 (g (n + 1)).1) (shT g f (n + 1)) ++ (sgn (g n).1 :: brk (isb (g n).1 1 (g (n + 1 + siz g (n + 1))).1) (shT g f (n + 1 + siz g (n + 1))))
theorem npa_s {x : Int} (h : 0 ≤ x ∧ x ≤ 7) : (x = 0 ∨ x = 1 → npa x = 0) ∧ (x = 6 ∨ x = 7 → npa x = 1) ∧ (x ≠ 0 ∧ x ≠ 1 ∧ x ≠ 6 ∧ x ≠ 7 → npa x = 2) := by
  unfold npa
  refine ⟨fun w => ?_, fun w => if_pos w, fun w => ?_⟩
  · rw [if_neg (by omega), if_pos (by omega)]
  · rw [if_neg (by omega), if_neg (by omega)]
/-- good nodes from a to b -/
def gds (g : Nat → nod) (a b : Nat) : Prop := ∀ k, a ≤ k → k < b → gdn (g k)
theorem shT_eq {g : Nat → nod} : ∀ (f f' n m : Nat), wlk (pce g n m) 1 0 → gds g n (n + m) → m ≤ f → m ≤ f' → shT g f n = shT g f' n
  | 0, f', n, m, h, _, h1, _ => by
    have := wlk_ne h
    rw [pce_len] at this
    omega
  | f + 1, 0, n, m, h, _, _, h1 => by
    have := wlk_ne h
    rw [pce_len] at this
    omega
  | f + 1, f' + 1, n, m, h, G, h1, h2 => by
    have m1 := wlk_ne h
    rw [pce_len] at m1
    have gn := G n (Nat.le_refl _) (by omega)
    obtain ⟨p0, p1, p2⟩ := npa_s gn.1
    unfold shT
    by_cases w0 : (g n).1 = 0
    · rw [if_pos w0, if_pos w0]
    by_cases w1 : (g n).1 = 1
    · rw [if_neg w0, if_neg w0, if_pos w1, if_pos w1]
    rw [if_neg w0, if_neg w0, if_neg w1, if_neg w1]
    by_cases w6 : (g n).1 = 6
    · rw [if_pos w6, if_pos w6]
      obtain ⟨k, ek, hk⟩ := sub_1 h (p1 (.inl w6))
      rw [shT_eq f f' (n + 1) k hk (fun j a b => G j (by omega) (by omega)) (by omega) (by omega)]
    rw [if_neg w6, if_neg w6]
    by_cases w7 : (g n).1 = 7
    · rw [if_pos w7, if_pos w7]
      obtain ⟨k, ek, hk⟩ := sub_1 h (p1 (.inr w7))
      rw [shT_eq f f' (n + 1) k hk (fun j a b => G j (by omega) (by omega)) (by omega) (by omega)]
    rw [if_neg w7, if_neg w7]
    obtain ⟨k, k2, ek, hk, hk2⟩ := sub_2 h (p2 ⟨w0, w1, w6, w7⟩)
    rw [siz_eq hk, shT_eq f f' (n + 1) k hk (fun j a b => G j (by omega) (by omega)) (by omega) (by omega), shT_eq f f' (n + 1 + k) k2 hk2 (fun j a b => G j (by omega) (by omega)) (by omega) (by omega)]
theorem dgl_pos (n : Nat) : 0 < (dgl n).length := by
  unfold dgl
  rw [digs_len]
  exact Nat.succ_pos _
theorem brk_len {c : Prop} {l : List Int} {m : Nat} (h : c → l.length + 2 ≤ m) (h0 : l.length ≤ m) (h1 : 1 ≤ l.length) : (brk c l).length ≤ m ∧ 1 ≤ (brk c l).length := by
  by_cases w : c
  · rw [brk_1 w, List.length_cons, List.length_append]
    have := h w
    have z : ([41] : List Int).length = 1 := rfl
    omega
  · rw [brk_0 w]
    exact ⟨h0, h1⟩
theorem shT_len {g : Nat → nod} : ∀ (f n m : Nat), wlk (pce g n m) 1 0 → gds g n (n + m) → m ≤ f → (shT g f n).length ≤ 5 * m ∧ 1 ≤ (shT g f n).length ∧ (1 < (g n).1 → (shT g f n).length + 2 ≤ 5 * m)
  | 0, n, m, h, _, h1 => by
    have := wlk_ne h
    rw [pce_len] at this
    omega
  | f + 1, n, m, h, G, h1 => by
    have m1 := wlk_ne h
    rw [pce_len] at m1
    have gn := G n (Nat.le_refl _) (by omega)
    obtain ⟨p0, p1, p2⟩ := npa_s gn.1
    have ih : ∀ (so w : Int) (j k : Nat), wlk (pce g j k) 1 0 → n < j → j + k ≤ n + m → (brk (isb so w (g j).1) (shT g f j)).length ≤ 5 * k ∧ 1 ≤ (brk (isb so w (g j).1) (shT g f j)).length := fun so w j k hk a b => by
      obtain ⟨x1, x2, x3⟩ := shT_len f j k hk (fun i a' b' => G i (by omega) (by omega)) (by omega)
      exact brk_len (fun y => x3 (isb_1 y)) x1 x2
    unfold shT
    by_cases w0 : (g n).1 = 0
    · rw [if_pos w0]
      have := dgl_len (g n).2.toNat
      have := dgl_pos (g n).2.toNat
      exact ⟨by omega, by omega, fun w => by omega⟩
    rw [if_neg w0]
    by_cases w1 : (g n).1 = 1
    · rw [if_pos w1]
      have z : ([120] : List Int).length = 1 := rfl
      exact ⟨by omega, by omega, fun w => by omega⟩
    rw [if_neg w1]
    by_cases w6 : (g n).1 = 6
    · rw [if_pos w6]
      obtain ⟨k, ek, hk⟩ := sub_1 h (p1 (.inl w6))
      have := ih 6 0 (n + 1) k hk (by omega) (by omega)
      rw [List.length_cons]
      omega
    rw [if_neg w6]
    by_cases w7 : (g n).1 = 7
    · rw [if_pos w7]
      obtain ⟨k, ek, hk⟩ := sub_1 h (p1 (.inr w7))
      have := ih 7 0 (n + 1) k hk (by omega) (by omega)
      have := exL_len (g n).2.toNat
      rw [List.length_append]
      omega
    rw [if_neg w7]
    obtain ⟨k, k2, ek, hk, hk2⟩ := sub_2 h (p2 ⟨w0, w1, w6, w7⟩)
    have a1 := ih (g n).1 0 (n + 1) k hk (by omega) (by omega)
    have a2 := ih (g n).1 1 (n + 1 + k) k2 hk2 (by omega) (by omega)
    rw [siz_eq hk, List.length_append, List.length_cons]
    omega
