/-! sets of 16 that grow: after 16 rounds they are closed -/
theorem cbt_le (x : Nat) : ∀ k, cbt x k ≤ k
  | 0 => Nat.le_refl _
  | k + 1 => by
    have := cbt_le x k
    unfold cbt
    split <;> omega
theorem cbt_mono {x y : Nat} : ∀ k, (∀ j, j < k → x.testBit j = true → y.testBit j = true) → cbt x k ≤ cbt y k
  | 0, _ => Nat.le_refl _
  | k + 1, h => by
    have := cbt_mono (x := x) (y := y) k (fun j hj => h j (by omega))
    unfold cbt
    by_cases w : x.testBit k = true
    · rw [if_pos w, if_pos (h k (by omega) w)]
      omega
    · rw [if_neg w]
      omega
theorem cbt_lt {x y : Nat} : ∀ k, (∀ j, j < k → x.testBit j = true → y.testBit j = true) → ∀ j, j < k → x.testBit j ≠ true → y.testBit j = true → cbt x k < cbt y k
  | 0, _, _, hj, _, _ => absurd hj (Nat.not_lt_zero _)
  | k + 1, h, j, hj, a, b => by
    by_cases q : j = k
    · subst q
      have := cbt_mono (x := x) (y := y) j (fun i hi2 => h i (by omega))
      unfold cbt
      rw [if_neg a, if_pos b]
      omega
    · have := cbt_lt (x := x) (y := y) k (fun i hi2 => h i (by omega)) j (by omega) a b
      unfold cbt
      by_cases w : x.testBit k = true
      · rw [if_pos w, if_pos (h k (by omega) w)]
        omega
      · rw [if_neg w]
        omega
theorem cbt_full {x : Nat} : ∀ k, cbt x k = k → ∀ j, j < k → x.testBit j = true
  | 0, _, _, hj => absurd hj (Nat.not_lt_zero _)
  | k + 1, h, j, hj => by
    have b := cbt_le x k
    unfold cbt at h
    by_cases w : x.testBit k = true
    · rw [if_pos w] at h
      by_cases q : j = k
      · rw [q]; exact w
      · exact cbt_full k (by omega) j (by omega)
    · rw [if_neg w] at h
      omega
theorem set_ext {x y : Nat} (hx : x < 2 ^ 16) (hy : y < 2 ^ 16) (h : ∀ j, j < 16 → (x.testBit j = true ↔ y.testBit j = true)) : x = y := by
  refine Nat.eq_of_testBit_eq (fun j => ?_)
  by_cases q : j < 16
  · have := h j q
    cases a : x.testBit j <;> cases b : y.testBit j <;> rw [a, b] at this <;> simp at this <;> rfl
  · have up : ∀ z, z < 2 ^ 16 → z.testBit j = false := fun z hz => Nat.testBit_lt_two_pow (Nat.lt_of_lt_of_le hz (Nat.pow_le_pow_right (by decide) (by omega)))
    rw [up x hx, up y hy]
def itr (f : Nat → Nat) (x : Nat) : Nat → Nat
  | 0 => x
  | p + 1 => f (itr f x p)
theorem itr_lt {f : Nat → Nat} (lt : ∀ x, x < 2 ^ 16 → f x < 2 ^ 16) {x : Nat} (hx : x < 2 ^ 16) : ∀ p, itr f x p < 2 ^ 16
  | 0 => hx
  | p + 1 => lt _ (itr_lt lt hx p)
theorem fix16 {f : Nat → Nat} (ext : ∀ x, x < 2 ^ 16 → ∀ j, j < 16 → x.testBit j = true → (f x).testBit j = true) (lt : ∀ x, x < 2 ^ 16 → f x < 2 ^ 16) {x : Nat} (hx : x < 2 ^ 16) : f (itr f x 16) = itr f x 16 := by
  have P : ∀ p, f (itr f x p) = itr f x p ∨ p ≤ cbt (itr f x p) 16 := by
    intro p
    induction p with
    | zero => exact .inr (Nat.zero_le _)
    | succ p ih =>
      have l := itr_lt lt hx p
      by_cases w : f (itr f x p) = itr f x p
      · refine .inl ?_
        show f (f (itr f x p)) = f (itr f x p)
        rw [w]
        exact w
      · refine .inr ?_
        have h1 := ih.resolve_left w
        have : ∃ j, j < 16 ∧ (itr f x p).testBit j ≠ true ∧ (f (itr f x p)).testBit j = true := Classical.byContradiction (fun no => w (set_ext (lt _ l) l (fun j hj => ⟨fun a => Classical.byContradiction (fun b => no ⟨j, hj, b, a⟩), ext _ l j hj⟩)))
        obtain ⟨j, j1, j2, j3⟩ := this
        have := cbt_lt 16 (ext _ l) j j1 j2 j3
        show p + 1 ≤ cbt (f (itr f x p)) 16
        omega
  have l := itr_lt lt hx 16
  rcases P 16 with w | w
  · exact w
  · have full := cbt_full (x := itr f x 16) 16 (by have := cbt_le (itr f x 16) 16; omega)
    exact set_ext (lt _ l) l (fun j hj => ⟨fun _ => full j hj, fun a => ext _ l j hj a⟩)
/-! what a cell hangs on is closed, and is the least such set -/
theorem hgi_ext (A : Nat → Nat → Int) (x : Nat) (j : Nat) : ∀ k, x.testBit j = true → (hgi A x k).testBit j = true
  | 0, h => h
  | k + 1, h => by
    unfold hgi
    rw [Nat.testBit_or, hgi_ext A x j k h, Bool.true_or]
theorem hgi_mono (A : Nat → Nat → Int) (x : Nat) (j : Nat) : ∀ k l, (hgi A x k).testBit j = true → (hgi A x (k + l)).testBit j = true
  | _, 0, h => h
  | k, l + 1, h => by
    show (hgi A x (k + l + 1)).testBit j = true
    unfold hgi
    rw [Nat.testBit_or, hgi_mono A x j k l h, Bool.true_or]
theorem hgs_itr (A : Nat → Nat → Int) (c : Nat) : ∀ p, hgs A c p = itr (fun x => hgi A x 16) (nms A c) p
  | 0 => rfl
  | p + 1 => by
    show hgi A (hgs A c p) 16 = hgi A (itr _ _ p) 16
    rw [hgs_itr A c p]
theorem hng_fix (A : Nat → Nat → Int) (c : Nat) : hgi A (hng A c) 16 = hng A c := by
  have := fix16 (f := fun x => hgi A x 16) (fun x _ j _ h => hgi_ext A x j 16 h) (fun x hx => hgi_lt A hx 16) (nms_lt A c)
  unfold hng
  rw [hgs_itr]
  exact this
theorem hng_own (A : Nat → Nat → Int) (c j : Nat) (h : (nms A c).testBit j = true) : (hng A c).testBit j = true := by
  have : ∀ p, (hgs A c p).testBit j = true := fun p => by
    induction p with
    | zero => exact h
    | succ p ih => exact hgi_ext A _ j 16 ih
  exact this 16
theorem hng_cl (A : Nat → Nat → Int) {c k j : Nat} (hk : k < 16) (h1 : (hng A c).testBit k = true) (h2 : (nms A k).testBit j = true) : (hng A c).testBit j = true := by
  rw [← hng_fix A c]
  have a : (hgi A (hng A c) (k + 1)).testBit j = true := by
    unfold hgi
    rw [if_pos (hgi_ext A _ k k h1), Nat.testBit_or, h2, Bool.or_true]
  have := hgi_mono A (hng A c) j (k + 1) (15 - k) a
  rw [show k + 1 + (15 - k) = 16 by omega] at this
  exact this
/-- every closed set that has what c names has what c hangs on -/
theorem hng_least (A : Nat → Nat → Int) {c : Nat} {S : Nat → Prop} (h0 : ∀ j, (nms A c).testBit j = true → S j) (h1 : ∀ k j, k < 16 → S k → (nms A k).testBit j = true → S j) (j : Nat) (h : (hng A c).testBit j = true) : S j := by
  have one : ∀ x, (∀ j, x.testBit j = true → S j) → ∀ k, k ≤ 16 → ∀ j, (hgi A x k).testBit j = true → S j := fun x hx k => by
    induction k with
    | zero => exact fun _ => hx
    | succ k ih =>
      intro hk j hj
      unfold hgi at hj
      rw [Nat.testBit_or, Bool.or_eq_true] at hj
      rcases hj with w | w
      · exact ih (by omega) j w
      · by_cases q : (hgi A x k).testBit k = true
        · rw [if_pos q] at w
          exact h1 k j (by omega) (ih (by omega) k q) w
        · rw [if_neg q, Nat.zero_testBit] at w
          exact Bool.noConfusion w
  have all : ∀ p j, (hgs A c p).testBit j = true → S j := fun p => by
    induction p with
    | zero => exact h0
    | succ p ih => exact one _ ih 16 (Nat.le_refl _)
  exact all 16 j h
theorem hng_sub (A : Nat → Nat → Int) {k j : Nat} (hj : j < 16) (h : (nms A k).testBit j = true) (i : Nat) (h2 : (hng A j).testBit i = true) : (hng A k).testBit i = true :=
  hng_least A (S := fun i => (hng A k).testBit i = true) (fun _ hi2 => hng_cl A hj (hng_own A k j h) hi2) (fun _ _ hx a b => hng_cl A hx a b) i h2
/-- among cells none of which hangs on itself one names none of them -/
theorem first_cell (A : Nat → Nat → Int) {S : Nat → Prop} (hS : ∀ k, S k → k < 16 ∧ (hng A k).testBit k = false) : ∀ (n k : Nat), cbt (hng A k) 16 ≤ n → S k → ∃ i, S i ∧ ∀ j, (nms A i).testBit j = true → ¬ S j := by
  intro n
  induction n with
  | zero =>
    intro k hn hk
    refine ⟨k, hk, fun j hj hSj => ?_⟩
    have b := cbt_lt (x := 0) (y := hng A k) 16 (fun i _ w => by rw [Nat.zero_testBit] at w; exact Bool.noConfusion w) j (hS j hSj).1 (by rw [Nat.zero_testBit]; exact Bool.noConfusion) (hng_own A k j hj)
    omega
  | succ n ih =>
    intro k hn hk
    by_cases w : ∃ j, (nms A k).testBit j = true ∧ S j
    · obtain ⟨j, j1, j2⟩ := w
      obtain ⟨j3, j4⟩ := hS j j2
      have b := cbt_lt (x := hng A j) (y := hng A k) 16 (fun i _ q => hng_sub A j3 j1 i q) j j3 (by rw [j4]; exact Bool.noConfusion) (hng_own A k j j1)
      exact ih j (by omega) j2
    · exact ⟨k, hk, fun j hj hSj => w ⟨j, hj, hSj⟩⟩
