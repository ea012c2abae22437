/-! the due cells that a cell reaches -/
noncomputable def clw (A : Nat → Nat → Int) (N S : Nat) : Nat → Nat
  | 0 => S
  | j + 1 => @ite Nat (N.testBit j = true ∧ due A j) (Classical.propDecidable _) (clw A N S j ||| 2 ^ j) (clw A N S j)
noncomputable def cli (A : Nat → Nat → Int) (S : Nat) : Nat → Nat
  | 0 => S
  | k + 1 => if (cli A S k).testBit k = true then clw A (nms A k) (cli A S k) 16 else cli A S k
noncomputable def clo (A : Nat → Nat → Int) (c : Nat) : Nat := itr (fun x => cli A x 16) (2 ^ c) 16
theorem clw_y {A : Nat → Nat → Int} {N S j : Nat} (h : N.testBit j = true ∧ due A j) : clw A N S (j + 1) = clw A N S j ||| 2 ^ j := if_pos h
theorem clw_n {A : Nat → Nat → Int} {N S j : Nat} (h : ¬ (N.testBit j = true ∧ due A j)) : clw A N S (j + 1) = clw A N S j := if_neg h
theorem clw_ext (A : Nat → Nat → Int) (N S i : Nat) (h : S.testBit i = true) : ∀ j, (clw A N S j).testBit i = true
  | 0 => h
  | j + 1 => by
    by_cases w : N.testBit j = true ∧ due A j
    · rw [clw_y w, Nat.testBit_or, clw_ext A N S i h j, Bool.true_or]
    · rw [clw_n w]
      exact clw_ext A N S i h j
theorem clw_in (A : Nat → Nat → Int) (N S i : Nat) (h1 : N.testBit i = true) (h2 : due A i) : ∀ j, i < j → (clw A N S j).testBit i = true
  | 0, w => absurd w (Nat.not_lt_zero _)
  | j + 1, w => by
    by_cases q : i = j
    · subst q
      rw [clw_y ⟨h1, h2⟩, Nat.testBit_or, Nat.testBit_two_pow_self, Bool.or_true]
    · have := clw_in A N S i h1 h2 j (by omega)
      by_cases w : N.testBit j = true ∧ due A j
      · rw [clw_y w, Nat.testBit_or, this, Bool.true_or]
      · rw [clw_n w]
        exact this
theorem clw_out (A : Nat → Nat → Int) (N S i : Nat) : ∀ j, (clw A N S j).testBit i = true → S.testBit i = true ∨ (N.testBit i = true ∧ due A i)
  | 0, h => .inl h
  | j + 1, h => by
    by_cases w : N.testBit j = true ∧ due A j
    · rw [clw_y w, Nat.testBit_or, Bool.or_eq_true] at h
      rcases h with h | h
      · exact clw_out A N S i j h
      · rw [Nat.testBit_two_pow] at h
        have e : j = i := of_decide_eq_true h
        rw [e] at w
        exact .inr w
    · rw [clw_n w] at h
      exact clw_out A N S i j h
theorem clw_lt (A : Nat → Nat → Int) (N : Nat) {S : Nat} (hS : S < 2 ^ 16) : ∀ j, j ≤ 16 → clw A N S j < 2 ^ 16
  | 0, _ => hS
  | j + 1, hj => by
    have l := clw_lt A N hS j (by omega)
    by_cases w : N.testBit j = true ∧ due A j
    · rw [clw_y w]
      exact Nat.or_lt_two_pow l (Nat.pow_lt_pow_right (by decide) (by omega))
    · rw [clw_n w]
      exact l
theorem cli_y {A : Nat → Nat → Int} {S k : Nat} (h : (cli A S k).testBit k = true) : cli A S (k + 1) = clw A (nms A k) (cli A S k) 16 := if_pos h
theorem cli_n {A : Nat → Nat → Int} {S k : Nat} (h : ¬ (cli A S k).testBit k = true) : cli A S (k + 1) = cli A S k := if_neg h
theorem cli_mono (A : Nat → Nat → Int) (S i : Nat) : ∀ k l, (cli A S k).testBit i = true → (cli A S (k + l)).testBit i = true
  | _, 0, h => h
  | k, l + 1, h => by
    have := cli_mono A S i k l h
    show (cli A S (k + l + 1)).testBit i = true
    by_cases w : (cli A S (k + l)).testBit (k + l) = true
    · rw [cli_y w]
      exact clw_ext A _ _ i this 16
    · rw [cli_n w]
      exact this
theorem cli_ext (A : Nat → Nat → Int) (S i k : Nat) (h : S.testBit i = true) : (cli A S k).testBit i = true := by
  have := cli_mono A S i 0 k h
  rw [Nat.zero_add] at this
  exact this
theorem cli_lt (A : Nat → Nat → Int) {S : Nat} (hS : S < 2 ^ 16) : ∀ k, cli A S k < 2 ^ 16
  | 0 => hS
  | k + 1 => by
    have l := cli_lt A hS k
    by_cases w : (cli A S k).testBit k = true
    · rw [cli_y w]
      exact clw_lt A _ l 16 (Nat.le_refl _)
    · rw [cli_n w]
      exact l
theorem two_lt {c : Nat} (hc : c < 16) : 2 ^ c < 2 ^ 16 := Nat.pow_lt_pow_right (by decide) hc
theorem clo_lt (A : Nat → Nat → Int) {c : Nat} (hc : c < 16) : clo A c < 2 ^ 16 := itr_lt (fun _ hx => cli_lt A hx 16) (two_lt hc) 16
theorem clo_fix (A : Nat → Nat → Int) {c : Nat} (hc : c < 16) : cli A (clo A c) 16 = clo A c := fix16 (f := fun x => cli A x 16) (fun x _ j _ h => cli_ext A x j 16 h) (fun x hx => cli_lt A hx 16) (two_lt hc)
theorem clo_own (A : Nat → Nat → Int) (c : Nat) : (clo A c).testBit c = true := by
  have : ∀ p, (itr (fun x => cli A x 16) (2 ^ c) p).testBit c = true := fun p => by
    induction p with
    | zero => exact Nat.testBit_two_pow_self
    | succ p ih => exact cli_ext A _ c 16 ih
  exact this 16
/-- it is closed -/
theorem clo_cl (A : Nat → Nat → Int) {c k j : Nat} (hc : c < 16) (hk : k < 16) (hj : j < 16) (h1 : (clo A c).testBit k = true) (h2 : (nms A k).testBit j = true) (h3 : due A j) : (clo A c).testBit j = true := by
  rw [← clo_fix A hc]
  have a : (cli A (clo A c) (k + 1)).testBit j = true := by
    rw [cli_y (cli_ext A _ k k h1)]
    exact clw_in A _ _ j h2 h3 16 hj
  have := cli_mono A (clo A c) j (k + 1) (15 - k) a
  rw [show k + 1 + (15 - k) = 16 by omega] at this
  exact this
/-- and the least such set -/
theorem clo_least (A : Nat → Nat → Int) {c : Nat} {S : Nat → Prop} (h0 : S c) (h1 : ∀ k j, S k → (nms A k).testBit j = true → due A j → S j) (j : Nat) (h : (clo A c).testBit j = true) : S j := by
  have one : ∀ x, (∀ j, x.testBit j = true → S j) → ∀ k j, (cli A x k).testBit j = true → S j := fun x hx k => by
    induction k with
    | zero => exact hx
    | succ k ih =>
      intro j hj
      by_cases q : (cli A x k).testBit k = true
      · rw [cli_y q] at hj
        rcases clw_out A _ _ j 16 hj with w | ⟨w1, w2⟩
        · exact ih j w
        · exact h1 k j (ih k q) w1 w2
      · rw [cli_n q] at hj
        exact ih j hj
  have all : ∀ p j, (itr (fun x => cli A x 16) (2 ^ c) p).testBit j = true → S j := fun p => by
    induction p with
    | zero =>
      intro j hj
      have hj' : (2 ^ c).testBit j = true := hj
      rw [Nat.testBit_two_pow] at hj'
      have e : c = j := of_decide_eq_true hj'
      rw [← e]
      exact h0
    | succ p ih => exact one _ ih 16
  exact all 16 j h
theorem clo_due (A : Nat → Nat → Int) {c : Nat} (h : due A c) (j : Nat) (w : (clo A c).testBit j = true) : due A j := clo_least A (S := due A) h (fun _ _ _ _ x => x) j w
/-- one of them names none that is due still -/
theorem clo_first (A : Nat → Nat → Int) {S : Nat} (hS : S < 2 ^ 16) (hd : ∀ k, S.testBit k = true → due A k) (h0 : S ≠ 0) : ∃ i, S.testBit i = true ∧ ∀ j, (nms A i).testBit j = true → S.testBit j ≠ true := by
  obtain ⟨k, hk⟩ : ∃ k, S.testBit k = true := Classical.byContradiction (fun w => h0 (Nat.eq_of_testBit_eq (fun j => by
    rw [Nat.zero_testBit]
    cases q : S.testBit j with
    | false => rfl
    | true => exact absurd ⟨j, q⟩ w)))
  have b : ∀ k, S.testBit k = true → k < 16 := fun k hk => Classical.byContradiction (fun w => by
    have := Nat.testBit_lt_two_pow (Nat.lt_of_lt_of_le hS (Nat.pow_le_pow_right (by decide) (show 16 ≤ k by omega)))
    rw [this] at hk
    exact Bool.noConfusion hk)
  exact first_cell A (S := fun k => S.testBit k = true) (fun k hk => ⟨b k hk, (hd k hk).1.2⟩) 16 k (cbt_le _ 16) hk
