/-! one number is taken out of a set -/
theorem out_bit {S k : Nat} (h : S.testBit k = true) : ∃ S', S' + 2 ^ k = S ∧ ∀ j, S'.testBit j = true ↔ (S.testBit j = true ∧ j ≠ k) := by
  rw [Nat.testBit_eq_decide_div_mod_eq] at h
  have h1 := of_decide_eq_true h
  obtain ⟨q, eq⟩ : ∃ q, S / 2 ^ k = q := ⟨_, rfl⟩
  obtain ⟨b, eb⟩ : ∃ b, S % 2 ^ k = b := ⟨_, rfl⟩
  have bl : b < 2 ^ k := by rw [← eb]; exact Nat.mod_lt _ (Nat.two_pow_pos k)
  have eS : 2 ^ k * q + b = S := by rw [← eq, ← eb]; exact Nat.div_add_mod _ _
  rw [eq] at h1
  obtain ⟨a, ea⟩ : ∃ a, q = 2 * a + 1 := ⟨q / 2, by omega⟩
  subst ea
  refine ⟨2 ^ k * (2 * a) + b, ?_, fun j => ?_⟩
  · rw [← eS, Nat.mul_add, Nat.mul_one]
    omega
  · rw [← eS, Nat.testBit_two_pow_mul_add _ bl, Nat.testBit_two_pow_mul_add _ bl]
    by_cases w : j < k
    · rw [if_pos w, if_pos w]
      exact ⟨fun x => ⟨x, by omega⟩, fun x => x.1⟩
    · rw [if_neg w, if_neg w]
      by_cases z : j = k
      · subst z
        rw [Nat.sub_self]
        simp
      · obtain ⟨m, em⟩ : ∃ m, j - k = m + 1 := ⟨j - k - 1, by omega⟩
        rw [em, Nat.testBit_succ, Nat.testBit_succ, show 2 * a / 2 = a by omega, show (2 * a + 1) / 2 = a by omega]
        exact ⟨fun x => ⟨x, z⟩, fun x => x.1⟩
