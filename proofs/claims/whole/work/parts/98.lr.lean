/-! sets of columns: if one cannot grow by a column of U, no set of U is greater -/
theorem io_1 {R : Type} [Lean.Grind.CommRing R] {a b x : R} (h : b * x = 0) : a + b * x = a := by grind
theorem io_2 {R : Type} [Lean.Grind.CommRing R] {a b x : R} (h : b * x = 0) : a - b * x = a := by grind
theorem io_3 {R : Type} [Lean.Grind.CommRing R] {a b x : R} (ha : a = 0) (h : a + b * x = 0) : b * x = 0 := by grind
theorem io_4 {R : Type} [Lean.Grind.CommRing R] {a b x : R} (ha : a = 0) (h : a - b * x = 0) : b * x = 0 := by grind
/-- all terms but one are 0, and so is the sum: that one is 0 -/
theorem icR_z {R : Type} [Lean.Grind.CommRing R] {y g : Nat → R} {S : Nat} : ∀ {k : Nat}, (∀ j, j < k → bt S j = 0 → y j * g (S + 2 ^ j) = 0) → icR y g S k = 0
  | 0, _ => rfl
  | k + 1, e => by
    have i := icR_z (k := k) (fun j hj => e j (by omega))
    rw [icR_s]
    by_cases q : bt S k = 0
    · have z := e k (by omega) q
      rw [if_pos q]
      by_cases q2 : sgc S k = 1
      · rw [if_pos q2, io_1 z]
        exact i
      · rw [if_neg q2, io_2 z]
        exact i
    · rw [if_neg q]
      exact i
theorem icR_1 {R : Type} [Lean.Grind.CommRing R] {y g : Nat → R} {S t : Nat} (ot : bt S t = 0) : ∀ {k : Nat}, t < k → (∀ j, j < k → j ≠ t → bt S j = 0 → y j * g (S + 2 ^ j) = 0) → icR y g S k = 0 → y t * g (S + 2 ^ t) = 0
  | 0, h, _, _ => absurd h (Nat.not_lt_zero t)
  | k + 1, h, e, z => by
    rw [icR_s] at z
    by_cases q : t = k
    · subst q
      rw [if_pos ot] at z
      have i := icR_z (k := t) (fun j hj => e j (by omega) (by omega))
      by_cases q2 : sgc S t = 1
      · rw [if_pos q2] at z
        exact io_3 i z
      · rw [if_neg q2] at z
        exact io_4 i z
    · refine icR_1 (k := k) ot (by omega) (fun j hj => e j (by omega)) ?_
      by_cases q3 : bt S k = 0
      · have z2 := e k (by omega) (fun w => q w.symm) q3
        rw [if_pos q3] at z
        by_cases q2 : sgc S k = 1
        · rw [if_pos q2, io_1 z2] at z
          exact z
        · rw [if_neg q2, io_2 z2] at z
          exact z
      · rw [if_neg q3] at z
        exact z
/-- how many columns of T are outside C -/
def outs (T C : Nat) : Nat := (if bt T 0 = 1 ∧ bt C 0 = 0 then 1 else 0) + (if bt T 1 = 1 ∧ bt C 1 = 0 then 1 else 0) + (if bt T 2 = 1 ∧ bt C 2 = 0 then 1 else 0) + (if bt T 3 = 1 ∧ bt C 3 = 0 then 1 else 0)
theorem outs_p {T C : Nat} (hT : T < 16) (hC : C < 16) (e : bts T = bts C + 1) : ∃ t, t < 4 ∧ bt T t = 1 ∧ bt C t = 0 := by
  have : ∀ C : Fin 16, ∀ T : Fin 16, bts T.val = bts C.val + 1 → (bt T.val 0 = 1 ∧ bt C.val 0 = 0) ∨ (bt T.val 1 = 1 ∧ bt C.val 1 = 0) ∨ (bt T.val 2 = 1 ∧ bt C.val 2 = 0) ∨ (bt T.val 3 = 1 ∧ bt C.val 3 = 0) := by decide +kernel
  rcases this ⟨C, hC⟩ ⟨T, hT⟩ e with w | w | w | w
  · exact ⟨0, by decide, w⟩
  · exact ⟨1, by decide, w⟩
  · exact ⟨2, by decide, w⟩
  · exact ⟨3, by decide, w⟩
