/-! determinants by the last row -/
section
def lpR {R : Type} [Lean.Grind.CommRing R] (row g : Nat → R) (c : Nat) : Nat → R
  | 0 => 0
  | j + 1 => if bt c j = 0 then lpR row g c j else if sgc c j = 1 then lpR row g c j + row j * g (c - 2 ^ j) else lpR row g c j - row j * g (c - 2 ^ j)
theorem lpR_s {R : Type} [Lean.Grind.CommRing R] (row g : Nat → R) (c j : Nat) : lpR row g c (j + 1) = if bt c j = 0 then lpR row g c j else if sgc c j = 1 then lpR row g c j + row j * g (c - 2 ^ j) else lpR row g c j - row j * g (c - 2 ^ j) := rfl
theorem lpR_cg {R : Type} [Lean.Grind.CommRing R] {row g g' : Nat → R} {c : Nat} (e : ∀ c', c' ≤ c → g c' = g' c') (j : Nat) : lpR row g c j = lpR row g' c j := by
  induction j with
  | zero => rfl
  | succ j ih => rw [lpR_s, lpR_s, ih, e _ (Nat.sub_le _ _)]
theorem lpR_ml {R : Type} [Lean.Grind.CommRing R] (x : R) (row g : Nat → R) (c j : Nat) : lpR row (fun c' => x * g c') c j = x * lpR row g c j := by
  induction j with
  | zero =>
    show (0 : R) = x * 0
    grind
  | succ j ih =>
    rw [lpR_s, lpR_s, ih]
    by_cases q : bt c j = 0
    · rw [if_pos q, if_pos q]
    · rw [if_neg q, if_neg q]
      by_cases q2 : sgc c j = 1
      · rw [if_pos q2, if_pos q2]
        grind
      · rw [if_neg q2, if_neg q2]
        grind
theorem lpR_anti {R : Type} [Lean.Grind.CommRing R] (f l G : Nat → R) {k c : Nat} (hk : k ≤ 4) (hc : c < 16) : lpR f (fun c' => lpR l G c' k) c k = -lpR l (fun c' => lpR f G c' k) c k := by
  have hk' : k = 0 ∨ k = 1 ∨ k = 2 ∨ k = 3 ∨ k = 4 := by omega
  have hc' : c = 0 ∨ c = 1 ∨ c = 2 ∨ c = 3 ∨ c = 4 ∨ c = 5 ∨ c = 6 ∨ c = 7 ∨ c = 8 ∨ c = 9 ∨ c = 10 ∨ c = 11 ∨ c = 12 ∨ c = 13 ∨ c = 14 ∨ c = 15 := by omega
  rcases hk' with rfl | rfl | rfl | rfl | rfl <;> rcases hc' with rfl | rfl | rfl | rfl | rfl | rfl | rfl | rfl | rfl | rfl | rfl | rfl | rfl | rfl | rfl | rfl <;> simp [lpR, bt, sgc] <;> grind
theorem lpR_c1 {R : Type} [Lean.Grind.CommRing R] (a x : R) (p : R) (hp : p = 1) : a + p * x = a + x := by grind
theorem lpR_c2 {R : Type} [Lean.Grind.CommRing R] (a x : R) (p : R) (hp : p = -1) : a + p * x = a - x := by grind
theorem lpR_c3 {R : Type} [Lean.Grind.CommRing R] {x y e e' : R} (he : e' = -e) (h : x = -y) : e * x = e' * y := by grind
theorem lpR_c4 {R : Type} [Lean.Grind.CommRing R] {P s t a x : R} (h : P * s = t) : P * (a + s * x) = P * a + t * x := by grind
theorem lpR_c5 {R : Type} [Lean.Grind.CommRing R] {P : R} (x : R) (h : P = 1) : x = P * x := by grind
end
theorem lpp_R (row g : Nat → zp_R) (c j : Nat) : lpp row g c j = @lpR zp_R zp_ring row g c j := by
  induction j with
  | zero => exact (rfl : zp_C 0 = zp_C (zp_nat 0))
  | succ j ih =>
    rw [lpp_s, ih, @lpR_s zp_R zp_ring]
    by_cases q : bt c j = 0
    · rw [if_pos q, if_pos q]
    · rw [if_neg q, if_neg q]
      by_cases q2 : sgc c j = 1
      · rw [if_pos q2, q2]
        exact @lpR_c1 zp_R zp_ring _ _ _ zp_C1
      · have q3 : sgc c j = -1 := by
          rcases sgc_b c j with w | w
          · exact absurd w q2
          · exact w
        rw [if_neg q2, q3]
        exact @lpR_c2 zp_R zp_ring _ _ _ C_m1
/-- the last row of a set -/
def lst0 (r : Nat) : Nat := if r / 8 % 2 = 1 then 3 else if r / 4 % 2 = 1 then 2 else if r / 2 % 2 = 1 then 1 else 0
noncomputable def eps (n : Nat) : zp_R := zp_C (nF (if n % 2 = 1 then 1 else -1))
theorem lst_f {r : Nat} (hr : r < 16) (h0 : r ≠ 0) (h1 : bts r ≠ 1) : lst0 (r - 2 ^ fst0 r) = lst0 r ∧ fst0 (r - 2 ^ lst0 r) = fst0 r ∧ r - 2 ^ fst0 r ≠ 0 ∧ r - 2 ^ lst0 r ≠ 0 ∧ bts (r - 2 ^ fst0 r) + 1 = bts r ∧ r - 2 ^ fst0 r - 2 ^ lst0 r = r - 2 ^ lst0 r - 2 ^ fst0 r := by
  have := lt16 (p := fun r => r ≠ 0 → bts r ≠ 1 → lst0 (r - 2 ^ fst0 r) = lst0 r ∧ fst0 (r - 2 ^ lst0 r) = fst0 r ∧ r - 2 ^ fst0 r ≠ 0 ∧ r - 2 ^ lst0 r ≠ 0 ∧ bts (r - 2 ^ fst0 r) + 1 = bts r ∧ r - 2 ^ fst0 r - 2 ^ lst0 r = r - 2 ^ lst0 r - 2 ^ fst0 r) (by decide +kernel) r hr
  exact this h0 h1
theorem lst_1 {r : Nat} (hr : r < 16) (h1 : bts r = 1) : lst0 r = fst0 r := by
  have := lt16 (p := fun r => bts r = 1 → lst0 r = fst0 r) (by decide +kernel) r hr
  exact this h1
theorem eps_1 {n : Nat} (h : n = 1) : eps n = (letI := zp_ring; (1 : zp_R)) := by
  subst h
  exact zp_C1
theorem eps_s (n : Nat) : eps (n + 1) = zp_neg (eps n) := by
  unfold eps
  by_cases q : n % 2 = 1
  · rw [if_pos q, if_neg (show ¬ (n + 1) % 2 = 1 by omega), C_m1, ← zp_C1]
    rfl
  · rw [if_neg q, if_pos (show (n + 1) % 2 = 1 by omega), C_m1]
    refine zp_ext (fun i => ?_)
    rw [show (zp_C (nF 1)) = (letI := zp_ring; (1 : zp_R)) from zp_C1]
    show (_ : zp_F) = - -_
    grind
theorem mnq_l (M : Nat → Nat → zp_R) {k : Nat} (hk : k ≤ 4) : ∀ n r, bts r = n → r < 16 → r ≠ 0 → ∀ c, c < 16 → mnq M k r c = zp_mul (eps n) (lpp (M (lst0 r)) (mnq M k (r - 2 ^ lst0 r)) c k) := by
  intro n
  induction n with
  | zero => intro r hb hr h0; exact absurd (bts_0 hr hb) h0
  | succ n ih =>
    intro r hb hr h0 c hc
    rw [mnq_s M k hr h0]
    by_cases q : bts r = 1
    · rw [lst_1 hr q]
      exact @lpR_c5 zp_R zp_ring _ _ (eps_1 (by omega))
    · obtain ⟨a1, a2, a3, a4, a5, a6⟩ := lst_f hr h0 q
      have e1 : ∀ c', c' ≤ c → mnq M k (r - 2 ^ fst0 r) c' = zp_mul (eps n) (lpp (M (lst0 r)) (mnq M k (r - 2 ^ lst0 r - 2 ^ fst0 r)) c' k) := fun c' hc' => by
        rw [ih (r - 2 ^ fst0 r) (by omega) (Nat.lt_of_le_of_lt (Nat.sub_le _ _) hr) a3 c' (by omega), a1, a6]
      have e2 : mnq M k (r - 2 ^ lst0 r) = fun c' => lpp (M (fst0 r)) (mnq M k (r - 2 ^ lst0 r - 2 ^ fst0 r)) c' k := by
        funext c'
        rw [mnq_s M k (Nat.lt_of_le_of_lt (Nat.sub_le _ _) hr) a4, a2]
      rw [lpp_R, @lpR_cg zp_R zp_ring _ _ _ _ e1, e2]
      refine (@lpR_ml zp_R zp_ring _ _ _ _ _).trans ?_
      have e3 : (fun c' => lpp (M (lst0 r)) (mnq M k (r - 2 ^ lst0 r - 2 ^ fst0 r)) c' k) = fun c' => @lpR zp_R zp_ring (M (lst0 r)) (mnq M k (r - 2 ^ lst0 r - 2 ^ fst0 r)) c' k := by
        funext c'
        exact lpp_R _ _ _ _
      have e4 : (fun c' => lpp (M (fst0 r)) (mnq M k (r - 2 ^ lst0 r - 2 ^ fst0 r)) c' k) = fun c' => @lpR zp_R zp_ring (M (fst0 r)) (mnq M k (r - 2 ^ lst0 r - 2 ^ fst0 r)) c' k := by
        funext c'
        exact lpp_R _ _ _ _
      rw [e3, e4, lpp_R]
      exact @lpR_c3 zp_R zp_ring _ _ _ _ (eps_s n) (@lpR_anti zp_R zp_ring _ _ _ _ _ hk hc)
