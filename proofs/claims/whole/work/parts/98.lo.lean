/-! one row more, at its place or not: determinants by any row -/
theorem ins_f {r p : Nat} (hr : r < 16) (hp : p < 4) (off : bt r p = 0) : r + 2 ^ p < 16 ∧ r + 2 ^ p ≠ 0 ∧ ((r = 0 ∨ p < fst0 r) → fst0 (r + 2 ^ p) = p) ∧ (¬ (r = 0 ∨ p < fst0 r) → fst0 (r + 2 ^ p) = fst0 r ∧ r + 2 ^ p - 2 ^ fst0 r = r - 2 ^ fst0 r + 2 ^ p ∧ bt (r - 2 ^ fst0 r) p = 0 ∧ r - 2 ^ fst0 r < r) := by
  have : ∀ p : Fin 4, ∀ r : Fin 16, bt r.val p.val = 0 → r.val + 2 ^ p.val < 16 ∧ r.val + 2 ^ p.val ≠ 0 ∧ ((r.val = 0 ∨ p.val < fst0 r.val) → fst0 (r.val + 2 ^ p.val) = p.val) ∧ (¬ (r.val = 0 ∨ p.val < fst0 r.val) → fst0 (r.val + 2 ^ p.val) = fst0 r.val ∧ r.val + 2 ^ p.val - 2 ^ fst0 r.val = r.val - 2 ^ fst0 r.val + 2 ^ p.val ∧ bt (r.val - 2 ^ fst0 r.val) p.val = 0 ∧ r.val - 2 ^ fst0 r.val < r.val) := by decide +kernel
  exact this ⟨p, hp⟩ ⟨r, hr⟩ off
theorem lpR_ng {R : Type} [Lean.Grind.CommRing R] (row g : Nat → R) (c j : Nat) : lpR row (fun c' => -g c') c j = -lpR row g c j := by
  induction j with
  | zero =>
    show (0 : R) = -0
    grind
  | succ j ih =>
    rw [lpR_s, lpR_s, ih]
    by_cases q : bt c j = 0
    · rw [if_pos q, if_pos q]
    · rw [if_neg q, if_neg q]
      by_cases q2 : sgc c j = 1
      · rw [if_pos q2, if_pos q2]
        grind
      · rw [if_neg q2, if_neg q2]
        grind
theorem ng_ng {R : Type} [Lean.Grind.CommRing R] {a b : R} (h : a = -b) : -a = b := by grind
theorem mnq_sR (M : Nat → Nat → zp_R) (k : Nat) {r : Nat} (hr : r < 16) (h0 : r ≠ 0) (c : Nat) : mnq M k r c = @lpR zp_R zp_ring (M (fst0 r)) (mnq M k (r - 2 ^ fst0 r)) c k := (mnq_s M k hr h0 c).trans (lpp_R _ _ _ _)
/-- a row put in at its place is, but for the sign, the row put ahead -/
theorem mnq_ins (M : Nat → Nat → zp_R) {k p : Nat} (hk : k ≤ 4) (hp : p < 4) : ∀ n r, r ≤ n → r < 16 → bt r p = 0 → (∀ c, c < 16 → mnq M k (r + 2 ^ p) c = @lpR zp_R zp_ring (M p) (mnq M k r) c k) ∨ (∀ c, c < 16 → mnq M k (r + 2 ^ p) c = zp_neg (@lpR zp_R zp_ring (M p) (mnq M k r) c k)) := by
  intro n
  induction n with
  | zero =>
    intro r hn hr off
    obtain ⟨a1, a2, a3, _⟩ := ins_f hr hp off
    have r0 : r = 0 := by omega
    refine .inl (fun c _ => ?_)
    rw [mnq_sR M k a1 a2, a3 (.inl r0), Nat.add_sub_cancel]
  | succ n ih =>
    intro r hn hr off
    obtain ⟨a1, a2, a3, a4⟩ := ins_f hr hp off
    by_cases q : r = 0 ∨ p < fst0 r
    · refine .inl (fun c _ => ?_)
      rw [mnq_sR M k a1 a2, a3 q, Nat.add_sub_cancel]
    · obtain ⟨b1, b2, b3, b4⟩ := a4 q
      have r0 : r ≠ 0 := fun e => q (.inl e)
      have eF : (fun c' => @lpR zp_R zp_ring (M (fst0 r)) (mnq M k (r - 2 ^ fst0 r)) c' k) = mnq M k r := by
        funext c'
        exact (mnq_sR M k hr r0 c').symm
      rcases ih (r - 2 ^ fst0 r) (by omega) (by omega) b3 with w | w
      · refine .inr (fun c hc => ?_)
        rw [mnq_sR M k a1 a2, b1, b2, @lpR_cg zp_R zp_ring _ _ _ _ (fun c' hc' => w c' (by omega)), ← eF]
        exact @lpR_anti zp_R zp_ring _ _ _ _ _ hk hc
      · refine .inl (fun c hc => ?_)
        rw [mnq_sR M k a1 a2, b1, b2, @lpR_cg zp_R zp_ring _ _ _ _ (fun c' hc' => w c' (by omega)), ← eF]
        exact (@lpR_ng zp_R zp_ring _ _ _ _).trans (@ng_ng zp_R zp_ring _ _ (@lpR_anti zp_R zp_ring _ _ _ _ _ hk hc))
