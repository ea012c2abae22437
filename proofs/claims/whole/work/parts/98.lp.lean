/-! what y makes 0 in all rows of a set, it makes 0 in their determinants -/
theorem lpR_c2g {R : Type} [Lean.Grind.CommRing R] {row g g' : Nat → R} {c : Nat} : ∀ {k : Nat}, (∀ j, j < k → bt c j ≠ 0 → g (c - 2 ^ j) = g' (c - 2 ^ j)) → lpR row g c k = lpR row g' c k
  | 0, _ => rfl
  | k + 1, e => by
    rw [lpR_s, lpR_s, lpR_c2g (fun j hj => e j (by omega))]
    by_cases q : bt c k = 0
    · rw [if_pos q, if_pos q]
    · rw [if_neg q, if_neg q, e k (by omega) q]
theorem icR_s {R : Type} [Lean.Grind.CommRing R] (y g : Nat → R) (S j : Nat) : icR y g S (j + 1) = if bt S j = 0 then (if sgc S j = 1 then icR y g S j + y j * g (S + 2 ^ j) else icR y g S j - y j * g (S + 2 ^ j)) else icR y g S j := rfl
theorem icR_cg {R : Type} [Lean.Grind.CommRing R] {y g g' : Nat → R} {S : Nat} : ∀ {k : Nat}, (∀ j, j < k → bt S j = 0 → g (S + 2 ^ j) = g' (S + 2 ^ j)) → icR y g S k = icR y g' S k
  | 0, _ => rfl
  | k + 1, e => by
    rw [icR_s, icR_s, icR_cg (fun j hj => e j (by omega))]
    by_cases q : bt S k = 0
    · rw [if_pos q, if_pos q, e k (by omega) q]
    · rw [if_neg q, if_neg q]
/-- a set's rows, the first first -/
noncomputable def rwl (M : Nat → Nat → zp_R) : Nat → Nat → List (Nat → zp_R)
  | 0 => fun _ => []
  | n + 1 => fun r => if r = 0 then [] else M (fst0 r) :: rwl M n (r - 2 ^ fst0 r)
theorem rwl_s (M : Nat → Nat → zp_R) (n r : Nat) : rwl M (n + 1) r = if r = 0 then [] else M (fst0 r) :: rwl M n (r - 2 ^ fst0 r) := rfl
theorem rwl_d (M : Nat → Nat → zp_R) {k : Nat} (hk : k ≤ 4) : ∀ n r, bts r ≤ n → r < 16 → ∀ c, c < 16 → bts c = bts r → @dts zp_R zp_ring k (rwl M n r) c = mnq M k r c := by
  intro n
  induction n with
  | zero =>
    intro r hn hr c hc e
    have r0 := bts_0 hr (by omega)
    have c0 := bts_0 hc (by omega)
    subst r0 c0
    rw [mnq_0]
    exact zp_C1.symm
  | succ n ih =>
    intro r hn hr c hc e
    rw [rwl_s]
    by_cases q : r = 0
    · have c0 : c = 0 := bts_0 hc (by rw [e, q]; rfl)
      subst c0
      rw [if_pos q, q, mnq_0]
      exact zp_C1.symm
    · obtain ⟨f1, f2, f3⟩ := fst_b hr q
      rw [if_neg q, mnq_sR M k hr q]
      show @lpR zp_R zp_ring (M (fst0 r)) (@dts zp_R zp_ring k (rwl M n (r - 2 ^ fst0 r))) c k = _
      refine @lpR_c2g zp_R zp_ring _ _ _ _ _ (fun j hj on => ?_)
      have b1 := bt_01 c j
      obtain ⟨x1, x2⟩ := bt_on hc (show j < 4 by omega) (by omega)
      exact ih _ (by omega) (Nat.lt_of_le_of_lt (Nat.sub_le _ _) hr) _ (Nat.lt_of_le_of_lt (Nat.sub_le _ _) hc) (by omega)
theorem fst_sub {r i : Nat} (hr : r < 16) (h0 : r ≠ 0) (hi2 : i < 4) (on : bt (r - 2 ^ fst0 r) i = 1) : bt r i = 1 := by
  have : ∀ i : Fin 4, ∀ r : Fin 16, r.val ≠ 0 → bt (r.val - 2 ^ fst0 r.val) i.val = 1 → bt r.val i.val = 1 := by decide +kernel
  exact this ⟨i, hi2⟩ ⟨r, hr⟩ h0 on
theorem rwl_m (M : Nat → Nat → zp_R) : ∀ n r, r < 16 → ∀ row, row ∈ rwl M n r → ∃ i, i < 4 ∧ bt r i = 1 ∧ row = M i := by
  intro n
  induction n with
  | zero =>
    intro r hr row h
    exact absurd h List.not_mem_nil
  | succ n ih =>
    intro r hr row h
    rw [rwl_s] at h
    by_cases q : r = 0
    · rw [if_pos q] at h
      exact absurd h List.not_mem_nil
    · rw [if_neg q] at h
      obtain ⟨f1, f2, f3⟩ := fst_b hr q
      rcases List.mem_cons.mp h with w | w
      · exact ⟨fst0 r, f3, (fst_0 hr q).1, w⟩
      · obtain ⟨i, i1, i2, i3⟩ := ih _ (Nat.lt_of_le_of_lt (Nat.sub_le _ _) hr) row w
        exact ⟨i, i1, fst_sub hr q i1 i2, i3⟩
theorem add_on {S j : Nat} (hS : S < 16) (hj : j < 4) (off : bt S j = 0) : S + 2 ^ j < 16 ∧ bts (S + 2 ^ j) = bts S + 1 := by
  have : ∀ j : Fin 4, ∀ S : Fin 16, bt S.val j.val = 0 → S.val + 2 ^ j.val < 16 ∧ bts (S.val + 2 ^ j.val) = bts S.val + 1 := by decide +kernel
  exact this ⟨j, hj⟩ ⟨S, hS⟩ off
theorem ic_mnq (M : Nat → Nat → zp_R) {y : Nat → zp_R} {k r S : Nat} (hk : k ≤ 4) (hr : r < 16) (hS : S < 16) (e : bts S + 1 = bts r) (z : ∀ i, i < 4 → bt r i = 1 → @dtR zp_R zp_ring (M i) y k = zp_C 0) : @icR zp_R zp_ring y (mnq M k r) S k = zp_C 0 := by
  have h1 := @ic_dts zp_R zp_ring y k hk (rwl M (bts r) r) (fun row hrow => by
    obtain ⟨i, i1, i2, i3⟩ := rwl_m M _ r hr row hrow
    rw [i3]
    exact z i i1 i2) S hS
  refine Eq.trans (@icR_cg zp_R zp_ring _ _ _ _ _ (fun j hj off => ?_)) h1
  obtain ⟨a1, a2⟩ := add_on hS (show j < 4 by omega) off
  exact (rwl_d M hk (bts r) r (Nat.le_refl _) hr _ a1 (by omega)).symm
