/-! partial fractions: the columns of the table, one after another -/
theorem mul_lt2 {m c O D : Nat} (hm : m < O) (hc : c < D) : m * D + c < O * D := by
  have : (m + 1) * D ≤ O * D := Nat.mul_le_mul_right D hm
  rw [Nat.succ_mul] at this
  omega
/-- column x of the table -/
def scol (D O : Nat → Nat) (U : Nat → Nat → zp_R) : Nat → Nat → zp_R
  | 0, _ => zp_C 0
  | n + 1, x => if x < cbs D O n then scol D O U n x else zp_mul (zp_X ((x - cbs D O n) % D n)) (U n ((x - cbs D O n) / D n))
theorem scol_at {D O : Nat → Nat} {U : Nat → Nat → zp_R} {i m c : Nat} (hm : m < O i) (hc : c < D i) : ∀ n, i < n → scol D O U n (cbs D O i + m * D i + c) = zp_mul (zp_X c) (U i m)
  | 0, h => absurd h (Nat.not_lt_zero i)
  | n + 1, h => by
    have l := mul_lt2 hm hc
    show (if cbs D O i + m * D i + c < cbs D O n then _ else _) = _
    by_cases q : i = n
    · subst q
      rw [if_neg (by omega), show cbs D O i + m * D i + c - cbs D O i = c + D i * m by rw [Nat.mul_comm]; omega, Nat.add_mul_mod_self_left, Nat.mod_eq_of_lt hc, Nat.add_mul_div_left c m (show 0 < D i by omega), Nat.div_eq_of_lt hc, Nat.zero_add]
    · have le := cbs_le D O (show i + 1 ≤ n by omega)
      have e : cbs D O (i + 1) = cbs D O i + O i * D i := rfl
      rw [if_pos (by omega)]
      exact scol_at hm hc n (by omega)
theorem pfs_ex {b : zp_R} {n : Nat} {F : Nat → zp_R} {D O : Nat → Nat} (h : facs b n F D O) : ∃ U, pfs b n F O U := by
  have hV : ∀ i, ∃ V, i < n → b = zp_mul (zp_npow (F i) (O i)) V := fun i => by
    by_cases q : i < n
    · obtain ⟨_, _, _, V, e, _⟩ := h.1 i q
      exact ⟨V, fun _ => e⟩
    · exact ⟨zp_C 0, fun w => absurd w q⟩
  obtain ⟨V, hV⟩ : ∃ V : Nat → zp_R, ∀ i, i < n → b = zp_mul (zp_npow (F i) (O i)) (V i) := ⟨fun i => Classical.choose (hV i), fun i => Classical.choose_spec (hV i)⟩
  refine ⟨fun i m => zp_mul (zp_npow (F i) (O i - 1 - m)) (V i), fun i hi2 m hm => ?_⟩
  have e1 := npow_add (F i) (m + 1) (O i - 1 - m)
  rw [show m + 1 + (O i - 1 - m) = O i by omega] at e1
  have e2 := hV i hi2
  rw [e1] at e2
  exact e2.trans (@pf_ind.pi_h zp_R zp_ring _ _ _)
/-- what is left of b when F i was taken out m times -/
def ub (b : zp_R) (U : Nat → Nat → zp_R) (i m : Nat) : zp_R := if m = 0 then b else U i (m - 1)
theorem ub_s {b : zp_R} {n : Nat} {F : Nat → zp_R} {O : Nat → Nat} {U : Nat → Nat → zp_R} (hU : pfs b n F O U) (mF : ∀ i, i < n → mo (F i)) {i m : Nat} (hi2 : i < n) (hm : m < O i) : ub b U i m = zp_mul (F i) (ub b U i (m + 1)) := by
  unfold ub
  rw [if_neg (show ¬ m + 1 = 0 by omega), show m + 1 - 1 = m by omega]
  have e := hU i hi2 m hm
  by_cases q : m = 0
  · subst q
    rw [if_pos rfl, e]
    have e1 : zp_npow (F i) (0 + 1) = zp_mul (zp_C 1) (F i) := rfl
    rw [e1, zp_C1]
    exact @us_h zp_R zp_ring _ _
  · rw [if_neg q]
    have e2 := hU i hi2 (m - 1) (by omega)
    rw [show m - 1 + 1 = m by omega] at e2
    refine zp_can (mo_npow (mF i hi2) m) ?_
    rw [← e2]
    rw [npow_s] at e
    exact e.trans (@us_h2 zp_R zp_ring _ _ _)
where
  us_h : ∀ {R : Type} [Lean.Grind.CommRing R] (f u : R), 1 * f * u = f * u := by intro R _ f u; grind
  us_h2 : ∀ {R : Type} [Lean.Grind.CommRing R] (p f u : R), p * f * u = p * (f * u) := by intro R _ p f u; grind
theorem Xc_at (c : Nat) (u : zp_R) (r : Nat) : (zp_mul (zp_X c) u).1 r = if r < c then 0 else u.1 (r - c) := by
  induction c generalizing r with
  | zero =>
    rw [if_neg (Nat.not_lt_zero r)]
    have : zp_X 0 = zp_C 1 := rfl
    rw [this, zp_C_mul1]
    exact @sum_del.sd_h1.xc zp_F _ _
  | succ c ih =>
    have e : zp_mul (zp_X (c + 1)) u = zp_mul (zp_X 1) (zp_mul (zp_X c) u) := by
      rw [← zp_X_mul c]
      exact @xc_h zp_R zp_ring _ _ _
    rw [e]
    cases r with
    | zero => rw [(zp_X1 _).1, if_pos (Nat.succ_pos c)]
    | succ r =>
      rw [(zp_X1 _).2, ih]
      by_cases q : r < c
      · rw [if_pos q, if_pos (by omega)]
      · rw [if_neg q, if_neg (by omega), show r + 1 - (c + 1) = r - c by omega]
where
  sum_del.sd_h1.xc : ∀ {R : Type} [Lean.Grind.CommRing R] (a : R), 1 * a = a := by intro R _ a; grind
  xc_h : ∀ {R : Type} [Lean.Grind.CommRing R] (a b c : R), a * b * c = b * (a * c) := by intro R _ a b c; grind
theorem tc_skip {S : Nat → zp_R} {n K e : Nat} (h : ∀ r, r < e → (S K).1 r = 0) : tc S n K 0 = tc S n K e := by
  funext r c
  unfold tc
  by_cases q : r < n ∧ (c < K ∨ (c = K ∧ r < 0))
  · rw [if_pos q, if_pos ⟨q.1, q.2.elim .inl (fun w => .inr ⟨w.1, by omega⟩)⟩]
  · rw [if_neg q]
    by_cases q2 : r < n ∧ (c < K ∨ (c = K ∧ r < e))
    · rw [if_pos q2]
      rcases q2.2 with w | ⟨w1, w2⟩
      · exact absurd ⟨q2.1, .inl w⟩ q
      · rw [w1]; exact (h r w2).symm
    · rw [if_neg q2]
