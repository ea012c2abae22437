/-! the class: inverseOf -/
theorem nF_P : nF 32003 = 0 := by decide +kernel
theorem zp_zmul (x : zp_F) : (0 : zp_F) * x = 0 := by
  have h1 : ∀ {R : Type} [Lean.Grind.CommRing R] (x : R), 0 * x = 0 := fun {R} _ x => by grind
  exact h1 x
theorem zp_0mul (x : zp_F) : x * (0 : zp_F) = 0 := by
  have h1 : ∀ {R : Type} [Lean.Grind.CommRing R] (x : R), x * 0 = 0 := fun {R} _ x => by grind
  exact h1 x
theorem zp_inv_u {a b : zp_F} (h : b * a = 1) (ha : a ≠ 0) : b = a ^ 32001 := by
  have i := zp_inv ha
  have h1 : ∀ {R : Type} [Lean.Grind.CommRing R] (x y z : R), x * y = 1 → y * z = 1 → x = z := fun {R} _ x y z h h' => by grind
  exact h1 b a _ h i
/-- Euclid's state: r and s, t and u with their sizes a and b -/
def euc (v r s : Nat) (t u : Int) : Prop := ∃ a b : Nat, ((t = (a : Int) ∧ u = -(b : Int)) ∨ (t = -(a : Int) ∧ u = (b : Int))) ∧ r * b + s * a = 32003 ∧ a ≤ 16001 ∧ nF t * nF v = nF r ∧ nF u * nF v = nF s ∧ s < r ∧ r ≤ 32003 ∧ (s = 0 → r < 32003)
theorem euc_s {v r s : Nat} {t u : Int} (h : euc v r s t u) (s0 : s ≠ 0) : euc v s (r % s) u (t - ((r / s : Nat) : Int) * u) ∧ s < 32003 ∧ r % s ≤ r / 2 := by
  obtain ⟨a, b, sg, e, la, c1, c2, lt, r3, _⟩ := h
  have dm : s * (r / s) + r % s = r := Nat.div_add_mod r s
  have ml : r % s < s := Nat.mod_lt r (by omega)
  obtain ⟨q, eq⟩ : ∃ q, r / s = q := ⟨_, rfl⟩
  obtain ⟨m, em⟩ : ∃ m, r % s = m := ⟨_, rfl⟩
  rw [eq, em] at dm
  rw [em] at ml
  rw [eq, em]
  have q1 : 1 ≤ q := by
    rw [← eq]
    exact (Nat.one_le_div_iff (by omega)).mpr (by omega)
  have sq : s ≤ s * q := Nat.le_mul_of_pos_right s q1
  have b2 : 2 * b ≤ 32003 := by
    have : 2 * b ≤ r * b := Nat.mul_le_mul_right b (by omega)
    omega
  have sl : s < 32003 := by omega
  refine ⟨⟨b, a + q * b, ?_, ?_, by omega, c2, ?_, ml, by omega, fun _ => sl⟩, sl, by omega⟩
  · rcases sg with ⟨x, y⟩ | ⟨x, y⟩
    · right
      refine ⟨y, ?_⟩
      rw [x, y, Int.natCast_add, Int.natCast_mul, Int.mul_neg]
      omega
    · left
      refine ⟨y, ?_⟩
      rw [x, y, Int.natCast_add, Int.natCast_mul]
      omega
  · have h1 : s * (a + q * b) + m * b = (s * q + m) * b + s * a := by
      rw [Nat.mul_add, Nat.add_mul, ← Nat.mul_assoc]
      omega
    rw [h1, dm]
    exact e
  · rw [nF_sub, nF_mul]
    have em' : (m : Int) = (r : Int) - (q : Int) * (s : Int) := by
      rw [← Int.natCast_mul]
      have : q * s = s * q := Nat.mul_comm q s
      omega
    rw [em', nF_sub, nF_mul, ← c1, ← c2]
    have h1 : ∀ {R : Type} [Lean.Grind.CommRing R] (t q u v : R), (t - q * u) * v = t * v - q * (u * v) := fun {R} _ t q u v => by grind
    exact h1 _ _ _ _
section
variable {D : Nat} {h : s_H}
theorem u_inverseOf {v : Nat} (hv : v < 32003) : wm sw_P (D + 1) 168 [vi (v : Int)] h (qr (vi ((nF v ^ 32001 : zp_F).val : Int)) h) := by
  refine wm_in (cd := sw_c168) (nL := 9) (hd := sw_h168) rfl rfl ?_
  -- the end
  have fin : ∀ (r : Nat) (t u : Int) (k : Int) (t6 t7 t8 : Term), In3 k → (euc v r 0 t u ∨ (v = 0 ∧ t = 0)) → wr sw_P D sw_c168 sw_h168 (65, [vi (v : Int), vi (r : Int), vi (0 : Int), vi t, vi u, vi k, t6, t7, t8], [], h, 0, 0) (qr (vi ((nF v ^ 32001 : zp_F).val : Int)) h) := fun r t u k t6 t7 t8 ik E => by
    have val : ∀ w : Int, (0 ≤ w ∧ w < 32003) → nF w = nF t → w = ((nF v ^ 32001 : zp_F).val : Int) := fun w hw e => by
      rcases E with ⟨a, b, sg, e1, la, c1, c2, lt, _, r0⟩ | ⟨v0, t0⟩
      · have rb : r * b = 32003 := by omega
        have rl := r0 rfl
        have v0 : nF (v : Int) ≠ 0 := fun z => by
          rw [z, zp_0mul] at c1
          have := (nF_is0 (x := (r : Int)) (by omega)).mp c1.symm
          omega
        have r1 : r = 1 := by
          have z : nF (r : Int) * nF (b : Int) = 0 := by
            rw [← nF_mul, ← Int.natCast_mul, rb]
            exact nF_P
          by_cases b0 : nF (b : Int) = 0
          · have hb : b ≤ 32003 := by
              have : 1 * b ≤ r * b := Nat.mul_le_mul_right b (by omega)
              omega
            by_cases w : b = 32003
            · rw [w] at rb
              omega
            · have := (nF_is0 (x := (b : Int)) (by omega)).mp b0
              have b00 : b = 0 := by omega
              rw [b00] at rb
              omega
          · have rn : nF (r : Int) ≠ 0 := fun z2 => by
              have := (nF_is0 (x := (r : Int)) (by omega)).mp z2
              omega
            exact absurd z (zp_F_mul0 rn b0)
        rw [r1] at c1
        have : nF t * nF (v : Int) = 1 := c1
        rw [← zp_inv_u this v0, ← e, cf_nF hw]
      · subst v0
        have : w = 0 := by
          rw [t0, nF_0] at e
          exact (nF_is0 hw).mp e
        rw [this]
        have z := zp_pow_succ (0 : zp_F) 32000
        rw [zp_0mul] at z
        have e0 : nF ((0 : Nat) : Int) = 0 := nF_0
        rw [e0, z]
        rfl
    have bt : -16001 ≤ t ∧ t ≤ 16001 := by
      rcases E with ⟨a, b, sg, e1, la, _⟩ | ⟨_, t0⟩
      · omega
      · omega
    refine k168_65 (fun w => k168_77 (k168_78 ?_)) (fun w => k168_69 (k168_78 ?_)) (c1 := by unfold In3; omega)
    · rw [val t (by omega) rfl]
    · rw [val (t + 32003) (by omega) (by rw [nF_add, nF_P]; exact (zp_h19 _).symm)]
  have one : ∀ (r s : Nat) (t u : Int) (k : Nat) (t6 t7 t8 : Term), k < 60 → euc v r s t u → (∀ (t6 t7 t8 : Term), s ≠ 0 → wr sw_P D sw_c168 sw_h168 (14, [vi (v : Int), vi (s : Int), vi ((r % s : Nat) : Int), vi u, vi (t - ((r / s : Nat) : Int) * u), vi ((k + 1 : Nat) : Int), t6, t7, t8], [], h, 0, 0) (qr (vi ((nF v ^ 32001 : zp_F).val : Int)) h)) → wr sw_P D sw_c168 sw_h168 (14, [vi (v : Int), vi (r : Int), vi (s : Int), vi t, vi u, vi (k : Int), t6, t7, t8], [], h, 0, 0) (qr (vi ((nF v ^ 32001 : zp_F).val : Int)) h) := fun r s t u k t6 t7 t8 hk E next => by
    have r3 : s < r ∧ r ≤ 32003 := by
      obtain ⟨_, _, _, _, _, _, _, lt, r3, _⟩ := E
      exact ⟨lt, r3⟩
    refine k168_14 (fun w => absurd w (by omega)) (fun _ => ?_) (c1 := by unfold In3; omega)
    refine k168_21 (fun w => ?_) (fun w => ?_) (c1 := by unfold In3; omega)
    · have s0 : s = 0 := by omega
      subst s0
      exact fin r t u (k : Int) _ _ _ (by unfold In3; omega) (.inl E)
    · refine k168_25 ?_ (c1 := w) (c2 := by unfold In3; omega) (c3 := by unfold In3; omega)
      have dm : s * (r / s) + r % s = r := Nat.div_add_mod r s
      have ed : Int.tdiv (r : Int) (s : Int) = ((r / s : Nat) : Int) := rfl
      have em : (r : Int) - ((r / s : Nat) : Int) * (s : Int) = ((r % s : Nat) : Int) := by
        rw [← Int.natCast_mul, Nat.mul_comm]
        omega
      rw [ed, em]
      exact next _ _ _ (by omega)
  have loop : ∀ (n r s : Nat) (t u : Int) (k : Nat) (t6 t7 t8 : Term), r < 2 ^ n → k + 2 * n < 60 → euc v r s t u → wr sw_P D sw_c168 sw_h168 (14, [vi (v : Int), vi (r : Int), vi (s : Int), vi t, vi u, vi (k : Int), t6, t7, t8], [], h, 0, 0) (qr (vi ((nF v ^ 32001 : zp_F).val : Int)) h) := by
    intro n
    induction n with
    | zero =>
      intro r s t u k t6 t7 t8 hr hk E
      obtain ⟨_, _, _, _, _, _, _, lt, _⟩ := E
      have : (2 : Nat) ^ 0 = 1 := rfl
      omega
    | succ n ih =>
      intro r s t u k t6 t7 t8 hr hk E
      have p2 : (2 : Nat) ^ (n + 1) = 2 * 2 ^ n := by rw [Nat.pow_succ]; omega
      refine one r s t u k t6 t7 t8 (by omega) E (fun t6 t7 t8 s0 => ?_)
      obtain ⟨E1, s1, hf⟩ := euc_s E s0
      refine one s (r % s) u _ (k + 1) t6 t7 t8 (by omega) E1 (fun t6 t7 t8 s2 => ?_)
      obtain ⟨E2, _, _⟩ := euc_s E1 s2
      exact ih _ _ _ _ (k + 1 + 1) _ _ _ (by omega) (by omega) E2
  refine k168_0 ?_
  by_cases v0 : v = 0
  · refine k168_14 (fun w => absurd w (by decide)) (fun _ => k168_21 (fun _ => ?_) (fun w => absurd (by omega) w) (c1 := by unfold In3; omega)) (c1 := by decide)
    subst v0
    exact fin 32003 0 1 0 _ _ _ (by decide) (.inr ⟨rfl, rfl⟩)
  · refine loop 15 32003 v 0 1 0 _ _ _ (by decide) (by decide) ⟨0, 1, .inr ⟨rfl, rfl⟩, by omega, by decide, ?_, ?_, hv, Nat.le_refl _, fun w => absurd w v0⟩
    · rw [nF_0, zp_zmul]
      exact nF_P.symm
    · have h1 : nF 1 = 1 := rfl
      rw [h1]
      have h2 : ∀ {R : Type} [Lean.Grind.CommRing R] (x : R), 1 * x = x := fun {R} _ x => by grind
      exact h2 _
end
