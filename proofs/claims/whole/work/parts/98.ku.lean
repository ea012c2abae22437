/-! the class's reverse: Lagrange, number by number, below power 25 -/
/-- the same numbers below N -/
def eqm (N : Nat) (f g : zp_R) : Prop := ∀ i, i < N → f.1 i = g.1 i
theorem eqm_r (N : Nat) (f : zp_R) : eqm N f f := fun _ _ => rfl
theorem eqm_s {N : Nat} {f g : zp_R} (h : eqm N f g) : eqm N g f := fun i hi2 => (h i hi2).symm
theorem eqm_t {N : Nat} {f g k : zp_R} (h : eqm N f g) (h2 : eqm N g k) : eqm N f k := fun i hi2 => (h i hi2).trans (h2 i hi2)
theorem eqm_mul {N : Nat} {f f' g g' : zp_R} (h : eqm N f f') (h2 : eqm N g g') : eqm N (zp_mul f g) (zp_mul f' g') := fun i hi2 => zp_c_congr (fun j hj => h j (by omega)) (fun j hj => h2 j (by omega))
theorem eqm_add {N : Nat} {f f' g g' : zp_R} (h : eqm N f f') (h2 : eqm N g g') : eqm N (zp_add f g) (zp_add f' g') := fun i hi2 => by
  show f.1 i + g.1 i = f'.1 i + g'.1 i
  rw [h i hi2, h2 i hi2]
theorem eqm_D {N : Nat} {f g : zp_R} (h : eqm (N + 1) f g) : eqm N (zp_D f) (zp_D g) := fun i hi2 => by
  show zp_nat (i + 1) * f.1 (i + 1) = zp_nat (i + 1) * g.1 (i + 1)
  rw [h (i + 1) (by omega)]
theorem eqm_pw {N : Nat} {f g : zp_R} (h : eqm N f g) : ∀ k, eqm N (zp_npow f k) (zp_npow g k)
  | 0 => eqm_r N _
  | k + 1 => eqm_mul (eqm_pw h k) h
theorem npw_S (f : zp_R) (k : Nat) : zp_npow f (k + 1) = zp_mul (zp_npow f k) f := rfl
/-- a power of what begins at the letter -/
theorem ord_pw {f : zp_R} (f0 : f.1 0 = 0) : ∀ k i, i < k → (zp_npow f k).1 i = 0
  | 0, i, h => absurd h (Nat.not_lt_zero i)
  | k + 1, i, h => by
    show zp_sum (fun j => (zp_npow f k).1 j * f.1 (i - j)) (i + 1) = 0
    refine zp_sum_zero (fun j hj => ?_)
    by_cases q : j < k
    · rw [ord_pw f0 k j q]
      exact @lg_h0 zp_F _ _
    · have : i - j = 0 := by omega
      rw [this, f0]
      exact zp_h15 _
where lg_h0 : ∀ {R : Type} [Lean.Grind.CommRing R] (a : R), 0 * a = 0 := by intro R _ a; grind
theorem ord_mul {f g : zp_R} {k : Nat} (h : ∀ i, i < k → f.1 i = 0) : ∀ i, i < k → (zp_mul f g).1 i = 0 := fun i hi2 => by
  show zp_sum (fun j => f.1 j * g.1 (i - j)) (i + 1) = 0
  refine zp_sum_zero (fun j hj => ?_)
  rw [h j (by omega)]
  exact @ord_pw.lg_h0 zp_F _ _
theorem cmo_at (L V : zp_R) (i : Nat) : ∀ N, (cmo L V N).1 i = zp_sum (fun k => L.1 k * (zp_npow V k).1 i) N
  | 0 => zp_C00 i
  | N + 1 => by
    show (cmo L V N).1 i + (zp_mul (zp_C (L.1 N)) (zp_npow V N)).1 i = _
    rw [cmo_at L V i N, zp_C_mul1]
    rfl
theorem X_mul_at (f : zp_R) (i : Nat) : (zp_mul (zp_X 1) f).1 i = if i = 0 then 0 else f.1 (i - 1) := by
  cases i with
  | zero =>
    show zp_c (zp_X 1).1 f.1 0 = _
    rw [zp_c_zero, if_pos rfl]
    have : (zp_X 1).1 0 = 0 := by decide
    rw [this]
    exact @ord_pw.lg_h0 zp_F _ _
  | succ n =>
    show zp_c (zp_X 1).1 f.1 (n + 1) = _
    rw [zp_c_succ, if_neg (by omega)]
    have e : zp_c (fun i => (zp_X 1).1 (i + 1)) f.1 n = f.1 n := by
      have := zp_c_C (1 : zp_F) f.1 n
      rw [show (fun i => (zp_X 1).1 (i + 1)) = (fun i => if i = 0 then (1 : zp_F) else 0) from funext (fun i => by
        show (if i + 1 = 1 then (1 : zp_F) else 0) = _
        by_cases q : i = 0
        · rw [if_pos q, if_pos (by omega)]
        · rw [if_neg q, if_neg (by omega)])]
      rw [this]
      exact @lg_h1 zp_F _ _
    have z : (zp_X 1).1 0 = 0 := by decide
    rw [e, z, show n + 1 - 1 = n by omega]
    exact @lg_h2 zp_F _ _ _
where
  lg_h1 : ∀ {R : Type} [Lean.Grind.CommRing R] (a : R), 1 * a = a := by intro R _ a; grind
  lg_h2 : ∀ {R : Type} [Lean.Grind.CommRing R] (a b : R), 0 * a + b = b := by intro R _ a b; grind
theorem Xn_mul_at (f : zp_R) : ∀ k i, (zp_mul (zp_X k) f).1 i = if i < k then 0 else f.1 (i - k)
  | 0, i => by
    rw [if_neg (Nat.not_lt_zero i)]
    have : zp_X 0 = zp_C 1 := rfl
    rw [this, zp_C_mul1]
    exact X_mul_at.lg_h1 _
  | k + 1, i => by
    have e : zp_mul (zp_X (k + 1)) f = zp_mul (zp_X 1) (zp_mul (zp_X k) f) := by
      rw [← zp_X_mul]
      exact @lg_h3 zp_R zp_ring _ _ _
    rw [e, X_mul_at]
    by_cases q : i = 0
    · rw [if_pos q, if_pos (by omega)]
    · rw [if_neg q, Xn_mul_at f k (i - 1)]
      by_cases q2 : i < k + 1
      · rw [if_pos (by omega), if_pos q2]
      · rw [if_neg (by omega), if_neg q2, show i - 1 - k = i - (k + 1) by omega]
where lg_h3 : ∀ {R : Type} [Lean.Grind.CommRing R] (a b c : R), a * b * c = b * (a * c) := by intro R _ a b c; grind
theorem lg_h4 {R : Type} [Lean.Grind.CommRing R] (p q x y : R) : p * q * (x * y) = p * x * (q * y) := by grind
theorem lg_h5 {R : Type} [Lean.Grind.CommRing R] (p q x y : R) (h : x + y = 1) : p * y = p - p * x := by grind
/-- (φ a)^k is the letter to the k -/
theorem lag_pw {φ a : zp_R} (e : eqm 25 (zp_mul φ a) (zp_X 1)) (k : Nat) : eqm 25 (zp_mul (zp_npow φ k) (zp_npow a k)) (zp_X k) := by
  have e1 : zp_mul (zp_npow φ k) (zp_npow a k) = zp_npow (zp_mul φ a) k := by
    induction k with
    | zero =>
      show zp_mul (zp_C 1) (zp_C 1) = zp_C 1
      rw [zp_C_mul]
      congr 1
    | succ k ih =>
      rw [npw_S, npw_S, npw_S, ← ih]
      exact @lg_h4 zp_R zp_ring _ _ _ _
  rw [e1]
  have := eqm_pw e k
  rw [zp_X_pow] at this
  exact this
/-- number m of φ^(m+1) times the slope of a -/
theorem lag_0 {φ a : zp_R} (e : eqm 25 (zp_mul φ a) (zp_X 1)) {m : Nat} (m1 : 1 ≤ m) (m2 : m < 24) : (zp_mul (zp_npow φ (m + 1)) (zp_D a)).1 m = 0 := by
  obtain ⟨k, ek⟩ : ∃ k, m = k + 1 := ⟨m - 1, by omega⟩
  subst ek
  have d := eqm_D (N := 24) e
  rw [D_mu] at d
  have dX : zp_D (zp_X 1) = zp_C 1 := by
    rw [D_X, if_neg (by omega)]
    show zp_mul (zp_C (zp_nat 1)) (zp_X 0) = zp_C 1
    have h0 : zp_X 0 = zp_C 1 := rfl
    rw [h0, zp_C_mul]
    congr 1
  rw [dX] at d
  -- φ^(k+2) a' = φ^(k+1) (1 - φ' a), and φ^(k+1) φ' a = φ^k φ' (φ a)
  have s1 : eqm 24 (zp_mul (zp_npow φ (k + 2)) (zp_D a)) (zp_add (zp_npow φ (k + 1)) (zp_neg (zp_mul (zp_mul (zp_npow φ k) (zp_D φ)) (zp_X 1)))) := by
    have t1 : zp_mul (zp_npow φ (k + 2)) (zp_D a) = zp_add (zp_mul (zp_npow φ (k + 1)) (zp_add (zp_mul (zp_D φ) a) (zp_mul φ (zp_D a)))) (zp_neg (zp_mul (zp_mul (zp_npow φ k) (zp_D φ)) (zp_mul φ a))) := by
      rw [npw_S, npw_S]
      exact @lg_h6 zp_R zp_ring _ _ _ _ _
    rw [t1]
    refine eqm_add ?_ ?_
    · have := eqm_mul (eqm_r 24 (zp_npow φ (k + 1))) d
      refine eqm_t this (fun i _ => ?_)
      rw [zp_C1]
      exact congrArg (fun g : zp_R => g.1 i) (@lg_h7 zp_R zp_ring _)
    · intro i hi2
      show -(_) = -(_)
      rw [eqm_mul (eqm_r 25 (zp_mul (zp_npow φ k) (zp_D φ))) e i (by omega)]
  rw [s1 (k + 1) m2]
  -- (k+1) times it
  have n0 := zp_nat_0 (n := k + 1) (by omega) (by omega)
  have dp := congrArg (fun g : zp_R => g.1 k) (D_pow φ k)
  have dp2 : zp_nat (k + 1) * (zp_npow φ (k + 1)).1 (k + 1) = zp_nat (k + 1) * (zp_mul (zp_npow φ k) (zp_D φ)).1 k := by
    refine Eq.trans ?_ (dp.trans (zp_C_mul1 _ _ _))
    rfl
  have dp3 : (zp_npow φ (k + 1)).1 (k + 1) = (zp_mul (zp_npow φ k) (zp_D φ)).1 k := by
    have iv := zp_inv n0
    exact lg_h8 iv dp2
  have xm : (zp_mul (zp_mul (zp_npow φ k) (zp_D φ)) (zp_X 1)).1 (k + 1) = (zp_mul (zp_npow φ k) (zp_D φ)).1 k := by
    have c : zp_mul (zp_mul (zp_npow φ k) (zp_D φ)) (zp_X 1) = zp_mul (zp_X 1) (zp_mul (zp_npow φ k) (zp_D φ)) := @zp_h20 zp_R zp_ring _ _
    rw [c, X_mul_at, if_neg (by omega), show k + 1 - 1 = k by omega]
  show (zp_npow φ (k + 1)).1 (k + 1) + -((zp_mul (zp_mul (zp_npow φ k) (zp_D φ)) (zp_X 1)).1 (k + 1)) = 0
  rw [xm, dp3]
  exact lg_h9 _
where
  lg_h6 : ∀ {R : Type} [Lean.Grind.CommRing R] (p f a f' a' : R), p * f * f * a' = p * f * (f' * a + f * a') + -(p * f' * (f * a)) := by intro R _ p f a f' a'; grind
  lg_h7 : ∀ {R : Type} [Lean.Grind.CommRing R] (p : R), p * 1 = p := by intro R _ p; grind
  lg_h8 : ∀ {n v a b : zp_F}, n * v = 1 → n * a = n * b → a = b := by intro n v a b h1 h2; grind
  lg_h9 : ∀ a : zp_F, a + -a = 0 := by intro a; grind
/-- number n - 1 of φ^n times a^(k-1) a' is 1 if k is n, else 0 -/
theorem lag_1 {φ a : zp_R} (a0 : a.1 0 = 0) (e : eqm 25 (zp_mul φ a) (zp_X 1)) (e1 : φ.1 0 * a.1 1 = 1) {n k : Nat} (n1 : 1 ≤ n) (n24 : n ≤ 24) (k1 : 1 ≤ k) : (zp_mul (zp_npow φ n) (zp_mul (zp_npow a (k - 1)) (zp_D a))).1 (n - 1) = if k = n then 1 else 0 := by
  by_cases q : n < k
  · rw [if_neg (by omega)]
    have c : zp_mul (zp_npow φ n) (zp_mul (zp_npow a (k - 1)) (zp_D a)) = zp_mul (zp_npow a (k - 1)) (zp_mul (zp_npow φ n) (zp_D a)) := @la_h1 zp_R zp_ring _ _ _
    rw [c]
    exact ord_mul (k := k - 1) (ord_pw a0 (k - 1)) (n - 1) (by omega)
  · -- φ^n = φ^(n-k+1) φ^(k-1)
    have sp : zp_npow φ n = zp_mul (zp_npow φ (n - k + 1)) (zp_npow φ (k - 1)) := by
      rw [← npow_add, show n - k + 1 + (k - 1) = n by omega]
    have c : zp_mul (zp_npow φ n) (zp_mul (zp_npow a (k - 1)) (zp_D a)) = zp_mul (zp_mul (zp_npow φ (k - 1)) (zp_npow a (k - 1))) (zp_mul (zp_npow φ (n - k + 1)) (zp_D a)) := by
      rw [sp]
      exact @la_h2 zp_R zp_ring _ _ _ _
    rw [c, eqm_mul (lag_pw e (k - 1)) (eqm_r 25 _) (n - 1) (by omega), Xn_mul_at, if_neg (by omega), show n - 1 - (k - 1) = n - k by omega]
    by_cases q2 : k = n
    · rw [if_pos q2, q2, show n - n = 0 by omega]
      show zp_c (zp_npow φ (0 + 1)).1 (zp_D a).1 0 = 1
      rw [zp_c_zero]
      have p1 : (zp_npow φ (0 + 1)).1 0 = φ.1 0 := by
        show (zp_mul (zp_C 1) φ).1 0 = _
        rw [zp_C_mul1]
        exact X_mul_at.lg_h1 _
      have p2 : (zp_D a).1 0 = a.1 1 := by
        show zp_nat (0 + 1) * a.1 (0 + 1) = _
        have : (zp_nat (0 + 1) : zp_F) = 1 := by
          show (0 : zp_F) + 1 = 1
          decide
        rw [this]
        exact X_mul_at.lg_h1 _
      rw [p1, p2, e1]
    · rw [if_neg q2]
      exact lag_0 e (m := n - k) (by omega) (by omega)
where
  la_h1 : ∀ {R : Type} [Lean.Grind.CommRing R] (a b c : R), a * (b * c) = b * (a * c) := by intro R _ a b c; grind
  la_h2 : ∀ {R : Type} [Lean.Grind.CommRing R] (p q b d : R), p * q * (b * d) = q * b * (p * d) := by intro R _ p q b d; grind
theorem sum_mul_at (g : zp_R) (f : Nat → zp_R) (i : Nat) : ∀ N, (zp_mul g (@zp_sum zp_R zp_ring f N)).1 i = zp_sum (fun k => (zp_mul g (f k)).1 i) N
  | 0 => by
    show (zp_mul g (zp_C 0)).1 i = 0
    rw [zp_mul0, zp_C00]
  | N + 1 => by
    show (zp_mul g (zp_add (@zp_sum zp_R zp_ring f N) (f N))).1 i = zp_sum _ N + _
    rw [← sum_mul_at g f i N]
    exact congrArg (fun y : zp_R => y.1 i) (@lb_h1 zp_R zp_ring _ _ _)
where lb_h1 : ∀ {R : Type} [Lean.Grind.CommRing R] (a b c : R), a * (b + c) = a * b + a * c := by intro R _ a b c; grind
theorem sm_one {f : Nat → zp_F} {n : Nat} : ∀ N, (∀ k, k < N → k ≠ n → f k = 0) → zp_sum f N = if n < N then f n else 0
  | 0, _ => by rw [if_neg (Nat.not_lt_zero n)]; rfl
  | N + 1, h => by
    show zp_sum f N + f N = _
    rw [sm_one N (fun k hk ne => h k (by omega) ne)]
    by_cases q : n < N
    · rw [if_pos q, if_pos (by omega), h N (by omega) (by omega)]
      exact lb_h2 _
    · rw [if_neg q]
      by_cases q2 : n = N
      · rw [q2, if_pos (by omega)]
        exact lb_h3 _
      · rw [h N (by omega) (fun e => q2 e.symm), if_neg (by omega)]
        exact lb_h2 _
where
  lb_h2 : ∀ a : zp_F, a + 0 = a := by intro a; grind
  lb_h3 : ∀ a : zp_F, 0 + a = a := by intro a; grind
theorem pw_00 (f : zp_R) : ∀ n, (zp_npow f n).1 0 = f.1 0 ^ n
  | 0 => by
    show (zp_C 1).1 0 = _
    rw [zp_pow_zero]
    rfl
  | n + 1 => by
    show zp_c (zp_npow f n).1 f.1 0 = _
    rw [zp_c_zero, pw_00 f n, zp_pow_succ]
/-- what Lagrange says -/
def lgS (φ S : zp_R) : Prop := zp_deg S 25 ∧ S.1 0 = 0 ∧ ∀ n, 1 ≤ n → n < 25 → S.1 n = (zp_npow φ n).1 (n - 1) * nF (n : Int) ^ 32001
theorem nF_n0 {n : Nat} (n1 : 1 ≤ n) (n2 : n < 32003) : nF (n : Int) ≠ 0 := fun w => by
  have := (nF_is0 (x := (n : Int)) (by omega)).mp w
  omega
theorem X1_D : zp_D (zp_X 1) = zp_C 1 := by
  rw [D_X, if_neg (by omega)]
  show zp_mul (zp_C (zp_nat 1)) (zp_X 0) = zp_C 1
  have h0 : zp_X 0 = zp_C 1 := rfl
  rw [h0, zp_C_mul]
  congr 1
/-- a under S comes to the letter -/
theorem lag_2 {φ a S : zp_R} (a0 : a.1 0 = 0) (e : eqm 25 (zp_mul φ a) (zp_X 1)) (e1 : φ.1 0 * a.1 1 = 1) (L : lgS φ S) : eqm 25 (cmo S a 25) (zp_X 1) := by
  obtain ⟨dS, S0, Sn⟩ := L
  have f0 : φ.1 0 ≠ 0 := fun w => by
    rw [w] at e1
    have z : (0 : zp_F) * a.1 1 = 0 := @ord_pw.lg_h0 zp_F _ _
    rw [z] at e1
    exact absurd e1 (by decide)
  obtain ⟨P, eP⟩ : ∃ P, cmo S a 25 = P := ⟨_, rfl⟩
  rw [eP]
  -- numbers of φ^n P'
  have tr : ∀ n, 1 ≤ n → n ≤ 24 → (zp_mul (zp_npow φ n) (zp_D P)).1 (n - 1) = (zp_npow φ n).1 (n - 1) := fun n n1 n2 => by
    have dP : zp_D P = @zp_sum zp_R zp_ring (fun k => zp_D (zp_mul (zp_C (S.1 k)) (zp_npow a k))) 25 := by
      rw [← eP]
      exact D_sum _ 25
    rw [dP, sum_mul_at]
    have each : ∀ k, k < 25 → (zp_mul (zp_npow φ n) (zp_D (zp_mul (zp_C (S.1 k)) (zp_npow a k)))).1 (n - 1) = if k = n then (zp_npow φ n).1 (n - 1) else 0 := fun k hk => by
      by_cases k0 : k = 0
      · subst k0
        rw [S0, D_Cm, if_neg (by omega)]
        have z : zp_mul (zp_C 0) (zp_D (zp_npow a 0)) = zp_C 0 := zp_mul_0 (.inl rfl)
        rw [z, zp_mul0, zp_C00]
      · obtain ⟨k', ek⟩ : ∃ k', k = k' + 1 := ⟨k - 1, by omega⟩
        subst ek
        rw [D_Cm, D_pow]
        have c : zp_mul (zp_npow φ n) (zp_mul (zp_C (S.1 (k' + 1))) (zp_mul (zp_C (zp_nat (k' + 1))) (zp_mul (zp_npow a k') (zp_D a)))) = zp_mul (zp_C (S.1 (k' + 1))) (zp_mul (zp_C (zp_nat (k' + 1))) (zp_mul (zp_npow φ n) (zp_mul (zp_npow a k') (zp_D a)))) := @lc_h1 zp_R zp_ring _ _ _ _
        have l1 := lag_1 a0 e e1 (n := n) (k := k' + 1) n1 n2 (by omega)
        rw [show k' + 1 - 1 = k' by omega] at l1
        rw [c, zp_C_mul1, zp_C_mul1, l1]
        by_cases q : k' + 1 = n
        · rw [if_pos q, if_pos q, Sn (k' + 1) (by omega) hk, ← q, zp_nat_nF]
          have iv := zp_inv (nF_n0 (n := k' + 1) (by omega) (by omega))
          exact lc_h2 iv
        · rw [if_neg q, if_neg q]
          exact lc_h3 _ _
    rw [zp_sum_congr each, sm_one (n := n) 25 (fun k _ ne => if_neg ne), if_pos (by omega), if_pos rfl]
  have dP : ∀ m j, j < m → j < 24 → (zp_D P).1 j = (zp_C 1).1 j := by
    intro m
    induction m with
    | zero => exact fun j hj _ => absurd hj (Nat.not_lt_zero j)
    | succ m ih =>
      intro j hj j24
      by_cases q : j < m
      · exact ih j q j24
      · have t := tr (j + 1) (by omega) (by omega)
        rw [show j + 1 - 1 = j by omega] at t
        have c1 : (zp_mul (zp_npow φ (j + 1)) (zp_D P)).1 j = zp_sum (fun i => (zp_D P).1 i * (zp_npow φ (j + 1)).1 (j - i)) (j + 1) := by
          have : zp_mul (zp_npow φ (j + 1)) (zp_D P) = zp_mul (zp_D P) (zp_npow φ (j + 1)) := @zp_h20 zp_R zp_ring _ _
          rw [this]
          rfl
        have c2 : (zp_npow φ (j + 1)).1 j = zp_sum (fun i => (zp_C 1).1 i * (zp_npow φ (j + 1)).1 (j - i)) (j + 1) := by
          have : zp_npow φ (j + 1) = zp_mul (zp_C 1) (zp_npow φ (j + 1)) := by
            rw [zp_C1]
            exact (@X_mul_at.lg_h1 zp_R zp_ring _).symm
          refine (congrArg (fun y : zp_R => y.1 j) this).trans ?_
          rfl
        rw [c1, c2] at t
        have t' : zp_sum (fun i => (zp_D P).1 i * (zp_npow φ (j + 1)).1 (j - i)) j + (zp_D P).1 j * (zp_npow φ (j + 1)).1 (j - j) = zp_sum (fun i => (zp_C 1).1 i * (zp_npow φ (j + 1)).1 (j - i)) j + (zp_C 1).1 j * (zp_npow φ (j + 1)).1 (j - j) := t
        rw [zp_sum_congr (f := fun i => (zp_D P).1 i * (zp_npow φ (j + 1)).1 (j - i)) (g := fun i => (zp_C 1).1 i * (zp_npow φ (j + 1)).1 (j - i)) (fun i hi2 => by rw [ih i (by omega) (by omega)]), Nat.sub_self, pw_00] at t'
        have iv := zp_inv (pow_ne f0 (j + 1))
        exact lc_h4 iv t'
  intro i hi2
  by_cases i0 : i = 0
  · subst i0
    rw [← eP, cmo_at]
    rw [zp_sum_zero]
    · rfl
    · intro k hk
      by_cases k0 : k = 0
      · rw [k0, S0]
        exact @ord_pw.lg_h0 zp_F _ _
      · rw [ord_pw a0 k 0 (by omega)]
        exact zp_h15 _
  · obtain ⟨j, ej⟩ : ∃ j, i = j + 1 := ⟨i - 1, by omega⟩
    subst ej
    have d1 : zp_nat (j + 1) * P.1 (j + 1) = zp_nat (j + 1) * (zp_X 1).1 (j + 1) := (dP (j + 1) j (by omega) (by omega)).trans (congrArg (fun y : zp_R => y.1 j) X1_D).symm
    exact lag_0.lg_h8 (zp_inv (zp_nat_0 (n := j + 1) (by omega) (by omega))) d1
where
  lc_h1 : ∀ {R : Type} [Lean.Grind.CommRing R] (p s k d : R), p * (s * (k * d)) = s * (k * (p * d)) := by intro R _ p s k d; grind
  lc_h2 : ∀ {k v p : zp_F}, k * v = 1 → p * v * (k * 1) = p := by intro k v p h; grind
  lc_h3 : ∀ (s k : zp_F), s * (k * 0) = 0 := by intro s k; grind
  lc_h4 : ∀ {s a b p v : zp_F}, p * v = 1 → s + a * p = s + b * p → a = b := by intro s a b p v h1 h2; grind
/-- powers from the second on don't see number n -/
theorem pw_n {f g : zp_R} {n : Nat} (h : eqm n f g) (n1 : 1 ≤ n) (f0 : f.1 0 = 0) (g0 : g.1 0 = 0) {k : Nat} (k2 : 2 ≤ k) : (zp_npow f k).1 n = (zp_npow g k).1 n := by
  obtain ⟨m, em⟩ : ∃ m, k = m + 1 := ⟨k - 1, by omega⟩
  subst em
  show zp_sum (fun j => (zp_npow f m).1 j * f.1 (n - j)) (n + 1) = zp_sum (fun j => (zp_npow g m).1 j * g.1 (n - j)) (n + 1)
  refine zp_sum_congr (fun j hj => ?_)
  by_cases j0 : j = 0
  · rw [j0, ord_pw f0 m 0 (by omega), ord_pw g0 m 0 (by omega)]
    exact (@ord_pw.lg_h0 zp_F _ _).trans (@ord_pw.lg_h0 zp_F _ _).symm
  · by_cases jn : j = n
    · rw [jn, Nat.sub_self, f0, g0]
      exact (zp_h15 _).trans (zp_h15 _).symm
    · rw [eqm_pw h m j (by omega), h (n - j) (by omega)]
theorem cmo_Cm (c : zp_F) (f V : zp_R) (N : Nat) : cmo (zp_mul (zp_C c) f) V N = zp_mul (zp_C c) (cmo f V N) := zp_ext (fun i => by
  rw [cmo_at, zp_C_mul1, cmo_at, ← zp_sum_mul]
  exact zp_sum_congr (fun k _ => by
    rw [zp_C_mul1]
    exact @lg_m zp_F _ _ _ _))
where lg_m : ∀ {R : Type} [Lean.Grind.CommRing R] (a b c : R), a * b * c = a * (b * c) := by intro R _ a b c; grind
theorem cmo_sm (f : Nat → zp_R) (V : zp_R) (M : Nat) : ∀ N, cmo (@zp_sum zp_R zp_ring f N) V M = @zp_sum zp_R zp_ring (fun k => cmo (f k) V M) N
  | 0 => by
    refine zp_ext (fun i => ?_)
    rw [cmo_at]
    refine (zp_sum_zero (fun k _ => ?_)).trans (zp_C00 i).symm
    rw [show (@zp_sum zp_R zp_ring f 0).1 k = 0 from zp_C00 k]
    exact @ord_pw.lg_h0 zp_F _ _
  | N + 1 => by
    show cmo (zp_add (@zp_sum zp_R zp_ring f N) (f N)) V M = zp_add (@zp_sum zp_R zp_ring (fun k => cmo (f k) V M) N) (cmo (f N) V M)
    rw [cmo_add, cmo_sm f V M N]
theorem cmo_pw {a S : zp_R} (da : zp_deg a 25) : ∀ k, cmo (zp_npow a k) S (25 * k + 1) = zp_npow (cmo a S 25) k
  | 0 => by
    refine zp_ext (fun i => ?_)
    rw [show 25 * 0 + 1 = 1 by omega, cmo_at]
    show (0 : zp_F) + (zp_C 1).1 0 * (zp_C 1).1 i = (zp_C 1).1 i
    have : (zp_C 1).1 0 = (1 : zp_F) := rfl
    rw [this]
    exact lg_c _
  | k + 1 => by
    rw [npw_S, npw_S, ← cmo_pw da k]
    exact cmo_mulA (deg_le (npow_deg (H := 24) da k) (by omega)) da (by omega)
where lg_c : ∀ a : zp_F, 0 + 1 * a = a := by intro a; grind
/-- S under a comes to the letter as well -/
theorem lag_3 {a S : zp_R} (da : zp_deg a 25) (dS : zp_deg S 25) (a0 : a.1 0 = 0) (S0 : S.1 0 = 0) (S1 : S.1 1 ≠ 0) (P : eqm 25 (cmo S a 25) (zp_X 1)) : eqm 25 (cmo a S 25) (zp_X 1) := by
  obtain ⟨Q, eQ⟩ : ∃ Q, cmo a S 25 = Q := ⟨_, rfl⟩
  have Q0 : Q.1 0 = 0 := by
    rw [← eQ, cmo_at]
    refine zp_sum_zero (fun k _ => ?_)
    by_cases k0 : k = 0
    · rw [k0, a0]
      exact @ord_pw.lg_h0 zp_F _ _
    · rw [ord_pw S0 k 0 (by omega)]
      exact zp_h15 _
  have asc : cmo (cmo S a 25) S 700 = cmo S Q 25 := by
    show cmo (@zp_sum zp_R zp_ring (fun k => zp_mul (zp_C (S.1 k)) (zp_npow a k)) 25) S 700 = @zp_sum zp_R zp_ring (fun k => zp_mul (zp_C (S.1 k)) (zp_npow Q k)) 25
    rw [cmo_sm]
    refine @zp_sum_congr zp_R zp_ring _ _ _ (fun k hk => ?_)
    rw [cmo_Cm, cmo_ext (n := 25 * k + 1) (m := 700) (deg_le (npow_deg (H := 24) da k) (by omega)) (by omega), cmo_pw da k, eQ]
  have B : ∀ i, i < 25 → (cmo S Q 25).1 i = S.1 i := fun i hi2 => by
    rw [← asc, cmo_at]
    have x1 : ∀ k, k ≠ 1 → (zp_X 1).1 k = 0 := fun k ne => if_neg ne
    rw [zp_sum_congr (g := fun k => if k = 1 then S.1 i else 0) (fun k hk => ?_), sm_one (n := 1) 700 (fun k _ ne => if_neg ne), if_pos (by omega), if_pos rfl]
    by_cases k25 : k < 25
    · rw [P k k25]
      by_cases k1 : k = 1
      · rw [k1, if_pos rfl]
        show (1 : zp_F) * (zp_mul (zp_C 1) S).1 i = S.1 i
        rw [zp_C_mul1]
        exact (le_h1 _).trans (le_h1 _)
      · rw [if_neg k1, x1 k k1]
        exact @ord_pw.lg_h0 zp_F _ _
    · rw [ord_pw S0 k i (by omega), if_neg (by omega)]
      exact zp_h15 _
  rw [eQ]
  have main : ∀ n, n ≤ 25 → eqm n Q (zp_X 1) := by
    intro n
    induction n with
    | zero => exact fun _ i hi2 => absurd hi2 (Nat.not_lt_zero i)
    | succ n ih =>
      intro n25 i hi2
      by_cases q : i < n
      · exact ih (by omega) i q
      · have ei : i = n := by omega
        subst ei
        by_cases i0 : i = 0
        · rw [i0, Q0]
          rfl
        · have b1 := B i (by omega)
          have b2 : (cmo S (zp_X 1) 25).1 i = S.1 i := by rw [cmo_X dS]
          rw [cmo_at] at b1 b2
          have X0 : (zp_X 1).1 0 = 0 := rfl
          have dif : zp_sum (fun k => S.1 k * (zp_npow Q k).1 i + -(S.1 k * (zp_npow (zp_X 1) k).1 i)) 25 = 0 := by
            have s := zp_sum_add (fun k => S.1 k * (zp_npow Q k).1 i) (fun k => -1 * (S.1 k * (zp_npow (zp_X 1) k).1 i)) 25
            rw [zp_sum_mul, b1, b2] at s
            rw [zp_sum_congr (g := fun k => S.1 k * (zp_npow Q k).1 i + -1 * (S.1 k * (zp_npow (zp_X 1) k).1 i)) (fun k _ => le_h2 _ _), s]
            exact le_h3 _
          rw [sm_one (n := 1) 25 (fun k hk ne => ?_), if_pos (by omega)] at dif
          · have p1 : ∀ f : zp_R, (zp_npow f 1).1 i = f.1 i := fun f => by
              show (zp_mul (zp_C 1) f).1 i = _
              rw [zp_C_mul1]
              exact le_h1 _
            rw [p1, p1] at dif
            exact le_h4 (zp_inv S1) dif
          · by_cases k0 : k = 0
            · rw [k0, S0]
              exact le_h5 _ _
            · rw [pw_n (ih (by omega)) (by omega) Q0 X0 (by omega)]
              exact lag_0.lg_h9 _
  exact main 25 (Nat.le_refl _)
where
  le_h1 : ∀ a : zp_F, 1 * a = a := by intro a; grind
  le_h2 : ∀ a b : zp_F, a + -b = a + -1 * b := by intro a b; grind
  le_h3 : ∀ a : zp_F, a + -1 * a = 0 := by intro a; grind
  le_h4 : ∀ {s v a b : zp_F}, s * v = 1 → s * a + -(s * b) = 0 → a = b := by intro s v a b h1 h2; grind
  le_h5 : ∀ a b : zp_F, 0 * a + -(0 * b) = 0 := by intro a b; grind
/-- Horner below power 25 is what is put in -/
theorem psr_cmo (p q : zp_R) : eqm 25 (psr p q 25) (cmo p q 25) := by
  have h : ∀ m, m ≤ 25 → eqm 25 (psr p q m) (@zp_sum zp_R zp_ring (fun i => zp_mul (zp_C (p.1 (25 - m + i))) (zp_npow q i)) m) := by
    intro m
    induction m with
    | zero => exact fun _ i _ => rfl
    | succ m ih =>
      intro m25 i hi2
      have e := ih (by omega)
      have hd := @zp_sum_head zp_R zp_ring (fun i => zp_mul (zp_C (p.1 (25 - (m + 1) + i))) (zp_npow q i)) m
      rw [hd]
      have e2 : @zp_sum zp_R zp_ring (fun i => zp_mul (zp_C (p.1 (25 - (m + 1) + (i + 1)))) (zp_npow q (i + 1))) m = zp_mul (@zp_sum zp_R zp_ring (fun i => zp_mul (zp_C (p.1 (25 - m + i))) (zp_npow q i)) m) q := by
        have := @zp_sum_mul zp_R zp_ring q (fun i => zp_mul (zp_C (p.1 (25 - m + i))) (zp_npow q i)) m
        refine Eq.trans ?_ (this.trans (@zp_h20 zp_R zp_ring _ _))
        refine @zp_sum_congr zp_R zp_ring _ _ _ (fun i _ => ?_)
        rw [npw_S, show 25 - (m + 1) + (i + 1) = 25 - m + i by omega]
        exact @lf_h1 zp_R zp_ring _ _ _
      rw [e2]
      show (cut (zp_mul (psr p q m) q) 25).1 i + (zp_C (p.1 (24 - m))).1 i = (zp_mul (zp_C (p.1 (25 - (m + 1) + 0))) (zp_C 1)).1 i + _
      rw [cut_at _ hi2, eqm_mul e (eqm_r 25 q) i hi2, show 25 - (m + 1) + 0 = 24 - m by omega]
      have c1 : (zp_mul (zp_C (p.1 (24 - m))) (zp_C 1)) = zp_C (p.1 (24 - m)) := by
        rw [zp_C1]
        exact @lag_0.lg_h7 zp_R zp_ring _
      rw [c1]
      exact lf_h2 _ _
  have := h 25 (Nat.le_refl _)
  refine eqm_t this (fun i _ => ?_)
  show (@zp_sum zp_R zp_ring (fun i => zp_mul (zp_C (p.1 (25 - 25 + i))) (zp_npow q i)) 25).1 i = (cmo p q 25).1 i
  unfold cmo
  refine congrArg (fun y : zp_R => y.1 i) (@zp_sum_congr zp_R zp_ring _ _ _ (fun k _ => ?_))
  rw [show 25 - 25 + k = k by omega]
where
  lf_h1 : ∀ {R : Type} [Lean.Grind.CommRing R] (a b c : R), a * (b * c) = c * (a * b) := by intro R _ a b c; grind
  lf_h2 : ∀ a b : zp_F, a + b = b + a := by intro a b; grind
/-- LAGRANGE: what his numbers make is what put into a comes to the letter -/
theorem lag_rev {a φ S : zp_R} (da : zp_deg a 25) (a0 : a.1 0 = 0) (e : eqm 25 (zp_mul φ a) (zp_X 1)) (e1 : φ.1 0 * a.1 1 = 1) (L : lgS φ S) : revR a S 25 := by
  have P := lag_2 a0 e e1 L
  obtain ⟨dS, S0, Sn⟩ := id L
  have S1 : S.1 1 = φ.1 0 := by
    rw [Sn 1 (by omega) (by omega)]
    show (zp_mul (zp_C 1) φ).1 0 * _ = _
    rw [zp_C_mul1, show nF ((1 : Nat) : Int) = 1 from nF_1, zp_one_pow]
    exact lr_1 _
  have a1 : a.1 1 ≠ 0 := fun w => by
    rw [w, zp_h15] at e1
    exact absurd e1 (by decide)
  have f1 : φ.1 0 = a.1 1 ^ 32001 := cx_inv e1 (zp_inv a1)
  have s1 : S.1 1 ≠ 0 := by
    rw [S1]
    intro w
    rw [w] at e1
    have z : (0 : zp_F) * a.1 1 = 0 := @ord_pw.lg_h0 zp_F _ _
    rw [z] at e1
    exact absurd e1 (by decide)
  have Q := lag_3 da dS a0 S0 s1 P
  refine ⟨dS, S0, by rw [S1, f1], fun n n2 n25 => ?_⟩
  have q := Q n n25
  rw [show (zp_X 1).1 n = 0 from if_neg (by omega), cmo_at] at q
  have c : (psr a (cut S n) 25).1 n = zp_sum (fun k => a.1 k * (zp_npow (cut S n) k).1 n) 25 := by rw [psr_cmo a (cut S n) n n25, cmo_at]
  have ec : eqm n (cut S n) S := fun i hi2 => cut_at S hi2
  have dif : zp_sum (fun k => a.1 k * (zp_npow S k).1 n + -(a.1 k * (zp_npow (cut S n) k).1 n)) 25 = a.1 1 * S.1 n := by
    rw [sm_one (n := 1) 25 (fun k hk ne => ?_), if_pos (by omega)]
    · have p1 : ∀ f : zp_R, (zp_npow f 1).1 n = f.1 n := fun f => by
        show (zp_mul (zp_C 1) f).1 n = _
        rw [zp_C_mul1]
        exact lag_3.le_h1 _
      rw [p1, p1, cut_hi S (Nat.le_refl _)]
      exact lr_2 _ _
    · by_cases k0 : k = 0
      · rw [k0, a0]
        exact lag_3.le_h5 _ _
      · rw [pw_n ec (by omega) (by rw [cut_at S (by omega)]; exact S0) S0 (by omega)]
        exact lag_0.lg_h9 _
  have s := zp_sum_add (fun k => a.1 k * (zp_npow S k).1 n) (fun k => -1 * (a.1 k * (zp_npow (cut S n) k).1 n)) 25
  rw [zp_sum_mul, q, ← c] at s
  rw [zp_sum_congr (g := fun k => a.1 k * (zp_npow S k).1 n + -1 * (a.1 k * (zp_npow (cut S n) k).1 n)) (fun k _ => lag_3.le_h2 _ _), s] at dif
  exact lr_3 (zp_inv a1) dif
where
  lr_1 : ∀ a : zp_F, 1 * a * 1 = a := by intro a; grind
  lr_2 : ∀ a b : zp_F, a * b + -(a * 0) = a * b := by intro a b; grind
  lr_3 : ∀ {a v s c : zp_F}, a * v = 1 → 0 + -1 * c = a * s → s = -c * v := by intro a v s c h1 h2; grind
