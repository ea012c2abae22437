/-! POLYNOMIALS MODULO THE PRIME, first part: rings in general; sums, and what sums of powers multiply to -/
def zp_sum {R : Type} [Lean.Grind.CommRing R] (f : Nat → R) : Nat → R
  | 0 => 0
  | n + 1 => zp_sum f n + f n
theorem zp_sum_congr {R : Type} [Lean.Grind.CommRing R] {f g : Nat → R} : ∀ {n : Nat}, (∀ i, i < n → f i = g i) → zp_sum f n = zp_sum g n
  | 0, _ => rfl
  | n + 1, h => by
    show zp_sum f n + f n = zp_sum g n + g n
    rw [zp_sum_congr (fun i hi => h i (by omega)), h n (by omega)]
theorem zp_sum_zero {R : Type} [Lean.Grind.CommRing R] {f : Nat → R} : ∀ {n : Nat}, (∀ i, i < n → f i = 0) → zp_sum f n = 0
  | 0, _ => rfl
  | n + 1, h => by
    show zp_sum f n + f n = 0
    rw [zp_sum_zero (fun i hi => h i (by omega)), h n (by omega)]
    grind
theorem zp_sum_add {R : Type} [Lean.Grind.CommRing R] (f g : Nat → R) : ∀ n : Nat, zp_sum (fun i => f i + g i) n = zp_sum f n + zp_sum g n
  | 0 => by show (0 : R) = 0 + 0; grind
  | n + 1 => by
    show zp_sum (fun i => f i + g i) n + (f n + g n) = (zp_sum f n + f n) + (zp_sum g n + g n)
    rw [zp_sum_add f g n]
    grind
theorem zp_sum_mul {R : Type} [Lean.Grind.CommRing R] (u : R) (f : Nat → R) : ∀ n : Nat, zp_sum (fun i => u * f i) n = u * zp_sum f n
  | 0 => by show (0 : R) = u * 0; grind
  | n + 1 => by
    show zp_sum (fun i => u * f i) n + u * f n = u * (zp_sum f n + f n)
    rw [zp_sum_mul u f n]
    grind
theorem zp_sum_head {R : Type} [Lean.Grind.CommRing R] (f : Nat → R) : ∀ n : Nat, zp_sum f (n + 1) = f 0 + zp_sum (fun i => f (i + 1)) n
  | 0 => by show (0 : R) + f 0 = f 0 + 0; grind
  | n + 1 => by
    show zp_sum f (n + 1) + f (n + 1) = f 0 + (zp_sum (fun i => f (i + 1)) n + f (n + 1))
    rw [zp_sum_head f n]
    grind
theorem zp_sum_cut {R : Type} [Lean.Grind.CommRing R] (f : Nat → R) (n : Nat) : ∀ k : Nat, zp_sum f (n + k) = zp_sum f n + zp_sum (fun i => f (n + i)) k
  | 0 => by show zp_sum f n = zp_sum f n + 0; grind
  | k + 1 => by
    show zp_sum f (n + k) + f (n + k) = zp_sum f n + (zp_sum (fun i => f (n + i)) k + f (n + k))
    rw [zp_sum_cut f n k]
    grind
theorem zp_pow_succ {R : Type} [Lean.Grind.CommRing R] (a : R) (n : Nat) : a ^ (n + 1) = a ^ n * a := Lean.Grind.Semiring.pow_succ a n
theorem zp_pow_zero {R : Type} [Lean.Grind.CommRing R] (a : R) : a ^ 0 = 1 := Lean.Grind.Semiring.pow_zero a
theorem zp_pow_add {R : Type} [Lean.Grind.CommRing R] (a : R) (m : Nat) : ∀ n : Nat, a ^ (m + n) = a ^ m * a ^ n
  | 0 => by rw [zp_pow_zero]; show a ^ m = a ^ m * 1; grind
  | n + 1 => by
    rw [← Nat.add_assoc, zp_pow_succ, zp_pow_succ, zp_pow_add a m n]
    grind
theorem zp_pow_mul {R : Type} [Lean.Grind.CommRing R] (a b : R) : ∀ n : Nat, (a * b) ^ n = a ^ n * b ^ n
  | 0 => by rw [zp_pow_zero, zp_pow_zero, zp_pow_zero]; grind
  | n + 1 => by
    rw [zp_pow_succ, zp_pow_succ, zp_pow_succ, zp_pow_mul a b n]
    grind
theorem zp_pow_pow {R : Type} [Lean.Grind.CommRing R] (a : R) (m : Nat) : ∀ n : Nat, (a ^ m) ^ n = a ^ (m * n)
  | 0 => by rw [Nat.mul_zero, zp_pow_zero, zp_pow_zero]
  | n + 1 => by
    rw [zp_pow_succ, zp_pow_pow a m n, Nat.mul_succ, zp_pow_add]
theorem zp_one_pow {R : Type} [Lean.Grind.CommRing R] : ∀ n : Nat, (1 : R) ^ n = 1
  | 0 => zp_pow_zero 1
  | n + 1 => by rw [zp_pow_succ, zp_one_pow n]; grind
/-- one and a multiple, to a power -/
theorem zp_near {R : Type} [Lean.Grind.CommRing R] (L w : R) : ∀ n : Nat, ∃ z, (1 + L * w) ^ n = 1 + L * z
  | 0 => ⟨0, by rw [zp_pow_zero]; grind⟩
  | n + 1 => by
    obtain ⟨z, hz⟩ := zp_near L w n
    exact ⟨z + w + L * z * w, by rw [zp_pow_succ, hz]; grind⟩
/-- the numbers of a product -/
def zp_c {R : Type} [Lean.Grind.CommRing R] (a b : Nat → R) (n : Nat) : R := zp_sum (fun i => a i * b (n - i)) (n + 1)
theorem zp_c_zero {R : Type} [Lean.Grind.CommRing R] (a b : Nat → R) : zp_c a b 0 = a 0 * b 0 := by
  show (0 : R) + a 0 * b 0 = a 0 * b 0
  grind
theorem zp_c_succ {R : Type} [Lean.Grind.CommRing R] (a b : Nat → R) (n : Nat) : zp_c a b (n + 1) = a 0 * b (n + 1) + zp_c (fun i => a (i + 1)) b n := by
  unfold zp_c
  rw [zp_sum_head]
  congr 1
  exact zp_sum_congr (fun i hi => by rw [Nat.add_sub_add_right])
theorem zp_c_congr {R : Type} [Lean.Grind.CommRing R] {a b a' b' : Nat → R} {n : Nat} (h : ∀ i, i ≤ n → a i = a' i) (h' : ∀ i, i ≤ n → b i = b' i) : zp_c a b n = zp_c a' b' n :=
  zp_sum_congr (fun i hi => by rw [h i (by omega), h' (n - i) (by omega)])
/-- a sum of powers of L -/
def zp_S {R : Type} [Lean.Grind.CommRing R] (L : R) (a : Nat → R) (d : Nat) : R := zp_sum (fun i => a i * L ^ i) (d + 1)
theorem zp_S_head {R : Type} [Lean.Grind.CommRing R] (L : R) (a : Nat → R) (d : Nat) : zp_S L a (d + 1) = a 0 + L * zp_S L (fun i => a (i + 1)) d := by
  unfold zp_S
  rw [zp_sum_head, ← zp_sum_mul]
  congr 1
  · rw [zp_pow_zero]; grind
  · exact zp_sum_congr (fun i hi => by rw [zp_pow_succ]; grind)
theorem zp_S_zero {R : Type} [Lean.Grind.CommRing R] (L : R) (a : Nat → R) : zp_S L a 0 = a 0 := by
  show (0 : R) + a 0 * L ^ 0 = a 0
  rw [zp_pow_zero]; grind
theorem zp_S_succ {R : Type} [Lean.Grind.CommRing R] (L : R) (a : Nat → R) (d : Nat) : zp_S L a (d + 1) = zp_S L a d + a (d + 1) * L ^ (d + 1) := rfl
theorem zp_S_congr {R : Type} [Lean.Grind.CommRing R] {L : R} {a b : Nat → R} {d : Nat} (h : ∀ i, i ≤ d → a i = b i) : zp_S L a d = zp_S L b d :=
  zp_sum_congr (fun i hi => by rw [h i (by omega)])
theorem zp_S_lin {R : Type} [Lean.Grind.CommRing R] (L u : R) (a b : Nat → R) (d : Nat) : zp_S L (fun i => u * a i + b i) d = u * zp_S L a d + zp_S L b d := by
  unfold zp_S
  rw [← zp_sum_mul, ← zp_sum_add]
  exact zp_sum_congr (fun i hi => by grind)
theorem zp_S_more {R : Type} [Lean.Grind.CommRing R] (L : R) (a : Nat → R) (d : Nat) : ∀ e : Nat, ∃ W, zp_S L a (d + e) = zp_S L a d + L ^ (d + 1) * W
  | 0 => ⟨0, by show zp_S L a d = _; grind⟩
  | e + 1 => by
    obtain ⟨W, hW⟩ := zp_S_more L a d e
    refine ⟨W + a (d + e + 1) * L ^ e, ?_⟩
    rw [← Nat.add_assoc, zp_S_succ, hW, show d + e + 1 = (d + 1) + e by omega, zp_pow_add]
    grind
theorem zp_S_first {R : Type} [Lean.Grind.CommRing R] (L : R) (a : Nat → R) (d : Nat) : ∃ W, zp_S L a d = a 0 + L * W := by
  cases d with
  | zero => exact ⟨0, by rw [zp_S_zero]; grind⟩
  | succ d => exact ⟨_, zp_S_head L a d⟩
theorem zp_SS {R : Type} [Lean.Grind.CommRing R] (L : R) (b : Nat → R) : ∀ (d : Nat) (a : Nat → R), ∃ W, zp_S L a d * zp_S L b d = zp_S L (zp_c a b) d + L ^ (d + 1) * W
  | 0, a => ⟨0, by rw [zp_S_zero, zp_S_zero, zp_S_zero, zp_c_zero]; grind⟩
  | d + 1, a => by
    obtain ⟨W, hW⟩ := zp_SS L b d (fun i => a (i + 1))
    have h1 : zp_S L (zp_c a b) (d + 1) = zp_c a b 0 + L * zp_S L (fun i => a 0 * b (i + 1) + zp_c (fun j => a (j + 1)) b i) d := by
      rw [zp_S_head]
      congr 2
      exact zp_S_congr (fun i hi => zp_c_succ a b i)
    have h2 : zp_S L (fun i => a 0 * b (i + 1) + zp_c (fun j => a (j + 1)) b i) d = a 0 * zp_S L (fun i => b (i + 1)) d + zp_S L (zp_c (fun j => a (j + 1)) b) d := zp_S_lin L (a 0) _ _ d
    have h3 := zp_S_head L b d
    have h4 := zp_S_succ L b d
    refine ⟨W + zp_S L (fun i => a (i + 1)) d * b (d + 1), ?_⟩
    rw [h1, h2, zp_c_zero, zp_S_head L a d]
    have h5 : L ^ (d + 1 + 1) = L ^ (d + 1) * L := zp_pow_succ L (d + 1)
    rw [h5]
    generalize zp_S L (fun i => a (i + 1)) d = sa at *
    generalize zp_S L (zp_c (fun i => a (i + 1)) b) d = sc at *
    generalize zp_S L (fun i => b (i + 1)) d = sb' at *
    generalize zp_S L b d = sb at *
    generalize zp_S L b (d + 1) = sb1 at *
    generalize L ^ (d + 1) = q at *
    grind
