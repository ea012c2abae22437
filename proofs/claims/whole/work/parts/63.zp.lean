/-! fourth part: binomials; the power of the prime adds -/
def zp_nat {R : Type} [Lean.Grind.CommRing R] : Nat → R
  | 0 => 0
  | n + 1 => zp_nat n + 1
theorem zp_nat_add {R : Type} [Lean.Grind.CommRing R] (m : Nat) : ∀ n : Nat, (zp_nat (m + n) : R) = zp_nat m + zp_nat n
  | 0 => by show (zp_nat m : R) = zp_nat m + 0; grind
  | n + 1 => by
    show (zp_nat (m + n) : R) + 1 = zp_nat m + (zp_nat n + 1)
    rw [zp_nat_add m n]; grind
theorem zp_nat_mul {R : Type} [Lean.Grind.CommRing R] (m : Nat) : ∀ n : Nat, (zp_nat (m * n) : R) = zp_nat m * zp_nat n
  | 0 => by show (0 : R) = zp_nat m * 0; grind
  | n + 1 => by
    rw [Nat.mul_succ, zp_nat_add, zp_nat_mul m n]
    show _ = zp_nat m * (zp_nat n + 1)
    grind
def zp_ch : Nat → Nat → Nat
  | _, 0 => 1
  | 0, _ + 1 => 0
  | n + 1, k + 1 => zp_ch n k + zp_ch n (k + 1)
theorem zp_ch_0 (n : Nat) : zp_ch n 0 = 1 := by cases n <;> rfl
theorem zp_ch_s (n k : Nat) : zp_ch (n + 1) (k + 1) = zp_ch n k + zp_ch n (k + 1) := rfl
theorem zp_ch_gt : ∀ (n k : Nat), n < k → zp_ch n k = 0
  | 0, 0, h => absurd h (by omega)
  | 0, k + 1, h => rfl
  | n + 1, 0, h => absurd h (by omega)
  | n + 1, k + 1, h => by rw [zp_ch_s, zp_ch_gt n k (by omega), zp_ch_gt n (k + 1) (by omega)]
theorem zp_ch_self : ∀ n : Nat, zp_ch n n = 1
  | 0 => rfl
  | n + 1 => by rw [zp_ch_s, zp_ch_self n, zp_ch_gt n (n + 1) (by omega)]
theorem zp_ch_ab : ∀ (n k : Nat), (k + 1) * zp_ch (n + 1) (k + 1) = (n + 1) * zp_ch n k
  | 0, 0 => rfl
  | 0, k + 1 => by rw [zp_ch_s, zp_ch_gt 0 (k + 1) (by omega), zp_ch_gt 0 (k + 1 + 1) (by omega)]; simp
  | n + 1, 0 => by
    have h := zp_ch_ab n 0
    rw [zp_ch_0] at h
    rw [zp_ch_s, zp_ch_0]
    omega
  | n + 1, k + 1 => by
    have h1 := zp_ch_ab n k
    have h2 := zp_ch_ab n (k + 1)
    rw [zp_ch_s (n + 1) (k + 1)]
    rw [zp_ch_s n k] at *
    generalize zp_ch n k = a at *
    generalize zp_ch n (k + 1) = b at *
    generalize zp_ch (n + 1) (k + 1 + 1) = c at *
    have e1 : (k + 1 + 1) * (a + b + c) = (k + 1) * (a + b) + (a + b) + (k + 1 + 1) * c := by grind
    rw [e1, h1, h2]
    grind
theorem zp_binom {R : Type} [Lean.Grind.CommRing R] (a b : R) : ∀ n : Nat, (a + b) ^ n = zp_sum (fun i => zp_nat (zp_ch n i) * (a ^ i * b ^ (n - i))) (n + 1)
  | 0 => by
    show (a + b) ^ 0 = (0 : R) + ((0 : R) + 1) * (a ^ 0 * b ^ 0)
    rw [zp_pow_zero, zp_pow_zero, zp_pow_zero]; grind
  | n + 1 => by
    have e1 : zp_sum (fun i => zp_nat (zp_ch (n + 1) (i + 1)) * (a ^ (i + 1) * b ^ (n + 1 - (i + 1)))) (n + 1) = a * zp_sum (fun i => zp_nat (zp_ch n i) * (a ^ i * b ^ (n - i))) (n + 1) + zp_sum (fun i => zp_nat (zp_ch n (i + 1)) * (a ^ (i + 1) * b ^ (n - i))) (n + 1) := by
      rw [← zp_sum_mul, ← zp_sum_add]
      refine zp_sum_congr (fun i hi => ?_)
      rw [zp_ch_s, zp_nat_add, Nat.add_sub_add_right, zp_pow_succ]
      grind
    have e2 : zp_sum (fun i => zp_nat (zp_ch n (i + 1)) * (a ^ (i + 1) * b ^ (n - i))) (n + 1) = b * zp_sum (fun i => zp_nat (zp_ch n (i + 1)) * (a ^ (i + 1) * b ^ (n - (i + 1)))) n := by
      show zp_sum (fun i => zp_nat (zp_ch n (i + 1)) * (a ^ (i + 1) * b ^ (n - i))) n + zp_nat (zp_ch n (n + 1)) * (a ^ (n + 1) * b ^ (n - n)) = _
      rw [zp_ch_gt n (n + 1) (by omega), ← zp_sum_mul]
      have e3 : zp_sum (fun i => zp_nat (zp_ch n (i + 1)) * (a ^ (i + 1) * b ^ (n - i))) n = zp_sum (fun i => b * (zp_nat (zp_ch n (i + 1)) * (a ^ (i + 1) * b ^ (n - (i + 1))))) n := zp_sum_congr (fun i hi => by
        rw [show n - i = (n - (i + 1)) + 1 by omega, zp_pow_succ b]
        grind)
      rw [e3]
      show _ + (0 : R) * _ = _
      grind
    have e4 := zp_sum_head (fun i => zp_nat (zp_ch n i) * (a ^ i * b ^ (n - i))) n
    rw [zp_sum_head, e1, e2, zp_pow_succ, zp_binom a b n]
    have e5 : (zp_nat (zp_ch (n + 1) 0) : R) * (a ^ 0 * b ^ (n + 1 - 0)) = b * (zp_nat (zp_ch n 0) * (a ^ 0 * b ^ (n - 0))) := by
      rw [zp_ch_0, zp_ch_0, Nat.sub_zero, Nat.sub_zero, zp_pow_succ]; grind
    rw [e5]
    generalize zp_sum (fun i => zp_nat (zp_ch n i) * (a ^ i * b ^ (n - i))) (n + 1) = s at *
    generalize zp_sum (fun i => zp_nat (zp_ch n (i + 1)) * (a ^ (i + 1) * b ^ (n - (i + 1)))) n = t at *
    rw [e4]
    grind
def zp_prime (p : Nat) : Prop := 1 < p ∧ ∀ i, 0 < i → i < p → Nat.Coprime p i
theorem zp_frob {R : Type} [Lean.Grind.CommRing R] {p : Nat} (hp : zp_prime p) (h0 : (zp_nat p : R) = 0) (a b : R) : (a + b) ^ p = a ^ p + b ^ p := by
  rw [zp_binom, zp_sum_head]
  obtain ⟨q, rfl⟩ : ∃ q, p = q + 1 := ⟨p - 1, by have := hp.1; omega⟩
  show _ + (zp_sum (fun i => zp_nat (zp_ch (q + 1) (i + 1)) * (a ^ (i + 1) * b ^ (q + 1 - (i + 1)))) q + zp_nat (zp_ch (q + 1) (q + 1)) * (a ^ (q + 1) * b ^ (q + 1 - (q + 1)))) = _
  have e : zp_sum (fun i => zp_nat (zp_ch (q + 1) (i + 1)) * (a ^ (i + 1) * b ^ (q + 1 - (i + 1)))) q = 0 := zp_sum_zero (fun i hi => by
    have h1 : q + 1 ∣ zp_ch (q + 1) (i + 1) := (hp.2 (i + 1) (by omega) (by omega)).dvd_of_dvd_mul_left ⟨zp_ch q i, zp_ch_ab q i⟩
    obtain ⟨m, hm⟩ := h1
    rw [hm, zp_nat_mul, h0]
    grind)
  rw [e, zp_ch_0, zp_ch_self, Nat.sub_self, zp_pow_zero, zp_pow_zero, Nat.sub_zero]
  show ((0 : R) + 1) * (1 * b ^ (q + 1)) + (0 + ((0 : R) + 1) * (a ^ (q + 1) * 1)) = _
  grind
theorem zp_fermat {R : Type} [Lean.Grind.CommRing R] {p : Nat} (hp : zp_prime p) (h0 : (zp_nat p : R) = 0) : ∀ n : Nat, (zp_nat n : R) ^ p = zp_nat n
  | 0 => by
    obtain ⟨q, rfl⟩ : ∃ q, p = q + 1 := ⟨p - 1, by have := hp.1; omega⟩
    show (0 : R) ^ (q + 1) = 0
    rw [zp_pow_succ]; grind
  | n + 1 => by
    show ((zp_nat n : R) + 1) ^ p = zp_nat n + 1
    rw [zp_frob hp h0, zp_fermat hp h0 n, zp_one_pow]
theorem zp_h7 {R : Type} [Lean.Grind.CommRing R] {a y : R} (h : y * (a * a) = a) : a * (a * y - 1) = 0 := by grind
theorem zp_h8 {R : Type} [Lean.Grind.CommRing R] {x : R} (h : x - 1 = 0) : x = 1 := by grind
/-! the numbers -/
abbrev zp_F : Type := Fin 32003
def zp_chk : Nat → Nat → Bool
  | 0, b => Nat.beq b 0 || Nat.ble 32003 b || Nat.beq (Nat.gcd 32003 b) 1
  | k + 1, b => zp_chk k b && zp_chk k (b + 2 ^ k)
theorem zp_chk_s : ∀ (k b : Nat), zp_chk k b = true → ∀ i, b ≤ i → i < b + 2 ^ k → 0 < i → i < 32003 → Nat.gcd 32003 i = 1
  | 0, b, h, i, h1, h2, h3, h4 => by
    have : i = b := by omega
    subst this
    simp only [zp_chk, Bool.or_eq_true] at h
    rcases h with (q | q) | q
    · have := Nat.eq_of_beq_eq_true q; omega
    · have := Nat.le_of_ble_eq_true q; omega
    · exact Nat.eq_of_beq_eq_true q
  | k + 1, b, h, i, h1, h2, h3, h4 => by
    simp only [zp_chk, Bool.and_eq_true] at h
    rw [Nat.pow_succ] at h2
    by_cases q : i < b + 2 ^ k
    · exact zp_chk_s k b h.1 i h1 q h3 h4
    · exact zp_chk_s k (b + 2 ^ k) h.2 i (by omega) (by omega) h3 h4
theorem zp_isP : zp_prime 32003 := ⟨by decide, fun i h1 h2 => zp_chk_s 15 0 (by decide +kernel) i (Nat.zero_le _) (Nat.lt_of_lt_of_le h2 (by decide)) h1 h2⟩
theorem zp_natF : ∀ n : Nat, (zp_nat n : zp_F) = Fin.ofNat 32003 n
  | 0 => rfl
  | n + 1 => by
    show (zp_nat n : zp_F) + 1 = _
    rw [zp_natF n]
    apply Fin.ext
    simp [Fin.add_def, Fin.ofNat]
theorem zp_P0 : (zp_nat 32003 : zp_F) = 0 := by rw [zp_natF]; decide +kernel
theorem zp_valF (a : zp_F) : a = zp_nat a.val := by
  rw [zp_natF]
  apply Fin.ext
  show a.val = a.val % 32003
  rw [Nat.mod_eq_of_lt a.isLt]
theorem zp_fermatF (a : zp_F) : a ^ 32003 = a := by
  rw [zp_valF a]; exact zp_fermat zp_isP zp_P0 _
theorem zp_dom {a b : zp_F} (h : a * b = 0) : a = 0 ∨ b = 0 := by
  by_cases ha : a = 0
  · exact Or.inl ha
  · right
    have h1 : (a.val * b.val) % 32003 = 0 := by
      have := congrArg Fin.val h
      simpa [Fin.mul_def] using this
    have ha0 : 0 < a.val := Nat.pos_of_ne_zero (fun q => ha (Fin.ext q))
    have h2 := (zp_isP.2 a.val ha0 a.isLt).dvd_of_dvd_mul_left (Nat.dvd_of_mod_eq_zero h1)
    apply Fin.ext
    show b.val = 0
    rcases Nat.eq_zero_or_pos b.val with q | q
    · exact q
    · have := Nat.le_of_dvd q h2
      have := b.isLt
      omega
theorem zp_F10 : (1 : zp_F) ≠ 0 := by decide
theorem zp_inv {a : zp_F} (h : a ≠ 0) : a * a ^ 32001 = 1 := by
  have e : a * (a * a ^ 32001 - 1) = 0 := by
    have h1 := zp_fermatF a
    have h2 : a ^ 32003 = a ^ 32001 * a ^ 2 := zp_pow_add a 32001 2
    have h3 : a ^ 2 = a * a := by
      have : a ^ (1 + 1) = a ^ 1 * a := zp_pow_succ a 1
      have h4 : a ^ (0 + 1) = a ^ 0 * a := zp_pow_succ a 0
      rw [zp_pow_zero] at h4
      have h5 : a ^ 1 = 1 * a := h4
      have h6 : a ^ 2 = a ^ 1 * a := this
      rw [h6, h5]; grind
    rw [h2, h3] at h1
    exact zp_h7 h1
  rcases zp_dom e with q | q
  · exact absurd q h
  · exact zp_h8 q
