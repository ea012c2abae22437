/-! sets of 16 as numbers: what the machine's bits are -/
theorem bv_o (x : Nat) : (Int32.ofInt (x : Int)).toBitVec = BitVec.ofNat 32 x := BitVec.ofInt_natCast 32 x
theorem bv_i {v : BitVec 32} (h : v.toNat < 2 ^ 31) : v.toInt = (v.toNat : Int) := by
  rw [BitVec.toInt_eq_toNat_of_lt]
  omega
theorem bv_n {x : Nat} (h : x < 2 ^ 31) : (BitVec.ofNat 32 x).toNat = x := by
  rw [BitVec.toNat_ofNat]
  exact Nat.mod_eq_of_lt (by omega)
theorem zi_or {x y : Nat} (hx : x < 2 ^ 31) (hy : y < 2 ^ 31) : zi 25 (x : Int) (y : Int) = ((x ||| y : Nat) : Int) := by
  show ((Int32.ofInt (x : Int)).toBitVec ||| (Int32.ofInt (y : Int)).toBitVec).toInt = _
  rw [bv_o, bv_o]
  have e : (BitVec.ofNat 32 x ||| BitVec.ofNat 32 y).toNat = x ||| y := by rw [BitVec.toNat_or, bv_n hx, bv_n hy]
  rw [bv_i (by rw [e]; exact Nat.or_lt_two_pow hx hy), e]
theorem zi_and {x y : Nat} (hx : x < 2 ^ 31) (hy : y < 2 ^ 31) : zi 24 (x : Int) (y : Int) = ((x &&& y : Nat) : Int) := by
  show ((Int32.ofInt (x : Int)).toBitVec &&& (Int32.ofInt (y : Int)).toBitVec).toInt = _
  rw [bv_o, bv_o]
  have e : (BitVec.ofNat 32 x &&& BitVec.ofNat 32 y).toNat = x &&& y := by rw [BitVec.toNat_and, bv_n hx, bv_n hy]
  rw [bv_i (by rw [e]; exact Nat.lt_of_le_of_lt Nat.and_le_left hx), e]
theorem sh_k {k : Nat} (hk : k < 31) : (Int32.ofInt (k : Int) &&& 31).toBitVec = BitVec.ofNat 32 k := by
  have : ∀ k : Fin 31, (Int32.ofInt (k.val : Int) &&& 31).toBitVec = BitVec.ofNat 32 k.val := by decide
  exact this ⟨k, hk⟩
theorem zi_shl {k : Nat} (hk : k < 31) : zi 27 1 (k : Int) = ((2 ^ k : Nat) : Int) := by
  have : ∀ k : Fin 31, zi 27 1 (k.val : Int) = ((2 ^ k.val : Nat) : Int) := by decide
  exact this ⟨k, hk⟩
theorem zi_shr {x k : Nat} (hx : x < 2 ^ 31) (hk : k < 31) : zi 28 (x : Int) (k : Int) = ((x >>> k : Nat) : Int) := by
  show ((Int32.ofInt (x : Int)) >>> (Int32.ofInt (k : Int) &&& 31)).toBitVec.toInt = _
  rw [Int32.toBitVec_shiftRight, bv_o, sh_k hk]
  have m : ((BitVec.ofNat 32 k).smod 32) = BitVec.ofNat 32 k := by
    have : ∀ k : Fin 31, ((BitVec.ofNat 32 k.val).smod 32) = BitVec.ofNat 32 k.val := by decide
    exact this ⟨k, hk⟩
  rw [m]
  show (BitVec.sshiftRight (BitVec.ofNat 32 x) (BitVec.ofNat 32 k).toNat).toInt = _
  rw [BitVec.toInt_sshiftRight, bv_i (by rw [bv_n hx]; exact hx), bv_n hx, bv_n (by omega)]
  rfl
/-- whether k is in the set -/
theorem bit_in {x k : Nat} (hx : x < 2 ^ 31) (hk : k < 31) : zi 24 (zi 28 (x : Int) (k : Int)) 1 = if x.testBit k then 1 else 0 := by
  rw [zi_shr hx hk]
  have h1 : x >>> k < 2 ^ 31 := Nat.lt_of_le_of_lt (Nat.shiftRight_le x k) hx
  have e := zi_and (x := x >>> k) (y := 1) h1 (by decide)
  have e2 : zi 24 ((x >>> k : Nat) : Int) 1 = ((x >>> k &&& 1 : Nat) : Int) := e
  rw [e2]
  have t : x.testBit k = (1 &&& (x >>> k) != 0) := rfl
  rw [t, Nat.and_comm 1, Nat.and_one_is_mod]
  rcases Nat.mod_two_eq_zero_or_one (x >>> k) with h | h <;> rw [h] <;> rfl
