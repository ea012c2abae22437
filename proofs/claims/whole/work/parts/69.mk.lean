/-! ROWS OF NUMBERS, as functions below a length -/
abbrev vi (z : Int) : Term := .int (Int32.ofInt z)
abbrev vl (z : Int) : Term := .long (Int64.ofInt z)
def gi (l : List Int) (i : Int) : Int := l.getD i.toNat 0
def mk (n : Nat) (g : Nat → Int) : List Int := (List.range n).map g
theorem mk_len (n : Nat) (g : Nat → Int) : (mk n g).length = n := by simp [mk]
theorem mk_congr {n : Nat} {g g' : Nat → Int} (h : ∀ i, i < n → g i = g' i) : mk n g = mk n g' := by
  unfold mk
  exact List.map_congr_left (fun i hi => h i (List.mem_range.mp hi))
theorem mk_set {n : Nat} {g : Nat → Int} {k : Nat} {z : Int} : (mk n g).set k z = mk n (fun i => if i = k then z else g i) := by
  refine List.ext_getElem? (fun i => ?_)
  unfold mk
  rw [List.getElem?_set]
  by_cases hi : i < n
  · by_cases hk : k = i
    · subst hk
      simp [hi]
    · simp [hi, hk, Ne.symm hk]
  · simp [hi]
    omega
theorem gi_mk {n : Nat} {g : Nat → Int} {x : Int} (h0 : 0 ≤ x) (h1 : x < n) : gi (mk n g) x = g x.toNat := by
  unfold gi mk
  have : x.toNat < n := by omega
  simp [List.getD_eq_getElem?_getD, this]
theorem gi_mkn {n : Nat} {g : Nat → Int} {k : Nat} (h1 : k < n) : gi (mk n g) (k : Int) = g k := by
  rw [gi_mk (by omega) (by omega)]
  rfl
/-- a row of longs, of ints -/
abbrev al (n : Nat) (g : Nat → Int) : s_C := (0, 1, (mk n g).map vl)
abbrev ai (n : Nat) (g : Nat → Int) : s_C := (0, 0, (mk n g).map vi)
theorem al_congr {n : Nat} {g g' : Nat → Int} (h : ∀ i, i < n → g i = g' i) : al n g = al n g' := by
  show (0, 1, (mk n g).map vl) = (0, 1, (mk n g').map vl)
  rw [mk_congr h]
theorem tmod_nn {x : Int} (h : 0 ≤ x) : Int.tmod x 32003 = x % 32003 := Int.tmod_eq_emod_of_nonneg h
theorem md_lt (x : Int) : 0 ≤ x % 32003 ∧ x % 32003 < 32003 := ⟨Int.emod_nonneg _ (by decide), Int.emod_lt_of_pos _ (by decide)⟩
theorem mm_le {x y : Int} (hx : 0 ≤ x ∧ x < 32003) (hy : 0 ≤ y ∧ y < 32003) : 0 ≤ x * y ∧ x * y ≤ 1024128004 := by
  have h1 : 0 ≤ x * y := Int.mul_nonneg hx.1 hy.1
  have h2 : x * y ≤ 32002 * 32002 := Int.mul_le_mul (by omega) (by omega) hy.1 (by decide)
  omega
