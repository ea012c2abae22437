/-! sets of rows and columns, as numbers -/
def bt (r j : Nat) : Nat := r / 2 ^ j % 2
def bts (r : Nat) : Nat := r % 2 + r / 2 % 2 + r / 4 % 2 + r / 8 % 2
theorem lt16 {p : Nat → Prop} (h : ∀ r : Fin 16, p r.val) (r : Nat) (hr : r < 16) : p r := h ⟨r, hr⟩
theorem lt4 {p : Nat → Prop} (h : ∀ r : Fin 4, p r.val) (r : Nat) (hr : r < 4) : p r := h ⟨r, hr⟩
theorem zb {r j : Nat} (hr : r < 16) (hj : j < 4) : zi 24 (zi 28 (r : Int) (j : Int)) 1 = (bt r j : Int) := lt4 (p := fun j => zi 24 (zi 28 (r : Int) (j : Int)) 1 = (bt r j : Int)) (fun j => lt16 (p := fun r => zi 24 (zi 28 (r : Int) (j.val : Int)) 1 = (bt r j.val : Int)) (fun r => by revert r j; decide +kernel) r hr) j hj
theorem zs {j : Nat} (hj : j < 5) : zi 27 1 (j : Int) = ((2 ^ j : Nat) : Int) := by
  have : ∀ j : Fin 5, zi 27 1 (j.val : Int) = ((2 ^ j.val : Nat) : Int) := by decide +kernel
  exact this ⟨j, hj⟩
theorem zbts {r : Nat} (hr : r < 16) : (((zi 24 (r : Int) 1) + (zi 24 (zi 28 (r : Int) 1) 1)) + (zi 24 (zi 28 (r : Int) 2) 1)) + (zi 24 (zi 28 (r : Int) 3) 1) = (bts r : Int) := lt16 (p := fun r => (((zi 24 (r : Int) 1) + (zi 24 (zi 28 (r : Int) 1) 1)) + (zi 24 (zi 28 (r : Int) 2) 1)) + (zi 24 (zi 28 (r : Int) 3) 1) = (bts r : Int)) (by decide +kernel) r hr
