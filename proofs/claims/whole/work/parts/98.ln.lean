/-! rows as wedges: a column's combination taken out (for solved: sets of columns of greatest size) -/
def icR {R : Type} [Lean.Grind.CommRing R] (y g : Nat → R) (S : Nat) : Nat → R
  | 0 => 0
  | j + 1 => if bt S j = 0 then (if sgc S j = 1 then icR y g S j + y j * g (S + 2 ^ j) else icR y g S j - y j * g (S + 2 ^ j)) else icR y g S j
def dtR {R : Type} [Lean.Grind.CommRing R] (row y : Nat → R) : Nat → R
  | 0 => 0
  | j + 1 => dtR row y j + row j * y j
theorem ic_lp {R : Type} [Lean.Grind.CommRing R] (row y g : Nat → R) {k S : Nat} (hk : k ≤ 4) (hS : S < 16) : icR y (fun c => lpR row g c k) S k = dtR row y k * g S - lpR row (fun c => icR y g c k) S k := by
  have hk' : k = 0 ∨ k = 1 ∨ k = 2 ∨ k = 3 ∨ k = 4 := by omega
  have hc' : S = 0 ∨ S = 1 ∨ S = 2 ∨ S = 3 ∨ S = 4 ∨ S = 5 ∨ S = 6 ∨ S = 7 ∨ S = 8 ∨ S = 9 ∨ S = 10 ∨ S = 11 ∨ S = 12 ∨ S = 13 ∨ S = 14 ∨ S = 15 := by omega
  rcases hk' with rfl | rfl | rfl | rfl | rfl <;> rcases hc' with rfl | rfl | rfl | rfl | rfl | rfl | rfl | rfl | rfl | rfl | rfl | rfl | rfl | rfl | rfl | rfl <;> simp [lpR, icR, dtR, bt, sgc] <;> grind
/-- rows in any order, one after another; nothing but what is of their number -/
def dts {R : Type} [Lean.Grind.CommRing R] (k : Nat) : List (Nat → R) → Nat → R
  | [] => fun c => if c = 0 then 1 else 0
  | row :: l => fun c => lpR row (dts k l) c k
theorem lpR_00 {R : Type} [Lean.Grind.CommRing R] {row g : Nat → R} {c : Nat} (h : ∀ c', c' ≤ c → g c' = 0) (j : Nat) : lpR row g c j = 0 := by
  induction j with
  | zero => rfl
  | succ j ih =>
    rw [lpR_s, ih, h _ (Nat.sub_le _ _)]
    by_cases q : bt c j = 0
    · rw [if_pos q]
    · rw [if_neg q]
      by_cases q2 : sgc c j = 1
      · rw [if_pos q2]
        grind
      · rw [if_neg q2]
        grind
theorem icR_0 {R : Type} [Lean.Grind.CommRing R] (y : Nat → R) (S k : Nat) : icR y (fun c => if c = 0 then (1 : R) else 0) S k = 0 := by
  induction k with
  | zero => rfl
  | succ k ih =>
    have p : 0 < 2 ^ k := Nat.pow_pos (by decide)
    show (if bt S k = 0 then (if sgc S k = 1 then icR y (fun c => if c = 0 then (1 : R) else 0) S k + y k * (if S + 2 ^ k = 0 then (1 : R) else 0) else icR y (fun c => if c = 0 then (1 : R) else 0) S k - y k * (if S + 2 ^ k = 0 then (1 : R) else 0)) else icR y (fun c => if c = 0 then (1 : R) else 0) S k) = 0
    rw [ih, if_neg (show ¬ S + 2 ^ k = 0 by omega)]
    by_cases q : bt S k = 0
    · rw [if_pos q]
      by_cases q2 : sgc S k = 1
      · rw [if_pos q2]
        grind
      · rw [if_neg q2]
        grind
    · rw [if_neg q]
theorem ic_h {R : Type} [Lean.Grind.CommRing R] {a b c : R} (ha : a = 0) (hc : c = 0) : a * b - c = 0 := by grind
/-- rows that y makes 0: no sum of their determinants with y is left -/
theorem ic_dts {R : Type} [Lean.Grind.CommRing R] {y : Nat → R} {k : Nat} (hk : k ≤ 4) : ∀ (l : List (Nat → R)), (∀ row, row ∈ l → dtR row y k = 0) → ∀ S, S < 16 → icR y (dts k l) S k = 0
  | [], _, S, _ => icR_0 y S k
  | row :: l, h, S, hS => by
    have e : dts k (row :: l) = fun c => lpR row (dts k l) c k := rfl
    rw [e, ic_lp row y (dts k l) hk hS]
    exact ic_h (h row List.mem_cons_self) (lpR_00 (fun c' hc' => ic_dts hk l (fun r hr => h r (List.mem_cons_of_mem _ hr)) c' (by omega)) k)
