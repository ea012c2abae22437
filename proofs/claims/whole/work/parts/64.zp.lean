/-! fifth part: the polynomials, a ring -/
theorem zp_sum_rev {R : Type} [Lean.Grind.CommRing R] : ∀ (n : Nat) (f : Nat → R), zp_sum f (n + 1) = zp_sum (fun i => f (n - i)) (n + 1)
  | 0, f => rfl
  | n + 1, f => by
    rw [zp_sum_head (fun i => f (n + 1 - i))]
    show zp_sum f (n + 1) + f (n + 1) = f (n + 1 - 0) + zp_sum (fun i => f (n + 1 - (i + 1))) (n + 1)
    rw [zp_sum_rev n f]
    have : zp_sum (fun i => f (n + 1 - (i + 1))) (n + 1) = zp_sum (fun i => f (n - i)) (n + 1) := zp_sum_congr (fun i hi => by rw [Nat.add_sub_add_right])
    rw [this, Nat.sub_zero]
    grind
theorem zp_c_comm {R : Type} [Lean.Grind.CommRing R] (a b : Nat → R) (n : Nat) : zp_c a b n = zp_c b a n := by
  unfold zp_c
  rw [zp_sum_rev]
  refine zp_sum_congr (fun i hi => ?_)
  rw [show n - (n - i) = i by omega]
  grind
theorem zp_c_lin {R : Type} [Lean.Grind.CommRing R] (u : R) (a b c : Nat → R) (n : Nat) : zp_c (fun i => u * a i + b i) c n = u * zp_c a c n + zp_c b c n := by
  unfold zp_c
  rw [← zp_sum_mul, ← zp_sum_add]
  exact zp_sum_congr (fun i hi => by grind)
theorem zp_c_add {R : Type} [Lean.Grind.CommRing R] (a b c : Nat → R) (n : Nat) : zp_c a (fun i => b i + c i) n = zp_c a b n + zp_c a c n := by
  unfold zp_c
  rw [← zp_sum_add]
  exact zp_sum_congr (fun i hi => by grind)
theorem zp_c_assoc {R : Type} [Lean.Grind.CommRing R] (b c : Nat → R) : ∀ (n : Nat) (a : Nat → R), zp_c (zp_c a b) c n = zp_c a (zp_c b c) n
  | 0, a => by rw [zp_c_zero, zp_c_zero, zp_c_zero, zp_c_zero]; grind
  | n + 1, a => by
    rw [zp_c_succ, zp_c_succ a, zp_c_zero, zp_c_succ b c]
    have e : zp_c (fun i => zp_c a b (i + 1)) c n = zp_c (fun i => a 0 * b (i + 1) + zp_c (fun j => a (j + 1)) b i) c n := zp_c_congr (fun i hi => zp_c_succ a b i) (fun i hi => rfl)
    rw [e, zp_c_lin, zp_c_assoc b c n (fun j => a (j + 1))]
    grind
/-- numbers at powers, 0 from some power on -/
def zp_fin (f : Nat → zp_F) : Prop := ∃ n, ∀ i, n ≤ i → f i = 0
theorem zp_c_lt {R : Type} [Lean.Grind.CommRing R] {f g : Nat → R} {n m : Nat} (hf : ∀ i, n ≤ i → f i = 0) (hg : ∀ i, m ≤ i → g i = 0) {k : Nat} (hk : n + m ≤ k + 1) : zp_c f g k = 0 :=
  zp_sum_zero (fun i hi => by
    by_cases h : n ≤ i
    · rw [hf i h]; grind
    · rw [hg (k - i) (by omega)]; grind)
abbrev zp_R : Type := {f : Nat → zp_F // zp_fin f}
def zp_add (f g : zp_R) : zp_R := ⟨fun i => f.1 i + g.1 i, by
  obtain ⟨n, hn⟩ := f.2
  obtain ⟨m, hm⟩ := g.2
  exact ⟨n + m, fun i hi => by show f.1 i + g.1 i = 0; rw [hn i (by omega), hm i (by omega)]; grind⟩⟩
def zp_neg (f : zp_R) : zp_R := ⟨fun i => -f.1 i, by
  obtain ⟨n, hn⟩ := f.2
  exact ⟨n, fun i hi => by show -f.1 i = 0; rw [hn i (by omega)]; grind⟩⟩
def zp_mul (f g : zp_R) : zp_R := ⟨zp_c f.1 g.1, by
  obtain ⟨n, hn⟩ := f.2
  obtain ⟨m, hm⟩ := g.2
  exact ⟨n + m, fun i hi => zp_c_lt hn hm (by omega)⟩⟩
/-- a number alone -/
def zp_C (c : zp_F) : zp_R := ⟨fun i => if i = 0 then c else 0, 1, fun i hi => if_neg (by omega)⟩
/-- x to a power -/
def zp_X (k : Nat) : zp_R := ⟨fun i => if i = k then 1 else 0, k + 1, fun i hi => if_neg (by omega)⟩
theorem zp_ext {f g : zp_R} (h : ∀ i, f.1 i = g.1 i) : f = g := Subtype.ext (funext h)
theorem zp_c_C {R : Type} [Lean.Grind.CommRing R] (c : R) (f : Nat → R) : ∀ n : Nat, zp_c (fun i => if i = 0 then c else 0) f n = c * f n
  | 0 => by rw [zp_c_zero]; rfl
  | n + 1 => by
    rw [zp_c_succ]
    have : zp_c (fun i => if i + 1 = 0 then c else 0) f n = 0 := zp_sum_zero (fun i hi => by
      show (if i + 1 = 0 then c else 0) * f (n - i) = 0
      rw [if_neg (by omega)]; grind)
    rw [this, if_pos rfl]
    grind
def zp_npow (f : zp_R) (n : Nat) : zp_R := Nat.rec (zp_C 1) (fun _ r => zp_mul r f) n
def zp_int : Int → zp_R
  | .ofNat n => zp_C (zp_nat n)
  | .negSucc n => zp_neg (zp_C (zp_nat (n + 1)))
theorem zp_zm (i : Int) (a : zp_R) : zp_mul (zp_int (-i)) a = zp_neg (zp_mul (zp_int i) a) := by
  have h1 : ∀ c f : zp_R, zp_mul (zp_neg c) f = zp_neg (zp_mul c f) := fun c f => zp_ext (fun k => by
    show zp_c (fun i => -c.1 i) f.1 k = -zp_c c.1 f.1 k
    have e : zp_c (fun i => -c.1 i) f.1 k = zp_c (fun i => (-1) * c.1 i + 0) f.1 k := zp_c_congr (fun i hi => by grind) (fun i hi => rfl)
    rw [e, zp_c_lin]
    have : zp_c (fun _ => (0 : zp_F)) f.1 k = 0 := zp_sum_zero (fun i hi => by grind)
    rw [this]; grind)
  have h2 : zp_int (-i) = zp_neg (zp_int i) := by
    have h3 : ∀ f : zp_R, zp_neg (zp_neg f) = f := fun f => zp_ext (fun k => by show - - f.1 k = f.1 k; grind)
    have h4 : zp_neg (zp_C 0) = zp_C 0 := zp_ext (fun k => by
      show -(if k = 0 then (0 : zp_F) else 0) = if k = 0 then 0 else 0
      split <;> grind)
    match i with
    | .ofNat 0 => exact h4.symm
    | .ofNat (n + 1) => rfl
    | .negSucc n => exact (h3 _).symm
  rw [h2, h1]
abbrev zp_ring : Lean.Grind.CommRing zp_R where
  add := zp_add
  mul := zp_mul
  neg := zp_neg
  sub f g := zp_add f (zp_neg g)
  natCast := ⟨fun n => zp_C (zp_nat n)⟩
  ofNat n := ⟨zp_C (zp_nat n)⟩
  nsmul := ⟨fun n f => zp_mul (zp_C (zp_nat n)) f⟩
  npow := ⟨zp_npow⟩
  intCast := ⟨zp_int⟩
  zsmul := ⟨fun i f => zp_mul (zp_int i) f⟩
  add_zero f := zp_ext (fun k => by
    show f.1 k + (if k = 0 then (0 : zp_F) else 0) = f.1 k
    split <;> grind)
  add_comm f g := zp_ext (fun k => by show f.1 k + g.1 k = g.1 k + f.1 k; grind)
  add_assoc f g h := zp_ext (fun k => by show f.1 k + g.1 k + h.1 k = f.1 k + (g.1 k + h.1 k); grind)
  mul_assoc f g h := zp_ext (fun k => zp_c_assoc g.1 h.1 k f.1)
  mul_comm f g := zp_ext (fun k => zp_c_comm f.1 g.1 k)
  mul_one f := zp_ext (fun k => by
    show zp_c f.1 (fun i => if i = 0 then zp_nat 1 else 0) k = f.1 k
    rw [zp_c_comm, zp_c_C]
    show ((0 : zp_F) + 1) * f.1 k = f.1 k
    grind)
  left_distrib f g h := zp_ext (fun k => zp_c_add f.1 g.1 h.1 k)
  right_distrib f g h := zp_ext (fun k => by
    show zp_c (fun i => f.1 i + g.1 i) h.1 k = zp_c f.1 h.1 k + zp_c g.1 h.1 k
    rw [zp_c_comm, zp_c_add, zp_c_comm h.1, zp_c_comm h.1])
  one_mul f := zp_ext (fun k => by
    show zp_c (fun i => if i = 0 then zp_nat 1 else 0) f.1 k = f.1 k
    rw [zp_c_C]
    show ((0 : zp_F) + 1) * f.1 k = f.1 k
    grind)
  mul_zero f := zp_ext (fun k => by
    show zp_c f.1 (fun i => if i = 0 then zp_nat 0 else 0) k = if k = 0 then zp_nat 0 else 0
    rw [zp_c_comm, zp_c_C]
    show (0 : zp_F) * f.1 k = if k = 0 then 0 else 0
    split <;> grind)
  zero_mul f := zp_ext (fun k => by
    show zp_c (fun i => if i = 0 then zp_nat 0 else 0) f.1 k = if k = 0 then zp_nat 0 else 0
    rw [zp_c_C]
    show (0 : zp_F) * f.1 k = if k = 0 then 0 else 0
    split <;> grind)
  pow_zero f := zp_ext (fun k => by
    show (if k = 0 then (1 : zp_F) else 0) = if k = 0 then (0 : zp_F) + 1 else 0
    split <;> grind)
  pow_succ f n := rfl
  ofNat_succ n := zp_ext (fun k => by
    show (if k = 0 then zp_nat (n + 1) else (0 : zp_F)) = (if k = 0 then zp_nat n else 0) + if k = 0 then zp_nat 1 else 0
    split
    · show (zp_nat n : zp_F) + 1 = zp_nat n + (0 + 1); grind
    · grind)
  neg_add_cancel f := zp_ext (fun k => by
    show -f.1 k + f.1 k = if k = 0 then zp_nat 0 else 0
    split
    · show -f.1 k + f.1 k = (0 : zp_F); grind
    · grind)
  sub_eq_add_neg f g := rfl
  neg_zsmul := zp_zm
  intCast_neg i := by
    have h3 : ∀ f : zp_R, zp_neg (zp_neg f) = f := fun f => zp_ext (fun k => by show - - f.1 k = f.1 k; grind)
    have h4 : zp_neg (zp_C 0) = zp_C 0 := zp_ext (fun k => by
      show -(if k = 0 then (0 : zp_F) else 0) = if k = 0 then 0 else 0
      split <;> grind)
    match i with
    | .ofNat 0 => exact h4.symm
    | .ofNat (n + 1) => rfl
    | .negSucc n => exact (h3 _).symm
theorem zp_h9 {R : Type} [Lean.Grind.CommRing R] {x y : R} (h : x - y = 0) : x = y := by grind
theorem zp_h10 {R : Type} [Lean.Grind.CommRing R] {x y z : R} (h : (x - x) * y + z = 0) : z = 0 := by grind
theorem zp_h14 {R : Type} [Lean.Grind.CommRing R] {x y : R} (h : 1 + -1 = 0 * x + y) : y = 0 := by grind
theorem zp_h15 {R : Type} [Lean.Grind.CommRing R] (x : R) : x * 0 = 0 := by grind
