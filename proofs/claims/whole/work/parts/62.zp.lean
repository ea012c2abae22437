/-! third part: no polynomial without double factors has squares alone as its values -/
theorem zp_c_root {R : Type} [Lean.Grind.CommRing R] {hn P : Nat → R} {d : Nat} (hd : 1 ≤ d) (hP0 : P 0 = 1) (hP1 : ∀ n, n < d → zp_c P P (n + 1) = hn (n + 1) * hn 0 ^ n) {n : Nat} (hnd : n ≤ d) : zp_c (fun j => P j * hn 0 ^ (d - j)) (fun j => P j * hn 0 ^ (d - j)) n = hn 0 ^ (2 * d - 1) * hn n := by
  have e1 : zp_c (fun j => P j * hn 0 ^ (d - j)) (fun j => P j * hn 0 ^ (d - j)) n = hn 0 ^ (2 * d - n) * zp_c P P n := by
    unfold zp_c
    rw [← zp_sum_mul]
    refine zp_sum_congr (fun i hi => ?_)
    have : hn 0 ^ (2 * d - n) = hn 0 ^ (d - i) * hn 0 ^ (d - (n - i)) := by rw [← zp_pow_add]; congr 1; omega
    rw [this]
    grind
  rw [e1]
  cases n with
  | zero =>
    rw [zp_c_zero, hP0, show 2 * d - 0 = 2 * d - 1 + 1 by omega, zp_pow_succ]
    grind
  | succ n =>
    rw [hP1 n (by omega)]
    have : hn 0 ^ (2 * d - 1) = hn 0 ^ (2 * d - (n + 1)) * hn 0 ^ n := by rw [← zp_pow_add]; congr 1; omega
    rw [this]
    grind
theorem zp_h1 {R : Type} [Lean.Grind.CommRing R] {a b v : R} (h : a - b = v) : a = b + v := by grind
theorem zp_h2 {R : Type} [Lean.Grind.CommRing R] {a b x h q z : R} (h1 : a = b + 0) (h2 : a = x + h * z) (h3 : b = q * h) : x = h * (q - z) := by grind
theorem zp_h3 {R : Type} [Lean.Grind.CommRing R] {q h L w : R} (h1 : q * h = 1 + L * w) : L * -w = 1 + h * -q := by grind
theorem zp_h4 {R : Type} [Lean.Grind.CommRing R] {x y h w z : R} (h1 : x = y + h * w) (h2 : x = h * z) : y = h * (z - w) := by grind
theorem zp_h5 (d k : Nat) : (d + (k + 1)) * (2 * d) = 2 * d * d + d * (2 * (k + 1)) := by grind
theorem zp_h6 (d k : Nat) : (2 * (k + 1) + 1) * (d + 1) = d * (2 * (k + 1)) + d + (2 * (k + 1) + 1) := by grind
theorem zp_lift {R : Type} [Lean.Grind.CommRing R] {L X z V : R} {d : Nat} (h : X * (1 + L * z) = L ^ d * V) : ∀ j, j ≤ d → ∃ W, X = L ^ j * W
  | 0, _ => ⟨X, by rw [zp_pow_zero]; grind⟩
  | j + 1, hj => by
    obtain ⟨W, hW⟩ := zp_lift h j (by omega)
    have e : L ^ d = L ^ j * L * L ^ (d - (j + 1)) := by rw [← zp_pow_succ, ← zp_pow_add]; congr 1; omega
    refine ⟨L ^ (d - (j + 1)) * V - W * z, ?_⟩
    rw [e] at h
    rw [zp_pow_succ]
    generalize L ^ (d - (j + 1)) = q at *
    generalize L ^ j = r at *
    have h3 : X = r * L * q * V - X * (L * z) := by grind
    rw [h3]
    have h4 : X * (L * z) = r * W * (L * z) := by rw [← hW]
    rw [h4]
    grind
/-- A and B agree up to a power of L -/
theorem zp_agree {R : Type} [Lean.Grind.CommRing R] {h L w A B E V i2 : R} {d k : Nat} (h2 : 2 * i2 = 1) (hk : h ^ (k + 1) = 1 + L * w) (hA : A = h ^ d + L * E) (hB : B = h ^ (d + (k + 1))) (hAB : A * A = B * B + L ^ (d + 1) * V) : ∃ W, A = B + L ^ (d + 1) * W := by
  obtain ⟨w', hw'⟩ := zp_near L w d
  have e1 : B = h ^ d + L * (h ^ d * w) := by
    rw [hB, zp_pow_add, hk]; grind
  have e2 : h ^ d * (h ^ k) ^ d = 1 + L * w' := by
    rw [← zp_pow_mul, ← hw', ← hk, zp_pow_succ]; congr 1; grind
  have e3 : (A - B) * (1 + L * (w' + (E + h ^ d * w) * (h ^ k) ^ d * i2)) = L ^ (d + 1) * (V * (h ^ k) ^ d * i2) := by
    have e4 : (A + B) * ((h ^ k) ^ d * i2) = 1 + L * (w' + (E + h ^ d * w) * (h ^ k) ^ d * i2) := by
      have e5 : A + B = 2 * h ^ d + L * (E + h ^ d * w) := by rw [hA, e1]; grind
      rw [e5]
      have e6 : (2 * h ^ d + L * (E + h ^ d * w)) * ((h ^ k) ^ d * i2) = (2 * i2) * (h ^ d * (h ^ k) ^ d) + L * ((E + h ^ d * w) * (h ^ k) ^ d * i2) := by grind
      rw [e6, h2, e2]
      grind
    rw [← e4]
    have e7 : (A - B) * ((A + B) * ((h ^ k) ^ d * i2)) = (A * A - B * B) * ((h ^ k) ^ d * i2) := by grind
    rw [e7, hAB]
    grind
  obtain ⟨W, hW⟩ := zp_lift e3 (d + 1) (Nat.le_refl _)
  exact ⟨W, zp_h1 hW⟩
/-- what is a multiple of h after a unit -/
theorem zp_unit {R : Type} [Lean.Grind.CommRing R] {h x y s t Z : R} (d : Nat) (e : y * s = 1 + h * t) (hx : x * y ^ d = h * Z) : ∃ W, x = h * W := by
  obtain ⟨t', ht⟩ := zp_near h t d
  have e1 : y ^ d * s ^ d = 1 + h * t' := by rw [← zp_pow_mul, e, ht]
  refine ⟨Z * s ^ d - x * t', ?_⟩
  have e2 : x * (y ^ d * s ^ d) = h * (Z * s ^ d) := by
    have : x * (y ^ d * s ^ d) = x * y ^ d * s ^ d := by grind
    rw [this, hx]; grind
  rw [e1] at e2
  grind
theorem zp_none {R : Type} [Lean.Grind.CommRing R] {dg : R → Nat → Prop} (D : zp_dg dg) {hn c : Nat → R} {i2 L w s t ci : R} {d k p N T : Nat} (hd : 1 ≤ d) (hdT : d ≤ T) (h2 : 2 * i2 = 1) (hdi : dg i2 1) (hdn : ∀ n, dg (hn n) (2 * d + 1)) (hc0 : c 0 = 1) (hc1 : c 1 = i2) (hcc : ∀ n, 2 ≤ n → n ≤ T → zp_c c c n = 0) (hci : c d * ci = 1) (hp : 2 * (k + 1) + 1 = p) (hpd : 2 * d * d + d < p) (hL : dg L (p + 1)) (hLL : ∀ e W, dg (L ^ e * W) (p * e) → L ^ e * W = 0) (hF : ∀ M, N ≤ M → hn 0 ^ p = zp_S L hn M) (hk : hn 0 ^ (k + 1) = 1 + L * w) (hst : hn 1 * s = 1 + hn 0 * t) (hno : ∀ W, ¬ hn 0 * W = 1) : False := by
  obtain ⟨P, hP0, hP1, hP2, hP3⟩ := zp_root D h2 hdi hdn hc0 hc1 hcc d hdT
  let a : Nat → R := fun j => P j * hn 0 ^ (d - j)
  let A := zp_S L a d
  obtain ⟨W1, hW1⟩ := zp_SS L a d a
  have e1 : zp_S L (zp_c a a) d = hn 0 ^ (2 * d - 1) * zp_S L hn d := by
    have : zp_S L (zp_c a a) d = zp_S L (fun n => hn 0 ^ (2 * d - 1) * hn n + 0) d := zp_S_congr (fun n hn1 => by
      rw [zp_c_root hd hP0 hP1 hn1]
      grind)
    rw [this, zp_S_lin]
    have hz : zp_S L (fun _ => (0 : R)) d = 0 := zp_sum_zero (fun i hi => by grind)
    rw [hz]; grind
  obtain ⟨W2, hW2⟩ := zp_S_more L hn d N
  have e2 := hF (d + N) (by omega)
  rw [hW2] at e2
  have e3 : hn 0 ^ (d + (k + 1)) * hn 0 ^ (d + (k + 1)) = hn 0 ^ (2 * d - 1) * hn 0 ^ p := by
    rw [← zp_pow_add, ← zp_pow_add]; congr 1; omega
  have e4 : A * A = hn 0 ^ (d + (k + 1)) * hn 0 ^ (d + (k + 1)) + L ^ (d + 1) * (W1 - hn 0 ^ (2 * d - 1) * W2) := by
    rw [e3, e2]
    show zp_S L a d * zp_S L a d = _
    rw [hW1, e1]
    grind
  obtain ⟨E, hE⟩ := zp_S_first L a d
  have e5 : A = hn 0 ^ d + L * E := by
    show zp_S L a d = _
    rw [hE]
    show P 0 * hn 0 ^ (d - 0) + L * E = _
    rw [hP0, Nat.sub_zero]; grind
  obtain ⟨W, hW⟩ := zp_agree h2 hk e5 rfl e4
  have hdB : dg (hn 0 ^ (d + (k + 1))) (p * (d + 1)) := by
    refine D.1 _ _ _ (zp_dg_pow D (hdn 0) _) ?_
    rw [zp_h5, ← hp, zp_h6]
    omega
  have hdA : dg A (p * (d + 1)) := zp_dg_sum D (fun j hj => by
    have h1 := D.2.2.2.1 _ _ _ _ (hP2 j (by omega)) (zp_dg_pow D (hdn 0) (d - j))
    have h3 := D.2.2.2.1 _ _ _ _ h1 (zp_dg_pow D hL j)
    refine D.1 _ _ _ h3 ?_
    rw [← Nat.add_mul, show j + (d - j) = d by omega]
    have h5 : j * p ≤ d * p := Nat.mul_le_mul_right p (by omega)
    rw [Nat.mul_add, Nat.mul_comm p d, Nat.mul_one, Nat.mul_comm d (2 * d)]
    omega)
  have e6 : L ^ (d + 1) * W = 0 := hLL _ _ (by
    have : L ^ (d + 1) * W = A + - hn 0 ^ (d + (k + 1)) := by rw [hW]; grind
    rw [this]
    exact D.2.1 _ _ _ hdA (D.2.2.1 _ _ hdB))
  rw [e6] at hW
  -- A = B: h divides the last number
  obtain ⟨d, rfl⟩ : ∃ e, d = e + 1 := ⟨d - 1, by omega⟩
  have e7 : ∃ Z, A = P (d + 1) * L ^ (d + 1) + hn 0 * Z := by
    refine ⟨zp_S L (fun j => P j * hn 0 ^ (d - j)) d, ?_⟩
    show zp_S L a (d + 1) = _
    rw [zp_S_succ]
    have : zp_S L a d = hn 0 * zp_S L (fun j => P j * hn 0 ^ (d - j)) d := by
      unfold zp_S
      rw [← zp_sum_mul]
      refine zp_sum_congr (fun j hj => ?_)
      show P j * hn 0 ^ (d + 1 - j) * L ^ j = _
      rw [show d + 1 - j = (d - j) + 1 by omega, zp_pow_succ]
      grind
    rw [this]
    show _ + P (d + 1) * hn 0 ^ (d + 1 - (d + 1)) * L ^ (d + 1) = _
    rw [Nat.sub_self, zp_pow_zero]
    grind
  obtain ⟨Z, hZ⟩ := e7
  have e8 : P (d + 1) * L ^ (d + 1) = hn 0 * (hn 0 ^ (d + (k + 1)) - Z) := by
    exact zp_h2 hW hZ (by rw [← zp_pow_succ]; congr 1; omega)
  have e9 : L * -w = 1 + hn 0 * - hn 0 ^ k := by
    rw [zp_pow_succ] at hk
    exact zp_h3 hk
  obtain ⟨Z2, hZ2⟩ := zp_unit (d + 1) e9 e8
  obtain ⟨W3, hW3⟩ := hP3 (d + 1) (Nat.le_refl _)
  have e10 : c (d + 1) * hn 1 ^ (d + 1) = hn 0 * (Z2 - W3) := zp_h4 hW3 hZ2
  obtain ⟨Z4, hZ4⟩ := zp_unit (d + 1) hst e10
  exact hno (Z4 * ci) (by rw [← hci, hZ4]; grind)
