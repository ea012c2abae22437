/-! second part: a square root by its powers -/
theorem zp_sum_split {R : Type} [Lean.Grind.CommRing R] (f g : Nat → R) (n : Nat) (h : ∀ i, i < n → f i = g i) : zp_sum f n = zp_sum g n := zp_sum_congr h
/-- the sequence up to d, 0 behind -/
def zp_up {R : Type} [Lean.Grind.CommRing R] (P : Nat → R) (d : Nat) : Nat → R := fun j => if j ≤ d then P j else 0
/-- the sequence up to d, v at d + 1 -/
def zp_ad {R : Type} [Lean.Grind.CommRing R] (P : Nat → R) (d : Nat) (v : R) : Nat → R := fun j => if j ≤ d then P j else if j = d + 1 then v else 0
theorem zp_ad_le {R : Type} [Lean.Grind.CommRing R] (P : Nat → R) {d : Nat} (v : R) {j : Nat} (h : j ≤ d) : zp_ad P d v j = P j := if_pos h
theorem zp_ad_at {R : Type} [Lean.Grind.CommRing R] (P : Nat → R) (d : Nat) (v : R) : zp_ad P d v (d + 1) = v := by
  unfold zp_ad
  rw [if_neg (by omega), if_pos rfl]
theorem zp_up_le {R : Type} [Lean.Grind.CommRing R] (P : Nat → R) {d j : Nat} (h : j ≤ d) : zp_up P d j = P j := if_pos h
theorem zp_up_at {R : Type} [Lean.Grind.CommRing R] (P : Nat → R) (d : Nat) : zp_up P d (d + 1) = 0 := if_neg (by omega)
/-- the product's number at d + 1: twice the new one times the first, and what was there -/
theorem zp_c_ad {R : Type} [Lean.Grind.CommRing R] (P : Nat → R) (d : Nat) (v : R) : zp_c (zp_ad P d v) (zp_ad P d v) (d + 1) = 2 * (P 0 * v) + zp_c (zp_up P d) (zp_up P d) (d + 1) := by
  have e1 : ∀ Q : Nat → R, zp_c Q Q (d + 1) = Q 0 * Q (d + 1) + (zp_sum (fun i => Q (i + 1) * Q (d - i)) d + Q (d + 1) * Q 0) := by
    intro Q
    rw [zp_c_succ]
    congr 1
    show zp_sum (fun i => Q (i + 1) * Q (d - i)) d + Q (d + 1) * Q (d - d) = _
    rw [Nat.sub_self]
  rw [e1, e1, zp_ad_at, zp_up_at, zp_ad_le P v (Nat.zero_le d), zp_up_le P (Nat.zero_le d)]
  have e2 : zp_sum (fun i => zp_ad P d v (i + 1) * zp_ad P d v (d - i)) d = zp_sum (fun i => zp_up P d (i + 1) * zp_up P d (d - i)) d :=
    zp_sum_congr (fun i hi => by rw [zp_ad_le P v (show i + 1 ≤ d by omega), zp_ad_le P v (show d - i ≤ d by omega), zp_up_le P (show i + 1 ≤ d by omega), zp_up_le P (show d - i ≤ d by omega)])
  rw [e2]
  generalize zp_sum (fun i => zp_up P d (i + 1) * zp_up P d (d - i)) d = m
  grind
theorem zp_c_ad_lt {R : Type} [Lean.Grind.CommRing R] (P : Nat → R) (d : Nat) (v : R) {n : Nat} (h : n ≤ d) : zp_c (zp_ad P d v) (zp_ad P d v) n = zp_c P P n :=
  zp_c_congr (fun i hi => zp_ad_le P v (by omega)) (fun i hi => zp_ad_le P v (by omega))
/-- powers of y, and multiples of h -/
theorem zp_c_mod {R : Type} [Lean.Grind.CommRing R] {h y : R} {P c : Nat → R} : ∀ {n : Nat}, (∀ i, i ≤ n → ∃ W, P i = c i * y ^ i + h * W) → ∃ W, zp_c P P n = zp_c c c n * y ^ n + h * W := by
  intro n hP
  have key : ∀ k, k ≤ n + 1 → ∃ W, zp_sum (fun i => P i * P (n - i)) k = zp_sum (fun i => c i * c (n - i)) k * y ^ n + h * W := by
    intro k
    induction k with
    | zero => intro _; exact ⟨0, by show (0 : R) = 0 * y ^ n + h * 0; grind⟩
    | succ k ih =>
      intro hk
      obtain ⟨W, hW⟩ := ih (by omega)
      obtain ⟨W1, h1⟩ := hP k (by omega)
      obtain ⟨W2, h2⟩ := hP (n - k) (by omega)
      refine ⟨W + W1 * P (n - k) + c k * y ^ k * W2, ?_⟩
      show zp_sum (fun i => P i * P (n - i)) k + P k * P (n - k) = (zp_sum (fun i => c i * c (n - i)) k + c k * c (n - k)) * y ^ n + h * (W + W1 * P (n - k) + c k * y ^ k * W2)
      rw [hW, h1, h2]
      have h3 : y ^ n = y ^ k * y ^ (n - k) := by rw [← zp_pow_add]; congr 1; omega
      rw [h3]
      grind
  exact key (n + 1) (Nat.le_refl _)
/-- deg: some predicate 'of a degree below' -/
def zp_dg {R : Type} [Lean.Grind.CommRing R] (dg : R → Nat → Prop) : Prop := (∀ f n m, dg f n → n ≤ m → dg f m) ∧ (∀ f g n, dg f n → dg g n → dg (f + g) n) ∧ (∀ f n, dg f n → dg (-f) n) ∧ (∀ f g n m, dg f (n + 1) → dg g (m + 1) → dg (f * g) (n + m + 1)) ∧ dg 0 0 ∧ dg 1 1
theorem zp_dg_sum {R : Type} [Lean.Grind.CommRing R] {dg : R → Nat → Prop} (D : zp_dg dg) {f : Nat → R} {m : Nat} : ∀ {n : Nat}, (∀ i, i < n → dg (f i) m) → dg (zp_sum f n) m
  | 0, _ => D.1 _ _ _ D.2.2.2.2.1 (Nat.zero_le m)
  | n + 1, h => D.2.1 _ _ _ (zp_dg_sum D (fun i hi => h i (by omega))) (h n (by omega))
theorem zp_dg_pow {R : Type} [Lean.Grind.CommRing R] {dg : R → Nat → Prop} (D : zp_dg dg) {f : R} {m : Nat} (h : dg f (m + 1)) : ∀ n : Nat, dg (f ^ n) (n * m + 1)
  | 0 => by rw [zp_pow_zero, Nat.zero_mul]; exact D.2.2.2.2.2
  | n + 1 => by
    rw [zp_pow_succ]
    have := D.2.2.2.1 _ _ _ _ (zp_dg_pow D h n) h
    rwa [← Nat.succ_mul] at this
/-- the numbers of the root: P with P P = 1 + h1 t + h2 h t t + .. -/
theorem zp_root {R : Type} [Lean.Grind.CommRing R] {dg : R → Nat → Prop} (D : zp_dg dg) {hn c : Nat → R} {i2 : R} {m T : Nat} (h2 : 2 * i2 = 1) (hdi : dg i2 1) (hdn : ∀ n, dg (hn n) (m + 1)) (hc0 : c 0 = 1) (hc1 : c 1 = i2) (hcc : ∀ n, 2 ≤ n → n ≤ T → zp_c c c n = 0) : ∀ d : Nat, d ≤ T → ∃ P : Nat → R, P 0 = 1 ∧ (∀ n, n < d → zp_c P P (n + 1) = hn (n + 1) * hn 0 ^ n) ∧ (∀ n, n ≤ d → dg (P n) (n * m + 1)) ∧ ∀ n, n ≤ d → ∃ W, P n = c n * hn 1 ^ n + hn 0 * W
  | 0, _ => ⟨fun _ => 1, rfl, fun n hq => absurd hq (Nat.not_lt_zero n), fun n hq => D.1 _ _ _ D.2.2.2.2.2 (by omega), fun n hq => ⟨0, by
      cases (Nat.le_zero.mp hq)
      show (1 : R) = c 0 * hn 1 ^ 0 + hn 0 * 0
      rw [hc0, zp_pow_zero]; grind⟩⟩
  | d + 1, hT => by
    obtain ⟨P, hP0, hP1, hP2, hP3⟩ := zp_root D h2 hdi hdn hc0 hc1 hcc d (by omega)
    let M := zp_c (zp_up P d) (zp_up P d) (d + 1)
    let v := (hn (d + 1) * hn 0 ^ d - M) * i2
    refine ⟨zp_ad P d v, ?_, ?_, ?_, ?_⟩
    · rw [zp_ad_le P v (Nat.zero_le d)]; exact hP0
    · intro n hn1
      by_cases hnd : n = d
      · subst hnd
        rw [zp_c_ad, hP0]
        show 2 * (1 * ((hn (n + 1) * hn 0 ^ n - M) * i2)) + M = _
        generalize hn (n + 1) * hn 0 ^ n = q
        generalize M = M
        grind
      · rw [zp_c_ad_lt P d v (show n + 1 ≤ d by omega)]
        exact hP1 n (by omega)
    · intro n hn1
      by_cases hnd : n ≤ d
      · rw [zp_ad_le P v hnd]; exact hP2 n hnd
      · have : n = d + 1 := by omega
        subst this
        rw [zp_ad_at]
        have hM : dg M ((d + 1) * m + 1) := zp_dg_sum D (fun i hi => by
          by_cases hi2 : i ≤ d
          · by_cases hi3 : d + 1 - i ≤ d
            · rw [zp_up_le P hi2, zp_up_le P hi3]
              have := D.2.2.2.1 _ _ _ _ (hP2 i hi2) (hP2 (d + 1 - i) hi3)
              rwa [← Nat.add_mul, show i + (d + 1 - i) = d + 1 by omega] at this
            · have hi0 : i = 0 := by omega
              subst hi0
              rw [Nat.sub_zero, zp_up_at]
              have : zp_up P d 0 * 0 = 0 := by grind
              rw [this]; exact D.1 _ _ _ D.2.2.2.2.1 (Nat.zero_le _)
          · have hi0 : i = d + 1 := by omega
            subst hi0
            rw [zp_up_at]
            have : (0 : R) * zp_up P d (d + 1 - (d + 1)) = 0 := by grind
            rw [this]; exact D.1 _ _ _ D.2.2.2.2.1 (Nat.zero_le _))
        have hq : dg (hn (d + 1) * hn 0 ^ d) ((d + 1) * m + 1) := by
          have := D.2.2.2.1 _ _ _ _ (hdn (d + 1)) (zp_dg_pow D (hdn 0) d)
          rwa [show m + d * m = (d + 1) * m by rw [Nat.succ_mul]; omega] at this
        have hs : dg (hn (d + 1) * hn 0 ^ d - M) ((d + 1) * m + 1) := by
          have e : hn (d + 1) * hn 0 ^ d - M = hn (d + 1) * hn 0 ^ d + -M := Lean.Grind.Ring.sub_eq_add_neg _ _
          rw [e]
          exact D.2.1 _ _ _ hq (D.2.2.1 _ _ hM)
        exact D.2.2.2.1 _ _ _ 0 hs hdi
    · intro n hn1
      by_cases hnd : n ≤ d
      · rw [zp_ad_le P v hnd]; exact hP3 n hnd
      · have : n = d + 1 := by omega
        subst this
        rw [zp_ad_at]
        have hM : ∃ W, M = zp_c (zp_up c d) (zp_up c d) (d + 1) * hn 1 ^ (d + 1) + hn 0 * W := zp_c_mod (fun i hi => by
          by_cases hi2 : i ≤ d
          · rw [zp_up_le P hi2, zp_up_le c hi2]; exact hP3 i hi2
          · have : i = d + 1 := by omega
            subst this
            exact ⟨0, by rw [zp_up_at, zp_up_at]; grind⟩)
        obtain ⟨W, hW⟩ := hM
        show ∃ W, (hn (d + 1) * hn 0 ^ d - M) * i2 = c (d + 1) * hn 1 ^ (d + 1) + hn 0 * W
        rw [hW]
        cases d with
        | zero =>
          have hz : zp_c (zp_up c 0) (zp_up c 0) (0 + 1) = 0 := by
            rw [zp_c_succ, zp_c_zero]
            show zp_up c 0 0 * zp_up c 0 (0 + 1) + zp_up c 0 (0 + 1) * zp_up c 0 0 = 0
            rw [zp_up_at]; grind
          rw [hz, zp_pow_zero, zp_pow_succ, zp_pow_zero]
          refine ⟨- W * i2, ?_⟩
          show (hn (0 + 1) * 1 - (0 * (1 * hn 1) + hn 0 * W)) * i2 = c 1 * (1 * hn 1) + hn 0 * (-W * i2)
          rw [hc1]
          show (hn 1 * 1 - (0 * (1 * hn 1) + hn 0 * W)) * i2 = _
          generalize hn 1 = y
          generalize hn 0 = h
          grind
        | succ d =>
          have e1 := hcc (d + 1 + 1) (by omega) hT
          have e2 := zp_c_ad c (d + 1) (c (d + 1 + 1))
          have e3 : zp_c (zp_ad c (d + 1) (c (d + 1 + 1))) (zp_ad c (d + 1) (c (d + 1 + 1))) (d + 1 + 1) = zp_c c c (d + 1 + 1) := by
            refine zp_c_congr (fun i hi => ?_) (fun i hi => ?_) <;>
            · by_cases hi2 : i ≤ d + 1
              · exact zp_ad_le c _ hi2
              · have : i = d + 1 + 1 := by omega
                subst this
                exact zp_ad_at c (d + 1) _
          rw [e3, e1, hc0] at e2
          refine ⟨(hn (d + 1 + 1) * hn 0 ^ d - W) * i2, ?_⟩
          rw [zp_pow_succ (hn 0) d]
          generalize zp_c (zp_up c (d + 1)) (zp_up c (d + 1)) (d + 1 + 1) = z at *
          generalize c (d + 1 + 1) = cd at *
          generalize hn 1 ^ (d + 1 + 1) = y at *
          generalize hn (d + 1 + 1) = q at *
          generalize hn 0 ^ d = hd at *
          generalize hn 0 = h at *
          have hz : z = -2 * cd := by grind
          have h5 : cd * y * (2 * i2) = cd * y := by rw [h2]; grind
          rw [hz]
          grind
