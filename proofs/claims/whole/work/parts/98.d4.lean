/-! the reference's rules: which matrices are, and what they make of fractions -/
/-- a rule: a row whose last one isn't 0 -/
def rulP (t : th) : Prop := match t with
  | .inr (.inr (.inl (r, c, M))) => r = 1 ∧ M 0 (c - 1) ≠ zp_C 0
  | _ => False
theorem mul1 (f : zp_R) : zp_mul (zp_C 1) f = f := by
  rw [zp_C1]
  exact @m1_h zp_R zp_ring f
where m1_h : ∀ {R : Type} [Lean.Grind.CommRing R] (a : R), 1 * a = a := by intro R _ a; grind
/-- bottoms moved by 0, 1 and on, but for one -/
def btb (b : zp_R) (but : Int) : Nat → zp_R
  | 0 => zp_C 1
  | k + 1 => if (k : Int) = but then btb b but k else zp_mul (btb b but k) (mvf b (nF (k : Int)))
theorem mvf_dg {f : zp_R} {n : Nat} (c : zp_F) (df : zp_deg f (n + 1)) (hn : n < 176) : zp_deg (mvf f c) (n + 1) := by
  have e : mvf f c = cmo f (zp_add (zp_X 1) (zp_C c)) (n + 1) := @zp_sum_ext zp_R zp_ring _ (n + 1) 176 (fun i hi2 => by
    show zp_mul (zp_C (f.1 i)) _ = zp_C 0
    rw [df i hi2]
    exact zp_h20R.trans (zp_mul0 _)) (by omega)
  rw [e]
  exact cmo_deg (xc_deg c) (n + 1)
theorem mvf_ne {f : zp_R} (c : zp_F) (df : zp_deg f 176) (h : f ≠ zp_C 0) : mvf f c ≠ zp_C 0 := fun q => h (ev_ext df (deg_le (zp_C_deg 0) (by decide)) (fun a => by
  have e := mvf_ev df c (a - c)
  rw [q, zp_ev_C, show a - c + c = a from @mn_h zp_F _ a c] at e
  rw [zp_ev_C, ← e]))
where mn_h : ∀ {R : Type} [Lean.Grind.CommRing R] (a c : R), a - c + c = a := by intro R _ a c; grind
theorem btb_dg {b : zp_R} (db : zp_deg b 41) (but : Int) : ∀ k, zp_deg (btb b but k) (40 * k + 1)
  | 0 => zp_C_deg 1
  | k + 1 => by
    show zp_deg (if (k : Int) = but then btb b but k else zp_mul (btb b but k) (mvf b (nF (k : Int)))) (40 * k + 40 + 1)
    split
    · exact deg_le (btb_dg db but k) (by omega)
    · exact zp_deg_mul (n := 40 * k) (m := 40) (btb_dg db but k) (mvf_dg _ db (by decide))
theorem mul_n0 {f g : zp_R} (df : zp_deg f 176) (hf : f ≠ zp_C 0) (hg : g ≠ zp_C 0) : zp_mul f g ≠ zp_C 0 := fun q => hg (ne_mul df (hi_ge df hf) q)
theorem C1_n0 : zp_C 1 ≠ zp_C 0 := fun q => by
  have : (zp_C 1).1 0 = (zp_C 0).1 0 := by rw [q]
  exact absurd this (by decide)
theorem btb_n0 {b : zp_R} (db : zp_deg b 41) (hb : b ≠ zp_C 0) (but : Int) : ∀ k, k ≤ 4 → btb b but k ≠ zp_C 0
  | 0, _ => C1_n0
  | k + 1, hk => by
    show (if (k : Int) = but then btb b but k else zp_mul (btb b but k) (mvf b (nF (k : Int)))) ≠ zp_C 0
    split
    · exact btb_n0 db hb but k (by omega)
    · exact mul_n0 (deg_le (btb_dg db but k) (by omega)) (btb_n0 db hb but k (by omega)) (mvf_ne _ (deg_le db (by decide)) hb)
/-- by steps: what stands above, L terms, so many told -/
def stp (a b : zp_R) (M : Nat → zp_R) (L : Nat) : Nat → zp_R
  | 0 => zp_C 0
  | i + 1 => zp_add (stp a b M L i) (zp_mul (zp_mul (btb b (i : Int) L) (mvf a (nF (i : Int)))) (M i))
theorem stp_dg {a b : zp_R} {M : Nat → zp_R} {L : Nat} (hL : L ≤ 4) (da : zp_deg a 41) (db : zp_deg b 41) (dM : ∀ i, i < L → zp_deg (M i) 11) : ∀ i, i ≤ L → zp_deg (stp a b M L i) 176
  | 0, _ => deg_le (zp_C_deg 0) (by decide)
  | i + 1, h => deg_add (stp_dg hL da db dM i (by omega)) (by
    have b1 : zp_deg (btb b (i : Int) L) (40 * (L - 1) + 1) := btb_but db i L (by omega)
    exact deg_le (zp_deg_mul (n := 40 * (L - 1) + 40) (m := 10) (zp_deg_mul (n := 40 * (L - 1)) (m := 40) b1 (mvf_dg _ da (by decide))) (dM i (by omega))) (by omega))
where btb_but {b : zp_R} (db : zp_deg b 41) (i : Nat) : ∀ L, i < L → zp_deg (btb b (i : Int) L) (40 * (L - 1) + 1)
  | 0, h => absurd h (Nat.not_lt_zero i)
  | L + 1, h => by
    show zp_deg (if (L : Int) = i then btb b i L else zp_mul (btb b i L) (mvf b (nF (L : Int)))) (40 * L + 1)
    by_cases q : L = i
    · rw [if_pos (by omega)]
      exact btb_dg db _ L
    · rw [if_neg (by omega)]
      have := zp_deg_mul (n := 40 * (L - 1)) (m := 40) (btb_but db i L (by omega)) (mvf_dg (nF (L : Int)) db (by decide))
      exact deg_le this (by omega)
/-- so many times b -/
def mpw (v b : zp_R) : Nat → zp_R
  | 0 => v
  | n + 1 => zp_mul (mpw v b n) b
theorem mpw_dg {v b : zp_R} {n : Nat} (dv : zp_deg v (n + 1)) (db : zp_deg b 41) : ∀ k, zp_deg (mpw v b k) (n + 40 * k + 1)
  | 0 => dv
  | k + 1 => zp_deg_mul (n := n + 40 * k) (m := 40) (mpw_dg dv db k) db
theorem mpw_n0 {v b : zp_R} {n : Nat} (dv : zp_deg v (n + 1)) (db : zp_deg b 41) (hv : v ≠ zp_C 0) (hb : b ≠ zp_C 0) : ∀ k, n + 40 * k < 176 → mpw v b k ≠ zp_C 0
  | 0, _ => hv
  | k + 1, h => mul_n0 (deg_le (mpw_dg dv db k) (by omega)) (mpw_n0 dv db hv hb k (by omega)) hb
/-- the tops of a fraction's slopes, each with the bottom once more often below -/
def slt (a b : zp_R) : Nat → zp_R
  | 0 => a
  | i + 1 => zp_add (zp_mul (zp_D (slt a b i)) b) (zp_mul (zp_C (nF (-((i : Int) + 1)))) (zp_mul (zp_D b) (slt a b i)))
def slp (a b : zp_R) (M : Nat → zp_R) (L : Nat) : Nat → zp_R
  | 0 => zp_C 0
  | i + 1 => zp_add (slp a b M L i) (mpw (zp_mul (M i) (slt a b i)) b (L - 1 - i))
theorem D_dg {f : zp_R} {n : Nat} (df : zp_deg f (n + 1)) : zp_deg (zp_D f) n := fun i hi2 => by
  show zp_nat (i + 1) * f.1 (i + 1) = 0
  rw [df (i + 1) (by omega)]; exact zp_h15 _
theorem slt_dg {a b : zp_R} (da : zp_deg a 41) (db : zp_deg b 41) : ∀ i, zp_deg (slt a b i) (40 + 40 * i + 1)
  | 0 => da
  | i + 1 => by
    have h1 := zp_deg_mul (n := 40 + 40 * i) (m := 40) (deg_le (D_dg (slt_dg da db i)) (by omega)) db
    have h2 := zp_deg_mul (n := 40) (m := 40 + 40 * i) (deg_le (D_dg db) (by decide)) (slt_dg da db i)
    exact deg_le (deg_add (deg_le h1 (m := 40 + 40 * i + 40 + 1) (by omega)) (deg_Cm _ (deg_le h2 (by omega)))) (by omega)
