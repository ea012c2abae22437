/-! closed sums: the splitting, and what is asked of q -/
theorem mvf_mul {f g : zp_R} {n m : Nat} (c : zp_F) (df : zp_deg f n) (dg : zp_deg g m) (h : n + m ≤ 176) : mvf (zp_mul f g) c = zp_mul (mvf f c) (mvf g c) := by
  have e1 : mvf f c = cmo f (zp_add (zp_X 1) (zp_C c)) n := cmo_ext df (by omega)
  have e2 : mvf g c = cmo g (zp_add (zp_X 1) (zp_C c)) m := cmo_ext dg (by omega)
  rw [e1, e2]
  exact cmo_mulA df dg h
theorem mvf_mvf {f : zp_R} (a b : zp_F) (df : zp_deg f 176) : mvf (mvf f a) b = mvf f (a + b) := ev_ext (mvf_deg _ _) (mvf_deg _ _) (fun z => by
  rw [mvf_ev (mvf_deg f a), mvf_ev df, mvf_ev df]
  exact congrArg (fun y => zp_ev y f) (@mm_h zp_F _ _ _ _))
where mm_h : ∀ {R : Type} [Lean.Grind.CommRing R] (z a b : R), z + b + a = z + (a + b) := by intro R _ z a b; grind
theorem mvf_0 {f : zp_R} (df : zp_deg f 176) : mvf f 0 = f := ev_ext (mvf_deg _ _) df (fun z => by
  rw [mvf_ev df]
  exact congrArg (fun y => zp_ev y f) (@m0_h zp_F _ _))
where m0_h : ∀ {R : Type} [Lean.Grind.CommRing R] (z : R), z + 0 = z := by intro R _ z; grind
theorem mon_npow {f : zp_R} {m : Nat} (h : mon f m) : ∀ n, mon (zp_npow f n) (n * m)
  | 0 => by rw [Nat.zero_mul]; exact mon_C1
  | n + 1 => by rw [npow_s, Nat.succ_mul]; exact mon_mul (mon_npow h n) h
theorem mvf_mon {f : zp_R} {n : Nat} (c : zp_F) (h : mon f n) (hn : n < 176) : mon (mvf f c) n := by
  refine ⟨?_, mvf_dg c h.2 hn⟩
  have e1 : mvf f c = cmo f (zp_add (zp_X 1) (zp_C c)) (n + 1) := cmo_ext h.2 (by omega)
  have m1 : mon (zp_add (zp_X 1) (zp_C c)) 1 := ⟨by
    show (if 1 = 1 then (1 : zp_F) else 0) + (if 1 = 0 then c else 0) = 1
    rw [if_pos rfl, if_neg (by omega)]; exact @mvf_0.m0_h zp_F _ _, fun i hi2 => by
    show (if i = 1 then (1 : zp_F) else 0) + (if i = 0 then c else 0) = 0
    rw [if_neg (by omega), if_neg (by omega)]; exact @mvf_0.m0_h zp_F _ _⟩
  rw [e1]
  show (@zp_sum zp_R zp_ring (fun k => zp_mul (zp_C (f.1 k)) (zp_npow (zp_add (zp_X 1) (zp_C c)) k)) n).1 n + (zp_mul (zp_C (f.1 n)) (zp_npow (zp_add (zp_X 1) (zp_C c)) n)).1 n = 1
  have z : (@zp_sum zp_R zp_ring (fun k => zp_mul (zp_C (f.1 k)) (zp_npow (zp_add (zp_X 1) (zp_C c)) k)) n).1 n = 0 := by
    rw [sum_cf]
    refine zp_sum_zero (fun k hk => ?_)
    rw [zp_C_mul1, (mon_npow m1 k).2 n (by omega)]
    exact zp_ml0 _
  have t := (mon_npow m1 n).1
  rw [Nat.mul_one] at t
  rw [z, zp_C_mul1, t, h.1]
  exact @mt_h zp_F _
where mt_h : ∀ {R : Type} [Lean.Grind.CommRing R], (0 : R) + 1 * 1 = 1 := by intro R _; grind
/-- the factors of d that place h gives, the first n of them -/
def gsd (g : zp_R) : Nat → zp_R
  | 0 => zp_C 1
  | n + 1 => zp_mul (gsd g n) (mvf g (nF (-((n : Int) + 1))))
/-- d after n places -/
def gsw (G : Nat → zp_R) : Nat → zp_R
  | 0 => zp_C 1
  | n + 1 => zp_mul (gsw G n) (gsd (G n) n)
/-- the splitting, n places of it: a, b and what they have in common -/
def gsp (a b : zp_R) (n : Nat) (P R G : Nat → zp_R) : Prop := P 0 = a ∧ R 0 = b ∧ ∀ h, h < n → isG (P h) (mvf (R h) (nF (h : Int))) (G h) ∧ P h = zp_mul (G h) (P (h + 1)) ∧ R h = zp_mul (mvf (G h) (nF (-(h : Int)))) (R (h + 1))
/-- what q comes to -/
def gop (a b q : zp_R) : zp_R := zp_add (zp_mul a (mvf q 1)) (zp_neg (zp_mul (mvf b (nF (-1))) q))
/-- a power that is free: the highest one of what comes to 0 -/
def gfr (a b : zp_R) (e i : Nat) : Prop := i ≤ e ∧ ∃ q, zp_deg q (i + 1) ∧ q.1 i ≠ 0 ∧ gop a b q = zp_C 0
/-- q of the least degree e comes to d, with 0 at all free powers -/
def gan (a b D : zp_R) (e : Nat) (q : zp_R) : Prop := zp_deg q (e + 1) ∧ gop a b q = D ∧ (∀ i, gfr a b e i → q.1 i = 0) ∧ ∀ e', e' < e → ∀ q', zp_deg q' (e' + 1) → gop a b q' ≠ D
