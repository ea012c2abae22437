/-! what the power of the prime keeps is constant modulo what can't be parted -/
def zpr (f : Nat → zp_R) : Nat → zp_R
  | 0 => zp_C 1
  | n + 1 => zp_mul (zpr f n) (f n)
theorem irr_zpr {f : zp_R} (h : irr f) {g : Nat → zp_R} : ∀ n, dv f (zpr g n) → ∃ k, k < n ∧ dv f (g k)
  | 0, w => absurd w (irr_n1 h)
  | n + 1, w => by
    rcases irr_pr h w with w | w
    · obtain ⟨k, a, b⟩ := irr_zpr h n w
      exact ⟨k, by omega, b⟩
    · exact ⟨n, by omega, w⟩
/-- the letter less a number -/
def xl (n : Nat) : zp_R := zp_add (zp_X 1) (zp_C (nF (-(n : Int))))
theorem xl_mon (n : Nat) : mon (xl n) 1 := ⟨by
  show (if 1 = 1 then (1 : zp_F) else 0) + (if 1 = 0 then nF (-(n : Int)) else 0) = 1
  rw [if_pos rfl, if_neg (by omega)]; grind, fun i hi2 => by
  show (if i = 1 then (1 : zp_F) else 0) + (if i = 0 then nF (-(n : Int)) else 0) = 0
  rw [if_neg (by omega), if_neg (by omega)]; grind⟩
theorem zp_ev_X1 (a : zp_F) : zp_ev a (zp_X 1) = a := by
  rw [zp_X_T, zp_ev_T]
  have : a ^ 1 = a ^ 0 * a := zp_pow_succ a 0
  rw [this, zp_pow_zero]; grind
theorem nF_nat (n : Nat) : nF (n : Int) = zp_nat n := by
  rw [zp_natF]
  exact F_ext (by rw [nF_v]; rfl)
theorem xl_ev (a : zp_F) (n : Nat) : zp_ev a (xl n) = a + -(zp_nat n) := by
  show zp_ev a (zp_add _ _) = _
  rw [zp_ev_add, zp_ev_X1, zp_ev_C, nF_neg, nF_nat]
theorem zpr_mon : ∀ N, mon (zpr xl N) N
  | 0 => mon_C1
  | N + 1 => mon_mul (zpr_mon N) (xl_mon N)
theorem zpr_ev {i : Nat} : ∀ N, i < N → zp_ev (zp_nat i) (zpr xl N) = 0
  | 0, h => absurd h (Nat.not_lt_zero _)
  | N + 1, h => by
    show zp_ev _ (zp_mul _ _) = 0
    rw [zp_ev_mul]
    by_cases q : i < N
    · rw [zpr_ev N q]; exact zp_0ml _
    · rw [xl_ev, show i = N by omega]
      have : (zp_nat N : zp_F) + -(zp_nat N) = 0 := @zv_h zp_F _ _
      rw [this]; exact zp_ml0 _
where zv_h : ∀ {R : Type} [Lean.Grind.CommRing R] (a : R), a + -a = 0 := by intro R _ a; grind
/-- the product over all numbers -/
theorem zpr_all : zpr xl 32003 = zp_L := by
  have m := zpr_mon 32003
  have e : zp_add (zpr xl 32003) (zp_neg zp_L) = zp_C 0 := by
    refine zp_roots 32003 _ (Nat.le_refl _) (fun i hi2 => ?_) (fun i hi2 => ?_)
    · show (zpr xl 32003).1 i + -zp_L.1 i = 0
      by_cases q : i = 32003
      · rw [q, m.1, zp_L_top]; exact @zpr_ev.zv_h zp_F _ _
      · rw [m.2 i (by omega), zp_L_deg i (by omega)]; exact @zpr_ev.zv_h zp_F _ _
    · rw [zp_ev_add, zp_ev_neg, zp_L_ev, zpr_ev _ hi2]; exact @zpr_ev.zv_h zp_F _ _
  exact @un_h5 zp_R zp_ring _ _ e
/-- V put in for the letter -/
theorem cmo_mulA {f g V : zp_R} {n m M : Nat} (hf : zp_deg f n) (hg : zp_deg g m) (h : n + m ≤ M) : cmo (zp_mul f g) V M = zp_mul (cmo f V n) (cmo g V m) := by
  have e := @zp_ev_mulA zp_R zp_ring V (fun i => zp_C (g.1 i)) m (fun i hi2 => by rw [hg i hi2]; rfl) n (fun i => zp_C (f.1 i)) (fun i hi2 => by rw [hf i hi2]; rfl) M h
  refine Eq.trans ?_ e
  unfold cmo
  refine @zp_sum_congr zp_R zp_ring _ _ _ (fun i _ => ?_)
  exact congrArg (fun y => zp_mul y (zp_npow V i)) (zp_c_C2 f.1 g.1 i).symm
where
  zp_c_C2 (v w : Nat → zp_F) (n : Nat) : @zp_c zp_R zp_ring (fun i => zp_C (v i)) (fun i => zp_C (w i)) n = zp_C (zp_c v w n) := by
    have key : ∀ k, @zp_sum zp_R zp_ring (fun i => zp_mul (zp_C (v i)) (zp_C (w (n - i)))) k = zp_C (zp_sum (fun i => v i * w (n - i)) k) := by
      intro k
      induction k with
      | zero => rfl
      | succ k ih =>
        show zp_add (@zp_sum zp_R zp_ring (fun i => zp_mul (zp_C (v i)) (zp_C (w (n - i)))) k) (zp_mul (zp_C (v k)) (zp_C (w (n - k)))) = zp_C (zp_sum (fun i => v i * w (n - i)) k + v k * w (n - k))
        rw [ih, zp_C_mul]
        exact zp_ext (fun i => by
          show (if i = 0 then zp_sum (fun i => v i * w (n - i)) k else 0) + (if i = 0 then v k * w (n - k) else 0) = if i = 0 then _ else 0
          split <;> grind)
    exact key (n + 1)
theorem cmo_ext {f V : zp_R} {n m : Nat} (hf : zp_deg f n) (h : n ≤ m) : cmo f V m = cmo f V n := @zp_sum_ext zp_R zp_ring _ n m (fun i hi2 => by
  show zp_mul (zp_C (f.1 i)) (zp_npow V i) = zp_C 0
  rw [hf i hi2]
  exact @cx_h zp_R zp_ring _) h
where cx_h : ∀ {R : Type} [Lean.Grind.CommRing R] (a : R), 0 * a = 0 := by intro R _ a; grind
theorem cmo_add (f g V : zp_R) (n : Nat) : cmo (zp_add f g) V n = zp_add (cmo f V n) (cmo g V n) := by
  refine Eq.trans ?_ (@zp_sum_add zp_R zp_ring (fun k => zp_mul (zp_C (f.1 k)) (zp_npow V k)) (fun k => zp_mul (zp_C (g.1 k)) (zp_npow V k)) n)
  refine @zp_sum_congr zp_R zp_ring _ _ _ (fun i _ => ?_)
  have e : zp_C (f.1 i + g.1 i) = zp_add (zp_C (f.1 i)) (zp_C (g.1 i)) := zp_ext (fun j => by
    show (if j = 0 then f.1 i + g.1 i else 0) = (if j = 0 then f.1 i else 0) + (if j = 0 then g.1 i else 0)
    split <;> grind)
  show zp_mul (zp_C (f.1 i + g.1 i)) _ = _
  rw [e]
  exact @ca_h zp_R zp_ring _ _ _
where ca_h : ∀ {R : Type} [Lean.Grind.CommRing R] (a b c : R), (a + b) * c = a * c + b * c := by intro R _ a b c; grind
theorem cmo_T (c : zp_F) (k : Nat) (V : zp_R) : cmo (zp_T c k) V (k + 1) = zp_mul (zp_C c) (zp_npow V k) := by
  show zp_add (@zp_sum zp_R zp_ring (fun i => zp_mul (zp_C (if i = k then c else 0)) (zp_npow V i)) k) (zp_mul (zp_C (if k = k then c else 0)) (zp_npow V k)) = _
  have : @zp_sum zp_R zp_ring (fun i => zp_mul (zp_C (if i = k then c else 0)) (zp_npow V i)) k = zp_C 0 := @zp_sum_zero zp_R zp_ring _ _ (fun i hi2 => by
    rw [if_neg (by omega)]; exact @cmo_ext.cx_h zp_R zp_ring _)
  rw [this, if_pos rfl]
  exact @ct_h zp_R zp_ring _
where ct_h : ∀ {R : Type} [Lean.Grind.CommRing R] (a : R), 0 + a = a := by intro R _ a; grind
theorem cmo_xl (n : Nat) (V : zp_R) : cmo (xl n) V 2 = zp_add V (zp_C (nF (-(n : Int)))) := by
  show cmo (zp_add (zp_T 1 1) (zp_T _ 0)) V 2 = _
  rw [cmo_add, cmo_T, cmo_ext (zp_T_deg _ 0) (show 1 ≤ 2 by decide), cmo_T]
  generalize zp_C (nF (-(n : Int))) = c
  have e : zp_npow V 1 = zp_mul (zp_C 1) V := rfl
  have e0 : zp_npow V 0 = zp_C 1 := rfl
  rw [e, e0, zp_C1]
  exact @cl_h zp_R zp_ring V c
where cl_h : ∀ {R : Type} [Lean.Grind.CommRing R] (V c : R), 1 * (1 * V) + c * 1 = V + c := by intro R _ V c; grind
theorem cmo_zpr (V : zp_R) : ∀ N, cmo (zpr xl N) V (N + 1) = zpr (fun n => zp_add V (zp_C (nF (-(n : Int))))) N
  | 0 => by
    show cmo (zp_T 1 0) V 1 = _
    rw [cmo_T, zp_C1]
    exact @cz_h zp_R zp_ring
  | N + 1 => by
    have e := cmo_ext (V := V) (m := N + 1 + 2) (zpr_mon (N + 1)).2 (by omega)
    refine e.symm.trans ?_
    show cmo (zp_mul (zpr xl N) (xl N)) V (N + 1 + 2) = zp_mul _ _
    rw [cmo_mulA (zpr_mon N).2 (xl_mon N).2 (Nat.le_refl _), cmo_zpr V N, cmo_xl]
where cz_h : ∀ {R : Type} [Lean.Grind.CommRing R], (1 : R) * 1 = 1 := by intro R _; grind
theorem cmo_L (V : zp_R) : cmo zp_L V 32004 = zp_add (zp_npow V 32003) (zp_neg V) := by
  have e : zp_neg (zp_X 1) = zp_T (-1) 1 := zp_ext (fun i => by
    show -(if i = 1 then (1 : zp_F) else 0) = if i = 1 then -1 else 0
    split
    · rfl
    · exact @cl_h1 zp_F _)
  unfold zp_L
  rw [cmo_add, e, zp_X_T, cmo_T, cmo_ext (zp_T_deg _ 1) (show 2 ≤ 32004 by decide), cmo_T, zp_C1]
  have e2 : zp_C (-1) = zp_neg (zp_C 1) := zp_ext (fun i => by
    show (if i = 0 then (-1 : zp_F) else 0) = -(if i = 0 then (1 : zp_F) else 0)
    split
    · rfl
    · exact (@cl_h1 zp_F _).symm)
  rw [e2, zp_C1]
  generalize zp_npow V 32003 = Y
  exact @cl_h zp_R zp_ring Y V
where
  cl_h1 : ∀ {R : Type} [Lean.Grind.CommRing R], -(0 : R) = 0 := by intro R _; grind
  cl_h : ∀ {R : Type} [Lean.Grind.CommRing R] (Y V : R), 1 * Y + (-1) * (1 * V) = Y + -V := by intro R _ Y V; grind
/-- a power less the thing itself is a product -/
theorem frob_pr (V : zp_R) : zp_add (zp_npow V 32003) (zp_neg V) = zpr (fun n => zp_add V (zp_C (nF (-(n : Int))))) 32003 := by
  rw [← cmo_L, ← zpr_all]
  exact cmo_zpr V 32003
/-- modulo what can't be parted, what stays under the power is a number -/
theorem irr_num {f V : zp_R} (h : irr f) (c : cg f (zp_npow V 32003) V) : ∃ n : Nat, n < 32003 ∧ dv f (zp_add V (zp_C (nF (-(n : Int))))) := by
  obtain ⟨q, e⟩ := c
  have w : dv f (zp_add (zp_npow V 32003) (zp_neg V)) := ⟨q, e⟩
  rw [frob_pr] at w
  exact irr_zpr h 32003 w
