/-! seventh part: what the power of the prime is; squares -/
theorem zp_C_mul (c d : zp_F) : zp_mul (zp_C c) (zp_C d) = zp_C (c * d) := zp_ext (fun i => by
  show zp_c (fun i => if i = 0 then c else 0) (fun i => if i = 0 then d else 0) i = if i = 0 then c * d else 0
  rw [zp_c_C]
  split <;> grind)
theorem zp_C_pow (c : zp_F) : ∀ n : Nat, zp_npow (zp_C c) n = zp_C (c ^ n)
  | 0 => by rw [zp_pow_zero]; rfl
  | n + 1 => by
    rw [zp_pow_succ, ← zp_C_mul, ← zp_C_pow c n]
    rfl
theorem zp_C_nat (n : Nat) : @zp_nat zp_R zp_ring n = zp_C (zp_nat n) := by
  induction n with
  | zero => rfl
  | succ n ih =>
    show zp_add (@zp_nat zp_R zp_ring n) (zp_C (zp_nat 1)) = zp_C (zp_nat n + 1)
    rw [ih]
    exact zp_ext (fun i => by
      show (if i = 0 then zp_nat n else (0 : zp_F)) + (if i = 0 then (0 : zp_F) + 1 else 0) = if i = 0 then zp_nat n + 1 else 0
      split <;> grind)
theorem zp_R0 : @zp_nat zp_R zp_ring 32003 = (letI := zp_ring; 0) := by
  rw [zp_C_nat, zp_P0]; rfl
/-- x times -/
theorem zp_X1 (f : zp_R) : (zp_mul (zp_X 1) f).1 0 = 0 ∧ ∀ i, (zp_mul (zp_X 1) f).1 (i + 1) = f.1 i := by
  refine ⟨?_, fun i => ?_⟩
  · show zp_c (fun i => if i = 1 then (1 : zp_F) else 0) f.1 0 = 0
    rw [zp_c_zero, if_neg (by omega)]; grind
  · show zp_c (fun i => if i = 1 then (1 : zp_F) else 0) f.1 (i + 1) = f.1 i
    rw [zp_c_succ, if_neg (by omega)]
    have : zp_c (fun i => if i + 1 = 1 then (1 : zp_F) else 0) f.1 i = zp_c (fun i => if i = 0 then (1 : zp_F) else 0) f.1 i := zp_c_congr (fun j hj => by
      by_cases h : j = 0
      · rw [if_pos h, if_pos (by omega)]
      · rw [if_neg h, if_neg (by omega)]) (fun j hj => rfl)
    rw [this, zp_c_C]; grind
theorem zp_X_mul (k : Nat) : zp_mul (zp_X k) (zp_X 1) = zp_X (k + 1) := by
  letI := zp_ring
  have h : zp_mul (zp_X k) (zp_X 1) = zp_mul (zp_X 1) (zp_X k) := by
    show zp_X k * zp_X 1 = zp_X 1 * zp_X k
    grind
  rw [h]
  refine zp_ext (fun i => ?_)
  cases i with
  | zero =>
    rw [(zp_X1 _).1]
    show 0 = if 0 = k + 1 then (1 : zp_F) else 0
    rw [if_neg (by omega)]
  | succ i =>
    rw [(zp_X1 _).2]
    show (if i = k then (1 : zp_F) else 0) = if i + 1 = k + 1 then 1 else 0
    by_cases h : i = k
    · rw [if_pos h, if_pos (by omega)]
    · rw [if_neg h, if_neg (by omega)]
theorem zp_X_pow : ∀ n : Nat, zp_npow (zp_X 1) n = zp_X n
  | 0 => rfl
  | n + 1 => by
    exact (congrArg (fun y => zp_mul y (zp_X 1)) (zp_X_pow n)).trans (zp_X_mul n)
/-- the slope -/
def zp_D (f : zp_R) : zp_R := ⟨fun i => zp_nat (i + 1) * f.1 (i + 1), by
  obtain ⟨n, hn⟩ := f.2
  exact ⟨n, fun i hi => by show zp_nat (i + 1) * f.1 (i + 1) = 0; rw [hn (i + 1) (by omega)]; grind⟩⟩
def zp_sh (f : zp_R) : zp_R := ⟨fun i => f.1 (i + 1), by
  obtain ⟨n, hn⟩ := f.2
  exact ⟨n, fun i hi => hn (i + 1) (by omega)⟩⟩
def zp_L : zp_R := zp_add (zp_X 32003) (zp_neg (zp_X 1))
theorem zp_split (f : zp_R) : f = zp_add (zp_C (f.1 0)) (zp_mul (zp_X 1) (zp_sh f)) := zp_ext (fun i => by
  cases i with
  | zero =>
    show f.1 0 = (if 0 = 0 then f.1 0 else 0) + (zp_mul (zp_X 1) (zp_sh f)).1 0
    rw [(zp_X1 _).1, if_pos rfl]; grind
  | succ i =>
    show f.1 (i + 1) = (if i + 1 = 0 then f.1 0 else 0) + (zp_mul (zp_X 1) (zp_sh f)).1 (i + 1)
    rw [(zp_X1 _).2, if_neg (by omega)]
    show f.1 (i + 1) = 0 + f.1 (i + 1)
    grind)
theorem zp_h11 {R : Type} [Lean.Grind.CommRing R] {c X L g S S1 S' f : R} (hf : f = c + X * g) (h1 : S1 = g + L * S') (h2 : S1 = S) : c + (X + L) * S = f + L * (X * S' + S) := by grind
theorem zp_taylor : ∀ (m : Nat) (f : zp_R), zp_deg f (m + 1) → ∃ hn : Nat → zp_R, hn 0 = f ∧ hn 1 = zp_D f ∧ (∀ n, zp_deg (hn n) (m + 1)) ∧ ∃ N, ∀ M, N ≤ M → zp_npow f 32003 = @zp_S zp_R zp_ring zp_L hn M
  | 0, f, hf => by
    letI := zp_ring
    have hfC : f = zp_C (f.1 0) := zp_ext (fun i => by
      cases i with
      | zero => rfl
      | succ i => exact hf (i + 1) (by omega))
    refine ⟨fun n => if n = 0 then f else zp_C 0, if_pos rfl, ?_, fun n => ?_, 0, fun M hM => ?_⟩
    · show zp_C 0 = zp_D f
      exact zp_ext (fun i => by
        show (if i = 0 then (0 : zp_F) else 0) = zp_nat (i + 1) * f.1 (i + 1)
        rw [hf (i + 1) (by omega)]
        split <;> grind)
    · show zp_deg (if n = 0 then f else zp_C 0) (0 + 1)
      split
      · exact hf
      · exact fun i hi => if_neg (by omega)
    · have e1 : zp_npow f 32003 = f := by
        rw [hfC, zp_C_pow, zp_fermatF]
      rw [e1]
      have e2 : ∀ M, zp_S zp_L (fun n => if n = 0 then f else zp_C 0) M = f := by
        intro M
        cases M with
        | zero => rw [zp_S_zero]; rfl
        | succ M =>
          rw [zp_S_head]
          have : zp_S zp_L (fun i => if i + 1 = 0 then f else zp_C 0) M = 0 := zp_sum_zero (fun i hi => by
            have : (if i + 1 = 0 then f else zp_C 0) = (0 : zp_R) := if_neg (by omega)
            show (if i + 1 = 0 then f else zp_C 0) * zp_L ^ i = 0
            rw [this]
            generalize zp_L ^ i = y
            clear e1 hfC hf
            grind)
          rw [this]
          show f + zp_L * 0 = f
          generalize zp_L = y
          clear this e1 hfC hf
          grind
      exact (e2 M).symm
  | m + 1, f, hf => by
    letI := zp_ring
    obtain ⟨gn, h0, h1, hd, N, hN⟩ := zp_taylor m (zp_sh f) (fun i hi => hf (i + 1) (by omega))
    let hn : Nat → zp_R := fun n => if n = 0 then f else zp_X 1 * gn n + gn (n - 1)
    have hdX : ∀ g, zp_deg g (m + 1) → zp_deg (zp_mul (zp_X 1) g) (m + 1 + 1) := fun g hg i hi => by
      obtain ⟨j, rfl⟩ : ∃ j, i = j + 1 := ⟨i - 1, by omega⟩
      rw [(zp_X1 g).2]
      exact hg j (by omega)
    refine ⟨hn, if_pos rfl, ?_, fun n => ?_, N + 1, fun M hM => ?_⟩
    · show zp_add (zp_mul (zp_X 1) (gn 1)) (gn 0) = zp_D f
      rw [h0, h1]
      refine zp_ext (fun i => ?_)
      cases i with
      | zero =>
        show (zp_mul (zp_X 1) (zp_D (zp_sh f))).1 0 + f.1 (0 + 1) = zp_nat (0 + 1) * f.1 (0 + 1)
        rw [(zp_X1 _).1]
        show (0 : zp_F) + f.1 (0 + 1) = (0 + 1) * f.1 (0 + 1)
        grind
      | succ i =>
        show (zp_mul (zp_X 1) (zp_D (zp_sh f))).1 (i + 1) + f.1 (i + 1 + 1) = (zp_nat (i + 1) + 1) * f.1 (i + 1 + 1)
        rw [(zp_X1 _).2]
        show zp_nat (i + 1) * f.1 (i + 1 + 1) + f.1 (i + 1 + 1) = _
        grind
    · show zp_deg (if n = 0 then f else zp_X 1 * gn n + gn (n - 1)) (m + 1 + 1)
      split
      · exact hf
      · exact zp_degD.2.1 _ _ _ (hdX _ (hd n)) (fun i hi => hd (n - 1) i (by omega))
    · obtain ⟨M, rfl⟩ : ∃ k, M = k + 1 := ⟨M - 1, by omega⟩
      have e1 : zp_npow f 32003 = zp_C (f.1 0) + (zp_X 1 + zp_L) * zp_S zp_L gn M := by
        have e2 : zp_npow f 32003 = zp_npow (zp_C (f.1 0) + zp_mul (zp_X 1) (zp_sh f)) 32003 := congrArg (fun y => zp_npow y 32003) (zp_split f)
        have e3 : zp_npow (zp_C (f.1 0) + zp_mul (zp_X 1) (zp_sh f)) 32003 = zp_npow (zp_C (f.1 0)) 32003 + zp_npow (zp_mul (zp_X 1) (zp_sh f)) 32003 := zp_frob zp_isP zp_R0 (zp_C (f.1 0)) (zp_mul (zp_X 1) (zp_sh f))
        have e4 : zp_npow (zp_mul (zp_X 1) (zp_sh f)) 32003 = zp_npow (zp_X 1) 32003 * zp_npow (zp_sh f) 32003 := zp_pow_mul (zp_X 1) (zp_sh f) 32003
        have e5 : zp_X 32003 = zp_X 1 + zp_L := by
          show zp_X 32003 = zp_X 1 + (zp_X 32003 + -zp_X 1)
          generalize zp_X 32003 = a
          generalize zp_X 1 = b
          clear e2 e3 e4 hN hd h1 h0 hf
          grind
        rw [e2, e3, e4, zp_C_pow, zp_fermatF, zp_X_pow, hN M (by omega), e5]
      rw [e1]
      have e6 : zp_S zp_L hn (M + 1) = f + zp_L * (zp_X 1 * zp_S zp_L (fun i => gn (i + 1)) M + zp_S zp_L gn M) := by
        rw [zp_S_head, ← zp_S_lin]
        rfl
      rw [e6]
      have e7 : zp_S zp_L gn (M + 1) = zp_sh f + zp_L * zp_S zp_L (fun i => gn (i + 1)) M := by rw [zp_S_head, h0]
      have e8 : zp_S zp_L gn (M + 1) = zp_S zp_L gn M := (hN (M + 1) (by omega)).symm.trans (hN M (by omega))
      exact zp_h11 (zp_split f) e7 e8
theorem zp_L_top : zp_L.1 32003 = 1 := by
  show (if 32003 = 32003 then (1 : zp_F) else 0) + -(if 32003 = 1 then (1 : zp_F) else 0) = 1
  rw [if_pos rfl, if_neg (by omega)]; grind
theorem zp_L_deg : zp_deg zp_L (32003 + 1) := fun i hi => by
  show (if i = 32003 then (1 : zp_F) else 0) + -(if i = 1 then (1 : zp_F) else 0) = 0
  rw [if_neg (by omega), if_neg (by omega)]; grind
theorem zp_L_pow : ∀ e : Nat, (zp_npow zp_L e).1 (32003 * e) = 1 ∧ zp_deg (zp_npow zp_L e) (32003 * e + 1)
  | 0 => ⟨rfl, fun i hi => if_neg (by omega)⟩
  | e + 1 => by
    obtain ⟨h1, h2⟩ := zp_L_pow e
    refine ⟨?_, ?_⟩
    · have := zp_c_top (g := zp_L.1) (t := 32003) zp_L_deg (32003 * e) (zp_npow zp_L e).1 h2
      rw [Nat.mul_succ]
      refine this.trans ?_
      rw [h1, zp_L_top]; grind
    · rw [Nat.mul_succ]
      exact zp_deg_mul h2 zp_L_deg
theorem zp_L_ev (a : zp_F) : zp_ev a zp_L = 0 := by
  show zp_ev a (zp_add (zp_X 32003) (zp_neg (zp_X 1))) = 0
  rw [zp_ev_add, zp_ev_neg, zp_X_T, zp_X_T, zp_ev_T, zp_ev_T, zp_fermatF]
  have : a ^ 1 = a ^ 0 * a := zp_pow_succ a 0
  rw [this, zp_pow_zero]; grind
