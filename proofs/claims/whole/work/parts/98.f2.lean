/-! all that stays under the power: sums of the base; when no part can be parted further -/
theorem sum_one {a : zp_F} {i : Nat} : ∀ n, zp_sum (fun c => if c = i then a else 0) n = if i < n then a else 0
  | 0 => (if_neg (Nat.not_lt_zero i)).symm
  | n + 1 => by
    show zp_sum (fun c => if c = i then a else 0) n + (if n = i then a else 0) = _
    rw [sum_one n]
    by_cases q : n = i
    · rw [if_pos q, if_neg (by omega), if_pos (by omega)]; exact @root_fac.rf_h zp_F _ _
    · rw [if_neg q]
      by_cases q2 : i < n
      · rw [if_pos q2, if_pos (by omega)]; exact @root_fac.rf_h2.so_h zp_F _ _
      · rw [if_neg q2, if_neg (by omega)]; exact @root_fac.rf_h zp_F _ _
where root_fac.rf_h2.so_h : ∀ {R : Type} [Lean.Grind.CommRing R] (a : R), a + 0 = a := by intro R _ a; grind
theorem frob_add (a b : zp_R) : zp_npow (zp_add a b) 32003 = zp_add (zp_npow a 32003) (zp_npow b 32003) := @zp_frob zp_R zp_ring 32003 zp_isP zp_R0 a b
theorem frob_C (c : zp_F) : zp_npow (zp_C c) 32003 = zp_C c := by rw [zp_C_pow, zp_fermatF]
theorem frob_mul (a b : zp_R) : zp_npow (zp_mul a b) 32003 = zp_mul (zp_npow a 32003) (zp_npow b 32003) := @zp_pow_mul zp_R zp_ring a b 32003
theorem frob_sumq {q : Nat} (h0 : zp_npow (zp_C 0) q = zp_C 0) (ha : ∀ a b, zp_npow (zp_add a b) q = zp_add (zp_npow a q) (zp_npow b q)) (f : Nat → zp_R) : ∀ N, zp_npow (@zp_sum zp_R zp_ring f N) q = @zp_sum zp_R zp_ring (fun k => zp_npow (f k) q) N
  | 0 => h0
  | N + 1 => by
    show zp_npow (zp_add (@zp_sum zp_R zp_ring f N) (f N)) q = zp_add (@zp_sum zp_R zp_ring (fun k => zp_npow (f k) q) N) (zp_npow (f N) q)
    rw [ha, frob_sumq h0 ha f N]
theorem frob_sum (f : Nat → zp_R) (N : Nat) : zp_npow (@zp_sum zp_R zp_ring f N) 32003 = @zp_sum zp_R zp_ring (fun k => zp_npow (f k) 32003) N := frob_sumq (frob_C 0) frob_add f N
/-- a polynomial is the sum of its terms -/
theorem cmo_X {E : zp_R} {N : Nat} (h : zp_deg E N) : cmo E (zp_X 1) N = E := zp_ext (fun i => by
  show (cmo E (zp_X 1) N).1 i = E.1 i
  unfold cmo
  rw [sum_cf]
  have : zp_sum (fun k => (zp_mul (zp_C (E.1 k)) (zp_npow (zp_X 1) k)).1 i) N = zp_sum (fun c => if c = i then E.1 i else 0) N := zp_sum_congr (fun k _ => by
    rw [zp_C_mul1, zp_X_pow]
    show E.1 k * (if i = k then 1 else 0) = _
    by_cases q : k = i
    · rw [if_pos q.symm, if_pos q, q]; exact @cx_h1 zp_F _ _
    · rw [if_neg (fun w => q w.symm), if_neg q]; exact zp_ml0 _)
  rw [this, sum_one]
  by_cases q : i < N
  · rw [if_pos q]
  · rw [if_neg q, h i (by omega)])
where cx_h1 : ∀ {R : Type} [Lean.Grind.CommRing R] (a : R), a * 1 = a := by intro R _ a; grind
theorem pow_cmo {E : zp_R} {N : Nat} (h : zp_deg E N) : zp_npow E 32003 = cmo E (zp_X 32003) N := by
  have e := cmo_X h
  have e1 : zp_npow (cmo E (zp_X 1) N) 32003 = @zp_sum zp_R zp_ring (fun k => zp_npow (zp_mul (zp_C (E.1 k)) (zp_npow (zp_X 1) k)) 32003) N := frob_sum _ N
  rw [e] at e1
  refine e1.trans (@zp_sum_congr zp_R zp_ring _ _ _ (fun k _ => ?_))
  have e2 : zp_npow (zp_npow (zp_X 1) k) 32003 = zp_npow (zp_X 32003) k := by
    rw [← zp_X_pow 32003]
    have a1 : zp_npow (zp_npow (zp_X 1) k) 32003 = zp_npow (zp_X 1) (k * 32003) := @zp_pow_pow zp_R zp_ring (zp_X 1) k 32003
    have a2 : zp_npow (zp_npow (zp_X 1) 32003) k = zp_npow (zp_X 1) (32003 * k) := @zp_pow_pow zp_R zp_ring (zp_X 1) 32003 k
    rw [a1, a2, Nat.mul_comm]
  rw [frob_mul, frob_C, e2]
/-- what the table tells: its kernel is what stays -/
theorem fx_ker {W E : zp_R} {n : Nat} (hW : mon W n) (n1 : 1 ≤ n) (n41 : n ≤ 41) (dE : zp_deg E n) : ker (tc (fxG W (md W (zp_X 32003))) n n 0) n E.1 ↔ cg W (zp_npow E 32003) E := by
  have dW : zp_deg W 176 := deg_le hW.2 (by omega)
  have hn : hi W = n := hi_mo hW.1 hW.2 dW
  have h0 : 0 ≤ hi W := by omega
  have hnn : (hi W).toNat = n := by omega
  have dG : ∀ c, c < n → zp_deg (fxG W (md W (zp_X 32003)) c) n := fun c hc => deg_add (by
    have := md_deg h0 dW (zp_npow (md W (zp_X 32003)) c)
    rw [hnn] at this
    exact this) (deg_le (zp_T_deg _ c) (by omega))
  rw [tc_ker (by omega) dG (fun c hc => dE c hc)]
  have split : @zp_sum zp_R zp_ring (fun c => zp_mul (zp_C (E.1 c)) (fxG W (md W (zp_X 32003)) c)) n = zp_add (@zp_sum zp_R zp_ring (fun c => zp_mul (zp_C (E.1 c)) (md W (zp_npow (md W (zp_X 32003)) c))) n) (zp_neg E) := by
    refine Eq.trans (@zp_sum_congr zp_R zp_ring _ (fun c => zp_add (zp_mul (zp_C (E.1 c)) (md W (zp_npow (md W (zp_X 32003)) c))) (zp_mul (zp_C (E.1 c)) (zp_T (-1) c))) n (fun c _ => ?_)) (Eq.trans (@zp_sum_add zp_R zp_ring _ _ n) ?_)
    · exact @fk_h zp_R zp_ring _ _ _
    · have e := cmo_X dE
      have : @zp_sum zp_R zp_ring (fun c => zp_mul (zp_C (E.1 c)) (zp_T (-1) c)) n = zp_neg E := by
        have e2 : ∀ c, zp_mul (zp_C (E.1 c)) (zp_T (-1) c) = zp_mul (zp_C (-1)) (zp_mul (zp_C (E.1 c)) (zp_npow (zp_X 1) c)) := fun c => zp_ext (fun i => by
          rw [zp_C_mul1, zp_C_mul1, zp_C_mul1, zp_X_pow]
          show E.1 c * (if i = c then -1 else 0) = -1 * (E.1 c * (if i = c then 1 else 0))
          split
          · exact @fk_h1 zp_F _ _
          · exact @fk_h2 zp_F _ _)
        refine Eq.trans (@zp_sum_congr zp_R zp_ring _ _ n (fun c _ => e2 c)) (Eq.trans (@zp_sum_mul zp_R zp_ring (zp_C (-1)) _ n) ?_)
        show zp_mul (zp_C (-1)) (cmo E (zp_X 1) n) = _
        rw [e, cg_C_neg1, zp_C1]
        exact @fk_h3 zp_R zp_ring _
      exact congrArg (fun y => zp_add _ y) this
  rw [split]
  have c1 : cg W (zp_npow E 32003) (@zp_sum zp_R zp_ring (fun c => zp_mul (zp_C (E.1 c)) (md W (zp_npow (md W (zp_X 32003)) c))) n) := by
    rw [pow_cmo dE]
    exact cg_tr (cmo_shift (md_c h0 dW (zp_X 32003)) n) (cmo_md h0 dW n)
  have dS : zp_deg (@zp_sum zp_R zp_ring (fun c => zp_mul (zp_C (E.1 c)) (md W (zp_npow (md W (zp_X 32003)) c))) n) n := sum_dg (fun c _ => deg_Cm _ (by
    have := md_deg h0 dW (zp_npow (md W (zp_X 32003)) c)
    rw [hnn] at this
    exact this))
  generalize @zp_sum zp_R zp_ring (fun c => zp_mul (zp_C (E.1 c)) (md W (zp_npow (md W (zp_X 32003)) c))) n = S at c1 dS
  refine ⟨fun z => ?_, fun z => ?_⟩
  · have : S = E := @un_h5 zp_R zp_ring _ _ z
    rw [this] at c1
    exact c1
  · have c2 : cg W S E := cg_tr (cg_symm c1) z
    refine cg_small h0 dW (deg_add (by rw [hnn]; exact dS) (by rw [hnn]; exact deg_neg dE)) ?_
    obtain ⟨q, e⟩ := c2
    exact ⟨q, (@fk_h4 zp_R zp_ring _).trans e⟩
where
  cg_C_neg1 : zp_C (-1) = zp_neg (zp_C 1) := zp_ext (fun i => by
    show (if i = 0 then (-1 : zp_F) else 0) = -(if i = 0 then 1 else 0)
    split
    · rfl
    · exact (@cmo_L.cl_h1 zp_F _).symm)
  fk_h : ∀ {R : Type} [Lean.Grind.CommRing R] (a b c : R), a * (b + c) = a * b + a * c := by intro R _ a b c; grind
  fk_h1 : ∀ {R : Type} [Lean.Grind.CommRing R] (a : R), a * -1 = -1 * (a * 1) := by intro R _ a; grind
  fk_h2 : ∀ {R : Type} [Lean.Grind.CommRing R] (a : R), a * 0 = -1 * (a * 0) := by intro R _ a; grind
  fk_h3 : ∀ {R : Type} [Lean.Grind.CommRing R] (a : R), -1 * a = -a := by intro R _ a; grind
  fk_h4 : ∀ {R : Type} [Lean.Grind.CommRing R] (a : R), a + -0 = a := by intro R _ a; grind
/-- what stays, by its numbers at the columns without a row -/
theorem fx_span {E : zp_R} {n : Nat} {Bt : Nat → Nat → zp_F} {R : Nat → Int} {M : Nat → Nat → zp_F} (n41 : n ≤ 41) (a : rr M Bt n n R) (dE : zp_deg E n) (hE : ker M n E.1) : E = @zp_sum zp_R zp_ring (fun c => if R c = -1 then zp_mul (zp_C (E.1 c)) (kerq Bt R n c) else zp_C 0) n := zp_ext (fun i => by
  rw [sum_cf]
  have t1 : ∀ c, c < n → (if R c = -1 then zp_mul (zp_C (E.1 c)) (kerq Bt R n c) else zp_C 0).1 i = if R c = -1 then E.1 c * (if i = c then 1 else if i < n ∧ R i ≠ -1 then -(Bt (pc R i) c) else 0) else 0 := fun c _ => by
    by_cases q : R c = -1
    · rw [if_pos q, if_pos q, zp_C_mul1]; rfl
    · rw [if_neg q, if_neg q]; exact zp_C00 i
  rw [zp_sum_congr t1]
  by_cases hi2 : i < n
  · by_cases q : R i = -1
    · have t2 : ∀ c, c < n → (if R c = -1 then E.1 c * (if i = c then 1 else if i < n ∧ R i ≠ -1 then -(Bt (pc R i) c) else 0) else 0) = if c = i then E.1 i else 0 := fun c _ => by
        by_cases q2 : c = i
        · rw [q2, if_pos q, if_pos rfl, if_pos rfl]; exact @cmo_X.cx_h1 zp_F _ _
        · have z : (if i = c then (1 : zp_F) else if i < n ∧ R i ≠ -1 then -(Bt (pc R i) c) else 0) = 0 := by
            rw [if_neg (show ¬ i = c from fun w => q2 w.symm), if_neg (fun w => w.2 q)]
          rw [if_neg (show ¬ c = i from q2), z, zp_ml0]
          split <;> rfl
      rw [zp_sum_congr t2, sum_one, if_pos hi2]
    · have kr := (a.1 E.1).mp hE
      rcases a.2 i hi2 with ⟨z1, _⟩ | ⟨z1, z2, z3, z4⟩
      · exact absurd z1 q
      · have k1 := kr (pc R i) z2
        rw [zp_sum_ext (n := n) (m := 48) (fun c hc => by rw [dE c hc]; exact zp_ml0 _) (by omega)] at k1
        have t3 : ∀ c, c < n → Bt (pc R i) c * E.1 c = (if c = i then E.1 i else 0) + -(if R c = -1 then E.1 c * (if i = c then 1 else if i < n ∧ R i ≠ -1 then -(Bt (pc R i) c) else 0) else 0) := fun c hc => by
          by_cases q2 : c = i
          · rw [q2, z3, if_pos rfl, if_neg q]; exact @fs_h1 zp_F _ _
          · have z : (if i = c then (1 : zp_F) else if i < n ∧ R i ≠ -1 then -(Bt (pc R i) c) else 0) = -(Bt (pc R i) c) := by
              rw [if_neg (show ¬ i = c from fun w => q2 w.symm), if_pos ⟨hi2, q⟩]
            rw [if_neg (show ¬ c = i from q2), z]
            by_cases q3 : R c = -1
            · rw [if_pos q3]; exact @fs_h2 zp_F _ _ _
            · rw [if_neg q3]
              rcases a.2 c hc with ⟨y1, _⟩ | ⟨y1, y2, y3, y4⟩
              · exact absurd y1 q3
              · have ne : pc R i ≠ pc R c := fun w => by
                  rcases Nat.lt_trichotomy i c with l | l | l
                  · have := pc_lt (R := R) l q; omega
                  · exact q2 l.symm
                  · have := pc_lt (R := R) l q3; omega
                rw [y4 _ z2 ne]; exact @fs_h3 zp_F _ _
        have k2 : zp_sum (fun c => (if c = i then E.1 i else 0) + -(if R c = -1 then E.1 c * (if i = c then 1 else if i < n ∧ R i ≠ -1 then -(Bt (pc R i) c) else 0) else 0)) n = 0 := (zp_sum_congr t3).symm.trans k1
        have k3 : zp_sum (fun c => (if c = i then E.1 i else 0) + -(if R c = -1 then E.1 c * (if i = c then 1 else if i < n ∧ R i ≠ -1 then -(Bt (pc R i) c) else 0) else 0)) n = E.1 i + -(zp_sum (fun c => if R c = -1 then E.1 c * (if i = c then 1 else if i < n ∧ R i ≠ -1 then -(Bt (pc R i) c) else 0) else 0) n) := by
          rw [zp_sum_add, sum_one, if_pos hi2]
          refine congrArg (fun y => E.1 i + y) ?_
          have := zp_sum_mul (-1 : zp_F) (fun c => if R c = -1 then E.1 c * (if i = c then 1 else if i < n ∧ R i ≠ -1 then -(Bt (pc R i) c) else 0) else 0) n
          refine Eq.trans (zp_sum_congr (fun c _ => ?_)) (this.trans ?_)
          · exact @fs_h4 zp_F _ _
          · exact (@fs_h4 zp_F _ _).symm
        exact @un_h5 zp_F _ _ _ (k3.symm.trans k2)
  · rw [dE i (by omega)]
    refine (zp_sum_zero (fun c hc => ?_)).symm
    have z : (if i = c then (1 : zp_F) else if i < n ∧ R i ≠ -1 then -(Bt (pc R i) c) else 0) = 0 := by
      rw [if_neg (show ¬ i = c by omega), if_neg (fun w => hi2 w.1)]
    rw [z, zp_ml0]
    split <;> rfl)
where
  fs_h1 : ∀ {R : Type} [Lean.Grind.CommRing R] (a : R), 1 * a = a + -0 := by intro R _ a; grind
  fs_h2 : ∀ {R : Type} [Lean.Grind.CommRing R] (a b : R), a * b = 0 + -(b * -a) := by intro R _ a b; grind
  fs_h3 : ∀ {R : Type} [Lean.Grind.CommRing R] (a : R), 0 * a = 0 + -0 := by intro R _ a; grind
  fs_h4 : ∀ {R : Type} [Lean.Grind.CommRing R] (a : R), -a = -1 * a := by intro R _ a; grind
/-- the base stays -/
theorem fx_base {W : zp_R} {n c : Nat} {Bt : Nat → Nat → zp_F} {R : Nat → Int} (hW : mon W n) (n1 : 1 ≤ n) (n41 : n ≤ 41) (a : rr (tc (fxG W (md W (zp_X 32003))) n n 0) Bt n n R) (hc : c < n) (e : R c = -1) : cg W (zp_npow (kerq Bt R n c) 32003) (kerq Bt R n c) := by
  refine (fx_ker hW n1 n41 (kerq_dg Bt R hc)).mp ?_
  have := rr_ker a (by omega) hc e
  have e2 : (kerq Bt R n c).1 = fun i => if i = c then 1 else if i < c ∧ R i ≠ -1 then -(Bt (pc R i) c) else 0 := by
    funext i
    show (if i = c then (1 : zp_F) else if i < n ∧ R i ≠ -1 then -(Bt (pc R i) c) else 0) = _
    by_cases q : i = c
    · rw [if_pos q, if_pos q]
    · rw [if_neg q, if_neg q]
      by_cases q2 : i < c ∧ R i ≠ -1
      · rw [if_pos q2, if_pos ⟨by omega, q2.2⟩]
      · rw [if_neg q2]
        by_cases q3 : i < n ∧ R i ≠ -1
        · rw [if_pos q3]
          have ci : c < i := by
            rcases Nat.lt_trichotomy i c with l | l | l
            · exact absurd ⟨l, q3.2⟩ q2
            · exact absurd l q
            · exact l
          rcases a.2 c hc with ⟨_, z⟩ | ⟨z, _⟩
          · rcases a.2 i q3.1 with ⟨y, _⟩ | ⟨_, y, _⟩
            · exact absurd y q3.2
            · rw [z _ y (pc_le R (by omega))]; exact @cmo_L.cl_h1 zp_F _
          · omega
        · rw [if_neg q3]
  rw [e2]
  exact this
