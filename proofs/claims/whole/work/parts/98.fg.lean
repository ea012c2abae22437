/-! the core and the rest: what they are, and that they are one -/
theorem D_sum (f : Nat → zp_R) : ∀ N, zp_D (@zp_sum zp_R zp_ring f N) = @zp_sum zp_R zp_ring (fun k => zp_D (f k)) N
  | 0 => zp_ext (fun i => by
    show zp_nat (i + 1) * (zp_C 0).1 (i + 1) = (zp_C 0).1 i
    rw [zp_C00, zp_C00, zp_ml0])
  | N + 1 => by
    show zp_D (zp_add (@zp_sum zp_R zp_ring f N) (f N)) = zp_add (@zp_sum zp_R zp_ring (fun k => zp_D (f k)) N) (zp_D (f N))
    rw [D_add, D_sum f N]
/-- column c -/
def hcol (U W V : zp_R) (m c : Nat) : zp_R := if c < m then zp_add (zp_mul (zp_D (zp_X c)) W) (zp_neg (zp_mul (zp_X c) V)) else zp_mul (zp_X (c - m)) U
theorem her_sum {U W V : zp_R} {m n : Nat} (mn : m ≤ n) (y : Nat → zp_F) : @zp_sum zp_R zp_ring (fun c => zp_mul (zp_C (y c)) (hcol U W V m c)) n = zp_add (zp_add (zp_mul (zp_D (yps y 0 m)) W) (zp_neg (zp_mul (yps y 0 m) V))) (zp_mul (yps y m (n - m)) U) := by
  obtain ⟨k, rfl⟩ : ∃ k, n = m + k := ⟨n - m, by omega⟩
  rw [@zp_sum_cut zp_R zp_ring, show m + k - m = k by omega]
  have e1 : @zp_sum zp_R zp_ring (fun c => zp_mul (zp_C (y c)) (hcol U W V m c)) m = zp_add (zp_mul (zp_D (yps y 0 m)) W) (zp_neg (zp_mul (yps y 0 m) V)) := by
    have a1 : @zp_sum zp_R zp_ring (fun c => zp_mul (zp_C (y c)) (hcol U W V m c)) m = @zp_sum zp_R zp_ring (fun c => zp_add (zp_mul W (zp_D (zp_mul (zp_C (y c)) (zp_X c)))) (zp_mul (zp_neg V) (zp_mul (zp_C (y c)) (zp_X c)))) m := @zp_sum_congr zp_R zp_ring _ _ m (fun c hc => by
      unfold hcol
      rw [if_pos hc, D_Cm]
      exact @hs_h zp_R zp_ring _ _ _ _ _)
    have a2 : @zp_sum zp_R zp_ring (fun c => zp_mul (zp_C (y c)) (zp_X c)) m = yps y 0 m := by
      have e := cmo_X (yps_deg y 0 m)
      refine Eq.trans (@zp_sum_congr zp_R zp_ring _ _ m (fun c hc => ?_)) e
      have : (yps y 0 m).1 c = y c := (if_pos hc).trans (by rw [Nat.zero_add])
      rw [zp_X_pow, this]
    rw [a1]
    refine Eq.trans (@zp_sum_add zp_R zp_ring _ _ m) ?_
    have b1 : @zp_sum zp_R zp_ring (fun c => zp_mul W (zp_D (zp_mul (zp_C (y c)) (zp_X c)))) m = zp_mul W (@zp_sum zp_R zp_ring (fun c => zp_D (zp_mul (zp_C (y c)) (zp_X c))) m) := @zp_sum_mul zp_R zp_ring W _ m
    have b2 : @zp_sum zp_R zp_ring (fun c => zp_mul (zp_neg V) (zp_mul (zp_C (y c)) (zp_X c))) m = zp_mul (zp_neg V) (@zp_sum zp_R zp_ring (fun c => zp_mul (zp_C (y c)) (zp_X c)) m) := @zp_sum_mul zp_R zp_ring (zp_neg V) _ m
    rw [b1, b2, ← D_sum, a2]
    exact @hs_h2 zp_R zp_ring _ _ _ _
  have e2 : @zp_sum zp_R zp_ring (fun c => zp_mul (zp_C (y (m + c))) (hcol U W V m (m + c))) k = zp_mul (yps y m k) U := yps_mul (fun c _ => by
    unfold hcol
    rw [if_neg (by omega), show m + c - m = c by omega])
  rw [e1, e2]
  rfl
where
  hs_h : ∀ {R : Type} [Lean.Grind.CommRing R] (c D W X V : R), c * (D * W + -(X * V)) = W * (c * D) + -V * (c * X) := by intro R _ c D W X V; grind
  hs_h2 : ∀ {R : Type} [Lean.Grind.CommRing R] (W D V X : R), W * D + -V * X = D * W + -(X * V) := by intro R _ W D V X; grind
theorem her_h1 {R : Type} [Lean.Grind.CommRing R] {W V r U : R} (e : (0 * W + -(0 * V)) + r * U = 0) : U * r = 0 := by grind
/-- nothing but 0 has core and rest 0 -/
theorem her_ind {U W V C r : zp_R} {m k : Nat} (m41 : m ≤ 41) (mU : mon U m) (sW : sqf W) (pW : ∀ f, irr f → dv f U → dv f W) (eV : zp_mul (zp_D U) W = zp_mul U V) (dC : zp_deg C m) (z : zp_add (zp_add (zp_mul (zp_D C) W) (zp_neg (zp_mul C V))) (zp_mul r U) = zp_C 0) : C = zp_C 0 ∧ r = zp_C 0 := by
  have moU : mo U := ⟨m, mU.1, mU.2⟩
  have fin : C = zp_C 0 → C = zp_C 0 ∧ r = zp_C 0 := fun c0 => ⟨c0, by
    rw [c0] at z
    have e2 : zp_D (zp_C 0) = zp_C 0 := zp_ext (fun i => by
      show zp_nat (i + 1) * (zp_C 0).1 (i + 1) = _
      rw [zp_C00, zp_C00, zp_ml0])
    rw [e2] at z
    exact mo_ne moU (@her_h1 zp_R zp_ring W V r U z)⟩
  refine fin (Classical.byContradiction (fun c0 => ?_))
  obtain ⟨G, hG⟩ := isG_all U C
  have mG : mo G := hG.2.2.2.resolve_left (fun w => mo_n0 moU (by
    obtain ⟨q, e⟩ := hG.1
    rw [e, w, zp_h20R, zp_mul0]))
  obtain ⟨U1, eU⟩ := id hG.1
  obtain ⟨C1, eC⟩ := id hG.2.1
  have cop := isG_co hG mG eU eC
  have mU1 := mo_quo mG moU eU
  by_cases u1 : U1 = zp_C 1
  · rw [u1, zp_C1] at eU
    have eU' : U = G := eU.trans (@sqf_dv.ir_h9 zp_R zp_ring G)
    rw [← eU'] at eC
    have c10 : C1 = zp_C 0 := zp_zero_of (zp_monic_deg mU.1 mU.2 (t := 0) (by rw [← eC]; exact dC))
    exact c0 (by rw [eC, c10, zp_mul0])
  · obtain ⟨f, hf, fU1⟩ := irr_of mU1 u1
    obtain ⟨⟨kf, kf1, mf⟩, _⟩ := id hf
    have fU : dv f U := by rw [eU]; exact dv_ml fU1 G
    obtain ⟨w0, ew⟩ := pW f hf fU
    have nw0 : ¬ dv f w0 := fun ⟨q, e⟩ => sW f hf ⟨q, by rw [ew, e]; exact @hi_h2 zp_R zp_ring _ _⟩
    have nC1 : ¬ dv f C1 := fun w => by
      obtain ⟨u, v, l⟩ := cop
      exact irr_n1 hf (by rw [← l]; exact dv_add (dv_ml fU1 u) (dv_ml w v))
    obtain ⟨N, hN⟩ := U1.2
    obtain ⟨e, ⟨u0, eu, nu0⟩, _⟩ := oft_ex mf kf1 N U1 hN (mo_n0 mU1)
    cases e with
    | zero =>
      have : U1 = u0 := by
        rw [eu]
        show zp_mul (zp_C 1) u0 = u0
        rw [zp_C1]; exact (@rts_0.rs_h zp_R zp_ring u0).symm
      rw [this] at fU1
      exact nu0 fU1
    | succ e =>
      have e41 : e + 1 ≤ 41 := by
        have mP : ∀ e, mon (zp_npow f e) (e * kf) := fun e => by
          induction e with
          | zero => rw [Nat.zero_mul]; exact mon_C1
          | succ e ih => rw [npow_s, Nat.succ_mul]; exact mon_mul ih mf
        have := mon_le (mP (e + 1)) mU (by rw [eU, eu]; exact dv_ml (dv_mr (dv_rf _) u0) G)
        have := Nat.mul_le_mul_left (e + 1) kf1
        omega
      have kf41 : kf ≤ 41 := by
        have := mon_le mf mU fU
        omega
      have dU1 : zp_D U1 = zp_add (zp_mul (zp_mul (zp_C (zp_nat (e + 1))) (zp_mul (zp_npow f e) (zp_D f))) u0) (zp_mul (zp_npow f (e + 1)) (zp_D u0)) := by
        rw [eu, D_mu, D_pow]
      have dC' : zp_D C = zp_add (zp_mul (zp_D G) C1) (zp_mul G (zp_D C1)) := by rw [eC, D_mu]
      have dU' : zp_D U = zp_add (zp_mul (zp_D G) U1) (zp_mul G (zp_D U1)) := by rw [eU, D_mu]
      have z1 := mo_ne (mo_mul mG mG) (W := zp_add (zp_mul W (zp_add (zp_mul (zp_D C1) U1) (zp_neg (zp_mul C1 (zp_D U1))))) (zp_mul r (zp_mul U1 U1))) (@hi_h3 zp_R zp_ring _ _ _ _ _ _ _ _ _ _ _ _ _ z eV eU eC dC' dU')
      rw [npow_s] at eu dU1
      have z2 := mo_ne (mo_mul (mo_npow (irr_mo hf) e) (irr_mo hf)) (W := zp_add (zp_mul w0 (zp_add (zp_mul (zp_D C1) (zp_mul f u0)) (zp_neg (zp_mul C1 (zp_add (zp_mul (zp_C (zp_nat (e + 1))) (zp_mul (zp_D f) u0)) (zp_mul f (zp_D u0))))))) (zp_mul r (zp_mul (zp_mul (zp_npow f e) f) (zp_mul u0 u0)))) (@hi_h4 zp_R zp_ring _ _ _ _ _ _ _ _ _ _ _ _ _ z1 ew eu dU1)
      have z3 : dv f (zp_mul w0 (zp_mul C1 (zp_mul (zp_C (zp_nat (e + 1))) (zp_mul (zp_D f) u0)))) := ⟨_, @hi_h5 zp_R zp_ring _ _ _ _ _ _ _ _ _ _ z2⟩
      have z4 := (irr_pr hf z3).resolve_left nw0
      have z5 := (irr_pr hf z4).resolve_left nC1
      rcases irr_pr hf z5 with z6 | z6
      · exact zp_nat_0 (by omega) (by omega) (irr_nC hf z6)
      · exact nu0 ((irr_pr hf z6).resolve_left (irr_D hf mf kf41))
where
  hi_h2 : ∀ {R : Type} [Lean.Grind.CommRing R] (f q : R), f * (f * q) = f * f * q := by intro R _ f q; grind
  hi_h3 : ∀ {R : Type} [Lean.Grind.CommRing R] {DC W C V r U DU G U1 C1 DG DC1 DU1 : R} (_ : (DC * W + -(C * V)) + r * U = 0) (_ : DU * W = U * V) (_ : U = G * U1) (_ : C = G * C1) (_ : DC = DG * C1 + G * DC1) (_ : DU = DG * U1 + G * DU1), G * G * (W * (DC1 * U1 + -(C1 * DU1)) + r * (U1 * U1)) = 0 := by
    intro R _ DC W C V r U DU G U1 C1 DG DC1 DU1 e1 e2 e3 e4 e5 e6
    have h1 : U * ((DC * W + -(C * V)) + r * U) = 0 := by rw [e1]; grind
    have h2 : U * ((DC * W + -(C * V)) + r * U) = W * (DC * U + -(C * DU)) + r * (U * U) := by grind
    rw [h2] at h1
    have h3 : DC * U + -(C * DU) = G * G * (DC1 * U1 + -(C1 * DU1)) := by
      rw [e5, e6, e3, e4]; grind
    rw [h3, e3] at h1
    grind
  hi_h4 : ∀ {R : Type} [Lean.Grind.CommRing R] {W DC1 U1 C1 DU1 r f w0 p u0 n Df Du0 : R} (_ : W * (DC1 * U1 + -(C1 * DU1)) + r * (U1 * U1) = 0) (_ : W = f * w0) (_ : U1 = p * f * u0) (_ : DU1 = n * (p * Df) * u0 + p * f * Du0), p * f * (w0 * (DC1 * (f * u0) + -(C1 * (n * (Df * u0) + f * Du0))) + r * (p * f * (u0 * u0))) = 0 := by
    intro R _ W DC1 U1 C1 DU1 r f w0 p u0 n Df Du0 e1 e2 e3 e4
    rw [e2, e3, e4] at e1
    grind
  hi_h5 : ∀ {R : Type} [Lean.Grind.CommRing R] {w0 DC1 f u0 C1 n Du0 r p : R} {Df : R} (_ : w0 * (DC1 * (f * u0) + -(C1 * (n * (Df * u0) + f * Du0))) + r * (p * f * (u0 * u0)) = 0), w0 * (C1 * (n * (Df * u0))) = f * (w0 * DC1 * u0 - w0 * C1 * Du0 + r * p * (u0 * u0)) := by intro R _ w0 DC1 f u0 C1 n Du0 r p Df e; grind
