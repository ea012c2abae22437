/-! what findFactors parts: monic, without squares, with all primes -/
theorem dv_Cm {f Q : zp_R} {c : zp_F} (c0 : c ≠ 0) : dv f (zp_mul (zp_C c) Q) ↔ dv f Q := by
  refine ⟨fun ⟨q, e⟩ => ?_, fun w => dv_ml w _⟩
  have inv : zp_mul (zp_C c) (zp_C (c ^ 32001)) = zp_C 1 := by rw [zp_C_mul, zp_inv c0]
  rw [zp_C1] at inv
  exact ⟨_, @dc_h zp_R zp_ring _ _ _ _ _ e inv⟩
where dc_h : ∀ {R : Type} [Lean.Grind.CommRing R] {c Q f q l : R} (_ : c * Q = f * q) (_ : c * l = 1), Q = f * (q * l) := by intro R _ c Q f q l e1 e2; grind
theorem sqf_mk {p g q : zp_R} (p1 : 1 ≤ hi p) (dp : zp_deg p 41) (hG : isG p (zp_D p) g) (mG : mo g) (e : p = zp_mul g q) : ∃ n : Nat, hi (mkm q) = (n : Int) ∧ mon (mkm q) n ∧ 1 ≤ n ∧ n ≤ 40 ∧ sqf (mkm q) ∧ ∀ f, irr f → (dv f p ↔ dv f (mkm q)) := by
  have p0 : p ≠ zp_C 0 := zp_ne0 (by omega)
  have dp6 := deg_le dp (show 41 ≤ 176 by decide)
  have q0 : q ≠ zp_C 0 := fun w => p0 (by rw [e, w, zp_mul0])
  have dq : zp_deg q 41 := by
    obtain ⟨t, a, b⟩ := mG
    exact zp_monic_deg a b (t := 41) (by rw [← e]; exact deg_le dp (by omega))
  have dq6 := deg_le dq (show 41 ≤ 176 by decide)
  have hq := hi_ge dq6 q0
  have lq := hi_lt dq (Nat.le_refl _)
  have hq' : ¬ hi q < 0 := by omega
  have mm := mkm_mo dq6 hq'
  have c0 : q.1 (hi q).toNat ^ 32001 ≠ 0 := pow_ne (hi_ne (by omega)) 32001
  have same : ∀ f, dv f (mkm q) ↔ dv f q := fun f => by rw [mkm_c hq']; exact dv_Cm c0
  obtain ⟨s1, s2⟩ := sqf_of p0 dp (Nat.le_refl _) hG e
  have hm := hi_mo mm.1 mm.2 (mkm_deg dq6)
  -- a prime of p
  have mk := mon_ex (f := p) (m := (hi p).toNat) (hi_ne (by omega)) (fun i hi2 => hi_deg dp6 i (by omega))
  obtain ⟨f, hf, fp⟩ := irr_ex (hi p).toNat _ mk (by omega)
  have fp' : dv f p := (dv_Cm (pow_ne (hi_ne (by omega)) 32001)).mp fp
  have fq := (same f).mpr (s2 f hf fp')
  obtain ⟨⟨k, k1, mf⟩, _⟩ := id hf
  have le := mon_le mf ⟨mm.1, mm.2⟩ fq
  refine ⟨(hi q).toNat, hm, ⟨mm.1, mm.2⟩, by omega, by omega, fun x hx w => s1 x hx ((same _).mp w), fun x hx => ⟨fun w => (same x).mpr (s2 x hx w), fun w => ?_⟩⟩
  rw [e]
  exact dv_ml ((same x).mp w) g
/-- what was chosen are the factors -/
theorem facs_of {p B : zp_R} {m : Nat} {P F : Nat → zp_R} {g : Nat → Bool} {D O : Nat → Nat} (ch : cho P m m g F) (ir : ∀ j, j < m → irr (P j)) (pr : prts B m P) (cv : cov B m P) (same : ∀ f, irr f → (dv f p ↔ dv f B)) (fa : ∀ i, i < m → mon (F i) (D i) ∧ oft p (F i) (O i)) : facs p m F D O := by
  obtain ⟨h1, h2, h3, h4, h5⟩ := ch
  refine ⟨fun i hi2 => ?_, h5, fun f hf fp => ?_⟩
  · obtain ⟨j, j1, _, j3⟩ := h2 i hi2
    rw [j3]
    refine ⟨ir j j1, (same _ (ir j j1)).mpr (pr.1 j j1).2.2, ?_, ?_⟩
    · rw [← j3]; exact (fa i hi2).1
    · rw [← j3]; exact (fa i hi2).2
  · obtain ⟨j, j1, j2⟩ := cv f hf ((same f hf).mp fp)
    obtain ⟨i, i1, i2⟩ := h3 j j1 (cntb_all m h1 j j1)
    exact ⟨i, i1, by rw [i2]; exact (irr_eq hf (ir j j1) j2).symm⟩
/-- parts are different -/
theorem prts_ne {B : zp_R} {m : Nat} {P : Nat → zp_R} (pr : prts B m P) {i j : Nat} (hij : i < j) (hj : j < m) : P i ≠ P j := fun w => by
  obtain ⟨a, b, _⟩ := pr.1 j hj
  obtain ⟨f, hf, fd⟩ := irr_of a b
  obtain ⟨u, v, l⟩ := pr.2 i j hij hj
  rw [w] at l
  exact irr_n1 hf (by rw [← l]; exact dv_add (dv_ml fd u) (dv_ml fd v))
