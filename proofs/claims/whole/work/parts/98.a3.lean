/-! lowest terms are one: cn has one end -/
theorem un_h1 {R : Type} [Lean.Grind.CommRing R] {n d N D N' D' : R} (e : n * D = N * d) (e' : n * D' = N' * d) : d * (N * D' + -(N' * D)) = 0 := by grind
theorem un_h2 {R : Type} [Lean.Grind.CommRing R] {N D N' D' u v : R} (e : u * N + v * D = 1) (w : N * D' + -(N' * D) = 0) : D' = D * (u * N' + v * D') := by grind
theorem un_h3 {R : Type} [Lean.Grind.CommRing R] {N D N' D' : R} (w : N * D' + -(N' * D) = 0) : N' * D + -(N * D') = 0 := by grind
theorem un_h4 {R : Type} [Lean.Grind.CommRing R] {N D N' : R} (w : N * D + -(N' * D) = 0) : D * (N + -N') = 0 := by grind
theorem un_h5 {R : Type} [Lean.Grind.CommRing R] {x y : R} (w : x + -y = 0) : x = y := by grind
theorem un_h6 {R : Type} [Lean.Grind.CommRing R] {c d W : R} (w : d * W = 0) : (c * d) * W = 0 := by grind
theorem ne_mul {f W : zp_R} (hd : zp_deg f 176) (h0 : 0 ≤ hi f) (e : zp_mul f W = zp_C 0) : W = zp_C 0 := by
  have q : ¬ hi f < 0 := by omega
  have hm : mo (mkm f) := ⟨_, mkm_mo hd q⟩
  refine mo_ne hm ?_
  rw [mkm_c q]
  exact @un_h6 zp_R zp_ring _ f W e
theorem mo_le {D D' q : zp_R} {n m : Nat} (h1 : D.1 n = 1) (h2 : zp_deg D (n + 1)) (h3 : D'.1 m = 1) (h4 : zp_deg D' (m + 1)) (e : D' = zp_mul D q) : n ≤ m := by
  refine Decidable.byContradiction (fun w => ?_)
  have : zp_deg q 0 := zp_monic_deg h1 h2 (t := 0) (by rw [← e]; exact deg_le h4 (by omega))
  have q0 := zp_zero_of this
  rw [q0, zp_mul0] at e
  rw [e, zp_C00] at h3
  exact zp_F10 h3.symm
theorem mo_eq {D D' q q' : zp_R} (hD : mo D) (hD' : mo D') (e : D' = zp_mul D q) (e' : D = zp_mul D' q') : D' = D := by
  obtain ⟨n, h1, h2⟩ := hD
  obtain ⟨m, h3, h4⟩ := hD'
  have nm : n = m := Nat.le_antisymm (mo_le h1 h2 h3 h4 e) (mo_le h3 h4 h1 h2 e')
  subst nm
  have dq : zp_deg q 1 := zp_monic_deg h1 h2 (t := 1) (by rw [← e]; exact h4)
  have t : D'.1 (n + 0) = D.1 n * q.1 0 := by rw [e]; exact mul_top h2 (m := 0) dq
  have q1 : q = zp_C 1 := zp_ext (fun i => by
    show q.1 i = if i = 0 then (1 : zp_F) else 0
    by_cases hi2 : i = 0
    · rw [if_pos hi2, hi2]
      rw [Nat.add_zero, h3, h1] at t
      exact (t.trans (un_h7)).symm
    · rw [if_neg hi2]
      exact dq i (by omega))
  rw [e, q1]
  refine zp_ext (fun i => ?_)
  rw [zp_h20R, zp_C_mul1]
  exact un_h7
where un_h7 : ∀ {R : Type} [Lean.Grind.CommRing R] {y : R}, 1 * y = y := by intro R _ y; grind
/-- lowest terms of one fraction are the same -/
theorem cn_one {n d N D N' D' : zp_R} (hd : zp_deg d 176) (d0 : 0 ≤ hi d) (h : cn n d N D) (h' : cn n d N' D') : N = N' ∧ D = D' := by
  obtain ⟨e, ⟨u, v, c⟩, mD⟩ := h
  obtain ⟨e', ⟨u', v', c'⟩, mD'⟩ := h'
  rw [zp_C1] at c c'
  have w := ne_mul hd d0 (@un_h1 zp_R zp_ring n d N D N' D' e e')
  have a1 := @un_h2 zp_R zp_ring N D N' D' u v c w
  have a2 := @un_h2 zp_R zp_ring N' D' N D u' v' c' (@un_h3 zp_R zp_ring N D N' D' w)
  have eD := mo_eq mD mD' a1 a2
  rw [eD] at w
  exact ⟨@un_h5 zp_R zp_ring N N' (mo_ne mD (@un_h4 zp_R zp_ring N D N' w)), eD.symm⟩
