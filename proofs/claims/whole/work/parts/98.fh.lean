/-! the core and the rest: the columns, number by number -/
theorem itg_fin (Q : zp_R) (k : Nat) : zp_fin (fun i => if i = 0 ∨ k < i then 0 else Q.1 (i - 1) * nF i ^ 32001) := ⟨k + 1, fun i hi2 => if_pos (.inr (by omega))⟩
/-- the integral of Q, up to the power k -/
def itg (Q : zp_R) (k : Nat) : zp_R := ⟨fun i => if i = 0 ∨ k < i then 0 else Q.1 (i - 1) * nF i ^ 32001, itg_fin Q k⟩
theorem itg_0 (Q : zp_R) : itg Q 0 = zp_C 0 := zp_zero_of (fun i _ => by
  show (if i = 0 ∨ 0 < i then (0 : zp_F) else _) = 0
  rw [if_pos (by omega)])
theorem itg_s (Q : zp_R) (k : Nat) : pst (itg Q k) (k + 1) (Q.1 k * nF ((k : Int) + 1) ^ 32001) = itg Q (k + 1) := zp_ext (fun i => by
  show (if i = k + 1 then Q.1 k * nF ((k : Int) + 1) ^ 32001 else if i = 0 ∨ k < i then 0 else Q.1 (i - 1) * nF i ^ 32001) = if i = 0 ∨ k + 1 < i then 0 else Q.1 (i - 1) * nF i ^ 32001
  by_cases q : i = k + 1
  · rw [if_pos q, if_neg (by omega), q, show k + 1 - 1 = k by omega]; rfl
  · rw [if_neg q]
    by_cases q2 : i = 0 ∨ k < i
    · rw [if_pos q2, if_pos (by omega)]
    · rw [if_neg q2, if_neg (by omega)])
theorem itg_deg (Q : zp_R) (k : Nat) : zp_deg (itg Q k) (k + 1) := fun i hi2 => if_pos (.inr (by omega))
/-- the slope of a power -/
theorem D_X (c : Nat) : zp_D (zp_X c) = if c = 0 then zp_C 0 else zp_mul (zp_C (zp_nat c)) (zp_X (c - 1)) := zp_ext (fun i => by
  show zp_nat (i + 1) * (if i + 1 = c then (1 : zp_F) else 0) = _
  by_cases q : c = 0
  · rw [if_pos q, if_neg (by omega), zp_ml0, zp_C00]
  · rw [if_neg q, zp_C_mul1]
    show _ = zp_nat c * (if i = c - 1 then 1 else 0)
    by_cases q2 : i + 1 = c
    · rw [if_pos q2, if_pos (by omega), q2]
    · rw [if_neg q2, if_neg (by omega), zp_ml0, zp_ml0])
theorem DXm_at (c : Nat) (W : zp_R) (i : Nat) : (zp_mul (zp_D (zp_X c)) W).1 i = if c ≤ i + 1 then zp_nat c * W.1 (i + 1 - c) else 0 := by
  rw [D_X]
  by_cases q : c = 0
  · rw [if_pos q]
    have e : zp_mul (zp_C 0) W = zp_C 0 := @cmo_ext.cx_h zp_R zp_ring _
    rw [e, zp_C00, if_pos (by omega), q]
    exact (zp_0ml _).symm
  · rw [if_neg q]
    have e : zp_mul (zp_mul (zp_C (zp_nat c)) (zp_X (c - 1))) W = zp_mul (zp_C (zp_nat c)) (zp_mul (zp_X (c - 1)) W) := @pf_ind.pi_h zp_R zp_ring _ _ _
    rw [e, zp_C_mul1, Xc_at]
    by_cases q2 : c ≤ i + 1
    · rw [if_pos q2, if_neg (by omega), show i - (c - 1) = i + 1 - c by omega]
    · rw [if_neg q2, if_pos (by omega), zp_ml0]
/-- a column of the first kind, e of its places done, and of the next the first half if a is 1 -/
def hvf (W V : zp_R) (c e a : Nat) : Nat → zp_F := fun i => (if c ≤ i + 1 ∧ i + 1 < c + e + a then zp_nat c * W.1 (i + 1 - c) else 0) + -(if c ≤ i ∧ i < c + e then V.1 (i - c) else 0)
theorem hvf_fin (W V : zp_R) (c e a : Nat) : zp_fin (hvf W V c e a) := ⟨c + e + a + 1, fun i hi2 => by
  show (if c ≤ i + 1 ∧ i + 1 < c + e + a then zp_nat c * W.1 (i + 1 - c) else 0) + -(if c ≤ i ∧ i < c + e then V.1 (i - c) else 0) = 0
  rw [if_neg (by omega), if_neg (by omega)]
  exact @zpr_ev.zv_h zp_F _ _⟩
def hvp (W V : zp_R) (c e a : Nat) : zp_R := ⟨hvf W V c e a, hvf_fin W V c e a⟩
theorem hvp_0 (W V : zp_R) (c : Nat) : hvp W V c 0 0 = zp_C 0 := zp_zero_of (fun i _ => by
  show (if c ≤ i + 1 ∧ i + 1 < c + 0 + 0 then zp_nat c * W.1 (i + 1 - c) else 0) + -(if c ≤ i ∧ i < c + 0 then V.1 (i - c) else 0) = 0
  rw [if_neg (by omega), if_neg (by omega)]
  exact @zpr_ev.zv_h zp_F _ _)
/-- the first half where there is nothing ahead -/
theorem hvp_z (W V : zp_R) : hvp W V 0 0 1 = hvp W V 0 0 0 := zp_ext (fun i => by
  show (if 0 ≤ i + 1 ∧ i + 1 < 0 + 0 + 1 then zp_nat 0 * W.1 (i + 1 - 0) else 0) + -(if 0 ≤ i ∧ i < 0 + 0 then V.1 (i - 0) else 0) = (if 0 ≤ i + 1 ∧ i + 1 < 0 + 0 + 0 then zp_nat 0 * W.1 (i + 1 - 0) else 0) + -(if 0 ≤ i ∧ i < 0 + 0 then V.1 (i - 0) else 0)
  rw [if_neg (show ¬ (0 ≤ i + 1 ∧ i + 1 < 0 + 0 + 1) by omega), if_neg (show ¬ (0 ≤ i + 1 ∧ i + 1 < 0 + 0 + 0) by omega)])
theorem hvp_a (W V : zp_R) {c e : Nat} (h : 0 < c + e) : (hvp W V c e 0).1 (c + e - 1) + zp_nat c * W.1 e = (hvp W V c e 1).1 (c + e - 1) ∧ ∀ i, i ≠ c + e - 1 → (hvp W V c e 1).1 i = (hvp W V c e 0).1 i := by
  refine ⟨?_, fun i hi2 => ?_⟩
  · show (if c ≤ c + e - 1 + 1 ∧ c + e - 1 + 1 < c + e + 0 then zp_nat c * W.1 (c + e - 1 + 1 - c) else 0) + -(if c ≤ c + e - 1 ∧ c + e - 1 < c + e then V.1 (c + e - 1 - c) else 0) + zp_nat c * W.1 e = (if c ≤ c + e - 1 + 1 ∧ c + e - 1 + 1 < c + e + 1 then zp_nat c * W.1 (c + e - 1 + 1 - c) else 0) + _
    rw [if_neg (show ¬ (c ≤ c + e - 1 + 1 ∧ c + e - 1 + 1 < c + e + 0) by omega), if_pos (show c ≤ c + e - 1 + 1 ∧ c + e - 1 + 1 < c + e + 1 by omega), show c + e - 1 + 1 - c = e by omega]
    exact @hv_h zp_F _ _ _
  · show (if c ≤ i + 1 ∧ i + 1 < c + e + 1 then zp_nat c * W.1 (i + 1 - c) else 0) + _ = (if c ≤ i + 1 ∧ i + 1 < c + e + 0 then zp_nat c * W.1 (i + 1 - c) else 0) + _
    by_cases q : c ≤ i + 1 ∧ i + 1 < c + e + 0
    · rw [if_pos q, if_pos (by omega)]
    · rw [if_neg q, if_neg (by omega)]
where hv_h : ∀ {R : Type} [Lean.Grind.CommRing R] (a b : R), 0 + a + b = b + a := by intro R _ a b; grind
theorem hvp_b (W V : zp_R) (c e : Nat) : (hvp W V c e 1).1 (c + e) - V.1 e = (hvp W V c (e + 1) 0).1 (c + e) ∧ ∀ i, i ≠ c + e → (hvp W V c (e + 1) 0).1 i = (hvp W V c e 1).1 i := by
  refine ⟨?_, fun i hi2 => ?_⟩
  · show (if c ≤ c + e + 1 ∧ c + e + 1 < c + e + 1 then zp_nat c * W.1 (c + e + 1 - c) else 0) + -(if c ≤ c + e ∧ c + e < c + e then V.1 (c + e - c) else 0) - V.1 e = (if c ≤ c + e + 1 ∧ c + e + 1 < c + (e + 1) + 0 then zp_nat c * W.1 (c + e + 1 - c) else 0) + -(if c ≤ c + e ∧ c + e < c + (e + 1) then V.1 (c + e - c) else 0)
    rw [if_neg (by omega), if_neg (by omega), if_neg (by omega), if_pos (by omega), show c + e - c = e by omega]
    exact @hv_h zp_F _ _
  · show (if c ≤ i + 1 ∧ i + 1 < c + (e + 1) + 0 then zp_nat c * W.1 (i + 1 - c) else 0) + -(if c ≤ i ∧ i < c + (e + 1) then V.1 (i - c) else 0) = (if c ≤ i + 1 ∧ i + 1 < c + e + 1 then zp_nat c * W.1 (i + 1 - c) else 0) + -(if c ≤ i ∧ i < c + e then V.1 (i - c) else 0)
    have e1 : (if c ≤ i + 1 ∧ i + 1 < c + (e + 1) + 0 then zp_nat c * W.1 (i + 1 - c) else (0 : zp_F)) = if c ≤ i + 1 ∧ i + 1 < c + e + 1 then zp_nat c * W.1 (i + 1 - c) else 0 := rfl
    by_cases q : c ≤ i ∧ i < c + e
    · rw [if_pos q, if_pos (show c ≤ i ∧ i < c + (e + 1) by omega)]; rfl
    · rw [if_neg q, if_neg (show ¬ (c ≤ i ∧ i < c + (e + 1)) by omega)]; rfl
where hv_h : ∀ {R : Type} [Lean.Grind.CommRing R] (a : R), 0 + -0 - a = 0 + -a := by intro R _ a; grind
/-- all of it -/
theorem hvp_n {W V : zp_R} {c n m : Nat} (cm : c < m) (mn : m ≤ n) (dW : zp_deg W (n - m + 1)) (dV : zp_deg V (n - m)) : hvp W V c (n + 1 - c) 0 = zp_add (zp_mul (zp_D (zp_X c)) W) (zp_neg (zp_mul (zp_X c) V)) := zp_ext (fun i => by
  show (if c ≤ i + 1 ∧ i + 1 < c + (n + 1 - c) + 0 then zp_nat c * W.1 (i + 1 - c) else 0) + -(if c ≤ i ∧ i < c + (n + 1 - c) then V.1 (i - c) else 0) = (zp_mul (zp_D (zp_X c)) W).1 i + -((zp_mul (zp_X c) V).1 i)
  rw [DXm_at, Xc_at]
  have e1 : (if c ≤ i + 1 ∧ i + 1 < c + (n + 1 - c) + 0 then zp_nat c * W.1 (i + 1 - c) else (0 : zp_F)) = if c ≤ i + 1 then zp_nat c * W.1 (i + 1 - c) else 0 := by
    by_cases q : c ≤ i + 1
    · by_cases q2 : i + 1 < c + (n + 1 - c) + 0
      · rw [if_pos ⟨q, q2⟩, if_pos q]
      · rw [if_neg (fun w => q2 w.2), if_pos q, dW _ (by omega), zp_ml0]
    · rw [if_neg (fun w => q w.1), if_neg q]
  have e2 : (if c ≤ i ∧ i < c + (n + 1 - c) then V.1 (i - c) else (0 : zp_F)) = if i < c then 0 else V.1 (i - c) := by
    by_cases q : i < c
    · rw [if_neg (fun w => by omega), if_pos q]
    · rw [if_neg q]
      by_cases q2 : i < c + (n + 1 - c)
      · rw [if_pos ⟨by omega, q2⟩]
      · rw [if_neg (fun w => q2 w.2), dV _ (by omega)]
  rw [e1, e2])
/-- a column of the second kind, e of its places done -/
theorem huf_fin (U : zp_R) (k e : Nat) : zp_fin (fun i => if k ≤ i ∧ i < k + e then U.1 (i - k) else 0) := ⟨k + e, fun i hi2 => if_neg (by omega)⟩
def hup (U : zp_R) (k e : Nat) : zp_R := ⟨fun i => if k ≤ i ∧ i < k + e then U.1 (i - k) else 0, huf_fin U k e⟩
theorem hup_0 (U : zp_R) (k : Nat) : hup U k 0 = zp_C 0 := zp_zero_of (fun i _ => if_neg (by omega))
theorem hup_s (U : zp_R) (k e : Nat) : pst (hup U k e) (k + e) (U.1 e) = hup U k (e + 1) := zp_ext (fun i => by
  show (if i = k + e then U.1 e else if k ≤ i ∧ i < k + e then U.1 (i - k) else 0) = if k ≤ i ∧ i < k + (e + 1) then U.1 (i - k) else 0
  by_cases q : i = k + e
  · rw [if_pos q, if_pos (by omega), q, show k + e - k = e by omega]
  · rw [if_neg q]
    by_cases q2 : k ≤ i ∧ i < k + e
    · rw [if_pos q2, if_pos (by omega)]
    · rw [if_neg q2, if_neg (by omega)])
theorem hup_n {U : zp_R} {k n m : Nat} (mU : zp_deg U (m + 1)) (h : k + m < n) : hup U k (n - k) = zp_mul (zp_X k) U := zp_ext (fun i => by
  show (if k ≤ i ∧ i < k + (n - k) then U.1 (i - k) else 0) = _
  rw [Xc_at]
  by_cases q : i < k
  · rw [if_pos q, if_neg (by omega)]
  · rw [if_neg q]
    by_cases q2 : i < k + (n - k)
    · rw [if_pos ⟨by omega, q2⟩]
    · rw [if_neg (fun w => q2 w.2), mU _ (by omega)])
/-- core and rest of a over b: K is the integral of what is whole, C over U the rest of the core, r over W the rest -/
def herS (a b K U W C r : zp_R) : Prop := ∃ Q R V, a = zp_add (zp_mul b Q) R ∧ zp_deg R (hi b).toNat ∧ isG b (zp_D b) U ∧ b = zp_mul U W ∧ zp_mul (zp_D U) W = zp_mul U V ∧ zp_deg C (hi U).toNat ∧ zp_deg r (hi W).toNat ∧ zp_add (zp_add (zp_mul (zp_D C) W) (zp_neg (zp_mul C V))) (zp_mul r U) = R ∧ K = itg Q 41
/-- what the bottom's parts are -/
theorem her_mk {b U : zp_R} {n : Nat} (hb : mon b n) (n40 : n ≤ 40) (hU : isG b (zp_D b) U) : ∃ m W V, m ≤ n ∧ mon U m ∧ mon W (n - m) ∧ b = zp_mul U W ∧ zp_mul (zp_D U) W = zp_mul U V ∧ zp_deg V (n - m) ∧ sqf W ∧ ∀ f, irr f → dv f U → dv f W := by
  have mb : mo b := ⟨n, hb.1, hb.2⟩
  have mU : mo U := hU.2.2.2.resolve_left (fun w => mo_n0 mb (by
    obtain ⟨q, e⟩ := hU.1
    rw [e, w, zp_h20R, zp_mul0]))
  obtain ⟨m, u1, u2⟩ := mU
  obtain ⟨W, eW⟩ := id hU.1
  obtain ⟨mn, mW⟩ := mon_quo ⟨u1, u2⟩ hb eW
  obtain ⟨s1, s2⟩ := sqf_of (mo_n0 mb) hb.2 (by omega) hU eW
  have eD : zp_D b = zp_add (zp_mul (zp_D U) W) (zp_mul U (zp_D W)) := by rw [eW, D_mu]
  have d1 := hU.2.1
  rw [eD] at d1
  have d2 : zp_add (zp_mul (zp_D U) W) (zp_mul U (zp_D W)) = zp_add (zp_mul U (zp_D W)) (zp_mul (zp_D U) W) := @dv_but.db_h zp_R zp_ring _ _
  rw [d2] at d1
  obtain ⟨V, eV⟩ := dv_can (dv_mr (dv_rf U) _) d1
  refine ⟨m, W, V, mn, ⟨u1, u2⟩, mW, eW, eV, ?_, s1, fun f hf w => s2 f hf (by rw [eW]; exact dv_mr w W)⟩
  have dDU : zp_deg (zp_D U) m := D_dg u2
  refine zp_monic_deg u1 u2 (t := n - m) ?_
  rw [← eV]
  exact fun i hi2 => zp_c_lt dDU mW.2 (by omega)
theorem hcol_deg {U W V : zp_R} {n m c : Nat} (mn : m ≤ n) (mU : mon U m) (mW : mon W (n - m)) (dV : zp_deg V (n - m)) (hc : c < n) : zp_deg (hcol U W V m c) n := by
  unfold hcol
  by_cases q : c < m
  · rw [if_pos q]
    have a1 : zp_deg (zp_D (zp_X c)) c := D_dg (zp_T_deg 1 c)
    exact deg_add (fun i hi2 => zp_c_lt a1 mW.2 (by omega)) (deg_neg (fun i hi2 => zp_c_lt (zp_T_deg 1 c) dV (by omega)))
  · rw [if_neg q]
    exact fun i hi2 => zp_c_lt (zp_T_deg 1 (c - m)) mU.2 (by omega)
/-- the columns depend on no others -/
theorem her_cols {U W V : zp_R} {n m : Nat} (mn : m ≤ n) (m41 : m ≤ 41) (mU : mon U m) (sW : sqf W) (pW : ∀ f, irr f → dv f U → dv f W) (eV : zp_mul (zp_D U) W = zp_mul U V) (y : Nat → zp_F) (z : @zp_sum zp_R zp_ring (fun c => zp_mul (zp_C (y c)) (hcol U W V m c)) n = zp_C 0) : ∀ c, c < n → y c = 0 := fun c hc => by
  rw [her_sum mn] at z
  obtain ⟨e1, e2⟩ := her_ind (k := 0) m41 mU sW pW eV (yps_deg _ _ _) z
  by_cases q : c < m
  · have := congrFun (congrArg Subtype.val e1) c
    have w : (if c < m then y (0 + c) else 0) = (zp_C 0).1 c := this
    rw [if_pos q, Nat.zero_add, zp_C00] at w
    exact w
  · have := congrFun (congrArg Subtype.val e2) (c - m)
    have w : (if c - m < n - m then y (m + (c - m)) else 0) = (zp_C 0).1 (c - m) := this
    rw [if_pos (by omega), show m + (c - m) = c by omega, zp_C00] at w
    exact w
