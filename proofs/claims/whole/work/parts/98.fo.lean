/-! closed sums: one place more of the splitting -/
theorem gsw_pu {G : Nat → zp_R} {g : zp_R} {k : Nat} : ∀ n, n ≤ k → gsw (pu G k g) n = gsw G n
  | 0, _ => rfl
  | n + 1, h => by
    show zp_mul (gsw (pu G k g) n) (gsd (pu G k g n) n) = zp_mul (gsw G n) (gsd (G n) n)
    rw [gsw_pu n (by omega), pu_ne (by omega)]
theorem gsp_0 (a b : zp_R) : gsp a b 0 (fun _ => a) (fun _ => b) (fun _ => zp_C 0) := ⟨rfl, rfl, fun h hh => absurd hh (Nat.not_lt_zero h)⟩
theorem gsp_s {a b g p' r' : zp_R} {n : Nat} {P R G : Nat → zp_R} (h : gsp a b n P R G) (h1 : isG (P n) (mvf (R n) (nF (n : Int))) g) (h2 : P n = zp_mul g p') (h3 : R n = zp_mul (mvf g (nF (-(n : Int)))) r') : gsp a b (n + 1) (pu P (n + 1) p') (pu R (n + 1) r') (pu G n g) := by
  obtain ⟨x1, x2, x3⟩ := h
  refine ⟨by rw [pu_ne (by omega)]; exact x1, by rw [pu_ne (by omega)]; exact x2, fun k hk => ?_⟩
  by_cases q : k = n
  · subst q
    rw [pu_at, pu_at, pu_at, pu_ne (by omega), pu_ne (by omega)]
    exact ⟨h1, h2, h3⟩
  · rw [pu_ne (show k ≠ n + 1 by omega), pu_ne (show k ≠ n + 1 by omega), pu_ne q, pu_ne (show k + 1 ≠ n + 1 by omega), pu_ne (show k + 1 ≠ n + 1 by omega)]
    exact x3 k (by omega)
theorem nF_add0 (n : Nat) : nF (-(n : Int)) + nF (-1) = nF (-((n : Int) + 1)) := by
  rw [← nF_add]
  exact congrArg nF (by omega)
theorem nF_can (n : Nat) : nF (n : Int) + nF (-(n : Int)) = 0 := by
  rw [← nF_add, ← nF_0]
  exact congrArg nF (by omega)
/-- what b has of it -/
theorem gs_quo {R g : zp_R} {n k : Nat} (mR : mon R k) (k41 : k ≤ 41) (mg : mo g) (h : dv g (mvf R (nF (n : Int)))) : ∃ j r', j ≤ k ∧ mon g j ∧ R = zp_mul (mvf g (nF (-(n : Int)))) r' ∧ mon r' (k - j) := by
  have dR6 := deg_le mR.2 (show k + 1 ≤ 176 by omega)
  obtain ⟨q, e⟩ := h
  have mM := mvf_mon (nF (n : Int)) mR (by omega)
  obtain ⟨j, g1, g2⟩ := mg
  obtain ⟨le, mq⟩ := mon_quo ⟨g1, g2⟩ mM e
  refine ⟨j, mvf q (nF (-(n : Int))), le, ⟨g1, g2⟩, ?_, mvf_mon _ mq (by omega)⟩
  rw [← mvf_mul (n := j + 1) (m := k - j + 1) _ g2 mq.2 (by omega), ← e, mvf_mvf _ _ dR6, nF_can, mvf_0 dR6]
/-- d so far, amid place n -/
theorem gsd_mon {g : zp_R} {j : Nat} (mg : mon g j) (j41 : j ≤ 41) : ∀ n, mon (gsd g n) (n * j)
  | 0 => by rw [Nat.zero_mul]; exact mon_C1
  | n + 1 => by
    rw [Nat.succ_mul]
    exact mon_mul (gsd_mon mg j41 n) (mvf_mon _ mg (by omega))
theorem gop_deg {a b q : zp_R} (da : zp_deg a 41) (db : zp_deg b 41) (dq : zp_deg q 21) : zp_deg (gop a b q) 61 := by
  have d1 : zp_deg (mvf q 1) 21 := mvf_dg (n := 20) 1 dq (by omega)
  have d2 : zp_deg (mvf b (nF (-1))) 41 := mvf_dg (n := 40) _ db (by omega)
  unfold gop
  have x1 := zp_deg_mul (n := 40) (m := 20) da d1
  have x2 := zp_deg_mul (n := 40) (m := 20) d2 dq
  exact deg_add x1 (deg_neg x2)
