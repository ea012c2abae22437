/-! sets of columns: the exchange -/
theorem ex_1 {T t : Nat} (hT : T < 16) (ht : t < 4) (on : bt T t = 1) : T - 2 ^ t < 16 ∧ bt (T - 2 ^ t) t = 0 ∧ T - 2 ^ t + 2 ^ t = T ∧ bts (T - 2 ^ t) + 1 = bts T := by
  have : ∀ t : Fin 4, ∀ T : Fin 16, bt T.val t.val = 1 → T.val - 2 ^ t.val < 16 ∧ bt (T.val - 2 ^ t.val) t.val = 0 ∧ T.val - 2 ^ t.val + 2 ^ t.val = T.val ∧ bts (T.val - 2 ^ t.val) + 1 = bts T.val := by decide +kernel
  exact this ⟨t, ht⟩ ⟨T, hT⟩ on
theorem ex_2 {T C t j : Nat} (hT : T < 16) (hC : C < 16) (ht : t < 4) (hj : j < 4) (a : bt T t = 1) (b : bt C t = 0) (c : bt C j = 1) (d : bt (T - 2 ^ t) j = 0) : T - 2 ^ t + 2 ^ j < 16 ∧ bts (T - 2 ^ t + 2 ^ j) = bts T ∧ outs (T - 2 ^ t + 2 ^ j) C < outs T C := by
  have : ∀ t j : Fin 4, ∀ C T : Fin 16, bt T.val t.val = 1 → bt C.val t.val = 0 → bt C.val j.val = 1 → bt (T.val - 2 ^ t.val) j.val = 0 → T.val - 2 ^ t.val + 2 ^ j.val < 16 ∧ bts (T.val - 2 ^ t.val + 2 ^ j.val) = bts T.val ∧ outs (T.val - 2 ^ t.val + 2 ^ j.val) C.val < outs T.val C.val := by decide +kernel
  exact this ⟨t, ht⟩ ⟨j, hj⟩ ⟨C, hC⟩ ⟨T, hT⟩ a b c d
theorem ex_3 {T t j i : Nat} (hT : T < 16) (ht : t < 4) (hj : j < 4) (hi2 : i < 4) (a : bt T t = 1) (d : bt (T - 2 ^ t) j = 0) (e : bt (T - 2 ^ t + 2 ^ j) i = 1) : bt T i = 1 ∨ i = j := by
  have : ∀ t j i : Fin 4, ∀ T : Fin 16, bt T.val t.val = 1 → bt (T.val - 2 ^ t.val) j.val = 0 → bt (T.val - 2 ^ t.val + 2 ^ j.val) i.val = 1 → bt T.val i.val = 1 ∨ i.val = j.val := by decide +kernel
  exact this ⟨t, ht⟩ ⟨j, hj⟩ ⟨i, hi2⟩ ⟨T, hT⟩ a d e
theorem ex_4 {C t j : Nat} (hC : C < 16) (ht : t < 4) (hj : j < 4) (off : bt C t = 0) : C + 2 ^ t < 16 ∧ C + 2 ^ t - 2 ^ t = C ∧ bt (C + 2 ^ t) t = 1 ∧ (j ≠ t → bt (C + 2 ^ t) j = bt C j) := by
  have : ∀ t j : Fin 4, ∀ C : Fin 16, bt C.val t.val = 0 → C.val + 2 ^ t.val < 16 ∧ C.val + 2 ^ t.val - 2 ^ t.val = C.val ∧ bt (C.val + 2 ^ t.val) t.val = 1 ∧ (j.val ≠ t.val → bt (C.val + 2 ^ t.val) j.val = bt C.val j.val) := by decide +kernel
  exact this ⟨t, ht⟩ ⟨j, hj⟩ ⟨C, hC⟩ off
theorem ex_5 {R r i : Nat} (hR : R ≤ 4) (hr : r < 2 ^ R) (hi2 : i < 4) : (bt r i = 1 → i < R) ∧ (i < R → bt r i = 0 → r + 2 ^ i < 2 ^ R) := by
  have : ∀ R : Fin 5, ∀ i : Fin 4, ∀ r : Fin 16, r.val < 2 ^ R.val → (bt r.val i.val = 1 → i.val < R.val) ∧ (i.val < R.val → bt r.val i.val = 0 → r.val + 2 ^ i.val < 2 ^ R.val) := by decide +kernel
  exact this ⟨R, by omega⟩ ⟨i, hi2⟩ ⟨r, pw16 hr hR⟩ hr
theorem z_mul0 (x : zp_R) : zp_mul (zp_C 0) x = zp_C 0 := (@zp_h20 zp_R zp_ring _ _).trans (zp_mul0 x)
/-- C0 has a determinant that isn't 0 and cannot grow by a column of U: no set in U of one column more has one -/
theorem exch {M : Nat → Nat → zp_R} {R k r0 C0 : Nat} {U : Nat → Prop} (hk : k ≤ 4) (hR : R ≤ 4) (dM : ∀ i j, i < R → j < k → zp_deg (M i j) 11) (hr0 : r0 < 2 ^ R) (hC : C0 < 16) (e0 : bts r0 = bts C0) (nz : mnq M k r0 C0 ≠ zp_C 0) (CU : ∀ i, i < 4 → bt C0 i = 1 → U i) (no : ∀ t, t < 4 → U t → bt C0 t = 0 → ∀ r, r < 2 ^ R → bts r = bts C0 + 1 → mnq M k r (C0 + 2 ^ t) = zp_C 0) : ∀ n T, outs T C0 ≤ n → T < 16 → T < 2 ^ k → (∀ i, i < 4 → bt T i = 1 → U i) → bts T = bts C0 + 1 → ∀ r, r < 2 ^ R → bts r = bts T → mnq M k r T = zp_C 0 := by
  intro n
  induction n with
  | zero =>
    intro T hn hT _ _ e
    exfalso
    obtain ⟨t, t4, o1, o2⟩ := outs_p hT hC e
    have : ∀ t : Fin 4, ∀ C T : Fin 16, bt T.val t.val = 1 → bt C.val t.val = 0 → 0 < outs T.val C.val := by decide +kernel
    have := this ⟨t, t4⟩ ⟨C0, hC⟩ ⟨T, hT⟩ o1 o2
    have e2 : outs T C0 ≤ 0 := hn
    exact absurd (show 0 < outs T C0 from this) (by omega)
  | succ n ih =>
    intro T hn hT Tk TU e r hr er
    obtain ⟨t, t4, o1, o2⟩ := outs_p hT hC e
    obtain ⟨s1, s2, s3, s4⟩ := ex_1 hT t4 o1
    obtain ⟨c1, c2, c3, _⟩ := ex_4 (j := t) hC t4 t4 o2
    have tk : t < k := (ex_5 hk Tk t4).1 o1
    have r16 := pw16 hr hR
    have r016 := pw16 hr0 hR
    have z : ∀ i, i < 4 → bt r i = 1 → @dtR zp_R zp_ring (M i) (yv M k r0 (C0 + 2 ^ t)) k = zp_C 0 := fun i i4 on => yv_0 M hk hR r016 c1 (fun p hp off => no t t4 (TU t t4 o1) o2 (r0 + 2 ^ p) ((ex_5 hR hr0 (by omega)).2 hp off) (by rw [(add_on r016 (show p < 4 by omega) off).2, e0])) ((ex_5 hR hr i4).1 on)
    have ic := ic_mnq M (y := yv M k r0 (C0 + 2 ^ t)) (S := T - 2 ^ t) hk r16 s1 (by omega) z
    have key := @icR_1 zp_R zp_ring (yv M k r0 (C0 + 2 ^ t)) (mnq M k r) (T - 2 ^ t) t s2 k tk (fun j hj jt off => by
      obtain ⟨_, _, _, d4⟩ := ex_4 (j := j) hC t4 (show j < 4 by omega) o2
      have b := bt_01 C0 j
      by_cases q : bt C0 j = 1
      · obtain ⟨x1, x2, x3⟩ := ex_2 hT hC t4 (show j < 4 by omega) o1 o2 q off
        have z2 := ih (T - 2 ^ t + 2 ^ j) (by omega) x1 ((ex_5 hk (Nat.lt_of_le_of_lt (Nat.sub_le _ _) Tk) (by omega)).2 hj off) (fun i i4 on => by
          rcases ex_3 hT t4 (show j < 4 by omega) i4 o1 off on with w | w
          · exact TU i i4 w
          · rw [w]
            exact CU j (by omega) q) (by omega) r hr (by omega)
        rw [z2]
        exact zp_mul0 _
      · have y0 : yv M k r0 (C0 + 2 ^ t) j = zp_C 0 := if_pos (by rw [d4 jt]; omega)
        rw [y0]
        exact z_mul0 _) ic
    rw [s3] at key
    have y1 : yv M k r0 (C0 + 2 ^ t) t ≠ zp_C 0 ∧ zp_deg (yv M k r0 (C0 + 2 ^ t) t) 176 := by
      have dq : zp_deg (mnq M k r0 C0) 176 := deg_le (mnq_deg hR dM hr0) (by decide)
      unfold yv
      rw [if_neg (by omega), c2]
      by_cases q : sgc (C0 + 2 ^ t) t = 1
      · rw [if_pos q]
        exact ⟨nz, dq⟩
      · rw [if_neg q]
        refine ⟨fun w => nz ((zp_nn _).symm.trans (dneg_0 w)), fun i hi2 => ?_⟩
        show -((mnq M k r0 C0).1 i) = 0
        rw [dq i hi2]
        decide
    exact Classical.byContradiction (fun w => mul_n0 y1.2 y1.1 w key)
