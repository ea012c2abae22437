/-! the reference's rowsFor and solved in the picture -/
/-- some rows have a determinant with columns c that isn't 0 -/
def hasR (M : Nat → Nat → zp_R) (R C c : Nat) : Prop := ∃ r, r < 2 ^ R ∧ bts r = bts c ∧ mnq M C r c ≠ zp_C 0
/-- the least such rows -/
def fstR (M : Nat → Nat → zp_R) (R C c r : Nat) : Prop := r < 2 ^ R ∧ bts r = bts c ∧ mnq M C r c ≠ zp_C 0 ∧ ∀ r', r' < r → bts r' = bts c → mnq M C r' c = zp_C 0
/-- the columns that are taken, of the first so many -/
noncomputable def slc (M : Nat → Nat → zp_R) (R C : Nat) : Nat → Nat
  | 0 => 0
  | k + 1 => @ite Nat (hasR M R C (slc M R C k + 2 ^ k)) (Classical.propDecidable _) (slc M R C k + 2 ^ k) (slc M R C k)
theorem slc_y {M : Nat → Nat → zp_R} {R C k : Nat} (h : hasR M R C (slc M R C k + 2 ^ k)) : slc M R C (k + 1) = slc M R C k + 2 ^ k := if_pos h
theorem slc_n {M : Nat → Nat → zp_R} {R C k : Nat} (h : ¬ hasR M R C (slc M R C k + 2 ^ k)) : slc M R C (k + 1) = slc M R C k := if_neg h
theorem C1_ne0 : zp_C 1 ≠ zp_C 0 := fun w => by
  have := congrArg (fun f : zp_R => f.1 0) w
  exact absurd this (by decide +kernel)
theorem slc_has (M : Nat → Nat → zp_R) (R C k : Nat) : slc M R C k < 2 ^ k ∧ hasR M R C (slc M R C k) := by
  induction k with
  | zero => exact ⟨Nat.two_pow_pos 0, 0, Nat.two_pow_pos _, rfl, by show mnq M C 0 0 ≠ zp_C 0; rw [mnq_0]; exact C1_ne0⟩
  | succ k ih =>
    have e : 2 ^ (k + 1) = 2 ^ k * 2 := Nat.pow_succ 2 k
    by_cases q : hasR M R C (slc M R C k + 2 ^ k)
    · rw [slc_y q]
      exact ⟨by omega, q⟩
    · rw [slc_n q]
      exact ⟨by omega, ih.2⟩
/-- a fraction in lowest terms, kept if there is room -/
def keep2 (cnt : Int) (N D : zp_R) (bad : Int) (res : Sum th Int) : Prop := ((cnt = 150 ∨ 40 < hi N ∨ 40 < hi D) → res = .inr bad) ∧ (¬ (cnt = 150 ∨ 40 < hi N ∨ 40 < hi D) → res = .inl (th_fr N D))
def slvF (cnt j : Int) (t : th) (ro : Option (Sum th Int)) : Prop := match t with
  | .inr (.inr (.inl (R, C, M))) => (¬ (0 ≤ j ∧ j ≤ (C : Int) - 2) → ro = some (.inr 1)) ∧ ((0 ≤ j ∧ j ≤ (C : Int) - 2) → (cnt = 150 → ro = some (.inr 3)) ∧ (cnt ≠ 150 → (hasR M R C (slc M R C (C - 1) + 2 ^ (C - 1)) → ro = none) ∧ (¬ hasR M R C (slc M R C (C - 1) + 2 ^ (C - 1)) → ∃ res, ro = some res ∧ (bt (slc M R C (C - 1)) j.toNat = 0 → keeps cnt (zp_C 0) 3 res) ∧ (bt (slc M R C (C - 1)) j.toNat = 1 → ∃ r N D, fstR M R C (slc M R C (C - 1)) r ∧ cn (if bts (slc M R C (C - 1) / 2 ^ (j.toNat + 1)) % 2 = 1 then zp_mul (zp_C (nF 32002)) (mnq M C r (slc M R C (C - 1) - 2 ^ j.toNat + 2 ^ (C - 1))) else mnq M C r (slc M R C (C - 1) - 2 ^ j.toNat + 2 ^ (C - 1))) (mnq M C r (slc M R C (C - 1))) N D ∧ keep2 cnt N D 3 res))))
  | _ => True
def slvS (cnt : Int) (T : Nat → th) (x j : Int) (ro : Option (Sum th Int)) : Prop := (¬ (0 ≤ x ∧ x < cnt) → ro = some (.inr 1)) ∧ ((0 ≤ x ∧ x < cnt) → kd (T x.toNat) ≠ 2 → ro = some (.inr 2)) ∧ ((0 ≤ x ∧ x < cnt) → kd (T x.toNat) = 2 → slvF cnt j (T x.toNat) ro)
theorem swap_on {set j l : Nat} (hl : l < 4) (hs : set < 2 ^ l) (hj : j < l) (on : bt set j = 1) : bts (set - 2 ^ j + 2 ^ l) = bts set ∧ set - 2 ^ j + 2 ^ l < 2 ^ (l + 1) ∧ 2 ^ j ≤ set := by
  have : ∀ l : Fin 4, ∀ set : Fin 16, ∀ j : Fin 4, set.val < 2 ^ l.val → j.val < l.val → bt set.val j.val = 1 → bts (set.val - 2 ^ j.val + 2 ^ l.val) = bts set.val ∧ set.val - 2 ^ j.val + 2 ^ l.val < 2 ^ (l.val + 1) ∧ 2 ^ j.val ≤ set.val := by decide +kernel
  exact this ⟨l, hl⟩ ⟨set, pw16 hs (by omega)⟩ ⟨j, by omega⟩ hs hj on
theorem zsh {r j : Nat} (hr : r < 16) (hj : j < 5) : zi 28 (r : Int) (j : Int) = ((r / 2 ^ j : Nat) : Int) := by
  have : ∀ j : Fin 5, ∀ r : Fin 16, zi 28 (r.val : Int) (j.val : Int) = ((r.val / 2 ^ j.val : Nat) : Int) := by decide +kernel
  exact this ⟨j, hj⟩ ⟨r, hr⟩
section
variable {d : Nat} {h : s_H} {s : Nat → Int} {A : Nat → Nat → Int}
theorem V_rowsFor (hv : RV h s A) {f R C c : Nat} {M : Nat → Nat → zp_R} (hf : f < 150) (hR : 1 ≤ R ∧ R ≤ 4) (hC : 1 ≤ C ∧ C ≤ 4) (hM : mat A f R C M) (hmn : mins A R C M) (hc : c < 2 ^ C) : wm sw_P (d + 3) 588 [.index 1290, vi (f : Int), vi (c : Int)] h (RA h (fun v s' A' => s' = s ∧ sm A A' [1309] ∧ ((∃ r : Nat, v = vi (r : Int) ∧ fstR M R C c r) ∨ (v = vi (-1) ∧ ¬ hasR M R C c)))) := by
  refine wm_in (cd := sw_c588) (nL := 4) (hd := sw_h588) rfl rfl ?_
  have pR := Nat.pow_le_pow_right (show 0 < 2 by decide) hR.2
  have c16 := pw16 hc hC.2
  have bC : bts c ≤ 4 := by unfold bts; omega
  have dM : ∀ i j, i < R → j < C → zp_deg (M i j) 11 := fun i j h1 h2 => me_deg (hM.2.2 i j h1 h2)
  have loop : ∀ (l r : Nat) (B : Nat → Nat → Int) (h' : s_H), r + l = 2 ^ R → RV h' s B → FR h h' → sm A B [1309] → (∀ r', r' < r → bts r' = bts c → mnq M C r' c = zp_C 0) → wr sw_P (d + 2) sw_c588 sw_h588 (2, [.index 1290, vi (f : Int), vi (c : Int), vi (r : Int)], [], h', 0, 0) (RA h (fun v s' A' => s' = s ∧ sm A A' [1309] ∧ ((∃ r : Nat, v = vi (r : Int) ∧ fstR M R C c r) ∨ (v = vi (-1) ∧ ¬ hasR M R C c)))) := by
    intro l
    induction l with
    | zero =>
      intro r B h' hr v rr mB g
      have g3 : gi (mk 150 (B 1294)) (f : Int) = (R : Int) := by rw [mB 1294 rfl, gi_mkn (by omega)]; exact hM.1
      refine k588_2 v.1 (Ra_rows v) (fun _ => k588_56 ⟨vi (-1), h', s, B, v, rr, ⟨rfl, mB, .inr ⟨rfl, fun w => ?_⟩⟩, rfl⟩) (fun w => absurd (by rw [g3]; exact (sh_lt (k := R) (i := r) (by omega)).mpr (by omega)) w) (c10 := by rw [mk_len]; omega) (c11 := by omega) (c12 := by unfold In3; omega) (c13 := by unfold In3; omega) (c14 := by rw [g3, zs (by omega)]; unfold In3; omega)
      obtain ⟨r', w1, w2, w3⟩ := w
      exact w3 (g r' (by omega) w2)
    | succ l ih =>
      intro r B h' hr v rr mB g
      have r16 : r < 16 := by omega
      have bR : bts r ≤ 4 := by unfold bts; omega
      have g3 : gi (mk 150 (B 1294)) (f : Int) = (R : Int) := by rw [mB 1294 rfl, gi_mkn (by omega)]; exact hM.1
      refine k588_2 v.1 (Ra_rows v) (fun w => absurd ((sh_lt (k := R) (i := r) (by omega)).mp (by rw [g3] at w; exact w)) (by omega)) (fun _ => ?_) (c10 := by rw [mk_len]; omega) (c11 := by omega) (c12 := by unfold In3; omega) (c13 := by unfold In3; omega) (c14 := by rw [g3, zs (by omega)]; unfold In3; omega)
      refine k588_14 (wm_mono (wq_r ?_) (V_bits r16))
      refine k588_18 (wm_mono (wq_r ?_) (V_bits c16))
      refine k588_22 (fun w => ?_) (fun w => ?_) (c1 := by unfold In3; omega) (c2 := by unfold In3; omega)
      rotate_left
      · refine k588_25 (k588_50 (ih (r + 1) B h' (by omega) v rr mB (fun r' h1 h2 => ?_)))
        by_cases q : r' = r
        · rw [q] at h2; omega
        · exact g r' (by omega) h2
      have hrc : bts r = bts c := by omega
      refine k588_28 v.1 (wm_mono (wq_Q (fun h3 v3 r3 => ?_)) (V_loadMinor v (p := 1309) rfl (r := r) (c := c) r16 c16))
      have eM : mi B r c = cf (mnq M C r c) := by
        rw [← hmn r c (by omega) hc hrc]
        unfold mi
        rw [mB 1329 rfl]
      rw [eM] at v3
      have dN := mnq_deg hR.2 dM (c := c) (show r < 2 ^ R by omega)
      have bh := hi_b (mnq M C r c)
      refine k588_38 v3.1 (wm_mono (wq_r ?_) (V_high v3 (c := 1309) rfl (up_at _ _ _)))
      refine k588_45 (fun w2 => ?_) (fun w2 => ?_) (c1 := by unfold In3; omega)
      · have z := hi_0 (deg_le dN (by decide)) w2
        refine k588_50 (ih (r + 1) _ h3 (by omega) v3 (FR_trans rr r3) (sm_up mB _ rfl) (fun r' h1 h2 => ?_))
        by_cases q : r' = r
        · rw [q]; exact z
        · exact g r' (by omega) h2
      · exact k588_48 ⟨_, h3, s, _, v3, FR_trans rr r3, ⟨rfl, sm_up mB _ rfl, .inl ⟨r, rfl, by omega, hrc, zp_ne0 (by omega), g⟩⟩, rfl⟩
  exact k588_0 (loop _ 0 A h (Nat.zero_add _) hv (FR_refl h) sm_refl (fun r' h1 => absurd h1 (by omega)))
end
