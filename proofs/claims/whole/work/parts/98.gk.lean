/-! the reference's get -/
theorem rdE_f {s : Nat → Int} {A : Nat → Nat → Int} {T : Nat → th} (h : rdE s A T) {j : Nat} (j1 : 1 ≠ j) (j2 : 52 ≠ j) (z : Int) : rdE (up s j z) A T := by
  obtain ⟨h1, h2, h3, h4, h5⟩ := h
  refine ⟨?_, h2, h3, h4, RI_st h5 (fun _ _ => rfl) (up_ne _ _ j1)⟩
  unfold SX at *
  rw [up_ne _ _ j2]
  exact h1
/-- behind workCells -/
theorem wks_E {T : Nat → th} {s s' : Nat → Int} {A A' : Nat → Nat → Int} {c : Nat} (E : rdE s A T) (φ : wksR T s A c s' A') : rdE s' A' T ∧ ¬ due A' c := by
  by_cases du : due A c
  · obtain ⟨l, I⟩ := φ.2 du
    refine ⟨I.2.1, fun w => ?_⟩
    have := ((I.2.2.2.2.2.2.2.1 c).mp w).2 (clo_own A c)
    rw [Nat.zero_testBit] at this
    exact Bool.noConfusion this
  · obtain ⟨e1, e2⟩ := φ.1 du
    subst e1 e2
    exact ⟨E, du⟩
/-- what get comes to -/
def getR (T : Nat → th) (s : Nat → Int) (A : Nat → Nat → Int) (c : Int) (v : Term) (s' : Nat → Int) (A' : Nat → Nat → Int) : Prop := (¬ (0 ≤ c ∧ c ≤ 15) → v = vi 0 ∧ s' = up s 0 1 ∧ A' = A) ∧ (0 ≤ c ∧ c ≤ 15 → ∃ s1 A1, wksR T (up s 0 0) A c.toNat s1 A1 ∧ (¬ hsf A1 c.toNat → v = vi 0 ∧ s' = up s1 0 2 ∧ A' = A1) ∧ (hsf A1 c.toNat → ∃ a b res, fp A1 1369 c.toNat = cf a ∧ fp A1 1370 c.toNat = cf b ∧ (s1 1 = 150 → res = .inr 3) ∧ (s1 1 ≠ 150 → res = .inl (th_fr a b)) ∧ ends s1 A1 T res v s' A'))
section
variable {d : Nat} {h : s_H} {s : Nat → Int} {A : Nat → Nat → Int}
theorem V_get (hv : RV h s A) {T : Nat → th} (E : rdE s A T) (cb : ckB s A) (c0 : 0 ≤ s 107 ∧ s 107 ≤ 1900000000) {c : Int} (hc : In3 c) : wm sw_P (d + 14) 457 [.index 1290, vi c] h (RA h (getR T s A c)) := by
  refine wm_in (cd := sw_c457) (nL := 2) (hd := sw_h457) rfl rfl ?_
  have code : ∀ z : Int, RV (hp h 1290 (1, 11, rF (up s 0 z))) (up s 0 z) A := fun z => RV_fld hv (up s 0 z) (rF_0 s z)
  have rd0 : ∀ z : Int, s_nth (rF (up s 0 z)) 0 = some (vi z) := fun z => by
    show some (vi (up s 0 z 0)) = _
    rw [up_at]
  refine k457_0 (wm_mono (wq_r ?_) (t_in (by unfold In6; unfold In3 at hc; omega) (by decide) (by decide))) (c2 := hc)
  by_cases w : 0 ≤ c ∧ c ≤ 15
  rotate_left
  · rw [if_neg w]
    refine k457_10 (fun _ => k457_17 ?_) (fun x => absurd rfl x) (c1 := by decide)
    refine k457_18 (z10 := 1) hv.1 (code 1).1 (fun x => absurd x (by decide)) (fun _ => ?_) (n11 := rd0 1) (c12 := by decide)
    exact k457_28 ⟨_, _, _, _, code 1, FR_fld hv _, ⟨fun _ => ⟨rfl, rfl, rfl⟩, fun x => absurd x w⟩, rfl⟩
  rw [if_pos w]
  refine k457_10 (fun x => absurd x (by decide)) (fun _ => k457_13 ?_) (c1 := by decide)
  refine k457_18 (z10 := 0) hv.1 (code 0).1 (fun _ => ?_) (fun x => absurd (by decide) x) (n11 := rd0 0) (c12 := by decide)
  have v0 := code 0
  have R0 : FR h _ := FR_fld hv (1, 11, rF (up s 0 0))
  obtain ⟨k, ek⟩ : ∃ k : Nat, c = k := ⟨c.toNat, by omega⟩
  subst ek
  have k16 : k < 16 := by omega
  have e107 : up s 0 0 107 = s 107 := up_ne _ _ (by decide)
  refine k457_30 v0.1 (wm_mono (wq_N (fun h1 s1 A1 v1 r1 φ => ?_)) (V_workCells v0 (rdE_f E (by decide) (by decide) 0) (fun i hi2 => by rw [e107]; exact cb i hi2) (by rw [e107]; exact c0) k16))
  obtain ⟨E1, nd⟩ := wks_E (rdE_f E (by decide) (by decide) 0) φ
  refine k457_35 v1.1 (wm_mono (fun out ⟨z, hz, ho⟩ => wq_r ?_ out ho) (V_hasFraction v1 E1.2.1 k16))
  rcases hz with ⟨ez, hf⟩ | ⟨ez, hf⟩
  · subst ez
    refine k457_40 (fun _ => ?_) (fun x => absurd (by decide) x) (c1 := by decide)
    have wk : A1 1373 k < A1 1374 k := (Classical.byContradiction (fun x => nd ⟨hf.1, x⟩) : wkd A1 k).1
    have hF : ∀ c, c < 16 → A1 1373 c < A1 1374 c → A1 1371 c = 0 → ∃ a b, fp A1 1369 c = cf a ∧ fp A1 1370 c = cf b ∧ zp_deg a 41 ∧ zp_deg b 41 ∧ mo b ∧ co a b := E1.2.2.2.1
    obtain ⟨a, b, f1, f2, da, db, mb, cab⟩ := hF k k16 wk hf.2
    refine k457_49 v1.1 (wm_mono (wq_Q (fun h2 v2 r2 => ?_)) (V_loadCell v1 k16 E1.2.2.1))
    rw [f1, f2] at v2
    have m1 : sm A1 (up (up A1 1302 (cf a)) 1303 (cf b)) scr := sm_up (sm_up sm_refl _ rfl) _ rfl
    refine k457_54 v2.1 (wm_mono (wq_A (fun v h3 s3 A3 v3 r3 ψ => ?_)) (V_keep v2 E1.2.2.2.2.1.1 (N := a) (D := b) (by rw [up_ne _ _ (by decide), up_at]) (by rw [up_at])))
    obtain ⟨res, z1, z2, z3⟩ := ends_kQ (s1 0) E1.2.2.2.2 m1 (deg_le da (by decide)) (deg_le db (by decide)) mb cab (s' := s3) (A' := A3) (v := v) (bad := 3) (by
      have : up s1 0 (s1 0) = s1 := up_same s1 0
      rw [this]
      exact ψ)
    have fu : full s1 a b ↔ s1 1 = 150 := ⟨fun x => by
      rcases x with x | x | x
      · exact x
      · have := hi_lt da (Nat.le_refl _); omega
      · have := hi_lt db (Nat.le_refl _); omega, .inl⟩
    have tell : getR T s A (k : Int) v s3 A3 := ⟨fun x => absurd w x, fun _ => ⟨s1, A1, φ, fun x => absurd hf x, fun _ => ⟨a, b, res, f1, f2, fun x => z1 (fu.mpr x), fun x => z2 (fun y => x (fu.mp y)), z3⟩⟩⟩
    obtain ⟨x, ex⟩ : ∃ x, v = vi x := by
      by_cases q : s1 1 = 150
      · rw [z1 (fu.mpr q)] at z3
        exact ⟨_, z3.2.1⟩
      · rw [z2 (fun y => q (fu.mp y))] at z3
        exact ⟨_, z3.2.1⟩
    subst ex
    exact k457_59 ⟨_, _, _, _, v3, FR_trans R0 (FR_trans r1 (FR_trans r2 r3)), tell, rfl⟩
  · subst ez
    refine k457_40 (fun x => absurd rfl x) (fun _ => ?_) (c1 := by decide)
    refine k457_43 v1.1 (wm_mono (wq_A (fun v h2 s2 A2 v2 r2 ψ => ?_)) (V_raise v1))
    obtain ⟨ev, ψ2⟩ := ψ
    subst ev
    exact k457_48 ⟨_, _, _, _, v2, FR_trans R0 (FR_trans r1 r2), ⟨fun x => absurd w x, fun _ => ⟨s1, A1, φ, fun _ => ⟨rfl, ψ2⟩, fun x => absurd x hf⟩⟩, rfl⟩
end
