/-! the class: the call invariant -/
theorem quo_41 {f g Q R : zp_R} {m : Nat} (df : zp_deg f 41) (dm : dgp g m) (e : f = zp_add (zp_mul g Q) R) (dR : zp_deg R m) : zp_deg Q 41 := by
  obtain ⟨ef1, bf1⟩ := dgp_ex 41 df
  by_cases fm : ef1 < m
  · have fz : zp_deg f m := dgp_deg bf1 fm
    have gq : zp_deg (zp_mul g Q) m := by
      have : zp_mul g Q = zp_add f (zp_neg R) := by rw [e]; exact @cx_dv zp_R zp_ring _ _
      rw [this]
      refine deg_add fz (fun i hi2 => ?_)
      show -(R.1 i) = 0
      rw [dR i hi2]
      decide
    by_cases q0 : Q = zp_C 0
    · rw [q0]
      exact fun i _ => zp_C00 i
    · obtain ⟨nq, hq⟩ := Q.2
      obtain ⟨k, dk, _⟩ := dgp_no q0 hq
      have := dgp_mul dm dk (by omega) (by omega)
      exact absurd (gq (m + k) (by omega)) (this.2.2 (m + k) (by omega))
  · have f41 := fD (L := 41) df (by omega) ef1 bf1
    obtain ⟨k, ek⟩ : ∃ k : Nat, ef1 = k := ⟨ef1.toNat, by omega⟩
    subst ek
    exact deg_le (quo_dgp e bf1 dm dR (by omega)) (by omega)
theorem CA_O {h h' : s_H} {n : Nat} {T : Nat → th} {tx lf lp tk : Int} (H : CA h n T tx lf lp tk) (a : CF PO8 h h') (A' : AL h' 0) (w : PE h' 1278 192) : CA h' n T tx lf lp tk := by
  obtain ⟨⟨h1, lo⟩, h2, _, h3, _, ⟨z1, o1⟩, z2, o2⟩ := H
  have e : ∀ j, (j < 5 ∨ 390 ≤ j) → j ≠ 1278 → j ≠ 1279 → j < 1376 → s_get h' j = s_get h j := fun j p q1 q2 w => a.2 j (fun q => by unfold PO8 PS PR at q; omega) (.inl (by omega))
  exact ⟨⟨(e 1 (by decide) (by decide) (by decide) (by decide)).trans h1, Nat.le_trans lo a.1⟩, CT_keep h2 a FX_O lo (e 2 (by decide) (by decide) (by decide) (by decide)), A', PF_same h3 (e _ (by decide) (by decide) (by decide) (by decide)) (e _ (by decide) (by decide) (by decide) (by decide)), w, ⟨z1, OE_same o1 (fun j _ _ => e j (by omega) (by omega) (by omega) (by omega))⟩, z2, OE_same o2 (fun j _ _ => e j (by omega) (by omega) (by omega) (by omega))⟩
theorem CF_OM {h h' : s_H} (a : CF PO8 h h') : CF PM h h' := CF_sub a (fun j p => by unfold PO8 PS PR at p; unfold PM PA; omega)
theorem CF_o {o k : Nat} (oM : (7 ≤ o ∧ o + 1 < 39) ∨ o = 1278) {h h' : s_H} (F : FA (o :: MS) k h h') : CF PO8 h h' := CF_FA F (fun p hp => by
  rcases List.mem_cons.mp hp with q | q
  · subst q
    unfold PO8 PS PR
    omega
  · have := MS_b p q
    unfold PO8 PS PR
    omega) (fun j j1 j2 => .inl (.inl ⟨j1, j2⟩))
section
variable {D : Nat} {h : s_H}
theorem u_setInvariant (A : AL h 0) (I : MI h) (lo : 1376 ≤ h.1) {a r w : Nat} {M : Nat → Nat → zp_R} (K : KT h a (th_ma r w M)) (ka : kt h a) (wd : PE h 1278 192) {m : Nat} (hm : m < 5) (ne : ∃ f, msz r w M m f ∧ f ≠ zp_C 0) : wm sw_P (D + 7) 146 [.index 354, .index a, vi (m : Int), .index 1278] h (fun out => ∃ h' G1 G2 Q, gdS (msz r w M (m + 1)) G1 ∧ gdS (msz r w M m) G2 ∧ G2 ≠ zp_C 0 ∧ quo G1 G2 Q ∧ zp_deg Q 41 ∧ PF h' 1278 192 Q ∧ CF PO8 h h' ∧ h'.1 = h.1 ∧ AL h' 0 ∧ MI h' ∧ out = (.inl none, h', 0, 0)) := by
  refine wm_in (cd := sw_c146) (nL := 6) (hd := sw_h146) rfl rfl ?_
  refine k146_0 I.1 A.1 (wm_mono (wq_r ?_) (u_mark A))
  refine k146_7 I.1 A.1 (r_lend (RW_0 A (by omega)) (FA_refl [] 0 h) (by omega) (fun h1 R1' E1 => ?_))
  have R1 : RW h1 0 1 [zp_C 0] := R1'
  have A1 : AL h1 1 := R1.1
  have I1 := MI_FA I E1
  have F1 := CF_R E1
  have lo1 : 1376 ≤ h1.1 := by rw [E1.1]; exact lo
  have ka1 : kt h1 a := kt_le ka (by rw [E1.1]; exact Nat.le_refl _)
  have K1 := KT_keep K ka F1 FX_R lo
  have P7 : PF h1 7 192 (zp_C 0) := RW_p R1 0 rfl
  refine k146_16 I1.1 (wm_mono (fun out => ?_) (u_setDivisor A1 (by decide) I1 lo1 K1 ka1 (PF_E P7) (.inl ⟨0, by omega, rfl, rfl⟩) (.inl ⟨by omega, by omega⟩) (.inl (by omega)) (by omega) (size := m) (by omega)))
  intro ⟨h2, G2, E2, A2, I2, hG2, dG2, P2, eo⟩
  rw [eo]
  have F2 := CF_o (o := 7) (.inl (by omega)) E2
  have lo2 : 1376 ≤ h2.1 := by rw [E2.1]; exact lo1
  have ka2 : kt h2 a := kt_le ka1 (by rw [E2.1]; exact Nat.le_refl _)
  have K2 := KT_keep K1 ka1 F2 FX_O lo1
  have wd1 : PE h1 1278 192 := PE_A wd E1 (.inr (by decide)) nilA
  have wd2 : PE h2 1278 192 := PE_A wd1 E2 (.inr (by decide)) (fun p hp => by
    rcases List.mem_cons.mp hp with q | q
    · subst q
      unfold apt
      omega
    · have := MS_b p q
      unfold apt
      omega)
  refine k146_26 I2.1 ?_
  rw [show (m : Int) + 1 = ((m + 1 : Nat) : Int) by omega]
  refine wm_mono (fun out => ?_) (u_setDivisor A2 (by decide) I2 lo2 K2 ka2 wd2 (.inr (by decide)) (.inr (by decide)) (.inr rfl) (by omega) (size := m + 1) (by omega))
  intro ⟨h3, G1, E3, A3, I3, hG1, dG1, P3, eo⟩
  rw [eo]
  have F3 := CF_o (o := 1278) (.inr rfl) E3
  have P7' : PF h3 7 192 G2 := PF_A P2 E3 (.inl ⟨by omega, by omega⟩) (fun p hp => by
    rcases List.mem_cons.mp hp with q | q
    · subst q
      unfold apt
      omega
    · have := MS_b p q
      unfold apt
      omega)
  have G20 : G2 ≠ zp_C 0 := fun q => by
    obtain ⟨f, f1, f2⟩ := ne
    exact f2 ((gd_is0 hG2).mp q f f1)
  obtain ⟨d, dm, d41⟩ := dgp_no G20 dG2
  have hd := dgp_of dm (by omega)
  refine k146_35 I3.1 A3.1 (wm_mono (wq_AN (fun h4 ⟨Q, R, e, dR, P⟩ F4 A4 => ?_)) (u_setDivided A3 (by decide) P3 P7' (PF_E P3) (.inr (by decide)) (.inl ⟨by omega, by omega⟩) (.inr (by decide)) dm (fD dG1 (by omega)) (z := 1) (by decide) (fun Q R e dR => by
    rw [if_neg (by decide)]
    exact fD (quo_41 dG1 dm e dR) (by omega))))
  rw [if_neg (by decide)] at P
  have m4 : ∀ j, 354 ≤ j → j < 390 → s_get h4 j = s_get h3 j := fun j j1 j2 => F4.2 j (fun q hq => by
    have : q = 1278 := by simpa using hq
    omega) (.inr (by omega)) (by omega)
  have I4 := MI_G I3 m4
  have F4' : CF PO8 h3 h4 := CF_FA F4 (fun p hp => by
    have : p = 1278 := by simpa using hp
    unfold PO8
    omega) (fun j j1 j2 => .inl (.inl ⟨j1, j2⟩))
  refine k146_47 I4.1 A4.1 (wm_mono (wq_AN (fun h5 o5 F5 A5 => k146_56 ⟨h5, G1, G2, Q, hG1, hG2, G20, ⟨R, e, by rw [hd]; exact dR⟩, quo_41 dG1 dm e dR, PF_same P (o5 _ (by decide)) (o5 _ (by decide)), CF_trans (CF_sub F1 (fun j p => .inl (.inl p))) (CF_trans F2 (CF_trans F3 (CF_trans F4' (CF_sub (CF_R F5) (fun j p => .inl (.inl p)))))), ?_, A5, MI_G I4 (fun j j1 _ => o5 j (by omega)), rfl⟩)) (u_release A4 (by omega)))
  have a1 := E1.1
  have a2 := E2.1
  have a3 := E3.1
  have a4 := F4.1
  have a5 := F5.1
  omega
end
section
variable {D : Nat} {h : s_H} {n : Nat} {T : Nat → th} {tx lf lp tk : Int}
theorem msz_ne {R C : Nat} (hR : R ≤ 4) (hC : C ≤ 4) {M : Nat → Nat → zp_R} {m k : Nat} (R1 : rkS R C M m) (hk : k < m) : ∃ f, msz R C M k f ∧ f ≠ zp_C 0 := by
  obtain ⟨_, q, _⟩ := R1
  obtain ⟨g, hg, g0⟩ := q (by omega)
  refine Classical.byContradiction (fun no => ?_)
  have hz := msz_z2 hR hC (k := k) (fun f hf => Classical.byContradiction (fun f0 => no ⟨f, hf, f0⟩)) (m - k)
  rw [show k + (m - k) = m by omega] at hz
  exact g0 (hz g hg)
/-- THE CALL invariant -/
theorem u_invariant (H : CA h n T tx lf lp tk) (I : MI h) (rm : RM h 100) {x y : Int} (hx : In3 x) (hy : In3 y) : wm sw_P (D + 8) 31 [.index 1, vi x, vi y] h (fun out => ∃ res, unS n T (fun k => k = 2) x (invF n y) res ∧ CEM 100 4000 100 [3, 1, 0] h n T tx lf lp tk res out) := by
  refine wm_in (cd := sw_c31) (nL := 4) (hd := sw_h31) rfl rfl ?_
  have lo := H.1.2
  obtain ⟨_, _, A, _⟩ := id H
  refine k31_0 H.1.1 (r_ofKind H hx (by decide) (fun a x0 xn ka Ka k0 => ?_) (fun w => CM_x H I 1 rfl (unS_1 w) (by omega) (by omega)) (fun x0 xn w => CM_x H I 2 rfl (unS_2 ⟨x0, xn⟩ w) (by omega) (by omega)))
  obtain ⟨r, w, M, et⟩ := kd_cases.2.2.1 k0
  have sp : ∀ res, invF n y (th_ma r w M) res → unS n T (fun k => k = 2) x (invF n y) res := fun res w => unS_3 ⟨x0, xn⟩ k0 (by rw [et]; exact w)
  rw [et] at Ka
  obtain ⟨r14, w14⟩ := KT_rw Ka
  refine k31_6 H.1.1 I.1 (wm_mono (fun out => ?_) (u_rankOf A (by decide) I lo Ka ka))
  intro ⟨h1, m, F1, A1, I1, R1, m4, eo⟩
  rw [eo]
  have C1' := CF_MA F1
  have H1 := CA_S H C1' A1
  have e1 := F1.1
  have Ka1 := KT_keep Ka ka C1' FX_S lo
  have ka1 : kt h1 a := kt_le ka (by omega)
  refine k31_16 (r_below hy (by unfold In3; omega) (fun y0 => ?_) (fun q => ⟨.inr 1, sp _ ⟨m, R1, fun _ => rfl, fun q2 => absurd q2 q⟩, h1, _, _, by omega, by omega, CF_SM C1', by omega, I1, rfl, H1⟩))
  obtain ⟨y', ey⟩ : ∃ y' : Nat, y = y' := ⟨y.toNat, by omega⟩
  subst ey
  have wd1 : PE h1 1278 192 := H1.2.2.2.2.1
  refine k31_19 H1.1.1 I1.1 (wm_mono (fun out => ?_) (u_setInvariant A1 I1 H1.1.2 Ka1 ka1 wd1 (m := y') (by omega) (msz_ne r14.2 w14.2 R1 (by omega))))
  intro ⟨h2, G1, G2, Q, g1, g2, g3, g4, dQ, P2, C2, e2, A2, I2, eo⟩
  rw [eo]
  have H2 := CA_O H1 C2 A2 (PF_E P2)
  have C12 := CF_trans (CF_SM C1') (CF_OM C2)
  refine k31_32 H2.1.1 (wm_mono (fun out => ?_) (u_keepWhole H2 (RM_M rm C12 lo (by omega)) P2 (deg_le dQ (by decide)) (by omega) (bad := 3) (l := [3, 1, 0]) rfl))
  intro ⟨res, r1, r2⟩
  exact wq_CM (fun v h' x y q => k31_40 q) C12 I2 H2.1.2 (by omega) (by omega) (by omega) (fun out c => ⟨res, sp res ⟨m, R1, fun q => absurd y0 q, fun _ => ⟨G1, G2, Q, g1, g2, g3, g4, r1⟩⟩, c⟩) out r2
end
