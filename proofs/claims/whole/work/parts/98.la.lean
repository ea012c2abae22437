/-! the class: calls that work on determinants; the call determinant -/
def PS (j : Nat) : Prop := PR j ∨ (356 ≤ j ∧ j < 390)
theorem FX_S : FX PS := fun j p => by unfold PS PR at p; omega
theorem CF_S {k : Nat} {h h' : s_H} (a : FA MS k h h') : CF PS h h' := CF_MS a
theorem CF_RS {h h' : s_H} (a : CF PR h h') : CF PS h h' := CF_sub a (fun j p => .inl p)
/-- what calls on determinants may change -/
def PM (j : Nat) : Prop := PA j ∨ (356 ≤ j ∧ j < 390)
theorem FX_M : FX PM := fun j p => by unfold PM PA at p; omega
theorem CF_SM {h h' : s_H} (a : CF PS h h') : CF PM h h' := CF_sub a (fun j p => by unfold PS PR at p; unfold PM PA; omega)
theorem CF_AM {h h' : s_H} (a : CF PA h h') : CF PM h h' := CF_sub a (fun j p => .inl p)
theorem RM_M {h h' : s_H} {m m' : Nat} (r : RM h m) (a : CF PM h h') (lo : 1376 ≤ h.1) (hm : h'.1 + m' ≤ h.1 + m) : RM h' m' := RM_CF r a (fun j p => (FX_M j p).1) lo hm
theorem MI_A {h h' : s_H} (I : MI h) (a : CF PA h h') (lo : 1376 ≤ h.1) : MI h' := MI_G I (fun j j1 j2 => a.2 j (by unfold PA; omega) (.inl (by omega)))
theorem CA_S {h h' : s_H} {n : Nat} {T : Nat → th} {tx lf lp tk : Int} (H : CA h n T tx lf lp tk) (a : CF PS h h') (A' : AL h' 0) : CA h' n T tx lf lp tk := by
  obtain ⟨⟨h1, lo⟩, h2, _, h3, w, ⟨z1, o1⟩, z2, o2⟩ := H
  have e : ∀ j, (j < 5 ∨ 390 ≤ j) → j < 1376 → s_get h' j = s_get h j := fun j p w => a.2 j (fun q => by unfold PS PR at q; omega) (.inl (by omega))
  exact ⟨⟨(e 1 (by decide) (by decide)).trans h1, Nat.le_trans lo a.1⟩, CT_keep h2 a FX_S lo (e 2 (by decide) (by decide)), A', PF_same h3 (e _ (by decide) (by decide)) (e _ (by decide) (by decide)), PE_same w (e _ (by decide) (by decide)) (e _ (by decide) (by decide)), ⟨z1, OE_same o1 (fun j _ _ => e j (by omega) (by omega))⟩, z2, OE_same o2 (fun j _ _ => e j (by omega) (by omega))⟩
/-- the end of such a call that keeps a thing or throws -/
def CEM (a b g : Nat) (l : List Nat) (h : s_H) (n : Nat) (T : Nat → th) (tx lf lp tk : Int) (res : Sum th Int) : s_O → Prop := fun out => ∃ h' kc ks, kc ≤ a ∧ ks ≤ b ∧ CF PM h h' ∧ h'.1 ≤ h.1 + g ∧ MI h' ∧ match res with
  | .inl t => out = (.inl (some (vi (n : Int))), h', kc, ks) ∧ CA h' (n + 1) (up T n t) tx lf lp tk
  | .inr k => out = (.inr (exl l k), h', kc, ks) ∧ CA h' n T tx lf lp tk
theorem wq_CM {P : s_P} {d : Nat} {cd : s_Cd} {nx : Nat} {ls rest : List Term} {kc ks : Nat} {Q : s_O → Prop} {a b g a' b' g' : Nat} {l : List Nat} {h h0 : s_H} {n : Nat} {T : Nat → th} {tx lf lp tk : Int} {res : Sum th Int} (ret : ∀ (v : Int) (h' : s_H) (x y : Nat), Q (.inl (some (vi v)), h', x, y) → wr P d cd [] (nx, ls, vi v :: rest, h', x, y) Q) (E : CF PM h0 h) (I : MI h) (lo : 1376 ≤ h.1) (hg : h.1 + g ≤ h0.1 + g') (ka : kc + a ≤ a') (kb : ks + b ≤ b') (φ : ∀ out, CEM a' b' g' l h0 n T tx lf lp tk res out → Q out) : ∀ out, CE a b g l h n T tx lf lp tk res out → wq P d cd [] nx ls rest kc ks Q out := by
  intro out ⟨h', x, y, hx, hy, F, hh, w⟩
  have F' := CF_trans E (CF_AM F)
  have I' := MI_A I F lo
  rcases res with t | k
  · obtain ⟨eo, c⟩ := w
    rw [eo]
    exact ret n h' (kc + x) (ks + y) (φ _ ⟨h', kc + x, ks + y, by omega, by omega, F', by omega, I', rfl, c⟩)
  · obtain ⟨eo, c⟩ := w
    rw [eo]
    exact ⟨rfl, φ _ ⟨h', kc + x, ks + y, by omega, by omega, F', by omega, I', rfl, c⟩⟩
section
variable {D : Nat} {h : s_H} {n : Nat} {T : Nat → th} {tx lf lp tk : Int}
theorem CM_x {a b g : Nat} {l : List Nat} {R : Sum th Int → Prop} (H : CA h n T tx lf lp tk) (I : MI h) (k : Int) {e : Nat} (ek : exl l k = e) (r : R (.inr k)) (ha : 1 ≤ a) (hb : 6 ≤ b) : (fun out => ∃ res, R res ∧ CEM a b g l h n T tx lf lp tk res out) (.inr e, h, 0 + 1, 0 + 6) := ⟨.inr k, r, h, 1, 6, ha, hb, CF_refl _ _, by omega, I, by rw [ek], H⟩
theorem z_15 {m : Nat} (hm : m < 16) : zi 24 (m : Int) 15 = (m : Int) := lt16 (p := fun m => zi 24 (m : Int) 15 = (m : Int)) (by decide +kernel) m hm
theorem u_of (I : MI h) {m : Nat} (hm : m < 16) : wm sw_P (D + 1) 141 [.index 354, vi (m : Int)] h (qr (.index (358 + 2 * m)) h) := by
  refine wm_in (cd := sw_c141) (nL := 2) (hd := sw_h141) rfl rfl ?_
  exact k141_0 (v11 := .index (358 + 2 * m)) I.1 I.2.1 rfl (n12 := by rw [z_15 hm, show Int.toNat (m : Int) = m by omega]; exact mns_g hm) (c14 := by rw [z_15 hm]; unfold In3; omega) (c15 := by rw [z_15 hm]; omega)
theorem z_all {r : Nat} (hr : r ≤ 4) : zi 27 1 (r : Int) - 1 = ((2 ^ r - 1 : Nat) : Int) := by
  have : ∀ r : Fin 5, zi 27 1 (r.val : Int) - 1 = ((2 ^ r.val - 1 : Nat) : Int) := by decide +kernel
  exact this ⟨r, by omega⟩
theorem pow_lt {r : Nat} (hr : r ≤ 4) : 2 ^ r - 1 < 2 ^ r ∧ 2 ^ r - 1 < 16 := by
  have : ∀ r : Fin 5, 2 ^ r.val - 1 < 2 ^ r.val ∧ 2 ^ r.val - 1 < 16 := by decide
  exact this ⟨r, by omega⟩
/-- THE CALL determinant -/
theorem u_determinant (H : CA h n T tx lf lp tk) (I : MI h) (rm : RM h 100) {x : Int} (hx : In3 x) : wm sw_P (D + 6) 18 [.index 1, vi x] h (fun out => ∃ res, unS n T (fun k => k = 2) x (detF n) res ∧ CEM 100 4000 100 [3, 1, 0] h n T tx lf lp tk res out) := by
  refine wm_in (cd := sw_c18) (nL := 4) (hd := sw_h18) rfl rfl ?_
  have lo := H.1.2
  obtain ⟨_, _, A, _⟩ := id H
  refine k18_0 H.1.1 (r_ofKind H hx (by decide) (fun a x0 xn ka Ka k0 => ?_) (fun w => CM_x H I 1 rfl (unS_1 w) (by omega) (by omega)) (fun x0 xn w => CM_x H I 2 rfl (unS_2 ⟨x0, xn⟩ w) (by omega) (by omega)))
  obtain ⟨r, w, M, et⟩ := kd_cases.2.2.1 k0
  have sp : ∀ res, detF n (th_ma r w M) res → unS n T (fun k => k = 2) x (detF n) res := fun res w => unS_3 ⟨x0, xn⟩ k0 (by rw [et]; exact w)
  rw [et] at Ka
  refine k18_6 (r_square Ka (fun e => ?_) (fun e => CM_x H I 2 rfl (sp _ ⟨fun _ => rfl, fun q => absurd q e⟩) (by omega) (by omega)))
  subst e
  obtain ⟨r14, _⟩ := KT_rw Ka
  obtain ⟨_, ga⟩ := KT_ce Ka
  obtain ⟨p1, p2⟩ := pow_lt r14.2
  have dM : ∀ i j, i < r → j < r → zp_deg (M i j) 11 := fun i j h1 h2 => KT_d11 Ka h1 h2
  refine k18_11 (z5 := (r : Int)) ga H.1.1 I.1 ?_
  rw [z_all r14.2]
  refine wm_mono (fun out => ?_) (u_find A (by decide) I lo Ka ka p1)
  intro ⟨h1, F1, A1, I1, Fd, eo⟩
  rw [eo]
  have H1 := CA_S H (CF_S F1) A1
  have e1 := F1.1
  refine k18_29 H1.1.1 I1.1 (wm_mono (wq_r ?_) (u_of I1 p2))
  have P := Fd (2 ^ r - 1) p2 p1 (Nat.le_refl _)
  rw [pre_all p2] at P
  refine k18_38 H1.1.1 (wm_mono (fun out => ?_) (u_keepWhole H1 (RM_M rm (CF_SM (CF_S F1)) lo (by omega)) P (deg_le (mnq_deg r14.2 dM p1) (by decide)) (by omega) (bad := 3) (l := [3, 1, 0]) rfl))
  intro ⟨res, r1, r2⟩
  exact wq_CM (fun v h' x y q => k18_41 q) (CF_SM (CF_S F1)) I1 H1.1.2 (by omega) (by omega) (by omega) (fun out c => ⟨res, sp res ⟨fun q => absurd rfl q, fun _ => r1⟩, c⟩) out r2
end
