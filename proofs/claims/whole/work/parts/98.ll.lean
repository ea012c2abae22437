/-! the class: a call's end with any frame and any workers' state; the call least -/
def CEP (P : Nat → Prop) (I : s_H → Prop) (a b g : Nat) (l : List Nat) (h : s_H) (n : Nat) (T : Nat → th) (tx lf lp tk : Int) (res : Sum th Int) : s_O → Prop := fun out => ∃ h' kc ks, kc ≤ a ∧ ks ≤ b ∧ CF P h h' ∧ h'.1 ≤ h.1 + g ∧ I h' ∧ match res with
  | .inl t => out = (.inl (some (vi (n : Int))), h', kc, ks) ∧ CA h' (n + 1) (up T n t) tx lf lp tk
  | .inr k => out = (.inr (exl l k), h', kc, ks) ∧ CA h' n T tx lf lp tk
theorem wq_CP {Pf : Nat → Prop} {I : s_H → Prop} {P : s_P} {d : Nat} {cd : s_Cd} {nx : Nat} {ls rest : List Term} {kc ks : Nat} {Q : s_O → Prop} {a b g a' b' g' : Nat} {l : List Nat} {h h0 : s_H} {n : Nat} {T : Nat → th} {tx lf lp tk : Int} {res : Sum th Int} (hP : ∀ j, PA j → Pf j) (hI : ∀ h1 h2, CF PA h1 h2 → 1376 ≤ h1.1 → I h1 → I h2) (ret : ∀ (v : Int) (h' : s_H) (x y : Nat), Q (.inl (some (vi v)), h', x, y) → wr P d cd [] (nx, ls, vi v :: rest, h', x, y) Q) (E : CF Pf h0 h) (J : I h) (lo : 1376 ≤ h.1) (hg : h.1 + g ≤ h0.1 + g') (ka : kc + a ≤ a') (kb : ks + b ≤ b') (φ : ∀ out, CEP Pf I a' b' g' l h0 n T tx lf lp tk res out → Q out) : ∀ out, CE a b g l h n T tx lf lp tk res out → wq P d cd [] nx ls rest kc ks Q out := by
  intro out ⟨h', x, y, hx, hy, F, hh, w⟩
  have F' := CF_trans E (CF_sub F hP)
  have J' := hI h h' F lo J
  rcases res with t | k
  · obtain ⟨eo, c⟩ := w
    rw [eo]
    exact ret n h' (kc + x) (ks + y) (φ _ ⟨h', kc + x, ks + y, by omega, by omega, F', by omega, J', rfl, c⟩)
  · obtain ⟨eo, c⟩ := w
    rw [eo]
    exact ⟨rfl, φ _ ⟨h', kc + x, ks + y, by omega, by omega, F', by omega, J', rfl, c⟩⟩
/-- the table's state, and the rules' cell -/
def LI (h : s_H) : Prop := RUc h ∧ ∃ H W σ G, LR h H W σ G
theorem LI_A (h1 h2 : s_H) (a : CF PA h1 h2) (lo : 1376 ≤ h1.1) (I : LI h1) : LI h2 := by
  obtain ⟨r, H, W, σ, G, L⟩ := I
  have e : ∀ j, 39 ≤ j → j < 1278 → s_get h2 j = s_get h1 j := fun j j1 j2 => a.2 j (by unfold PA; omega) (.inl (by omega))
  exact ⟨(e 390 (by decide) (by decide)).trans r, H, W, σ, G, LR_G L (fun j j1 _ => e j (by omega) (by omega))⟩
def PX (j : Nat) : Prop := PA j ∨ (39 ≤ j ∧ j < 107)
theorem FX_X : FX PX := fun j p => by unfold PX PA at p; omega
theorem CF_PX {h h' : s_H} (a : CF PL h h') : CF PX h h' := CF_sub a (fun j p => by unfold PL PR at p; unfold PX PA; omega)
theorem RM_X {h h' : s_H} {m m' : Nat} (r : RM h m) (a : CF PX h h') (lo : 1376 ≤ h.1) (hm : h'.1 + m' ≤ h.1 + m) : RM h' m' := RM_CF r a (fun j p => (FX_X j p).1) lo hm
theorem CA_L {h h' : s_H} {n : Nat} {T : Nat → th} {tx lf lp tk : Int} (H : CA h n T tx lf lp tk) (a : CF PL h h') (A' : AL h' 0) (w : PE h' 1278 192) : CA h' n T tx lf lp tk := by
  obtain ⟨⟨h1, lo⟩, h2, _, h3, _, ⟨z1, o1⟩, z2, o2⟩ := H
  have e : ∀ j, (j < 5 ∨ 107 ≤ j) → j ≠ 1278 → j ≠ 1279 → j < 1376 → s_get h' j = s_get h j := fun j p q1 q2 w => a.2 j (fun q => by unfold PL PR at q; omega) (.inl (by omega))
  exact ⟨⟨(e 1 (by decide) (by decide) (by decide) (by decide)).trans h1, Nat.le_trans lo a.1⟩, CT_keep h2 a FX_PL lo (e 2 (by decide) (by decide) (by decide) (by decide)), A', PF_same h3 (e _ (by decide) (by decide) (by decide) (by decide)) (e _ (by decide) (by decide) (by decide) (by decide)), w, ⟨z1, OE_same o1 (fun j _ _ => e j (by omega) (by omega) (by omega) (by omega))⟩, z2, OE_same o2 (fun j _ _ => e j (by omega) (by omega) (by omega) (by omega))⟩
section
variable {D : Nat} {h : s_H} {n : Nat} {T : Nat → th} {tx lf lp tk : Int}
theorem CP_x {P : Nat → Prop} {I : s_H → Prop} {a b g : Nat} {l : List Nat} {R : Sum th Int → Prop} (H : CA h n T tx lf lp tk) (J : I h) (k : Int) {e : Nat} (ek : exl l k = e) (r : R (.inr k)) (ha : 1 ≤ a) (hb : 6 ≤ b) : (fun out => ∃ res, R res ∧ CEP P I a b g l h n T tx lf lp tk res out) (.inr e, h, 0 + 1, 0 + 6) := ⟨.inr k, r, h, 1, 6, ha, hb, CF_refl _ _, by omega, J, by rw [ek], H⟩
/-- THE CALL least -/
theorem u_least (sr : swapR (D + 2)) (H : CA h n T tx lf lp tk) (J : LI h) (rm : RM h 100) {x y : Int} (hx : In3 x) (hy : In3 y) : wm sw_P (D + 5) 43 [.index 1, vi x, vi y] h (fun out => ∃ res, leaS n T x y res ∧ CEP PX LI 100 4000 100 [3, 1, 0] h n T tx lf lp tk res out) := by
  refine wm_in (cd := sw_c43) (nL := 5) (hd := sw_h43) rfl rfl ?_
  have lo := H.1.2
  obtain ⟨_, _, A, _, wd, _⟩ := id H
  have no1 : ¬ (0 ≤ x ∧ x < (n : Int) ∧ 0 ≤ y ∧ y < (n : Int)) → leaS n T x y (.inr 1) := fun w => ⟨1, wS_1 w, fun _ => rfl, fun q => absurd q (by first | (simp [kd]; done) | decide)⟩
  refine k43_0 H.1.1 (r_thing H hx (fun a x0 xn ka Ka => ?_) (fun w => CP_x H J 1 rfl (no1 (fun q => w ⟨q.1, q.2.1⟩)) (by omega) (by omega)))
  refine k43_5 H.1.1 (r_thing H hy (fun b y0 yn kb Kb => ?_) (fun w => CP_x H J 1 rfl (no1 (fun q => w q.2.2)) (by omega) (by omega)))
  have b0 : 0 ≤ x ∧ x < (n : Int) ∧ 0 ≤ y ∧ y < (n : Int) := ⟨x0, xn, y0, yn⟩
  have no2 : (∀ f, T x.toNat ≠ th_fr f (zp_C 1)) ∨ (∀ f, T y.toNat ≠ th_fr f (zp_C 1)) → leaS n T x y (.inr 2) := fun w => ⟨2, wS_2 b0 w, fun _ => rfl, fun q => absurd q (by first | (simp [kd]; done) | decide)⟩
  refine k43_11 (r_whole Ka ka (fun f ef df => ?_) (fun w => CP_x H J 2 rfl (no2 (.inl w)) (by omega) (by omega)))
  refine k43_17 (r_whole Kb kb (fun g eg dg => ?_) (fun w => CP_x H J 2 rfl (no2 (.inr w)) (by omega) (by omega)))
  have sp : ∀ res, leaF n (th_fr f (zp_C 1)) (th_fr g (zp_C 1)) res → leaS n T x y res := fun res w => ⟨0, wS_0 b0 ef eg, fun q => absurd rfl q, fun _ => by rw [ef, eg]; exact w⟩
  obtain ⟨q1, l1, r1, m1, ga, Pf, _, _, _, _, _, _, k1⟩ := KT_whole Ka ef lo
  obtain ⟨q2, l2, r2, m2, gb, Pg, _, _, _, _, _, _, k2⟩ := KT_whole Kb eg lo
  obtain ⟨z, _, Po, bz, _, el, lL⟩ := id Pg
  have b1 := bz.1
  have zh := dgp_of bz (by have := fD (L := 41) dg (by omega) z bz; omega)
  refine k43_22 (z10 := z) gb Po.2.1 (fun w => ?_) (fun w => k43_34 (CP_x H J 2 rfl (sp _ ⟨fun _ => rfl, fun q => absurd q (by omega)⟩) (by omega) (by omega))) (c12 := by unfold In3; omega)
  obtain ⟨m, em⟩ : ∃ m : Nat, z = m := ⟨z.toNat, by omega⟩
  subst em
  have m40 := fD (L := 41) dg (by omega) (m : Int) bz
  obtain ⟨RU, H0, W0, σ0, G0, LL⟩ := id J
  refine k43_42 H.1.1 ga gb RU (wm_mono (fun out => ?_) (u_setLeast sr A lo RU LL Pf Pg k1 k2 df bz (by omega) wd))
  intro ⟨h1, L, dd, hL, ddm, dL, P1, C1', c1, A1, LI1, eo⟩
  rw [eo]
  have H1 := CA_L H C1' A1 (PF_E P1)
  have J1 : LI h1 := ⟨(C1'.2 390 (fun p => by unfold PL PR at p; omega) (.inl (by omega))).trans RU, LI1⟩
  refine k43_62 H1.1.1 (wm_mono (fun out => ?_) (u_keepWhole H1 (RM_X rm (CF_PX C1') lo (by omega)) P1 (deg_le dL (by decide)) (by omega) (bad := 3) (l := [3, 1, 0]) rfl))
  intro ⟨res, r1, r2⟩
  exact wq_CP (fun j p => .inl p) LI_A (fun v h' x y q => k43_70 q) (CF_PX C1') J1 H1.1.2 (by omega) (by omega) (by omega) (fun out c => ⟨res, sp res ⟨fun q => absurd q (by omega), fun _ => ⟨L, dd, hL, dL, r1⟩⟩, c⟩) out r2
end
