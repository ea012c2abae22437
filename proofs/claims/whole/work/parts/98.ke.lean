/-! the class: things made and kept -/
def PN : Nat → Prop := fun _ => False
theorem FX_N : FX PN := fun j p => p.elim
theorem CF_NA {P : Nat → Prop} {h h' : s_H} (a : CF PN h h') : CF P h h' := CF_sub a (fun _ p => p.elim)
theorem CF_q {h : s_H} {cc c0 : s_C} (r0 : s_get h h.1 = some c0) : CF PN h (hq h cc) := ⟨Nat.le_succ _, fun j _ w => by
  rw [hq_get r0, if_neg]
  intro e
  have : (hq h cc).1 = h.1 + 1 := rfl
  omega⟩
theorem OE_same {h h' : s_H} {t : Nat} {z : Int} (H : OE h t z) (e : ∀ j, t ≤ j → j < t + 5 → s_get h' j = s_get h j) : OE h' t z := ⟨⟨H.1.1, (e t (by omega) (by omega)).trans H.1.2⟩, PE_same H.2.1 (e _ (by omega) (by omega)) (e _ (by omega) (by omega)), PE_same H.2.2 (e _ (by omega) (by omega)) (e _ (by omega) (by omega))⟩
theorem AL_same {h h' : s_H} {k : Nat} (A : AL h k) (e : ∀ j, 5 ≤ j → j < 39 → s_get h' j = s_get h j) : AL h' k := ⟨(e 5 (by decide) (by decide)).trans A.1, (e 6 (by decide) (by decide)).trans A.2.1, fun i hi2 => PE_same (A.2.2 i hi2) (e _ (by omega) (by omega)) (e _ (by omega) (by omega))⟩
theorem CA_G {h h' : s_H} {n : Nat} {T : Nat → th} {tx lf lp tk : Int} (H : CA h n T tx lf lp tk) (a : CF PN h h') : CA h' n T tx lf lp tk := by
  obtain ⟨⟨h1, lo⟩, h2, A, h3, w, ⟨z1, o1⟩, z2, o2⟩ := H
  have e : ∀ j, j < 1376 → s_get h' j = s_get h j := fun j w => a.2 j id (.inl (by omega))
  exact ⟨⟨(e 1 (by decide)).trans h1, Nat.le_trans lo a.1⟩, CT_keep h2 a FX_N lo (e 2 (by decide)), AL_same A (fun j _ _ => e j (by omega)), PF_same h3 (e _ (by decide)) (e _ (by decide)), PE_same w (e _ (by decide)) (e _ (by decide)), ⟨z1, OE_same o1 (fun j _ _ => e j (by omega))⟩, z2, OE_same o2 (fun j _ _ => e j (by omega))⟩
theorem CA_n {h : s_H} {n : Nat} {T : Nat → th} {tx lf lp tk : Int} (H : CA h n T tx lf lp tk) : n ≤ 150 := by
  obtain ⟨_, ⟨_, _, _, q, _⟩, _⟩ := H
  exact q
section
variable {D : Nat} {h : s_H} {n : Nat} {T : Nat → th} {tx lf lp tk : Int}
theorem u_init2 {q a b : Nat} (q0 : 0 < q) (c : s_get h q = some (1, 8, [vi 0, .null, .null, vi 0, vi 0, .null, .null, vi 0])) : wm sw_P (D + 1) 264 [.index q, .index a, .index b] h (fun out => ∃ h', s_get h' q = some (1, 8, [vi 0, .index a, .index b, vi 0, vi 0, .null, .null, vi 0]) ∧ (∀ j, j ≠ q → s_get h' j = s_get h j) ∧ h'.1 = h.1 ∧ out = (.inl none, h', 0, 0)) := by
  refine wm_in (cd := sw_c264) (nL := 3) (hd := sw_h264) rfl rfl ?_
  have c1 := hp_at (cc := (1, 8, [vi 0, .null, .null, vi 0, vi 0, .null, .null, vi 0])) c
  have c2 := hp_at (cc := (1, 8, [vi 0, .index a, .null, vi 0, vi 0, .null, .null, vi 0])) c1
  have c3 := hp_at (cc := (1, 8, [vi 0, .index a, .index b, vi 0, vi 0, .null, .null, vi 0])) c2
  have c4 := hp_at (cc := (1, 8, [vi 0, .index a, .index b, vi 0, vi 0, .null, .null, vi 0])) c3
  have c5 := hp_at (cc := (1, 8, [vi 0, .index a, .index b, vi 0, vi 0, .null, .null, vi 0])) c4
  have c6 := hp_at (cc := (1, 8, [vi 0, .index a, .index b, vi 0, vi 0, .null, .null, vi 0])) c5
  refine k264_0 c c1 c2 c3 c4 c5 c6 ⟨_, hp_at c6, fun j hj => ?_, rfl, rfl⟩
  exact (hp_ne c6 hj).trans ((hp_ne c5 hj).trans ((hp_ne c4 hj).trans ((hp_ne c3 hj).trans ((hp_ne c2 hj).trans ((hp_ne c1 hj).trans (hp_ne c hj))))))
theorem u_initN {q a : Nat} {x : Int} (q0 : 0 < q) (c : s_get h q = some (1, 8, [vi 0, .null, .null, vi 0, vi 0, .null, .null, vi 0])) : wm sw_P (D + 1) 263 [.index q, vi x, .index a] h (fun out => ∃ h', s_get h' q = some (1, 8, [vi x, .null, .null, vi 0, vi 0, .null, .index a, vi 0]) ∧ (∀ j, j ≠ q → s_get h' j = s_get h j) ∧ h'.1 = h.1 ∧ out = (.inl none, h', 0, 0)) := by
  refine wm_in (cd := sw_c263) (nL := 3) (hd := sw_h263) rfl rfl ?_
  have c1 := hp_at (cc := (1, 8, [vi x, .null, .null, vi 0, vi 0, .null, .null, vi 0])) c
  have c2 := hp_at (cc := (1, 8, [vi x, .null, .null, vi 0, vi 0, .null, .null, vi 0])) c1
  have c3 := hp_at (cc := (1, 8, [vi x, .null, .null, vi 0, vi 0, .null, .null, vi 0])) c2
  have c4 := hp_at (cc := (1, 8, [vi x, .null, .null, vi 0, vi 0, .null, .null, vi 0])) c3
  have c5 := hp_at (cc := (1, 8, [vi x, .null, .null, vi 0, vi 0, .null, .null, vi 0])) c4
  have c6 := hp_at (cc := (1, 8, [vi x, .null, .null, vi 0, vi 0, .null, .null, vi 0])) c5
  refine k263_0 c c1 c2 c3 c4 c5 c6 ⟨_, hp_at c6, fun j hj => ?_, rfl, rfl⟩
  exact (hp_ne c6 hj).trans ((hp_ne c5 hj).trans ((hp_ne c4 hj).trans ((hp_ne c3 hj).trans ((hp_ne c2 hj).trans ((hp_ne c1 hj).trans (hp_ne c hj))))))
theorem u_initM {q a : Nat} {x y : Int} (q0 : 0 < q) (c : s_get h q = some (1, 8, [vi 0, .null, .null, vi 0, vi 0, .null, .null, vi 0])) : wm sw_P (D + 1) 262 [.index q, vi x, vi y, .index a] h (fun out => ∃ h', s_get h' q = some (1, 8, [vi 2, .null, .null, vi x, vi y, .index a, .null, vi 0]) ∧ (∀ j, j ≠ q → s_get h' j = s_get h j) ∧ h'.1 = h.1 ∧ out = (.inl none, h', 0, 0)) := by
  refine wm_in (cd := sw_c262) (nL := 4) (hd := sw_h262) rfl rfl ?_
  have c1 := hp_at (cc := (1, 8, [vi 2, .null, .null, vi 0, vi 0, .null, .null, vi 0])) c
  have c2 := hp_at (cc := (1, 8, [vi 2, .null, .null, vi 0, vi 0, .null, .null, vi 0])) c1
  have c3 := hp_at (cc := (1, 8, [vi 2, .null, .null, vi 0, vi 0, .null, .null, vi 0])) c2
  have c4 := hp_at (cc := (1, 8, [vi 2, .null, .null, vi x, vi 0, .null, .null, vi 0])) c3
  have c5 := hp_at (cc := (1, 8, [vi 2, .null, .null, vi x, vi y, .null, .null, vi 0])) c4
  have c6 := hp_at (cc := (1, 8, [vi 2, .null, .null, vi x, vi y, .index a, .null, vi 0])) c5
  refine k262_0 c c1 c2 c3 c4 c5 c6 ⟨_, hp_at c6, fun j hj => ?_, rfl, rfl⟩
  exact (hp_ne c6 hj).trans ((hp_ne c5 hj).trans ((hp_ne c4 hj).trans ((hp_ne c3 hj).trans ((hp_ne c2 hj).trans ((hp_ne c1 hj).trans (hp_ne c hj))))))
/-- behind keep -/
theorem wq_K {P : s_P} {d nx : Nat} {cd : s_Cd} {ls rest : List Term} {kc ks a b g : Nat} {l : List Nat} {h0 : s_H} {R : Sum th Int → Prop} {t : th} (E : CF PA h0 h) (hg : h.1 ≤ h0.1 + g) (n1 : n < 150) (ka : kc ≤ a) (kb : ks ≤ b) (φ : R (.inl t)) (ret : ∀ h' x y, (fun out => ∃ res, R res ∧ CE a b g l h0 n T tx lf lp tk res out) (.inl (some (vi (n : Int))), h', x, y) → wr P d cd [] (nx, ls, vi (n : Int) :: rest, h', x, y) (fun out => ∃ res, R res ∧ CE a b g l h0 n T tx lf lp tk res out)) : ∀ out, ((n < 150 ∧ ∃ h', CA h' (n + 1) (up T n t) tx lf lp tk ∧ CF PA h h' ∧ h'.1 = h.1 ∧ out = (.inl (some (vi (n : Int))), h', 0, 0)) ∨ (n = 150 ∧ out = (.inr 0, h, 1, 6))) → wq P d cd [] nx ls rest kc ks (fun out => ∃ res, R res ∧ CE a b g l h0 n T tx lf lp tk res out) out := by
  intro out w
  rcases w with ⟨_, h', C, F, e, eo⟩ | ⟨w, _⟩
  · rw [eo]
    exact ret h' _ _ ⟨.inl t, φ, h', kc + 0, ks + 0, by omega, by omega, CF_trans E F, by omega, rfl, C⟩
  · omega
theorem u_keepWhole (H : CA h n T tx lf lp tk) (r : RM h 10) {p L : Nat} {f : zp_R} (hf : PF h p L f) (df : zp_deg f 176) (np : p + 1 < h.1) {bad : Int} {l : List Nat} (eb : exl l bad = 0) : wm sw_P (D + 3) 41 [.index 1, .index p] h (fun out => ∃ res, keeps n f bad res ∧ CE 5 100 10 l h n T tx lf lp tk res out) := by
  refine wm_in (cd := sw_c41) (nL := 2) (hd := sw_h41) rfl rfl ?_
  have n150 := CA_n H
  have lo := H.1.2
  have C1z := C_hi 1
  refine k41_0 H.1.1 (wm_mono (fun out => ?_) (u_needRoom rfl n150 H.1.1))
  intro w
  rcases w with ⟨n1, w⟩ | ⟨n1, w⟩
  · refine wq_v ?_ out w
    obtain ⟨e, g, Pf, b, cg, el, lL⟩ := id hf
    have b1 := b.1
    have e176 : e < 176 := Int.not_le.mp (fun q => b.2.2 e.toNat (by omega) (df _ (by omega)))
    have he := dgp_of b e176
    refine k41_4 (z5 := e) Pf.2.1 (fun w => ?_) (fun w => k41_13 ⟨.inr bad, ⟨fun _ => rfl, fun q => absurd (.inr (.inl (by omega))) q⟩, CE_t H (CF_refl _ _) bad eb (by omega) (by omega) (by omega)⟩) (c7 := by unfold In3; omega)
    obtain ⟨c0, r0⟩ := r h.1 (Nat.le_refl _) (by omega)
    obtain ⟨c1, r1⟩ := r (h.1 + 1) (by omega) (by omega)
    obtain ⟨c2, r2⟩ := r (h.1 + 2) (by omega) (by omega)
    obtain ⟨ha, eha⟩ : ∃ ha, hq h (1, 8, s_df 8) = ha := ⟨_, rfl⟩
    have a1 : ha.1 = h.1 + 1 := by rw [← eha]; rfl
    have aF : CF PN h ha := by rw [← eha]; exact CF_q r0
    have an : ∀ j, j ≠ h.1 → s_get ha j = s_get h j := fun j hj => by rw [← eha, hq_get r0, if_neg hj]
    have ac : s_get ha h.1 = some (1, 8, s_df 8) := by rw [← eha, hq_get r0, if_pos rfl]
    have hfa := PF_same hf (an p (by omega)) (an (p + 1) (by omega))
    refine k41_21 r0 (by rw [eha]; exact PF_c hfa) ?_
    rw [eha]
    refine wm_mono (fun out => ?_) (u_kept hfa b (by omega) (by omega) (c0 := c1) (c1 := c2) (by rw [a1]; exact (an _ (by omega)).trans r1) (by rw [a1]; exact (an _ (by omega)).trans r2))
    intro ⟨hb, Pb, b1', bn, eo⟩
    rw [eo]
    have bF : CF PN ha hb := ⟨by omega, fun j _ w => bn j (by omega) (by omega)⟩
    have bc : s_get hb h.1 = some (1, 8, [vi 0, .null, .null, vi 0, vi 0, .null, .null, vi 0]) := (bn h.1 (by omega) (by omega)).trans ac
    have b1e : s_get hb 1 = some (C1 n tx lf lp tk) := (bn 1 (by omega) (by omega)).trans ((an 1 (by omega)).trans H.1.1)
    refine k41_30 b1e (wm_mono (fun out => ?_) (u_init2 (q := h.1) (a := ha.1) (b := 1276) (by omega) bc))
    intro ⟨hc, cc, cn, c1', eo⟩
    rw [eo]
    refine ⟨rfl, ?_⟩
    have cF : CF PN h hc := ⟨by omega, fun j _ w => (cn j (by omega)).trans ((bn j (by omega) (by omega)).trans (an j (by omega)))⟩
    have Hc := CA_G H cF
    have lk : (if 1 ≤ e + 1 then (e + 1).toNat else 1) ≤ 41 := by split <;> omega
    refine k41_37 Hc.1.1 (wm_mono (wq_K (h0 := h) (t := th_fr f (zp_C 1)) (CF_NA cF) (by omega) n1 (by show 0 + 1 + 2 + 0 ≤ 5; omega) (by show 0 + 8 + (2 + _) + 0 ≤ 100; omega) ⟨fun q => ?_, fun _ => rfl⟩ (fun h' x y q => k41_40 q)) (u_keep Hc (c := h.1) (t := th_fr f (zp_C 1)) ⟨by omega, by omega⟩ ⟨ha.1, _, 1276, 1, cc, .inr ⟨by omega, by omega⟩, .inl rfl, PF_same Pb (cn _ (by omega)) (cn _ (by omega)), Hc.2.2.2.1, fun i hi2 => b.2.1 i (by omega), deg_le (zp_C_deg 1) (by decide), ⟨0, rfl, zp_C_deg 1⟩, co_1 f⟩ cc))
    exfalso
    omega
  · rw [w]
    exact ⟨rfl, .inr bad, ⟨fun _ => rfl, fun q => absurd (.inl (by omega)) q⟩, CE_t H (CF_refl _ _) bad eb (by omega) (by omega) (by omega)⟩
end
