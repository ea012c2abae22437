/-! the reference's areWhole and common in the picture -/
theorem one_C {f : zp_R} (hd : zp_deg f 176) : (hi f = 0 ∧ cf f 0 = 1) ↔ f = zp_C 1 := by
  refine ⟨fun w => zp_ext (fun i => ?_), fun w => ?_⟩
  · show f.1 i = if i = 0 then (1 : zp_F) else 0
    by_cases hi2 : i = 0
    · rw [if_pos hi2, hi2]
      exact F_ext w.2
    · rw [if_neg hi2]
      exact hi_deg hd i (by omega)
  · subst w
    exact ⟨hi_mo (n := 0) rfl (zp_C_deg 1) hd, rfl⟩
/-- the code of two whole ones -/
def wS (cnt : Int) (T : Nat → th) (x y : Int) (c : Int) : Prop :=
  (¬ (0 ≤ x ∧ x < cnt ∧ 0 ≤ y ∧ y < cnt) → c = 1) ∧ ((0 ≤ x ∧ x < cnt ∧ 0 ≤ y ∧ y < cnt) → match T x.toNat, T y.toNat with
  | .inl (_, b), .inl (_, e) => (b = zp_C 1 ∧ e = zp_C 1 → c = 0) ∧ (¬ (b = zp_C 1 ∧ e = zp_C 1) → c = 2)
  | _, _ => c = 2)
def wQ (s : Nat → Int) (A : Nat → Nat → Int) (T : Nat → th) (x y : Int) : Term → (Nat → Int) → (Nat → Nat → Int) → Prop := fun v s1 A1 => sm A A1 scr ∧ ∃ c, wS (s 1) T x y c ∧ s1 = up s 0 c ∧ ((c ≠ 0 ∧ v = vi 0) ∨ (c = 0 ∧ v = vi 1 ∧ ∃ (f k : Nat) (a p : zp_R), x = f ∧ y = k ∧ (f : Int) < s 1 ∧ (k : Int) < s 1 ∧ T f = .inl (a, zp_C 1) ∧ T k = .inl (p, zp_C 1) ∧ A1 1298 = cf a ∧ A1 1300 = cf p ∧ zp_deg a 41 ∧ zp_deg p 41))
section
variable {d : Nat} {h : s_H} {s : Nat → Int} {A : Nat → Nat → Int}
theorem V_areWhole (hv : RV h s A) {T : Nat → th} (hR : RI s A T) {x y : Int} (hx : In3 x) (hy : In3 y) : wm sw_P (d + 3) 402 [.index 1290, vi x, vi y] h (RA h (wQ s A T x y)) := by
  refine wm_in (cd := sw_c402) (nL := 3) (hd := sw_h402) rfl rfl ?_
  have b0 := hR.1.1
  have v0 : ∀ z : Int, RV (hp h 1290 (1, 11, (rF s).set 0 (vi z))) (up s 0 z) A := fun z => RV_fld hv (up s 0 z) (rF_0 s z)
  have r0 : ∀ z : Int, FR h (hp h 1290 (1, 11, (rF s).set 0 (vi z))) := fun z => FR_fld hv _
  have bad : ∀ z : Int, 0 < z → z < 3 → wS (s 1) T x y z → wr sw_P (d + 2) sw_c402 sw_h402 (44, [.index 1290, vi x, vi y], [vi z, .index 1290], h, 0, 0) (RA h (wQ s A T x y)) := by
    intro z hz2 hz3 hs
    refine k402_44 (z10 := z) hv.1 (hp_at hv.1) (fun w => absurd w (by omega)) (fun _ => ?_) (c12 := by unfold In3; omega)
    exact k402_54 ⟨_, _, _, _, v0 z, r0 z, ⟨sm_refl, z, hs, rfl, .inl ⟨by omega, rfl⟩⟩, rfl⟩
  refine k402_0 hv.1 (wm_mono (wq_r ?_) (V_isThere hv b0 hx))
  by_cases qx : 0 ≤ x ∧ x < s 1
  · rw [if_pos qx]
    refine k402_6 (fun w => absurd w (by decide)) (fun _ => ?_)
    refine k402_9 hv.1 (wm_mono (wq_r ?_) (V_isThere hv b0 hy))
    by_cases qy : 0 ≤ y ∧ y < s 1
    · rw [if_pos qy]
      refine k402_14 (fun _ => ?_) (fun w => absurd (by decide) w)
      obtain ⟨f, ef⟩ : ∃ f : Nat, x = f := ⟨x.toNat, by omega⟩
      obtain ⟨k, ek⟩ : ∃ k : Nat, y = k := ⟨y.toNat, by omega⟩
      subst ef
      subst ek
      have xf : (f : Int).toNat = f := by omega
      have yk : (k : Int).toNat = k := by omega
      have hf := hR.2.2 f qx.2
      have hk := hR.2.2 k qy.2
      have k3 := hR.1.2.1 f (by omega)
      have k4 := hR.1.2.1 k (by omega)
      have i3 : In3 (A 1291 (f : Int).toNat) := by rw [xf]; unfold In3; omega
      have i4 : In3 (A 1291 (k : Int).toNat) := by rw [yk]; unfold In3; omega
      have ik : A 1291 (f : Int).toNat = kd (T f) := isT_kd hf
      have jk : A 1291 (k : Int).toNat = kd (T k) := isT_kd hk
      have sp : ∀ c : Int, (match T f, T k with
        | .inl (_, b), .inl (_, e) => (b = zp_C 1 ∧ e = zp_C 1 → c = 0) ∧ (¬ (b = zp_C 1 ∧ e = zp_C 1) → c = 2)
        | _, _ => c = 2) → wS (s 1) T f k c := fun c w => ⟨fun w2 => absurd ⟨qx.1, qx.2, qy⟩ w2, fun _ => by rw [xf, yk]; exact w⟩
      refine k402_21 hv.1 (wm_mono (wq_r ?_) (V_is hv (x := (f : Int)) (k := 0) ⟨by omega, by omega⟩ i3 (by decide)))
      rw [ik]
      rcases ef1 : T f with ⟨a, b⟩ | t
      · rw [ef1] at hf sp
        refine k402_27 (fun w => (kdn w rfl).elim) (fun _ => ?_)
        refine k402_30 hv.1 (wm_mono (wq_r ?_) (V_is hv (x := (k : Int)) (k := 0) ⟨by omega, by omega⟩ i4 (by decide)))
        rw [jk]
        rcases ek1 : T k with ⟨p, e⟩ | t
        · rw [ek1] at hk sp
          refine k402_36 (fun _ => ?_) (fun w => (w (show (1 : Int) ≠ 0 by decide)).elim)
          obtain ⟨_, p1, p2, p3, p4⟩ := hf
          obtain ⟨_, p5, p6, p7, p8⟩ := hk
          have d1 := fr_deg p1
          have d2 := fr_deg p2
          have d3 := fr_deg p5
          have d4 := fr_deg p6
          refine k402_43 (k402_44 (z10 := 0) hv.1 (hp_at hv.1) (fun _ => ?_) (fun w => absurd (by decide) w))
          refine k402_56 (v0 0).1 (wm_mono (wq_Q (fun h1 w1 r1 => ?_)) (V_load (v0 0) (t := 1298) (b := 1299) rfl rfl (by decide) (x := (f : Int)) ⟨by omega, by omega⟩ (RB_t hR.1) (RB_b hR.1)))
          refine k402_69 w1.1 (wm_mono (wq_Q (fun h2 w2 r2 => ?_)) (V_load w1 (t := 1300) (b := 1301) rfl rfl (by decide) (x := (k : Int)) ⟨by omega, by omega⟩ (fun i hi2 => by rw [up_ne _ _ (by decide), up_ne _ _ (by decide)]; exact RB_t hR.1 i hi2) (fun i hi2 => by rw [up_ne _ _ (by decide), up_ne _ _ (by decide)]; exact RB_b hR.1 i hi2)))
          rw [xf] at w2
          generalize eA : up (up (up (up A 1298 (fp A 1292 f)) 1299 (fp A 1293 f)) 1300 (fp (up (up A 1298 (fp A 1292 f)) 1299 (fp A 1293 f)) 1292 (k : Int).toNat)) 1301 (fp (up (up A 1298 (fp A 1292 f)) 1299 (fp A 1293 f)) 1293 (k : Int).toNat) = A1 at w2
          have m1 : sm A A1 scr := by rw [← eA]; exact sm_up (sm_up (sm_up (sm_up sm_refl _ rfl) _ rfl) _ rfl) _ rfl
          have g98 : A1 1298 = cf a := by rw [← eA, up_ne _ _ (by decide), up_ne _ _ (by decide), up_ne _ _ (by decide), up_at, p1]
          have g99 : A1 1299 = cf b := by rw [← eA, up_ne _ _ (by decide), up_ne _ _ (by decide), up_at, p2]
          have g00 : A1 1300 = cf p := by rw [← eA, up_ne _ _ (by decide), up_at, yk]; exact p5
          have g01 : A1 1301 = cf e := by rw [← eA, up_at, yk]; exact p6
          have fin : ∀ z : Int, z = 0 ∨ z = 2 → wS (s 1) T f k z → (z = 0 → b = zp_C 1 ∧ e = zp_C 1) → wr sw_P (d + 2) sw_c402 sw_h402 (108, [.index 1290, vi (f : Int), vi (k : Int)], [vi z, .index 1290], h2, 0, 0) (RA h (wQ s A T f k)) := by
            intro z hz hs h1e
            have w3 := RV_fld w2 (up (up s 0 0) 0 z) (rF_0 (up s 0 0) z)
            rw [up2] at w3
            refine k402_108 (z10 := z) w2.1 (hp_at w2.1) (fun q => ?_) (fun q => ?_) (c12 := by unfold In3; omega)
            · exact k402_122 (k402_123 ⟨_, _, _, _, w3, FR_trans (r0 0) (FR_trans r1 (FR_trans r2 (FR_fld w2 _))), ⟨m1, z, hs, rfl, .inl ⟨q, rfl⟩⟩, rfl⟩)
            · have z0 : z = 0 := by omega
              obtain ⟨o1, o2⟩ := h1e z0
              exact k402_118 (k402_123 ⟨_, _, _, _, w3, FR_trans (r0 0) (FR_trans r1 (FR_trans r2 (FR_fld w2 _))), ⟨m1, z, hs, rfl, .inr ⟨z0, rfl, f, k, a, p, rfl, rfl, qx.2, qy.2, by rw [ef1, o1], by rw [ek1, o2], g98, g00, d1, d3⟩⟩, rfl⟩)
          have no : ¬ (b = zp_C 1 ∧ e = zp_C 1) → wr sw_P (d + 2) sw_c402 sw_h402 (107, [.index 1290, vi (f : Int), vi (k : Int)], [.index 1290], h2, 0, 0) (RA h (wQ s A T f k)) := fun w => k402_107 (fin 2 (.inr rfl) (sp 2 ⟨fun w2 => absurd w2 w, fun _ => rfl⟩) (fun w2 => absurd w2 (by decide)))
          refine k402_82 w2.1 (wm_mono (wq_r ?_) (V_isOne w2 (c := 1299) rfl g99))
          by_cases o1 : hi b = 0 ∧ cf b 0 = 1
          · rw [if_pos o1]
            refine k402_90 (fun w => absurd w (by decide)) (fun _ => ?_)
            refine k402_93 w2.1 (wm_mono (wq_r ?_) (V_isOne w2 (c := 1301) rfl g01))
            have c1 := (one_C (deg_le d2 (by decide))).mp o1
            by_cases o2 : hi e = 0 ∧ cf e 0 = 1
            · rw [if_pos o2]
              have c2 := (one_C (deg_le d4 (by decide))).mp o2
              exact k402_100 (fun w => absurd w (by decide)) (fun _ => k402_103 (fin 0 (.inl rfl) (sp 0 ⟨fun _ => rfl, fun w => absurd ⟨c1, c2⟩ w⟩) (fun _ => ⟨c1, c2⟩)))
            · rw [if_neg o2]
              exact k402_100 (fun _ => no (fun w => o2 ((one_C (deg_le d4 (by decide))).mpr w.2))) (fun w => absurd rfl w)
          · rw [if_neg o1]
            exact k402_90 (fun _ => no (fun w => o1 ((one_C (deg_le d2 (by decide))).mpr w.1))) (fun w => absurd rfl w)
        · rw [ek1] at sp
          have kne : kd (.inr t) ≠ 0 := by rcases t with a | ⟨r, c, M⟩ | ⟨n, so, va⟩ <;> exact fun w => (kdn w rfl).elim
          rw [if_neg kne]
          exact k402_36 (fun w => absurd rfl w) (fun _ => k402_39 (bad 2 (by decide) (by decide) (sp 2 rfl)))
      · rw [ef1] at sp
        have kne : kd (.inr t) ≠ 0 := by rcases t with a | ⟨r, c, M⟩ | ⟨n, so, va⟩ <;> exact fun w => (kdn w rfl).elim
        rw [if_neg kne]
        exact k402_27 (fun _ => k402_39 (bad 2 (by decide) (by decide) (sp 2 rfl))) (fun w => absurd rfl w)
    · rw [if_neg qy]
      exact k402_14 (fun w => absurd rfl w) (fun _ => k402_17 (bad 1 (by decide) (by decide) ⟨fun _ => rfl, fun w => absurd w.2.2 qy⟩))
  · rw [if_neg qx]
    exact k402_6 (fun _ => k402_17 (bad 1 (by decide) (by decide) ⟨fun _ => rfl, fun w => absurd ⟨w.1, w.2.1⟩ qx⟩)) (fun w => absurd rfl w)
end
