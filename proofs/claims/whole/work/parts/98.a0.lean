/-! the reference's isOf and value in the picture -/
/-- one thing of kind k: the code -/
noncomputable def one (s : Nat → Int) (T : Nat → th) (x k : Int) : Int := if ¬ (0 ≤ x ∧ x < s 1) then 1 else if kd (T x.toNat) = k then 0 else 2
def oQ (s : Nat → Int) (A : Nat → Nat → Int) (T : Nat → th) (x k : Int) : Term → (Nat → Int) → (Nat → Nat → Int) → Prop := fun v s1 A1 =>
  (v = vi 0 ∧ s1 = up s 0 (one s T x k) ∧ one s T x k ≠ 0 ∧ A1 = A) ∨ (v = vi 1 ∧ s1 = up s 0 0 ∧ one s T x k = 0 ∧ ∃ f : Nat, x = f ∧ (f : Int) < s 1 ∧ kd (T f) = k ∧ sm A A1 scr ∧ (k < 2 → A1 1298 = fp A 1292 f ∧ A1 1299 = fp A 1293 f) ∧ (¬ k < 2 → A1 = A))
/-- what the value of a fraction at z is -/
def valS (cnt : Int) (T : Nat → th) (x z : Int) (c a : Int) : Prop :=
  (¬ (0 ≤ x ∧ x < cnt) → c = 1 ∧ a = 0) ∧ ((0 ≤ x ∧ x < cnt) → match T x.toNat with
  | .inl (N, D) => c = 0 ∧ (zp_ev (nF z) D = 0 → a = -1) ∧ (zp_ev (nF z) D ≠ 0 → a = ((zp_ev (nF z) N * zp_ev (nF z) D ^ 32001 : zp_F).val : Int))
  | _ => c = 2 ∧ a = 0)
section
variable {d : Nat} {h : s_H} {s : Nat → Int} {A : Nat → Nat → Int}
theorem V_isOf (hv : RV h s A) {T : Nat → th} (hR : RI s A T) {x k : Int} (hx : In3 x) (hk : 0 ≤ k ∧ k ≤ 3) : wm sw_P (d + 3) 481 [.index 1290, vi x, vi k] h (RA h (oQ s A T x k)) := by
  refine wm_in (cd := sw_c481) (nL := 3) (hd := sw_h481) rfl rfl ?_
  have b0 := hR.1.1
  have v0 : ∀ z : Int, RV (hp h 1290 (1, 11, (rF s).set 0 (vi z))) (up s 0 z) A := fun z => RV_fld hv (up s 0 z) (rF_0 s z)
  have r0 : ∀ z : Int, FR h (hp h 1290 (1, 11, (rF s).set 0 (vi z))) := fun z => FR_fld hv _
  have bad : ∀ z : Int, 0 < z → z < 3 → one s T x k = z → wr sw_P (d + 2) sw_c481 sw_h481 (27, [.index 1290, vi x, vi k], [vi z, .index 1290], h, 0, 0) (RA h (oQ s A T x k)) := by
    intro z hz2 hz3 hs
    refine k481_27 (z10 := z) hv.1 (hp_at hv.1) (fun _ => ?_) (fun w => absurd w (by omega)) (c12 := by unfold In3; omega)
    refine k481_55 (z5 := z) (v0 z).1 (fun _ => k481_66 (k481_67 ?_)) (fun w => absurd w (by omega)) (c7 := by unfold In3; omega)
    exact ⟨_, _, _, _, v0 z, r0 z, .inl ⟨rfl, by rw [hs], by omega, rfl⟩, rfl⟩
  refine k481_0 hv.1 (wm_mono (wq_r ?_) (V_isThere hv b0 hx))
  by_cases hin : 0 ≤ x ∧ x < s 1
  · rw [if_pos hin]
    refine k481_6 (fun _ => ?_) (fun w => absurd (by decide) w)
    obtain ⟨f, ef⟩ : ∃ f : Nat, x = f := ⟨x.toNat, by omega⟩
    subst ef
    have hf := hR.2.2 f (by omega)
    have kf := isT_kd hf
    have k3 := hR.1.2.1 f (by omega)
    have xf : (f : Int).toNat = f := by omega
    have i3 : In3 (A 1291 (f : Int).toNat) := by rw [xf]; unfold In3; omega
    have ik : A 1291 (f : Int).toNat = kd (T f) := kf
    have ho : one s T f k = if kd (T f) = k then 0 else 2 := by
      unfold one
      rw [if_neg (fun w => w hin), xf]
    refine k481_13 hv.1 (wm_mono (wq_r ?_) (V_is hv (x := (f : Int)) (k := k) ⟨by omega, by omega⟩ i3 (by unfold In3; omega)))
    rw [ik]
    by_cases q2 : kd (T f) = k
    · rw [if_pos q2]
      rw [if_pos q2] at ho
      refine k481_19 (fun w => absurd w (by decide)) (fun _ => ?_)
      refine k481_22 (k481_27 (z10 := 0) hv.1 (hp_at hv.1) (fun w => absurd rfl w) (fun _ => ?_))
      refine k481_37 (fun q => ?_) (fun q => ?_) (c1 := by unfold In3; omega)
      · refine k481_55 (z5 := 0) (v0 0).1 (fun w => absurd rfl w) (fun _ => k481_62 (k481_67 ?_))
        exact ⟨_, _, _, _, v0 0, r0 0, .inr ⟨rfl, rfl, ho, f, rfl, hin.2, q2, sm_refl, fun w => absurd w (by omega), fun _ => rfl⟩, rfl⟩
      · refine k481_42 (v0 0).1 (wm_mono (wq_Q (fun h1 w1 r1 => ?_)) (V_load (v0 0) (t := 1298) (b := 1299) rfl rfl (by decide) (x := (f : Int)) ⟨by omega, by omega⟩ (RB_t hR.1) (RB_b hR.1)))
        rw [xf] at w1
        refine k481_55 (z5 := 0) w1.1 (fun w => absurd rfl w) (fun _ => k481_62 (k481_67 ?_))
        exact ⟨_, _, _, _, w1, FR_trans (r0 0) r1, .inr ⟨rfl, rfl, ho, f, rfl, hin.2, q2, sm_up (sm_up sm_refl _ rfl) _ rfl, fun _ => ⟨by rw [up_ne _ _ (by decide), up_at], up_at _ _ _⟩, fun w => absurd (by omega) w⟩, rfl⟩
    · rw [if_neg q2]
      rw [if_neg q2] at ho
      exact k481_19 (fun _ => k481_26 (bad 2 (by decide) (by decide) ho)) (fun w => absurd rfl w)
  · rw [if_neg hin]
    exact k481_6 (fun w => absurd rfl w) (fun _ => k481_9 (bad 1 (by decide) (by decide) (if_pos hin)))
theorem V_value (hv : RV h s A) {T : Nat → th} (hR : RI s A T) {x z : Int} (hx : In3 x) (hz : In6 z) : wm sw_P (d + 4) 612 [.index 1290, vi x, vl z] h (RA h (fun v s' A' => ∃ c a, valS (s 1) T x z c a ∧ v = vi a ∧ s' = up s 0 c ∧ sm A A' scr ∧ RI s' A' T)) := by
  refine wm_in (cd := sw_c612) (nL := 6) (hd := sw_h612) rfl rfl ?_
  have b0 := hR.1.1
  refine k612_0 hv.1 (wm_mono (wq_A (fun v1 h1 s1 A1 w1 r1 φ => ?_)) (V_isOf hv hR hx (k := 0) (by decide)))
  rcases φ with ⟨ev, e1, q, eA⟩ | ⟨ev, e1, q, f, ef, lf, kf, m1, g, _⟩
  · rw [ev]
    refine k612_6 (fun w => absurd rfl w) (fun _ => k612_9 ⟨vi 0, h1, s1, A1, w1, r1, ⟨one s T x 0, 0, ⟨fun w => ⟨if_pos w, rfl⟩, fun w => ?_⟩, rfl, e1, by rw [eA]; exact sm_refl, ?_⟩, rfl⟩)
    · have ho : one s T x 0 = if kd (T x.toNat) = 0 then 0 else 2 := if_neg (fun w2 => w2 w)
      revert ho
      generalize T x.toNat = tx
      intro ho
      rcases tx with ⟨a, b⟩ | a | ⟨r, c, M⟩ | ⟨n, so, va⟩
      · exact absurd ho q
      · exact ⟨ho, rfl⟩
      · exact ⟨ho, rfl⟩
      · exact ⟨ho, rfl⟩
    · rw [e1, eA]
      exact RI_sc hR sm_refl rfl
  · rw [ev]
    subst ef
    have xf : (f : Int).toNat = f := by omega
    obtain ⟨g98, g99⟩ := g (by decide)
    have hf := hR.2.2 f lf
    have R1 : RI s1 A1 T := RI_sc hR m1 (by rw [e1]; rfl)
    refine k612_6 (fun _ => ?_) (fun w => absurd (by decide) w)
    rcases ef1 : T f with ⟨a, b⟩ | a | ⟨r, c, M⟩ | ⟨n, so, va⟩
    · rw [ef1] at hf
      obtain ⟨_, p1, p2, p3, p4⟩ := hf
      have d1 := fr_deg p1
      have d2 := fr_deg p2
      have bz := md_lt z
      have sp : ∀ u : Int, (zp_ev (nF z) b = 0 → u = -1) ∧ (zp_ev (nF z) b ≠ 0 → u = ((zp_ev (nF z) a * zp_ev (nF z) b ^ 32001 : zp_F).val : Int)) → wr sw_P (d + 3) sw_c612 sw_h612 (57, [.index 1290, vi (f : Int), vl z, s_uu .result, vl ((zp_ev (nF z) b).val : Int), .result], [vi u], h1, 0, 0) (RA h (fun v s' A' => ∃ c a, valS (s 1) T f z c a ∧ v = vi a ∧ s' = up s 0 c ∧ sm A A' scr ∧ RI s' A' T)) := fun u hu => by
        refine k612_57 ⟨_, h1, s1, A1, w1, r1, ⟨0, u, ⟨fun w => absurd ⟨by omega, lf⟩ w, fun _ => ?_⟩, rfl, e1, m1, R1⟩, rfl⟩
        rw [xf, ef1]
        exact ⟨rfl, hu⟩
      refine k612_11 w1.1 (wm_mono (wq_r ?_) (t_modulo hz))
      refine k612_19 (wm_mono (wq_r ?_) (t_valueAt (RV_q w1 (c := 1299) rfl (g99.trans p2)) (deg_le d2 (by decide)) bz))
      rw [nF_md]
      have bb := (zp_ev (nF z) b).isLt
      refine k612_22 (fun q0 => ?_) (fun q0 => ?_) (c1 := in6_of (by omega) (by omega))
      · refine k612_35 w1.1 (wm_mono (wq_r ?_) (t_modulo hz))
        refine k612_43 (wm_mono (wq_r ?_) (t_valueAt (RV_q w1 (c := 1298) rfl (g98.trans p1)) (deg_le d1 (by decide)) bz))
        rw [nF_md]
        refine k612_46 (wm_mono (wq_r ?_) (t_inverse (in6_of (by omega) (by omega))))
        rw [nF_val]
        have b1 := (zp_ev (nF z) a).isLt
        have b2 := (zp_ev (nF z) b ^ 32001 : zp_F).isLt
        have b3 := mm_le (x := ((zp_ev (nF z) a).val : Int)) (y := ((zp_ev (nF z) b ^ 32001 : zp_F).val : Int)) ⟨by omega, by omega⟩ ⟨by omega, by omega⟩
        refine k612_51 ?_ (c1 := in6_of (by omega) (by omega))
        rw [tmod_nn b3.1, ← F_mul]
        exact sp _ ⟨fun w => absurd (by rw [w]; rfl) q0, fun _ => rfl⟩
      · refine k612_31 (sp (-1) ⟨fun _ => rfl, fun w => absurd (F_ext ?_) w⟩)
        show ((zp_ev (nF z) b).val : Int) = 0
        omega
    · rw [ef1] at kf; exact (kdn kf rfl).elim
    · rw [ef1] at kf; exact (kdn kf rfl).elim
    · rw [ef1] at kf; exact (kdn kf rfl).elim
end
