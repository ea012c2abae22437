/-! the reference's power in the picture -/
def powF (cnt : Int) (n : Nat) (t : th) (res : Sum th Int) : Prop := match t with
  | .inl (a, b) => ((0 < n ∧ 40 < gd a b * n) → res = .inr 3) ∧ (¬ (0 < n ∧ 40 < gd a b * n) → ((cnt = 150 ∨ 40 < hi (zp_npow a n) ∨ 40 < hi (zp_npow b n)) → res = .inr 3) ∧ (¬ (cnt = 150 ∨ 40 < hi (zp_npow a n) ∨ 40 < hi (zp_npow b n)) → res = .inl (th_fr (zp_npow a n) (zp_npow b n))))
  | _ => True
/-- what powers come to -/
def powS (cnt : Int) (T : Nat → th) (x n : Int) (res : Sum th Int) : Prop :=
  (¬ (0 ≤ x ∧ x < cnt) → res = .inr 1) ∧ ((0 ≤ x ∧ x < cnt) → ¬ (kd (T x.toNat) = 0 ∧ 0 ≤ n ∧ n ≤ 99) → res = .inr 2) ∧ ((0 ≤ x ∧ x < cnt) → (kd (T x.toNat) = 0 ∧ 0 ≤ n ∧ n ≤ 99) → powF cnt n.toNat (T x.toNat) res)
section
variable {d : Nat} {h : s_H} {s : Nat → Int} {A : Nat → Nat → Int}
theorem V_power (hv : RV h s A) {T : Nat → th} (hR : RI s A T) {x n : Int} (hx : In3 x) (hn : In3 n) : wm sw_P (d + 5) 557 [.index 1290, vi x, vi n] h (RA h (fun v s' A' => ∃ res, powS (s 1) T x n res ∧ ends s A T res v s' A')) := by
  refine wm_in (cd := sw_c557) (nL := 3) (hd := sw_h557) rfl rfl ?_
  have b0 := hR.1.1
  have v0 : ∀ z : Int, RV (hp h 1290 (1, 11, (rF s).set 0 (vi z))) (up s 0 z) A := fun z => RV_fld hv (up s 0 z) (rF_0 s z)
  have bad : ∀ z : Int, 0 < z → z < 3 → powS (s 1) T x n (.inr z) → wr sw_P (d + 4) sw_c557 sw_h557 (39, [.index 1290, vi x, vi n], [vi z, .index 1290], h, 0, 0) (RA h (fun v s' A' => ∃ res, powS (s 1) T x n res ∧ ends s A T res v s' A')) := by
    intro z hz2 hz3 hs
    refine k557_39 (z10 := z) hv.1 (hp_at hv.1) (fun w => absurd w (by omega)) (fun _ => ?_) (c12 := by unfold In3; omega)
    exact k557_49 ⟨_, _, _, _, v0 z, FR_fld hv _, ⟨.inr z, hs, sm_refl, rfl, rfl, RI_sc hR sm_refl rfl⟩, rfl⟩
  refine k557_0 hv.1 (wm_mono (wq_r ?_) (V_isThere hv b0 hx))
  by_cases hin : 0 ≤ x ∧ x < s 1
  · rw [if_pos hin]
    refine k557_6 (fun _ => ?_) (fun w => absurd (by decide) w)
    obtain ⟨f, ef⟩ : ∃ f : Nat, x = f := ⟨x.toNat, by omega⟩
    subst ef
    have hf := hR.2.2 f (by omega)
    have kf := isT_kd hf
    have k3 := hR.1.2.1 f (by omega)
    have xf : (f : Int).toNat = f := by omega
    have i3 : In3 (A 1291 (f : Int).toNat) := by rw [xf]; unfold In3; omega
    have ik : A 1291 (f : Int).toNat = kd (T f) := kf
    have two2 : ¬ (kd (T f) = 0 ∧ 0 ≤ n ∧ n ≤ 99) → wr sw_P (d + 4) sw_c557 sw_h557 (34, [.index 1290, vi (f : Int), vi n], [.index 1290], h, 0, 0) (RA h (fun v s' A' => ∃ res, powS (s 1) T f n res ∧ ends s A T res v s' A')) := fun q => k557_34 (bad 2 (by decide) (by decide) ⟨fun w => absurd hin w, fun _ _ => rfl, fun _ w => absurd (by rw [xf] at w; exact w) q⟩)
    refine k557_13 hv.1 (wm_mono (wq_r ?_) (V_is hv (x := (f : Int)) (k := 0) ⟨by omega, by omega⟩ i3 (by decide)))
    rw [ik]
    by_cases q2 : kd (T f) = 0
    · rw [if_pos q2]
      refine k557_19 (fun w => absurd w (by decide)) (fun _ => ?_)
      refine k557_22 (wm_mono (wq_r ?_) (t_in (x := n) (lo := 0) (hi := 99) (by unfold In6; unfold In3 at hn; omega) (by decide) (by decide)))
      by_cases q3 : 0 ≤ n ∧ n ≤ 99
      · rw [if_pos q3]
        refine k557_31 (fun _ => ?_) (fun w => absurd (by decide) w)
        obtain ⟨m, em⟩ : ∃ m : Nat, n = m := ⟨n.toNat, by omega⟩
        subst em
        have nm : (m : Int).toNat = m := by omega
        have sp : ∀ res : Sum th Int, powF (s 1) m (T f) res → powS (s 1) T f m res := fun res w => ⟨fun w2 => absurd hin w2, fun _ w2 => (w2 (by rw [xf]; exact ⟨q2, q3⟩)).elim, fun _ _ => by rw [xf, nm]; exact w⟩
        refine k557_38 (k557_39 (z10 := 0) hv.1 (hp_at hv.1) (fun _ => ?_) (fun w => absurd (by decide) w))
        have w0 := v0 0
        have r0 : FR h _ := FR_fld hv (1, 11, (rF s).set 0 (vi 0))
        refine k557_51 w0.1 (wm_mono (wq_Q (fun h1 w1 r1 => ?_)) (V_load w0 (t := 1298) (b := 1299) rfl rfl (by decide) (x := (f : Int)) ⟨by omega, by omega⟩ (RB_t hR.1) (RB_b hR.1)))
        rw [xf] at w1
        have m1 : sm A (up (up A 1298 (fp A 1292 f)) 1299 (fp A 1293 f)) scr := sm_up (sm_up sm_refl _ rfl) _ rfl
        have g98 : up (up A 1298 (fp A 1292 f)) 1299 (fp A 1293 f) 1298 = fp A 1292 f := by rw [up_ne _ _ (by decide), up_at]
        have g99 : up (up A 1298 (fp A 1292 f)) 1299 (fp A 1293 f) 1299 = fp A 1293 f := up_at _ _ _
        rcases ef1 : T f with ⟨a, b⟩ | a | ⟨r, c, M⟩ | ⟨n, so, va⟩
        · rw [ef1] at hf sp
          obtain ⟨_, p1, p2, p3, p4⟩ := hf
          have d1 := fr_deg p1
          have d2 := fr_deg p2
          have pb := mo_pos p3 (deg_le d2 (by decide))
          refine k557_64 w1.1 (wm_mono (wq_A (fun v2 h2 s2 A2 w2 r2 φ => ?_)) (V_isPower w1 (g98.trans p1) (g99.trans p2) pb (n := m) (by omega)))
          obtain ⟨es2, m2, y1, y2⟩ := φ
          rw [es2] at w2
          have m3 := sm_tr m1 m2
          by_cases q4 : 0 < m ∧ 40 < gd a b * m
          · rw [y1 q4]
            refine k557_69 (fun w => absurd rfl w) (fun _ => ?_)
            refine k557_72 w2.1 (wm_mono (wq_A (fun v3 h3 s3 A3 w3 r3 φ => ?_)) (V_raise w2))
            obtain ⟨y3, y4, y5⟩ := φ
            subst y3
            exact k557_77 ⟨_, h3, s3, A3, w3, FR_trans r0 (FR_trans r1 (FR_trans r2 r3)), ⟨.inr 3, sp _ ⟨fun _ => rfl, fun w => absurd q4 w⟩, ends_bad hR m3 rfl y4 y5⟩, rfl⟩
          · obtain ⟨y3, gN, gD⟩ := y2 q4
            rw [y3]
            refine k557_69 (fun _ => ?_) (fun w => absurd (by decide) w)
            refine k557_78 w2.1 (wm_mono (wq_A (fun v3 h3 s3 A3 w3 r3 φ => ?_)) (V_keep w2 b0 gN gD))
            have bg := gd_b a b
            obtain ⟨H, eH⟩ : ∃ H : Nat, gd a b = H := ⟨(gd a b).toNat, by omega⟩
            have hHm : H * m + 1 ≤ 176 := by
              by_cases qm : 0 < m
              · have : ¬ 40 < gd a b * m := fun w => q4 ⟨qm, w⟩
                rw [eH] at this
                omega
              · rw [show m = 0 by omega]
                omega
            have dN : zp_deg (zp_npow a m) 176 := deg_le (npow_deg (H := H) (fun i hi2 => hi_deg (deg_le d1 (by decide)) i (by omega)) m) hHm
            have dD : zp_deg (zp_npow b m) 176 := deg_le (npow_deg (H := H) (fun i hi2 => hi_deg (deg_le d2 (by decide)) i (by omega)) m) hHm
            obtain ⟨res, z1, z2, z3⟩ := ends_kQ 0 hR m3 dN dD (mo_npow p3 m) (co_sym (co_npow (co_sym (co_npow p4 m)) m)) φ
            obtain ⟨u, eu⟩ := ends_vi z3
            subst eu
            exact k557_83 ⟨_, h3, s3, A3, w3, FR_trans r0 (FR_trans r1 (FR_trans r2 r3)), ⟨res, sp res ⟨fun w => absurd w q4, fun _ => ⟨z1, z2⟩⟩, z3⟩, rfl⟩
        · rw [ef1] at q2; exact (kdn q2 rfl).elim
        · rw [ef1] at q2; exact (kdn q2 rfl).elim
        · rw [ef1] at q2; exact (kdn q2 rfl).elim
      · rw [if_neg q3]
        exact k557_31 (fun w => absurd rfl w) (fun _ => two2 (fun w => q3 w.2))
    · rw [if_neg q2]
      exact k557_19 (fun _ => two2 (fun w => q2 w.1)) (fun w => absurd rfl w)
  · rw [if_neg hin]
    exact k557_6 (fun w => absurd rfl w) (fun _ => k557_9 (bad 1 (by decide) (by decide) ⟨fun _ => rfl, fun w => absurd w hin, fun w => absurd w hin⟩))
end
