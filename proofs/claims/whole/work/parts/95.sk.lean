/-! the reference's isOf, value and derive in the picture -/
/-- a call of one thing of the kinds of ok: F says what it comes to -/
def unS (cnt : Int) (T : Nat → th) (ok : Int → Prop) (x : Int) (F : th → Sum th Int → Prop) (res : Sum th Int) : Prop :=
  (¬ (0 ≤ x ∧ x < cnt) → res = .inr 1) ∧ ((0 ≤ x ∧ x < cnt) → ¬ ok (kd (T x.toNat)) → res = .inr 2) ∧ ((0 ≤ x ∧ x < cnt) → ok (kd (T x.toNat)) → F (T x.toNat) res)
theorem D_deg {f : zp_R} {n : Nat} (h : zp_deg f n) : zp_deg (zp_D f) n := fun i hi2 => by
  show (zp_nat (i + 1) * f.1 (i + 1) : zp_F) = 0
  rw [h (i + 1) (by omega)]
  generalize (zp_nat (i + 1) : zp_F) = y
  grind
/-- what a slope comes to -/
def derF (cnt : Int) (t : th) (res : Sum th Int) : Prop := match t with
  | .inl (a, b) => ∃ N D, cn (zp_add (zp_mul (zp_D a) b) (zp_mul (zp_C (nF (-1))) (zp_mul (zp_D b) a))) (zp_mul b b) N D ∧ ((cnt = 150 ∨ 40 < hi N ∨ 40 < hi D) → res = .inr 3) ∧ (¬ (cnt = 150 ∨ 40 < hi N ∨ 40 < hi D) → res = .inl (th_fr N D))
  | .inr (.inl f) => (cnt = 150 → res = .inr 3) ∧ (cnt ≠ 150 → res = .inl (th_se (zp_D f)))
  | _ => True
section
variable {d : Nat} {h : s_H} {s : Nat → Int} {A : Nat → Nat → Int}
theorem V_derive (hv : RV h s A) {T : Nat → th} (hR : RI s A T) {x : Int} (hx : In3 x) : wm sw_P (d + 8) 430 [.index 1290, vi x] h (RA h (fun v s' A' => ∃ res, unS (s 1) T (fun k => k ≠ 2 ∧ k ≠ 3) x (derF (s 1)) res ∧ ends s A T res v s' A')) := by
  refine wm_in (cd := sw_c430) (nL := 2) (hd := sw_h430) rfl rfl ?_
  have b0 := hR.1.1
  have v0 : ∀ z : Int, RV (hp h 1290 (1, 11, (rF s).set 0 (vi z))) (up s 0 z) A := fun z => RV_fld hv (up s 0 z) (rF_0 s z)
  have bad : ∀ z : Int, z ≠ 0 → 0 < z → z < 3 → unS (s 1) T (fun k => k ≠ 2 ∧ k ≠ 3) x (derF (s 1)) (.inr z) → wr sw_P (d + 7) sw_c430 sw_h430 (36, [.index 1290, vi x], [vi z, .index 1290], h, 0, 0) (RA h (fun v s' A' => ∃ res, unS (s 1) T (fun k => k ≠ 2 ∧ k ≠ 3) x (derF (s 1)) res ∧ ends s A T res v s' A')) := by
    intro z hz1 hz2 hz3 hs
    refine k430_36 (z10 := z) hv.1 (hp_at hv.1) (fun w => absurd w (by omega)) (fun _ => ?_) (c12 := by unfold In3; omega)
    exact k430_46 ⟨_, _, _, _, v0 z, FR_fld hv _, ⟨.inr z, hs, sm_refl, rfl, rfl, RI_sc hR sm_refl rfl⟩, rfl⟩
  refine k430_0 hv.1 (wm_mono (wq_r ?_) (V_isThere hv b0 hx))
  by_cases hin : 0 ≤ x ∧ x < s 1
  · rw [if_pos hin]
    refine k430_6 (fun _ => ?_) (fun w => absurd (by decide) w)
    obtain ⟨f, ef⟩ : ∃ f : Nat, x = f := ⟨x.toNat, by omega⟩
    subst ef
    have hf := hR.2.2 f (by omega)
    have kf := isT_kd hf
    have k3 := hR.1.2.1 f (by omega)
    have xf : (f : Int).toNat = f := by omega
    have i3 : In3 (A 1291 (f : Int).toNat) := by rw [xf]; unfold In3; omega
    have ik : A 1291 (f : Int).toNat = kd (T f) := kf
    refine k430_13 hv.1 (wm_mono (wq_r ?_) (V_is hv (x := (f : Int)) (k := 2) ⟨by omega, by omega⟩ i3 (by decide)))
    rw [ik]
    by_cases q2 : kd (T f) = 2
    · rw [if_pos q2]
      refine k430_19 (fun _ => k430_31 (bad 2 (by decide) (by decide) (by decide) ⟨fun w => absurd hin w, fun _ _ => rfl, fun _ w => absurd q2 ?_⟩)) (fun w => absurd (by decide) w)
      rw [xf] at w
      exact w.1
    · rw [if_neg q2]
      refine k430_19 (fun w => absurd rfl w) (fun _ => ?_)
      refine k430_22 hv.1 (wm_mono (wq_r ?_) (V_is hv (x := (f : Int)) (k := 3) ⟨by omega, by omega⟩ i3 (by decide)))
      rw [ik]
      by_cases q3 : kd (T f) = 3
      · rw [if_pos q3]
        refine k430_28 (fun w => absurd w (by decide)) (fun _ => k430_31 (bad 2 (by decide) (by decide) (by decide) ⟨fun w => absurd hin w, fun _ _ => rfl, fun _ w => absurd q3 ?_⟩))
        rw [xf] at w
        exact w.2
      · rw [if_neg q3]
        refine k430_28 (fun _ => ?_) (fun w => absurd rfl w)
        have sp : ∀ res : Sum th Int, derF (s 1) (T f) res → unS (s 1) T (fun k => k ≠ 2 ∧ k ≠ 3) f (derF (s 1)) res := fun res w => ⟨fun w2 => absurd hin w2, fun _ w2 => (w2 (by rw [xf]; exact ⟨q2, q3⟩)).elim, fun _ _ => by rw [xf]; exact w⟩
        refine k430_35 (k430_36 (z10 := 0) hv.1 (hp_at hv.1) (fun _ => ?_) (fun w => absurd (by decide) w))
        have w0 := v0 0
        have r0 : FR h _ := FR_fld hv (1, 11, (rF s).set 0 (vi 0))
        refine k430_48 w0.1 (wm_mono (wq_Q (fun h1 w1 r1 => ?_)) (V_load w0 (t := 1298) (b := 1299) rfl rfl (by decide) (x := (f : Int)) ⟨by omega, by omega⟩ (RB_t hR.1) (RB_b hR.1)))
        rw [xf] at w1
        have m1 : sm A (up (up A 1298 (fp A 1292 f)) 1299 (fp A 1293 f)) scr := sm_up (sm_up sm_refl _ rfl) _ rfl
        have g98 : up (up A 1298 (fp A 1292 f)) 1299 (fp A 1293 f) 1298 = fp A 1292 f := by rw [up_ne _ _ (by decide), up_at]
        have g99 : up (up A 1298 (fp A 1292 f)) 1299 (fp A 1293 f) 1299 = fp A 1293 f := up_at _ _ _
        have g91 : up (up A 1298 (fp A 1292 f)) 1299 (fp A 1293 f) 1291 = A 1291 := m1 1291 rfl
        refine k430_61 w1.1 (wm_mono (wq_r ?_) (V_is w1 (x := (f : Int)) (k := 1) ⟨by omega, by omega⟩ (by rw [g91]; exact i3) (by decide)))
        rw [g91, ik]
        rcases ef1 : T f with ⟨a, b⟩ | a | ⟨r, c, M⟩ | ⟨n, so, va⟩
        · rw [ef1] at hf sp
          refine k430_67 (fun _ => ?_) (fun w => absurd rfl w)
          obtain ⟨_, p1, p2, p3, p4⟩ := hf
          have d1 := fr_deg p1
          have d2 := fr_deg p2
          have dd1 := D_deg d1
          have dd2 := D_deg d2
          refine k430_87 w1.1 (wm_mono (wq_Q (fun h2 w2 r2 => ?_)) (V_slope w1 (c := 1308) (e := 1298) rfl rfl (by decide) (g98.trans p1) (deg_le d1 (by decide))))
          refine k430_98 w2.1 (wm_mono (wq_Q (fun h3 w3 r3 => ?_)) (V_slope w2 (c := 1309) (e := 1299) rfl rfl (by decide) (f := b) (by rw [up_ne _ _ (by decide)]; exact g99.trans p2) (deg_le d2 (by decide))))
          refine k430_109 w3.1 (wm_mono (wq_Q (fun h4 w4 r4 => ?_)) (V_multiply w3 (p := 1308) (q := 1299) rfl rfl (by decide) (by decide) (f := zp_D a) (g := b) (by rw [up_ne _ _ (by decide), up_at]) (by rw [up_ne _ _ (by decide), up_ne _ _ (by decide)]; exact g99.trans p2)))
          refine k430_121 w4.1 (wm_mono (wq_Q (fun h5 w5 r5 => ?_)) (V_copy w4 (c := 1302) (e := 1304) rfl rfl (by decide)))
          refine k430_132 w5.1 (wm_mono (wq_Q (fun h6 w6 r6 => ?_)) (V_multiply w5 (p := 1309) (q := 1298) rfl rfl (by decide) (by decide) (f := zp_D b) (g := a) (by rw [up_ne _ _ (by decide), up_ne _ _ (by decide), up_at]) (by rw [up_ne _ _ (by decide), up_ne _ _ (by decide), up_ne _ _ (by decide), up_ne _ _ (by decide)]; exact g98.trans p1)))
          refine k430_144 w6.1 (wm_mono (wq_Q (fun h7 w7 r7 => ?_)) (V_more w6 (c := 1302) (e := 1304) rfl rfl (by decide) (f := zp_mul (zp_D a) b) (g := zp_mul (zp_D b) a) (by rw [up_ne _ _ (by decide), up_at, up_at]) (up_at _ _ _) (z := -1) (by decide)))
          refine k430_158 w7.1 (wm_mono (wq_Q (fun h8 w8 r8 => ?_)) (V_multiply w7 (p := 1299) (q := 1299) rfl rfl (by decide) (by decide) (f := b) (g := b) (by rw [up_ne _ _ (by decide), up_ne _ _ (by decide), up_ne _ _ (by decide), up_ne _ _ (by decide), up_ne _ _ (by decide), up_ne _ _ (by decide)]; exact g99.trans p2) (by rw [up_ne _ _ (by decide), up_ne _ _ (by decide), up_ne _ _ (by decide), up_ne _ _ (by decide), up_ne _ _ (by decide), up_ne _ _ (by decide)]; exact g99.trans p2)))
          refine k430_170 w8.1 (wm_mono (wq_Q (fun h9 w9 r9 => ?_)) (V_copy w8 (c := 1303) (e := 1304) rfl rfl (by decide)))
          have pb := mo_pos p3 (deg_le d2 (by decide))
          refine k430_181 w9.1 (wm_mono (wq_N (fun h10 s10 A10 w10 r10 φ => ?_)) (V_lower w9 (n := zp_add (zp_mul (zp_D a) b) (zp_mul (zp_C (nF (-1))) (zp_mul (zp_D b) a))) (m := zp_mul b b) (by rw [up_ne _ _ (by decide), up_ne _ _ (by decide), up_at]) (by rw [up_at, up_at]) (deg_add (deg_mul81 dd1 d2) (deg_Cm _ (deg_mul81 dd2 d1))) (deg_mul81 d2 d2) (mul_ne d2 d2 pb pb)))
          obtain ⟨es2, ⟨N, D, hcn, dN, dD, gN, gD⟩, m2⟩ := φ
          rw [es2] at w10
          refine k430_185 w10.1 (wm_mono (wq_A (fun v3 h11 s3 A3 w11 r11 φ => ?_)) (V_keep w10 b0 gN gD))
          obtain ⟨res, z1, z2, z3⟩ := ends_kQ 0 hR (sm_tr m1 (sm_tr (sm_up (sm_up (sm_up (sm_up (sm_up (sm_up (sm_up (sm_up sm_refl _ rfl) _ rfl) _ rfl) _ rfl) _ rfl) _ rfl) _ rfl) _ rfl) (sm_sub m2 rfl))) dN dD hcn.2.2 hcn.2.1 φ
          obtain ⟨u, eu⟩ := ends_vi z3
          subst eu
          exact k430_190 ⟨_, h11, s3, A3, w11, FR_trans r0 (FR_trans r1 (FR_trans r2 (FR_trans r3 (FR_trans r4 (FR_trans r5 (FR_trans r6 (FR_trans r7 (FR_trans r8 (FR_trans r9 (FR_trans r10 r11)))))))))), ⟨res, sp res ⟨N, D, hcn, z1, z2⟩, z3⟩, rfl⟩
        · rw [ef1] at hf sp
          refine k430_67 (fun w => (kdn w rfl).elim) (fun _ => ?_)
          obtain ⟨_, p1, p2, p3⟩ := hf
          refine k430_70 w1.1 (wm_mono (wq_Q (fun h2 w2 r2 => ?_)) (V_slope w1 (c := 1302) (e := 1298) rfl rfl (by decide) (g98.trans p1) (deg_le p3 (by decide))))
          refine k430_81 w2.1 (wm_mono (wq_A (fun v4 h4 s4 A4 w4 r4 φ => ?_)) (V_keepSeries w2 b0 (f := zp_D a) (up_at _ _ _)))
          obtain ⟨res, z1, z2, z3⟩ := ends_ksQ 0 hR (sm_up m1 _ rfl) (D_deg p3) (c25_cf (D_deg p3)) φ
          obtain ⟨u, eu⟩ := ends_vi z3
          subst eu
          exact k430_86 ⟨_, h4, s4, A4, w4, FR_trans r0 (FR_trans r1 (FR_trans r2 r4)), ⟨res, sp res ⟨z1, z2⟩, z3⟩, rfl⟩
        · rw [ef1] at q2; exact absurd rfl q2
        · rw [ef1] at q3; exact absurd rfl q3
  · rw [if_neg hin]
    exact k430_6 (fun w => absurd rfl w) (fun _ => k430_9 (bad 1 (by decide) (by decide) (by decide) ⟨fun _ => rfl, fun w => absurd w hin, fun w => absurd w hin⟩))
end
