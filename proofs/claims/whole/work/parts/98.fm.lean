/-! the reference's integral in the picture -/
def itgF (cnt : Int) (t : th) (ro : Option (Sum th Int)) : Prop := match t with
  | .inl (a, b) => (cnt = 150 → ro = some (.inr 3)) ∧ (cnt ≠ 150 → ∃ K U W C r, herS a b K U W C r ∧ (r ≠ zp_C 0 → ro = none) ∧ (r = zp_C 0 → ∃ N D res, cn (zp_add (zp_mul K U) C) U N D ∧ kps cnt N D 3 res ∧ ro = some res))
  | .inr (.inl f) => (cnt = 150 → ro = some (.inr 3)) ∧ (cnt ≠ 150 → ro = some (.inl (th_se (itg f 24))))
  | _ => ro = some (.inr 2)
def itgS (cnt : Int) (T : Nat → th) (x : Int) (ro : Option (Sum th Int)) : Prop := (¬ (0 ≤ x ∧ x < cnt) → ro = some (.inr 1)) ∧ ((0 ≤ x ∧ x < cnt) → itgF cnt (T x.toNat) ro)
section
variable {d : Nat} {h : s_H} {s : Nat → Int} {A : Nat → Nat → Int}
theorem V_integral (hv : RV h s A) {T : Nat → th} (hR : RI s A T) {x : Int} (hx : In3 x) : wm sw_P (d + 8) 465 [.index 1290, vi x] h (RA h (fun v s' A' => ∃ ro, itgS (s 1) T x ro ∧ endn s A T ro v s' A')) := by
  refine wm_in (cd := sw_c465) (nL := 3) (hd := sw_h465) rfl rfl ?_
  have b0 := hR.1.1
  have v0 : ∀ z : Int, RV (hp h 1290 (1, 11, (rF s).set 0 (vi z))) (up s 0 z) A := fun z => RV_fld hv (up s 0 z) (rF_0 s z)
  have bad : ∀ z : Int, 0 < z → z < 4 → itgS (s 1) T x (some (.inr z)) → wr sw_P (d + 7) sw_c465 sw_h465 (50, [.index 1290, vi x, .result], [vi z, .index 1290], h, 0, 0) (RA h (fun v s' A' => ∃ ro, itgS (s 1) T x ro ∧ endn s A T ro v s' A')) := by
    intro z hz2 hz3 hs
    refine k465_50 (z10 := z) hv.1 (hp_at hv.1) (fun w => absurd w (by omega)) (fun _ => ?_) (c12 := by unfold In3; omega)
    exact k465_60 ⟨_, _, _, _, v0 z, FR_fld hv _, ⟨some (.inr z), hs, endz_bad hR (sq_refl s) sm_refl rfl rfl rfl⟩, rfl⟩
  refine k465_0 hv.1 (wm_mono (wq_r ?_) (V_isThere hv b0 hx))
  by_cases hin : 0 ≤ x ∧ x < s 1
  rotate_left
  · rw [if_neg hin]
    exact k465_6 (fun w => absurd rfl w) (fun _ => k465_9 (bad 1 (by decide) (by decide) ⟨fun _ => rfl, fun w => absurd w hin⟩))
  rw [if_pos hin]
  refine k465_6 (fun _ => ?_) (fun w => absurd (by decide) w)
  obtain ⟨f, ef⟩ : ∃ f : Nat, x = f := ⟨x.toNat, by omega⟩
  subst ef
  have hf := hR.2.2 f (by omega)
  have kf := isT_kd hf
  have k3 := hR.1.2.1 f (by omega)
  have xf : (f : Int).toNat = f := by omega
  have i3 : In3 (A 1291 (f : Int).toNat) := by rw [xf]; unfold In3; omega
  have ik : A 1291 (f : Int).toNat = kd (T f) := kf
  have sp : ∀ ro, itgF (s 1) (T f) ro → itgS (s 1) T f ro := fun ro w => ⟨fun w2 => absurd hin w2, fun _ => by rw [xf]; exact w⟩
  refine k465_13 hv.1 (wm_mono (wq_r ?_) (V_is hv (x := (f : Int)) (k := 2) ⟨by omega, by omega⟩ i3 (by decide)))
  rw [ik]
  by_cases q2 : kd (T f) = 2
  · rw [if_pos q2]
    refine k465_19 (fun _ => k465_31 (bad 2 (by decide) (by decide) (sp _ ?_))) (fun w => absurd (by decide) w)
    rcases ef1 : T f with ⟨a, b⟩ | a | ⟨r, c, M⟩ | ⟨n, so, va⟩
    · rw [ef1] at q2; exact (kdn q2 rfl).elim
    · rw [ef1] at q2; exact (kdn q2 rfl).elim
    · exact rfl
    · exact rfl
  rw [if_neg q2]
  refine k465_19 (fun w => absurd rfl w) (fun _ => ?_)
  refine k465_22 hv.1 (wm_mono (wq_r ?_) (V_is hv (x := (f : Int)) (k := 3) ⟨by omega, by omega⟩ i3 (by decide)))
  rw [ik]
  by_cases q3 : kd (T f) = 3
  · rw [if_pos q3]
    refine k465_28 (fun w => absurd w (by decide)) (fun _ => k465_31 (bad 2 (by decide) (by decide) (sp _ ?_)))
    rcases ef1 : T f with ⟨a, b⟩ | a | ⟨r, c, M⟩ | ⟨n, so, va⟩
    · rw [ef1] at q3; exact (kdn q3 rfl).elim
    · rw [ef1] at q3; exact (kdn q3 rfl).elim
    · exact rfl
    · exact rfl
  rw [if_neg q3]
  refine k465_28 (fun _ => ?_) (fun w => absurd rfl w)
  by_cases q4 : s 1 = 150
  · refine k465_35 (z5 := s 1) hv.1 (fun w => absurd q4 w) (fun _ => k465_45 (bad 3 (by decide) (by decide) (sp _ ?_))) (c7 := by unfold In3; omega)
    rcases ef1 : T f with ⟨a, b⟩ | a | ⟨r, c, M⟩ | ⟨n, so, va⟩
    · exact ⟨fun _ => rfl, fun w => absurd q4 w⟩
    · exact ⟨fun _ => rfl, fun w => absurd q4 w⟩
    · rw [ef1] at q2; exact absurd rfl q2
    · rw [ef1] at q3; exact absurd rfl q3
  refine k465_35 (z5 := s 1) hv.1 (fun _ => k465_49 ?_) (fun w => absurd q4 w) (c7 := by unfold In3; omega)
  refine k465_50 (z10 := 0) hv.1 (hp_at hv.1) (fun _ => ?_) (fun w => absurd (by decide) w)
  have w0 := v0 0
  have r0 : FR h _ := FR_fld hv (1, 11, (rF s).set 0 (vi 0))
  have q1 : sq s (up s 0 0) := sq_up (sq_refl s) _ rfl
  refine k465_62 w0.1 (wm_mono (wq_Q (fun h1 w1 r1 => ?_)) (V_load w0 (t := 1298) (b := 1299) rfl rfl (by decide) (x := (f : Int)) ⟨by omega, by omega⟩ (RB_t hR.1) (RB_b hR.1)))
  rw [xf] at w1
  have m1 : sm A (up (up A 1298 (fp A 1292 f)) 1299 (fp A 1293 f)) scr := sm_up (sm_up sm_refl _ rfl) _ rfl
  have g98 : up (up A 1298 (fp A 1292 f)) 1299 (fp A 1293 f) 1298 = fp A 1292 f := by rw [up_ne _ _ (by decide), up_at]
  have g99 : up (up A 1298 (fp A 1292 f)) 1299 (fp A 1293 f) 1299 = fp A 1293 f := up_at _ _ _
  have g91 : up (up A 1298 (fp A 1292 f)) 1299 (fp A 1293 f) 1291 = A 1291 := m1 1291 rfl
  refine k465_75 w1.1 (wm_mono (wq_r ?_) (V_is w1 (x := (f : Int)) (k := 1) ⟨by omega, by omega⟩ (by rw [g91]; exact i3) (by decide)))
  rw [g91, ik]
  generalize up (up A 1298 (fp A 1292 f)) 1299 (fp A 1293 f) = A1 at w1 m1 g98 g99
  rcases ef1 : T f with ⟨a, b⟩ | a | ⟨r, c, M⟩ | ⟨n, so, va⟩
  · -- a fraction
    rw [ef1] at hf sp
    obtain ⟨_, p1, p2, p3, p4⟩ := hf
    have db := fr_deg p2
    have ek0 : (if kd (Sum.inl (a, b)) = 1 then (1 : Int) else 0) = 0 := rfl
    rw [ek0]
    refine k465_81 (fun _ => ?_) (fun w => absurd rfl w) (c1 := by decide)
    refine k465_135 w1.1 (wm_mono (wq_N (fun h2 s2 A2 v2 r2 φ => ?_)) (V_findCore w1 (g98.trans p1) (g99.trans p2) (fr_deg p1) db p3))
    obtain ⟨q2', m2, K, U, W, C, r, hS, gK, gU, gW, gC, gr⟩ := φ
    obtain ⟨dK, dU, dW, dC, dr, mU, mW⟩ := her_dg hS db p3
    have qq := sq_tr q1 (sq_cl q2')
    have s20 : s2 0 = 0 := by
      obtain ⟨y1, y2, e⟩ := q2'
      rw [e, up_ne _ _ (by decide), up_ne _ _ (by decide), up_at]
    have mm := sm_tr (scr_A m1) (sm_sub m2 (M := scrA) rfl)
    have dr6 := deg_le dr (show 41 ≤ 176 by decide)
    have br := hi_b r
    refine k465_139 v2.1 (wm_mono (wq_r ?_) (V_high v2 (c := 1324) rfl gr))
    refine k465_146 (fun w => ?_) (fun w => ?_) (c1 := by unfold In3; omega)
    · have r0' := hi_0 dr6 w
      refine k465_151 v2.1 (wm_mono (wq_N (fun h3 s3 A3 v3 r3 φ => ?_)) (V_makeCore v2 gK gU gC dK dU dC mU))
      obtain ⟨e3, m3, N, D, y1, y2, y3, y4, y5⟩ := φ
      subst e3
      refine k465_155 v3.1 (wm_mono (wq_A (fun v4 h4 s4 A4 w4 r4 φ => ?_)) (V_keep v3 (by rw [sq_1 qq]; exact b0) (N := N) (D := D) y4 y5))
      obtain ⟨res, z1, z3⟩ := endz_kps hR qq (sm_tr mm (sm_sub m3 rfl)) y2 y3 y1.2.2 y1.2.1 φ
      obtain ⟨u, eu⟩ := endz_vi z3
      subst eu
      exact k465_160 ⟨_, h4, s4, A4, w4, FR_trans r0 (FR_trans r1 (FR_trans r2 (FR_trans r3 r4))), ⟨some res, sp _ ⟨fun w2 => absurd w2 q4, fun _ => ⟨K, U, W, C, r, hS, fun w2 => absurd r0' w2, fun _ => ⟨N, D, res, y1, z1, rfl⟩⟩⟩, z3⟩, rfl⟩
    · refine k465_149 ⟨vi (-1), h2, s2, A2, v2, FR_trans r0 (FR_trans r1 r2), ⟨none, sp _ ⟨fun w2 => absurd w2 q4, fun _ => ⟨K, U, W, C, r, hS, fun _ => rfl, fun w2 => absurd w2 (zp_ne0 (by omega))⟩⟩, endn_none hR qq mm s20⟩, rfl⟩
  · -- a series
    rw [ef1] at hf sp
    obtain ⟨_, p1, p2⟩ := hf
    have ek1 : (if kd (Sum.inr (Sum.inl a)) = 1 then (1 : Int) else 0) = 1 := rfl
    rw [ek1]
    refine k465_81 (fun w => absurd w (by decide)) (fun _ => ?_) (c1 := by decide)
    refine k465_84 w1.1 (wm_mono (wq_Q (fun h2 v2 r2 => k465_91 ?_)) (V_empty w1 (c := 1302) rfl))
    have d25 := itg_deg a 24
    have loop : ∀ (l k : Nat) (B : Nat → Nat → Int) (h' : s_H), k + l = 24 → RV h' (up s 0 0) B → FR h h' → (∀ x, x ≠ 1302 → B x = A1 x) → B 1302 = cf (itg a k) → wr sw_P (d + 7) sw_c465 sw_h465 (93, [.index 1290, vi (f : Int), vi ((k : Int) + 1)], [], h', 0, 0) (RA h (fun v s' A' => ∃ ro, itgS (s 1) T f ro ∧ endn s A T ro v s' A')) := by
      intro l
      induction l with
      | zero =>
        intro k B h' hk v r o g
        have ek : k = 24 := by omega
        subst ek
        refine k465_93 (fun _ => ?_) (fun w => absurd (by decide) w) (c1 := by decide)
        refine k465_129 v.1 (wm_mono (wq_A (fun v4 h4 s4 A4 w4 r4 φ => ?_)) (V_keepSeries v (by rw [up_ne _ _ (by decide)]; exact b0) g))
        obtain ⟨res, z1, z2, z3⟩ := endz_ksQ hR q1 (sm_tr (scr_A m1) (fun x hx => o x (fun w => by rw [w] at hx; exact absurd hx (by decide)))) d25 (c25_cf d25) φ
        obtain ⟨u, eu⟩ := endz_vi z3
        subst eu
        exact k465_134 ⟨_, h4, s4, A4, w4, FR_trans r r4, ⟨some res, sp _ ⟨fun w2 => absurd w2 q4, fun w2 => by rw [z2 w2]⟩, z3⟩, rfl⟩
      | succ l ih =>
        intro k B h' hk v r o g
        have g9 : gi (mk 176 (B 1298)) ((k : Int) + 1 - 1) = ((a.1 k).val : Int) := by
          rw [show (k : Int) + 1 - 1 = (k : Int) by omega, o 1298 (by decide), g98, p1]; exact gi_mkn (by omega)
        refine k465_93 (fun w => absurd w (by omega)) (fun _ => ?_) (c1 := by unfold In3; omega)
        refine k465_99 v.1 (RV_l v (c := 1298) rfl) (wm_mono (wq_r ?_) (t_inverse (in6_of (by omega) (by omega)))) (c12 := by rw [mk_len]; omega) (c13 := by omega) (c14 := by unfold In3; omega) (c15 := by unfold In3; omega)
        have b1 := F_bd (a.1 k)
        have b2 := F_bd (nF ((k : Int) + 1) ^ 32001)
        have bm : ((a.1 k).val : Int) * (((nF ((k : Int) + 1) ^ 32001 : zp_F)).val : Int) ≤ 32003 * 32003 := Int.mul_le_mul (by omega) (by omega) (by omega) (by omega)
        have bn : 0 ≤ ((a.1 k).val : Int) * (((nF ((k : Int) + 1) ^ 32001 : zp_F)).val : Int) := Int.mul_nonneg (by omega) (by omega)
        refine k465_117 (RV_l v (c := 1302) rfl) ?_ (c1 := by rw [g9]; exact in6_of (by omega) (by omega)) (c5 := by rw [mk_len]; omega) (c6 := by omega) (c7 := by unfold In3; omega)
        rw [g9, tm_mul, mk_set, g, cf_pst (itg a k) (n := k + 1) (z := a.1 k * nF ((k : Int) + 1) ^ 32001) (t0 := ((k : Int) + 1).toNat) (by omega) rfl, itg_s]
        have := ih (k + 1) _ _ (by omega) (RV_w v (c := 1302) rfl (cf (itg a (k + 1)))) (FR_trans r (FR_w v (c := 1302) rfl _)) (fun x hx => by rw [up_ne _ _ hx]; exact o x hx) (up_at _ _ _)
        exact this
    exact loop 24 0 _ h2 (Nat.zero_add _) v2 (FR_trans r0 (FR_trans r1 r2)) (fun x hx => up_ne _ _ hx) (by rw [up_at, itg_0])
  · rw [ef1] at q2; exact absurd rfl q2
  · rw [ef1] at q3; exact absurd rfl q3
end
