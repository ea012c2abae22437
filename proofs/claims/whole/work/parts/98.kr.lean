/-! the class: the calls root, entry, obeys, unroll, own, companion -/
section
variable {D : Nat} {h : s_H} {n : Nat} {T : Nat → th} {tx lf lp tk : Int}
theorem sq_pm {a b : zp_F} (h : a * a = b * b) : a = b ∨ a = -b := by
  by_cases q : a = b
  · exact .inl q
  · right
    have ne : a - b ≠ 0 := fun w => q (sp_h w)
    have iv := zp_inv ne
    exact sp_h2 h iv
where
  sp_h : ∀ {a b : zp_F}, a - b = 0 → a = b := by intro a b h; grind
  sp_h2 : ∀ {a b c : zp_F}, a * a = b * b → (a - b) * c = 1 → a = -b := by intro a b c h1 h2; grind
theorem nF_cmpl (z : Int) : nF (32003 - z) = -(nF z) := by
  rw [nF_sub, show nF 32003 = 0 by decide +kernel]
  exact ne_h _
where ne_h : ∀ s : zp_F, 0 - s = -s := by intro s; grind
theorem u_lesserRoot (v : zp_F) : wm sw_P (D + 2) 236 [vi (v.val : Int)] h (fun out => ∃ x : Int, qr (vi x) h out ∧ In3 x ∧ (v = 0 → x = 0) ∧ (v ≠ 0 → 0 < x → ∃ r : Nat, x = r ∧ 1 ≤ r ∧ r ≤ 16001 ∧ nF (r : Int) * nF (r : Int) = v) ∧ (v ≠ 0 → ¬ 0 < x → ∀ r : Nat, nF (r : Int) * nF (r : Int) ≠ v)) := by
  refine wm_in (cd := sw_c236) (nL := 2) (hd := sw_h236) rfl rfl ?_
  obtain ⟨s, es⟩ : ∃ s : zp_F, v ^ 8001 = s := ⟨_, rfl⟩
  have lv := v.isLt
  have ls := s.isLt
  refine k236_0 (wm_mono (wq_r ?_) (u_raised (v := v) (n := 8001) (by decide)))
  rw [es]
  have t2 : Int.tmod ((s.val : Int) * (s.val : Int)) 32003 = ((s * s : zp_F).val : Int) := tm_pr s s
  have l2 := (s * s).isLt
  refine k236_7 (fun w => ?_) (fun w => k236_19 ⟨-1, rfl, by decide, fun v0 => ?_, fun _ q => absurd q (by first | (simp [kd]; done) | decide), fun v0 _ r er => ?_⟩) (c1 := pr_In3 _ _) (c2 := by rw [t2]; unfold In3; omega) (c3 := by unfold In3; omega)
  · rw [t2] at w
    have ess : s * s = v := F_ext w
    refine k236_21 (wm_mono (wq_r ?_) (u_min (x := (s.val : Int)) (y := 32003 - (s.val : Int)) (by unfold In3; omega) (by unfold In3; omega)))
    obtain ⟨x, ex⟩ : ∃ x : Int, (if 32003 - (s.val : Int) < (s.val : Int) then 32003 - (s.val : Int) else (s.val : Int)) = x := ⟨_, rfl⟩
    rw [ex]
    have xb : 0 ≤ x ∧ x ≤ 16001 := by split at ex <;> omega
    refine k236_30 ⟨x, rfl, by unfold In3; omega, fun v0 => ?_, fun v0 x0 => ⟨x.toNat, by omega, by omega, by omega, ?_⟩, fun v0 x0 r er => ?_⟩
    · have s0 : s = 0 := Classical.byContradiction (fun q => by
        rw [v0] at ess
        have iv := zp_inv q
        exact q (lr_h ess iv))
      rw [s0] at ex
      have z0 : ((0 : zp_F).val : Int) = 0 := rfl
      rw [z0] at ex
      split at ex <;> omega
    · rw [show ((x.toNat : Nat) : Int) = x by omega]
      by_cases q : 32003 - (s.val : Int) < (s.val : Int)
      · rw [if_pos q] at ex
        rw [← ex, nF_cmpl, nF_val, ← ess]
        exact lr_h2 _
      · rw [if_neg q] at ex
        rw [← ex, nF_val, ess]
    · have x00 : x = 0 := by omega
      have s0 : (s.val : Int) = 0 := by split at ex <;> omega
      have : s = 0 := F_ext (by rw [s0]; rfl)
      rw [this] at ess
      exact v0 (by rw [← ess]; decide)
  · exfalso
    have s0 : s = 0 := by
      rw [← es, v0, zp_pow_succ]
      exact zp_h15 _
    rw [s0, v0] at w
    exact w (by decide)
  · exfalso
    refine w ?_
    rw [t2]
    have : s * s = v := by
      obtain ⟨a, ea⟩ : ∃ a, nF (r : Int) = a := ⟨_, rfl⟩
      rw [ea] at er
      have a0 : a ≠ 0 := fun q => v0 (by rw [← er, q]; decide)
      have iv := zp_inv a0
      obtain ⟨P, eP⟩ : ∃ P, a ^ 32001 = P := ⟨_, rfl⟩
      rw [eP] at iv
      have p1 : s = a ^ 16002 := by rw [← es, ← er, zp_pow_mul, ← zp_pow_add]
      have p2 : s * s = a ^ 32004 := by rw [p1, ← zp_pow_add]
      have p3 : a ^ 32004 = a ^ 32001 * a * a * a := by rw [show 32004 = 32001 + 1 + 1 + 1 by decide, zp_pow_succ, zp_pow_succ, zp_pow_succ]
      rw [p2, p3, eP, ← er]
      exact lr_h3 iv
    rw [this]
where
  lr_h : ∀ {s c : zp_F}, s * s = 0 → s * c = 1 → s = 0 := by intro s c h1 h2; grind
  lr_h2 : ∀ s : zp_F, -s * -s = s * s := by intro s; grind
  lr_h3 : ∀ {a P : zp_F}, a * P = 1 → P * a * a * a = a * a := by intro a P h; grind
/-- THE CALL root -/
theorem u_root (H : CA h n T tx lf lp tk) (rm : RM h 100) {x : Int} (hx : In3 x) : wm sw_P (D + 4) 80 [.index 1, vi x] h (fun out => ∃ res, unS n T (fun k => k = 1) x (rooF n) res ∧ CE 100 4000 100 [3, 1, 0] h n T tx lf lp tk res out) := by
  refine wm_in (cd := sw_c80) (nL := 4) (hd := sw_h80) rfl rfl ?_
  have lo := H.1.2
  refine k80_0 H.1.1 (r_ofKind H hx (by decide) (fun a x0 xn ka Ka k0 => ?_) (fun w => CE_x H 1 rfl (unS_1 w) (by omega) (by omega)) (fun x0 xn w => CE_x H 2 rfl (unS_2 ⟨x0, xn⟩ w) (by omega) (by omega)))
  obtain ⟨f, et⟩ := kd_cases.2.1 k0
  have sp : ∀ res, rooF n (th_se f) res → unS n T (fun k => k = 1) x (rooF n) res := fun res w => unS_3 ⟨x0, xn⟩ k0 (by rw [et]; exact w)
  rw [et] at Ka
  obtain ⟨b, ga, kb, gb, df⟩ := id Ka
  have e0 : gi (mk 25 (cf f)) 0 = ((f.1 0).val : Int) := gi_cf' (n := 0) rfl (by decide)
  refine k80_6 (a8 := mk 25 (cf f)) ga gb ?_ (c10 := by rw [mk_len]; omega)
  rw [e0]
  refine wm_mono (fun out => ?_) (u_lesserRoot (f.1 0))
  intro ⟨y, eo, iy, y0, y1, y2⟩
  refine wq_r ?_ out eo
  have sq0 : ∀ {m : Nat}, 1 ≤ m → m ≤ 16001 → nF (m : Int) * nF (m : Int) ≠ 0 := fun {m} m1 m2 e => by
    have ne : nF (m : Int) ≠ 0 := fun w => by
      have := (nF_is0 (x := (m : Int)) (by omega)).mp w
      omega
    exact ne (u_lesserRoot.lr_h e (zp_inv ne))
  refine k80_16 (fun w => ?_) (fun w => k80_21 (CE_x H 2 rfl (sp _ ⟨fun _ => rfl, fun r r1 r2 er _ => ?_⟩) (by omega) (by omega))) (c2 := iy)
  · have f0 : f.1 0 ≠ 0 := fun e => by have := y0 e; omega
    obtain ⟨r, er, r1, r2, rr⟩ := y1 f0 w
    subst er
    refine k80_29 ga (wm_mono (wq_SN (fun h1 c R ef dR F1 g1 b1 S1 => ?_)) (u_rootS (RM_le rm (by omega)) (by omega) (a := b) (f := f) ⟨gb, by have := kb.1; omega, kb.2⟩ (v := r) ⟨r1, r2⟩))
    refine k80_38 (CA_G H F1).1.1 (keep_new H rm F1 g1 (by omega) b1 S1 dR (by omega) (by omega) (bad := 3) rfl (fun res w1 w2 => sp res ⟨fun q => absurd rr (q r r1 r2), fun r' r1' r2' er' least => ?_⟩) (fun v h' x y q => k80_41 q))
    have same : r' = r := by
      rcases sq_pm (er'.trans rr.symm) with q | q
      · have := congrArg (fun a : zp_F => (a.val : Int)) q
        rw [nF_v, nF_v] at this
        omega
      · rw [← nF_cmpl] at q
        have := congrArg (fun a : zp_F => (a.val : Int)) q
        rw [nF_v, nF_v] at this
        omega
    subst same
    exact ⟨R, ef, w1, w2⟩
  · exfalso
    by_cases f0 : f.1 0 = 0
    · exact sq0 r1 r2 (er.trans f0)
    · exact y2 f0 w r er
/-- THE CALL entry -/
theorem u_entry (H : CA h n T tx lf lp tk) (rm : RM h 100) {x i j : Int} (hx : In3 x) (hi2 : In3 i) (hj : In3 j) : wm sw_P (D + 4) 21 [.index 1, vi x, vi i, vi j] h (fun out => ∃ res, unS n T (fun k => k = 2) x (entF n i j) res ∧ CE 100 4000 100 [3, 1, 0] h n T tx lf lp tk res out) := by
  refine wm_in (cd := sw_c21) (nL := 5) (hd := sw_h21) rfl rfl ?_
  have e3 : exl [3, 1, 0] 1 = 3 := rfl
  refine k21_0 H.1.1 (r_ofKind H hx (by decide) (fun a x0 xn ka Ka k0 => ?_) (fun w => CE_x H 1 rfl (unS_1 w) (by omega) (by omega)) (fun x0 xn w => CE_x H 2 rfl (unS_2 ⟨x0, xn⟩ w) (by omega) (by omega)))
  obtain ⟨r, w, M, et⟩ := kd_cases.2.2.1 k0
  have sp : ∀ res, entF n i j (th_ma r w M) res → unS n T (fun k => k = 2) x (entF n i j) res := fun res w => unS_3 ⟨x0, xn⟩ k0 (by rw [et]; exact w)
  rw [et] at Ka
  obtain ⟨_, ga⟩ := KT_ce Ka
  obtain ⟨r14, w14⟩ := KT_rw Ka
  have lo := H.1.2
  have out : ¬ (0 ≤ i ∧ i < (r : Int) ∧ 0 ≤ j ∧ j < (w : Int)) → entF n i j (th_ma r w M) (.inr 1) := fun q => ⟨fun _ => rfl, fun q2 => absurd q2 q⟩
  refine k21_6 (z5 := (r : Int)) ga (r_below hi2 (by unfold In3; omega) (fun i0 => ?_) (fun q => CE_x H 1 rfl (sp _ (out (fun q2 => q ⟨q2.1, q2.2.1⟩))) (by omega) (by omega)))
  refine k21_17 (z5 := (w : Int)) ga (r_below hj (by unfold In3; omega) (fun j0 => ?_) (fun q => CE_x H 1 rfl (sp _ (out (fun q2 => q q2.2.2))) (by omega) (by omega)))
  obtain ⟨i', ei⟩ : ∃ i' : Nat, i = i' := ⟨i.toNat, by omega⟩
  obtain ⟨j', ej⟩ : ∃ j' : Nat, j = j' := ⟨j.toNat, by omega⟩
  subst ei ej
  refine k21_26 ga (wm_mono (fun out => ?_) (u_entryAt Ka (i := i') (j := j') (by omega) (by omega)))
  intro ⟨q, lq, kq, Pq, dq, eo⟩
  refine wq_r ?_ out eo
  have q1 : q + 1 < h.1 := by rcases kq with w | w <;> omega
  refine k21_34 H.1.1 (wm_mono (fun out => ?_) (u_keepWhole H (RM_le rm (by omega)) Pq (deg_le dq (by decide)) q1 (bad := 3) (l := [3, 1, 0]) rfl))
  intro ⟨res, r1, r2⟩
  refine wq_CE (fun v h' x y q => k21_37 q) (CF_refl _ _) (by omega) (by omega) (by omega) (fun out c => ⟨res, sp res ⟨fun q => absurd ⟨i0.1, i0.2, j0.1, j0.2⟩ q, fun _ => ⟨fun q => r1.1 (.inl q), fun q => ?_⟩⟩, c⟩) out r2
  have h10 : hi (M i' j') < 11 := hi_lt dq (Nat.le_refl _)
  have h1 := C_hi 1
  have := r1.2 (by omega)
  rw [show ((i' : Int)).toNat = i' by omega, show ((j' : Int)).toNat = j' by omega]
  exact this
end
section
variable {D d nx kc ks : Nat} {cd : s_Cd} {ls rest : List Term} {Q : s_O → Prop} {h : s_H} {n : Nat} {T : Nat → th} {tx lf lp tk : Int}
/-- a rule -/
theorem r_rule {c : Nat} {t : th} (Kt : KT h c t) (ok : ∀ w M, t = th_ma 1 w M → M 0 (w - 1) ≠ zp_C 0 → wr sw_P d cd [] (nx, ls, rest, h, kc, ks) Q) (bad : ¬ rulP t → Q (.inr 1, h, kc + 1, ks + 6)) : wm sw_P (D + 2) 55 [.index c] h (wq sw_P d cd [] nx ls rest kc ks Q) := by
  by_cases e : rulP t
  · have : ∃ w M, t = th_ma 1 w M ∧ M 0 (w - 1) ≠ zp_C 0 := by
      rcases t with ⟨N1, D1⟩ | f | ⟨r, w, M⟩ | ⟨n1, so, va⟩
      · exact e.elim
      · exact e.elim
      · obtain ⟨er, e0⟩ := e
        subst er
        exact ⟨w, M, rfl, e0⟩
      · exact e.elim
    obtain ⟨w, M, et, ne⟩ := this
    rw [et] at Kt
    obtain ⟨_, ga⟩ := KT_ce Kt
    obtain ⟨r14, w14⟩ := KT_rw Kt
    refine wm_mono (fun out eo => wq_v (ok w M et ne) out eo) (Q' := qv h) ?_
    refine wm_in (cd := sw_c55) (nL := 1) (hd := sw_h55) rfl rfl ?_
    refine k55_0 (z5 := 2) ga (fun w => absurd rfl w) (fun _ => ?_) (c7 := by decide)
    refine k55_8 (z5 := 1) ga (fun _ => ?_) (fun w => absurd rfl w) (c7 := by decide)
    refine k55_24 (z5 := (w : Int)) ga ?_
    rw [show (w : Int) - 1 = ((w - 1 : Nat) : Int) by omega]
    refine wm_mono (fun out => ?_) (u_entryAt Kt (i := 0) (j := w - 1) (by omega) (by omega))
    intro ⟨q, lq, _, Pq, _, eo⟩
    refine wq_r ?_ out eo
    obtain ⟨e1, _, P1, b1, _, x1, y1⟩ := id Pq
    have c1 := b1.1
    exact k55_35 (z4 := e1) P1.2.1 (fun _ => k55_49 rfl) (fun w => absurd (dgp_0 b1 (by omega)) ne) (c6 := by unfold In3; omega)
  · refine wm_mono (Q' := fun out => out = (.inr 1, h, 1, 6)) (fun out eo => by rw [eo]; exact ⟨rfl, bad e⟩) ?_
    refine wm_in (cd := sw_c55) (nL := 1) (hd := sw_h55) rfl rfl ?_
    obtain ⟨fs, gk⟩ := KT_kd Kt
    have bk := kd_b t
    refine k55_0 (z5 := kd t) gk (fun _ => k55_16 rfl) (fun w => ?_) (c7 := by unfold In3; omega)
    obtain ⟨r, w', M, et⟩ := kd_cases.2.2.1 (Classical.byContradiction w)
    rw [et] at Kt e
    obtain ⟨_, ga⟩ := KT_ce Kt
    obtain ⟨r14, w14⟩ := KT_rw Kt
    refine k55_8 (z5 := (r : Int)) ga (fun r1 => ?_) (fun _ => k55_16 rfl) (c7 := by unfold In3; omega)
    have er : r = 1 := by omega
    subst er
    refine k55_24 (z5 := (w' : Int)) ga ?_
    rw [show (w' : Int) - 1 = ((w' - 1 : Nat) : Int) by omega]
    refine wm_mono (fun out => ?_) (u_entryAt Kt (i := 0) (j := w' - 1) (by omega) (by omega))
    intro ⟨q, lq, _, Pq, _, eo⟩
    refine wq_r ?_ out eo
    obtain ⟨e1, _, P1, b1, _, x1, y1⟩ := id Pq
    have c1 := b1.1
    have z : M 0 (w' - 1) = zp_C 0 := Classical.byContradiction (fun w => e ⟨rfl, w⟩)
    have := dgp_none z b1
    exact k55_35 (z4 := e1) P1.2.1 (fun w => absurd w (by omega)) (fun _ => k55_41 rfl) (c6 := by unfold In3; omega)
theorem r_square {c r w : Nat} {M : Nat → Nat → zp_R} (Kt : KT h c (th_ma r w M)) (ok : r = w → wr sw_P d cd [] (nx, ls, rest, h, kc, ks) Q) (bad : r ≠ w → Q (.inr 1, h, kc + 1, ks + 6)) : wm sw_P (D + 1) 56 [.index c] h (wq sw_P d cd [] nx ls rest kc ks Q) := by
  obtain ⟨_, ga⟩ := KT_ce Kt
  obtain ⟨r14, w14⟩ := KT_rw Kt
  by_cases e : r = w
  · refine wm_mono (fun out eo => wq_v (ok e) out eo) (Q' := qv h) ?_
    refine wm_in (cd := sw_c56) (nL := 1) (hd := sw_h56) rfl rfl ?_
    exact k56_0 (z5 := (r : Int)) (z7 := (w : Int)) ga (fun _ => k56_19 rfl) (fun q => absurd (by omega) q) (c9 := by unfold In3; omega) (c10 := by unfold In3; omega)
  · refine wm_mono (Q' := fun out => out = (.inr 1, h, 1, 6)) (fun out eo => by rw [eo]; exact ⟨rfl, bad e⟩) ?_
    refine wm_in (cd := sw_c56) (nL := 1) (hd := sw_h56) rfl rfl ?_
    exact k56_0 (z5 := (r : Int)) (z7 := (w : Int)) ga (fun q => absurd (by omega) e) (fun q => k56_11 rfl) (c9 := by unfold In3; omega) (c10 := by unfold In3; omega)
/-- THE CALL obeys -/
theorem u_obeys (H : CA h n T tx lf lp tk) {x y : Int} (hx : In3 x) (hy : In3 y) : wm sw_P (D + 4) 63 [.index 1, vi x, vi y] h (fun out => ∃ c v, obeS n T x y c v ∧ CV 100 4000 100 [3, 1] h n T tx lf lp tk c v out) := by
  refine wm_in (cd := sw_c63) (nL := 5) (hd := sw_h63) rfl rfl ?_
  have no1 : ¬ (0 ≤ x ∧ x < (n : Int) ∧ 0 ≤ y ∧ y < (n : Int)) → obeS n T x y 1 0 := fun w => ⟨fun _ => ⟨rfl, rfl⟩, fun q => absurd q w⟩
  refine k63_0 H.1.1 (r_thing H hx (fun a x0 xn ka Ka => ?_) (fun w => ⟨1, 0, no1 (fun q => w ⟨q.1, q.2.1⟩), CV_x H 1 0 (by decide) rfl (by omega) (by omega)⟩))
  refine k63_5 H.1.1 (r_thing H hy (fun b y0 yn kb Kb => ?_) (fun w => ⟨1, 0, no1 (fun q => w q.2.2), CV_x H 1 0 (by decide) rfl (by omega) (by omega)⟩))
  have b0 : 0 ≤ x ∧ x < (n : Int) ∧ 0 ≤ y ∧ y < (n : Int) := ⟨x0, xn, y0, yn⟩
  have no2 : ¬ rkO 1 (T x.toNat) (T y.toNat) → obeS n T x y 2 0 := fun w => ⟨fun q => absurd b0 q, fun _ => ⟨fun _ => ⟨rfl, rfl⟩, fun q => absurd q w⟩⟩
  refine k63_11 (r_rule Ka (fun w M et ne => ?_) (fun w => ⟨2, 0, no2 (fun q => w q.1), CV_x H 2 0 (by decide) rfl (by omega) (by omega)⟩))
  refine k63_17 (r_kind Kb (by decide) (fun k1 => ?_) (fun w => ⟨2, 0, no2 (fun q => w q.2), CV_x H 2 0 (by decide) rfl (by omega) (by omega)⟩))
  obtain ⟨f, eu⟩ := kd_cases.2.1 k1
  have sp : ∀ v, obeF (th_ma 1 w M) (th_se f) v → obeS n T x y 0 v := fun v q => ⟨fun q => absurd b0 q, fun _ => ⟨fun q2 => absurd (show rkO 1 (T x.toNat) (T y.toNat) by rw [et, eu]; exact ⟨⟨rfl, ne⟩, rfl⟩) q2, fun _ => ⟨rfl, by rw [et, eu]; exact q⟩⟩⟩
  rw [et] at Ka
  rw [eu] at Kb
  obtain ⟨p, gb, kp1, gp, dp⟩ := id Kb
  refine k63_23 gb (wm_mono (fun out => ?_) (u_obeying Ka (a := p) (f := f) ⟨gp, by have := kp1.1; omega, kp1.2⟩))
  intro ⟨v, hv, eo⟩
  refine wq_r ?_ out eo
  have v01 : v = 0 ∨ v = 1 := by
    by_cases q : ∀ n : Nat, n + w - 1 < 25 → rsm (M 0) f.1 n w = 0
    · exact .inr (hv.1 q)
    · exact .inl (hv.2 q)
  exact k63_32 ⟨0, v, sp v hv, CV_v H v (by omega) (by omega)⟩ (c1 := v01)
theorem unroll_fin (H : CA h n T tx lf lp tk) (rm : RM h 100) {x y : Int} {a b q w p m : Nat} {M : Nat → Nat → zp_R} {f : zp_R} (Ka : KT h a (th_ma 1 w M)) (ka : kt h a) (gb : s_get h b = some (1, 8, [vi 1, .null, .null, vi 0, vi 0, .null, .index p, vi 0])) (kp1 : kt h p) (gp : s_get h p = some (ai 25 (cf f))) (sp : ∀ res, unrF n (th_ma 1 w M) (th_se f) res → unrS n T x y res) (all : ∀ i : Nat, i + w ≤ 25 → zp_ev (nF (i : Int)) (M 0 (w - 1)) ≠ 0) : wr sw_P (D + 3) sw_c97 sw_h97 (75, [.index 1, vi x, vi y, .index a, .index b, .index q, vi (m : Int)], [], h, 0, 0) (fun out => ∃ res, unrS n T x y res ∧ CE 100 4000 100 [3, 1, 2, 0] h n T tx lf lp tk res out) := by
  obtain ⟨r14, w14⟩ := KT_rw Ka
  have lo := H.1.2
  have n0 : ∀ n : Nat, n < 25 → w - 1 ≤ n → zp_ev (nF ((n - (w - 1) : Nat) : Int)) (M 0 (w - 1)) ≠ 0 := fun n n1 n2 => all _ (by omega)
  refine k97_75 gb (wm_mono (wq_SN (fun h1 c R ef dR F1 g1 b1 S1 => ?_)) (u_unrolled (RM_le rm (by omega)) (by omega) lo Ka ka (a := p) (f := f) ⟨gp, by have := kp1.1; omega, kp1.2⟩ n0))
  exact k97_85 (CA_G H F1).1.1 (keep_new H rm F1 g1 (by omega) b1 S1 dR (by omega) (by omega) (bad := 4) rfl (fun res w1 w2 => sp res ⟨fun ⟨i, i1, i2, i3⟩ => absurd i3 (n0 i i1 i2), fun _ => ⟨R, ef, w1, w2⟩⟩) (fun v h' x y q => k97_88 q))
/-- THE CALL unroll -/
theorem u_unroll (H : CA h n T tx lf lp tk) (rm : RM h 100) {x y : Int} (hx : In3 x) (hy : In3 y) : wm sw_P (D + 4) 97 [.index 1, vi x, vi y] h (fun out => ∃ res, unrS n T x y res ∧ CE 100 4000 100 [3, 1, 2, 0] h n T tx lf lp tk res out) := by
  refine wm_in (cd := sw_c97) (nL := 7) (hd := sw_h97) rfl rfl ?_
  have lo := H.1.2
  have no1 : ¬ (0 ≤ x ∧ x < (n : Int) ∧ 0 ≤ y ∧ y < (n : Int)) → unrS n T x y (.inr 1) := fun w => ⟨fun _ => rfl, fun q => absurd q w⟩
  refine k97_0 H.1.1 (r_thing H hx (fun a x0 xn ka Ka => ?_) (fun w => CE_x H 1 rfl (no1 (fun q => w ⟨q.1, q.2.1⟩)) (by omega) (by omega)))
  refine k97_5 H.1.1 (r_thing H hy (fun b y0 yn kb Kb => ?_) (fun w => CE_x H 1 rfl (no1 (fun q => w q.2.2)) (by omega) (by omega)))
  have b0 : 0 ≤ x ∧ x < (n : Int) ∧ 0 ≤ y ∧ y < (n : Int) := ⟨x0, xn, y0, yn⟩
  have no2 : ¬ rkO 1 (T x.toNat) (T y.toNat) → unrS n T x y (.inr 2) := fun w => ⟨fun q => absurd b0 q, fun _ => ⟨fun _ => rfl, fun q => absurd q w⟩⟩
  refine k97_11 (r_rule Ka (fun w M et ne => ?_) (fun w => CE_x H 2 rfl (no2 (fun q => w q.1)) (by omega) (by omega)))
  refine k97_17 (r_kind Kb (by decide) (fun k1 => ?_) (fun w => CE_x H 2 rfl (no2 (fun q => w q.2)) (by omega) (by omega)))
  obtain ⟨f, eu⟩ := kd_cases.2.1 k1
  have sp : ∀ res, unrF n (th_ma 1 w M) (th_se f) res → unrS n T x y res := fun res q => ⟨fun q => absurd b0 q, fun _ => ⟨fun q2 => absurd (show rkO 1 (T x.toNat) (T y.toNat) by rw [et, eu]; exact ⟨⟨rfl, ne⟩, rfl⟩) q2, fun _ => by rw [et, eu]; exact q⟩⟩
  rw [et] at Ka
  rw [eu] at Kb
  obtain ⟨p, gb, kp1, gp, dp⟩ := id Kb
  obtain ⟨_, ga⟩ := KT_ce Ka
  obtain ⟨r14, w14⟩ := KT_rw Ka
  refine k97_23 (z5 := (w : Int)) ga ?_
  rw [show (w : Int) - 1 = ((w - 1 : Nat) : Int) by omega]
  refine wm_mono (fun out => ?_) (u_entryAt Ka (i := 0) (j := w - 1) (by omega) (by omega))
  intro ⟨q, lq, _, Pq, _, eo⟩
  refine wq_r (k97_34 ?_) out eo
  have loop : ∀ (l m : Nat), m + l = 26 → (∀ i : Nat, i < m → i + w ≤ 25 → zp_ev (nF (i : Int)) (M 0 (w - 1)) ≠ 0) → wr sw_P (D + 3) sw_c97 sw_h97 (39, [.index 1, vi x, vi y, .index a, .index b, .index q, vi (m : Int)], [], h, 0, 0) (fun out => ∃ res, unrS n T x y res ∧ CE 100 4000 100 [3, 1, 2, 0] h n T tx lf lp tk res out) := by
    intro l
    induction l with
    | zero =>
      intro m hm Hm
      refine k97_39 (z5 := (w : Int)) ga (fun _ => ?_) (fun q2 => absurd (by omega) q2) (c7 := by unfold In3; omega) (c8 := by unfold In3; omega)
      exact unroll_fin H rm Ka ka gb kp1 gp sp (fun i h1 => Hm i (by omega) h1)
    | succ l ih =>
      intro m hm Hm
      refine k97_39 (z5 := (w : Int)) ga (fun q2 => unroll_fin H rm Ka ka gb kp1 gp sp (fun i h1 => Hm i (by omega) h1)) (fun q2 => ?_) (c7 := by unfold In3; omega) (c8 := by unfold In3; omega)
      refine k97_51 (PF_c Pq) (wm_mono (wq_r ?_) (u_valueAt Pq (x := (m : Int)) (by omega)))
      have lz := (zp_ev (nF (m : Int)) (M 0 (w - 1))).isLt
      refine k97_58 (fun z => k97_69 ?_) (fun z => k97_61 ?_) (c1 := by unfold In3; omega)
      rotate_left
      · have z' : zp_ev (nF ((m + (w - 1) - (w - 1) : Nat) : Int)) (M 0 (w - 1)) = 0 := by
          rw [show m + (w - 1) - (w - 1) = m by omega]
          exact F_ext (by rw [Classical.byContradiction z]; rfl)
        exact CE_x H 3 rfl (sp _ ⟨fun _ => rfl, fun q3 => absurd z' (q3 (m + (w - 1)) (by omega) (by omega))⟩) (by omega) (by omega)
      rw [show (m : Int) + 1 = ((m + 1 : Nat) : Int) by omega]
      refine ih (m + 1) (by omega) (fun i h1 h2 => ?_)
      by_cases e : i = m
      · subst e
        exact fun e2 => z (by rw [e2]; rfl)
      · exact Hm i (by omega) h2
  exact loop 26 0 rfl (fun i h1 => absurd h1 (Nat.not_lt_zero i))
end
