/-! the reference's core and rest in the picture -/
/-- a fraction in lowest terms is kept, if it isn't too great -/
def kps (cnt : Int) (N D : zp_R) (bad : Int) (res : Sum th Int) : Prop := ((cnt = 150 ∨ 40 < hi N ∨ 40 < hi D) → res = .inr bad) ∧ (¬ (cnt = 150 ∨ 40 < hi N ∨ 40 < hi D) → res = .inl (th_fr N D))
theorem endz_kps {s s1 : Nat → Int} {A B : Nat → Nat → Int} {T : Nat → th} {bad : Int} {N D : zp_R} (h : RI s A T) (e : sq s s1) (m : sm A B scrA) (hN : zp_deg N 176) (hD : zp_deg D 176) (mD : mo D) (hc : co N D) {v : Term} {s' : Nat → Int} {A' : Nat → Nat → Int} (φ : kQ s1 B bad N D v s' A') : ∃ res, kps (s 1) N D bad res ∧ endz s A T res v s' A' := by
  obtain ⟨res, z1, z2, z3⟩ := endz_kQ h e m hN hD mD hc φ
  exact ⟨res, ⟨z1, z2⟩, z3⟩
def corF (cnt : Int) (t : th) (res : Sum th Int) : Prop := match t with
  | .inl (a, b) => ∃ K U W C r N D, herS a b K U W C r ∧ cn (zp_add (zp_mul K U) C) U N D ∧ kps cnt N D 3 res
  | _ => True
def rstF (cnt : Int) (t : th) (res : Sum th Int) : Prop := match t with
  | .inl (a, b) => ∃ K U W C r N D, herS a b K U W C r ∧ cn r W N D ∧ kps cnt N D 3 res
  | _ => True
/-- degrees of what core and rest are made of -/
theorem her_dg {a b K U W C r : zp_R} (h : herS a b K U W C r) (db : zp_deg b 41) (mb : mo b) : zp_deg K 42 ∧ zp_deg U 41 ∧ zp_deg W 41 ∧ zp_deg C 41 ∧ zp_deg r 41 ∧ mo U ∧ mo W := by
  obtain ⟨Q, R, V, e1, e2, e3, e4, e5, e6, e7, e8, e9⟩ := h
  have mU : mo U := e3.2.2.2.resolve_left (fun w => mo_n0 mb (by
    obtain ⟨q, e⟩ := e3.1
    rw [e, w, zp_h20R, zp_mul0]))
  have mW := mo_quo mU mb e4
  have lt : ∀ {f : zp_R}, mo f → dv f b → zp_deg f 41 := fun {f} hf w => by
    obtain ⟨n, y1, y2⟩ := hf
    obtain ⟨m, z1, z2⟩ := mb
    have le := mon_le ⟨y1, y2⟩ ⟨z1, z2⟩ w
    have : m < 41 := Nat.lt_of_not_le (fun w2 => by
      rw [db m w2] at z1
      exact zp_F10 z1.symm)
    exact deg_le y2 (by omega)
  have dU := lt mU ⟨W, e4⟩
  have dW := lt mW ⟨U, by rw [e4, zp_h20R]⟩
  have lU := hi_lt dU (Nat.le_refl _)
  have lW := hi_lt dW (Nat.le_refl _)
  exact ⟨by rw [e9]; exact itg_deg Q 41, dU, dW, deg_le e6 (by omega), deg_le e7 (by omega), mU, mW⟩
section
variable {d : Nat} {h : s_H} {s : Nat → Int} {A : Nat → Nat → Int}
def mcL : List Nat := [1302, 1303, 1304, 1305, 1306, 1307]
theorem V_makeCore (hv : RV h s A) {K U C : zp_R} (gK : A 1325 = cf K) (gU : A 1321 = cf U) (gC : A 1323 = cf C) (dK : zp_deg K 42) (dU : zp_deg U 41) (dC : zp_deg C 41) (mU : mo U) : wm sw_P (d + 7) 520 [.index 1290] h (RN h (fun s' A' => s' = s ∧ sm A A' mcL ∧ ∃ N D, cn (zp_add (zp_mul K U) C) U N D ∧ zp_deg N 176 ∧ zp_deg D 176 ∧ A' 1302 = cf N ∧ A' 1303 = cf D)) := by
  refine wm_in (cd := sw_c520) (nL := 1) (hd := sw_h520) rfl rfl ?_
  refine k520_0 hv.1 (wm_mono (wq_Q (fun h1 v1 r1 => ?_)) (V_multiply hv (p := 1325) (q := 1321) rfl rfl (by decide) (by decide) gK gU))
  refine k520_12 v1.1 (wm_mono (wq_Q (fun h2 v2 r2 => ?_)) (V_copy v1 (c := 1302) (e := 1304) rfl rfl (by decide)))
  rw [up_at] at v2
  refine k520_23 v2.1 (wm_mono (wq_Q (fun h3 v3 r3 => ?_)) (V_more v2 (c := 1302) (e := 1323) rfl rfl (by decide) (f := zp_mul K U) (g := C) (up_at _ _ _) (by rw [up_ne _ _ (by decide), up_ne _ _ (by decide)]; exact gC) (z := 1) (by decide)))
  have e1 : zp_add (zp_mul K U) (zp_mul (zp_C (nF 1)) C) = zp_add (zp_mul K U) C := by
    rw [nF_1, zp_C1]
    exact @mc_h zp_R zp_ring _ _
  rw [e1] at v3
  refine k520_35 v3.1 (wm_mono (wq_Q (fun h4 v4 r4 => ?_)) (V_copy v3 (c := 1303) (e := 1321) rfl rfl (by decide)))
  have e2 : up (up (up A 1304 (cf (zp_mul K U))) 1302 (cf (zp_mul K U))) 1302 (cf (zp_add (zp_mul K U) C)) 1321 = cf U := by rw [up_ne _ _ (by decide), up_ne _ _ (by decide), up_ne _ _ (by decide), gU]
  rw [e2] at v4
  have dKU : zp_deg (zp_mul K U) 176 := fun i hi2 => zp_c_lt dK dU (by omega)
  refine k520_46 v4.1 (wm_mono (wq_N (fun h5 s5 A5 v5 r5 φ => ?_)) (V_lower v4 (n := zp_add (zp_mul K U) C) (m := U) (by rw [up_ne _ _ (by decide), up_at]) (up_at _ _ _) (deg_add dKU (deg_le dC (by decide))) (deg_le dU (by decide)) (mo_pos mU (deg_le dU (by decide)))))
  obtain ⟨e5, ⟨N, D, y1, y2, y3, y4, y5⟩, m5⟩ := φ
  subst e5
  exact k520_50 ⟨h5, _, A5, v5, FR_trans r1 (FR_trans r2 (FR_trans r3 (FR_trans r4 r5))), ⟨rfl, sm_tr (sm_up (sm_up (sm_up (sm_up sm_refl _ rfl) _ rfl) _ rfl) _ rfl) (sm_sub m5 rfl), N, D, y1, y2, y3, y4, y5⟩, rfl⟩
where mc_h : ∀ {R : Type} [Lean.Grind.CommRing R] (a b : R), a + 1 * b = a + b := by intro R _ a b; grind
theorem V_makeRest (hv : RV h s A) {W r : zp_R} (gW : A 1322 = cf W) (gr : A 1324 = cf r) (dW : zp_deg W 41) (dr : zp_deg r 41) (mW : mo W) : wm sw_P (d + 7) 523 [.index 1290] h (RN h (fun s' A' => s' = s ∧ sm A A' mcL ∧ ∃ N D, cn r W N D ∧ zp_deg N 176 ∧ zp_deg D 176 ∧ A' 1302 = cf N ∧ A' 1303 = cf D)) := by
  refine wm_in (cd := sw_c523) (nL := 1) (hd := sw_h523) rfl rfl ?_
  refine k523_0 hv.1 (wm_mono (wq_Q (fun h1 v1 r1 => ?_)) (V_copy hv (c := 1302) (e := 1324) rfl rfl (by decide)))
  rw [gr] at v1
  refine k523_11 v1.1 (wm_mono (wq_Q (fun h2 v2 r2 => ?_)) (V_copy v1 (c := 1303) (e := 1322) rfl rfl (by decide)))
  have e2 : up A 1302 (cf r) 1322 = cf W := by rw [up_ne _ _ (by decide), gW]
  rw [e2] at v2
  refine k523_22 v2.1 (wm_mono (wq_N (fun h5 s5 A5 v5 r5 φ => ?_)) (V_lower v2 (n := r) (m := W) (by rw [up_ne _ _ (by decide), up_at]) (up_at _ _ _) (deg_le dr (by decide)) (deg_le dW (by decide)) (mo_pos mW (deg_le dW (by decide)))))
  obtain ⟨e5, ⟨N, D, y1, y2, y3, y4, y5⟩, m5⟩ := φ
  subst e5
  exact k523_26 ⟨h5, _, A5, v5, FR_trans r1 (FR_trans r2 r5), ⟨rfl, sm_tr (sm_up (sm_up sm_refl _ rfl) _ rfl) (sm_sub m5 rfl), N, D, y1, y2, y3, y4, y5⟩, rfl⟩
theorem V_core (hv : RV h s A) {T : Nat → th} (hR : RI s A T) {x : Int} (hx : In3 x) : wm sw_P (d + 8) 426 [.index 1290, vi x] h (RA h (fun v s' A' => ∃ res, unS (s 1) T (fun n => n = 0) x (corF (s 1)) res ∧ endz s A T res v s' A')) := by
  refine wm_in (cd := sw_c426) (nL := 2) (hd := sw_h426) rfl rfl ?_
  have b0 := hR.1.1
  refine k426_0 hv.1 (wm_mono (wq_A (fun v1 h1 s1 A1 w1 r1 φ => ?_)) (V_isOf hv hR hx (k := 0) (by decide)))
  rcases φ with ⟨ev, e1, q, eA⟩ | ⟨ev, e1, q, f, ef, lf, kf, m1, g, _⟩
  · rw [ev]
    exact k426_6 (fun w => absurd rfl w) (fun _ => k426_9 ⟨vi 0, h1, s1, A1, w1, r1, ⟨.inr (one s T x 0), one_un q, endz_bad hR (sq_refl s) sm_refl rfl e1 eA⟩, rfl⟩)
  rw [ev]
  subst ef
  have xf : (f : Int).toNat = f := by omega
  obtain ⟨g98, g99⟩ := g (by decide)
  have hf := hR.2.2 f lf
  have q1 : sq s s1 := by rw [e1]; exact sq_up (sq_refl s) _ rfl
  have sp : ∀ res : Sum th Int, corF (s 1) (T f) res → unS (s 1) T (fun n => n = 0) f (corF (s 1)) res := fun res w => ⟨fun w2 => absurd ⟨by omega, lf⟩ w2, fun _ w2 => (w2 (by rw [xf]; exact kf)).elim, fun _ _ => by rw [xf]; exact w⟩
  refine k426_6 (fun _ => ?_) (fun w => absurd (by decide) w)
  rcases ef1 : T f with ⟨a, b⟩ | t
  rotate_left
  · rw [ef1] at kf
    rcases t with a | ⟨r, c, M⟩ | ⟨n, so, va⟩
    · exact (kdn kf rfl).elim
    · exact (kdn kf rfl).elim
    · exact (kdn kf rfl).elim
  rw [ef1] at hf sp
  obtain ⟨_, p1, p2, p3, p4⟩ := hf
  refine k426_11 w1.1 (wm_mono (wq_N (fun h2 s2 A2 v2 r2 φ => ?_)) (V_findCore w1 (g98.trans p1) (g99.trans p2) (fr_deg p1) (fr_deg p2) p3))
  obtain ⟨q2, m2, K, U, W, C, r, hS, gK, gU, gW, gC, gr⟩ := φ
  obtain ⟨dK, dU, dW, dC, dr, mU, mW⟩ := her_dg hS (fr_deg p2) p3
  have q2' := sq_tr q1 (sq_cl q2)
  have m2' := sm_tr (scr_A m1) (sm_sub m2 rfl)
  refine k426_15 v2.1 (wm_mono (wq_N (fun h3 s3 A3 v3 r3 φ => ?_)) (V_makeCore v2 gK gU gC dK dU dC mU))
  obtain ⟨e3, m3, N, D, y1, y2, y3, y4, y5⟩ := φ
  subst e3
  refine k426_19 v3.1 (wm_mono (wq_A (fun v4 h4 s4 A4 w4 r4 φ => ?_)) (V_keep v3 (by rw [sq_1 q2']; exact b0) (N := N) (D := D) y4 y5))
  obtain ⟨res, z1, z3⟩ := endz_kps hR q2' (sm_tr m2' (sm_sub m3 rfl)) y2 y3 y1.2.2 y1.2.1 φ
  obtain ⟨u, eu⟩ := endz_vi z3
  subst eu
  exact k426_24 ⟨_, h4, s4, A4, w4, FR_trans r1 (FR_trans r2 (FR_trans r3 r4)), ⟨res, sp res ⟨K, U, W, C, r, N, D, hS, y1, z1⟩, z3⟩, rfl⟩
theorem V_rest (hv : RV h s A) {T : Nat → th} (hR : RI s A T) {x : Int} (hx : In3 x) : wm sw_P (d + 8) 582 [.index 1290, vi x] h (RA h (fun v s' A' => ∃ res, unS (s 1) T (fun n => n = 0) x (rstF (s 1)) res ∧ endz s A T res v s' A')) := by
  refine wm_in (cd := sw_c582) (nL := 2) (hd := sw_h582) rfl rfl ?_
  have b0 := hR.1.1
  refine k582_0 hv.1 (wm_mono (wq_A (fun v1 h1 s1 A1 w1 r1 φ => ?_)) (V_isOf hv hR hx (k := 0) (by decide)))
  rcases φ with ⟨ev, e1, q, eA⟩ | ⟨ev, e1, q, f, ef, lf, kf, m1, g, _⟩
  · rw [ev]
    exact k582_6 (fun w => absurd rfl w) (fun _ => k582_9 ⟨vi 0, h1, s1, A1, w1, r1, ⟨.inr (one s T x 0), one_un q, endz_bad hR (sq_refl s) sm_refl rfl e1 eA⟩, rfl⟩)
  rw [ev]
  subst ef
  have xf : (f : Int).toNat = f := by omega
  obtain ⟨g98, g99⟩ := g (by decide)
  have hf := hR.2.2 f lf
  have q1 : sq s s1 := by rw [e1]; exact sq_up (sq_refl s) _ rfl
  have sp : ∀ res : Sum th Int, rstF (s 1) (T f) res → unS (s 1) T (fun n => n = 0) f (rstF (s 1)) res := fun res w => ⟨fun w2 => absurd ⟨by omega, lf⟩ w2, fun _ w2 => (w2 (by rw [xf]; exact kf)).elim, fun _ _ => by rw [xf]; exact w⟩
  refine k582_6 (fun _ => ?_) (fun w => absurd (by decide) w)
  rcases ef1 : T f with ⟨a, b⟩ | t
  rotate_left
  · rw [ef1] at kf
    rcases t with a | ⟨r, c, M⟩ | ⟨n, so, va⟩
    · exact (kdn kf rfl).elim
    · exact (kdn kf rfl).elim
    · exact (kdn kf rfl).elim
  rw [ef1] at hf sp
  obtain ⟨_, p1, p2, p3, p4⟩ := hf
  refine k582_11 w1.1 (wm_mono (wq_N (fun h2 s2 A2 v2 r2 φ => ?_)) (V_findCore w1 (g98.trans p1) (g99.trans p2) (fr_deg p1) (fr_deg p2) p3))
  obtain ⟨q2, m2, K, U, W, C, r, hS, gK, gU, gW, gC, gr⟩ := φ
  obtain ⟨dK, dU, dW, dC, dr, mU, mW⟩ := her_dg hS (fr_deg p2) p3
  have q2' := sq_tr q1 (sq_cl q2)
  have m2' := sm_tr (scr_A m1) (sm_sub m2 rfl)
  refine k582_15 v2.1 (wm_mono (wq_N (fun h3 s3 A3 v3 r3 φ => ?_)) (V_makeRest v2 gW gr dW dr mW))
  obtain ⟨e3, m3, N, D, y1, y2, y3, y4, y5⟩ := φ
  subst e3
  refine k582_19 v3.1 (wm_mono (wq_A (fun v4 h4 s4 A4 w4 r4 φ => ?_)) (V_keep v3 (by rw [sq_1 q2']; exact b0) (N := N) (D := D) y4 y5))
  obtain ⟨res, z1, z3⟩ := endz_kps hR q2' (sm_tr m2' (sm_sub m3 rfl)) y2 y3 y1.2.2 y1.2.1 φ
  obtain ⟨u, eu⟩ := endz_vi z3
  subst eu
  exact k582_24 ⟨_, h4, s4, A4, w4, FR_trans r1 (FR_trans r2 (FR_trans r3 r4)), ⟨res, sp res ⟨K, U, W, C, r, N, D, hS, y1, z1⟩, z3⟩, rfl⟩
end
