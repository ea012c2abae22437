/-! the reference's splitTop and remainder in the picture -/
def remF (cnt : Int) (t : th) (res : Sum th Int) : Prop := match t with
  | .inl (a, b) => ∃ Q, quo a b Q ∧ keeps cnt Q 3 res
  | _ => True
theorem mo_n0 {f : zp_R} (h : mo f) : f ≠ zp_C 0 := fun w => by
  obtain ⟨n, h1, _⟩ := h
  rw [w, zp_C00] at h1
  exact absurd h1 (by decide)
section
variable {d : Nat} {h : s_H} {s : Nat → Int} {A : Nat → Nat → Int}
theorem V_splitTop (hv : RV h s A) {a b : zp_R} (ha : A 1298 = cf a) (hb : A 1299 = cf b) (da : zp_deg a 176) (db : zp_deg b 176) (h0 : 0 ≤ hi b) : wm sw_P (d + 4) 598 [.index 1290] h (RN h (fun s' A' => s' = s ∧ ∃ Q R, a = zp_add (zp_mul b Q) R ∧ zp_deg R (hi b).toNat ∧ zp_deg R 176 ∧ zp_deg Q 176 ∧ A' = up (up (up A 1305 (cf Q)) 1298 (cf R)) 1309 (cf Q))) := by
  refine wm_in (cd := sw_c598) (nL := 1) (hd := sw_h598) rfl rfl ?_
  refine k598_0 hv.1 (wm_mono (wq_N (fun h1 s1 A1 v1 r1 φ => ?_)) (V_divide hv (p := 1298) (q := 1299) rfl rfl (by decide) (by decide) (by decide) ha hb da db h0))
  obtain ⟨e1, Q, R, x1, x2, x3, x4, x5⟩ := φ
  subst e1
  refine k598_12 v1.1 (wm_mono (wq_Q (fun h2 v2 r2 => ?_)) (V_copy v1 (c := 1309) (e := 1305) rfl rfl (by decide)))
  have e : A1 1305 = cf Q := by rw [x5, up_ne _ _ (by decide), up_at]
  rw [e] at v2
  exact k598_23 ⟨h2, s1, _, v2, FR_trans r1 r2, ⟨rfl, Q, R, x1, x2, x3, x4, by rw [x5]⟩, rfl⟩
theorem V_remainder (hv : RV h s A) {T : Nat → th} (hR : RI s A T) {x : Int} (hx : In3 x) : wm sw_P (d + 5) 581 [.index 1290, vi x] h (RA h (fun v s' A' => ∃ res, unS (s 1) T (fun n => n = 0) x (remF (s 1)) res ∧ endz s A T res v s' A')) := by
  refine wm_in (cd := sw_c581) (nL := 2) (hd := sw_h581) rfl rfl ?_
  have b0 := hR.1.1
  refine k581_0 hv.1 (wm_mono (wq_A (fun v1 h1 s1 A1 w1 r1 φ => ?_)) (V_isOf hv hR hx (k := 0) (by decide)))
  rcases φ with ⟨ev, e1, q, eA⟩ | ⟨ev, e1, q, f, ef, lf, kf, m1, g, _⟩
  · rw [ev]
    exact k581_6 (fun w => absurd rfl w) (fun _ => k581_9 ⟨vi 0, h1, s1, A1, w1, r1, ⟨.inr (one s T x 0), one_un q, endz_bad hR (sq_refl s) sm_refl rfl e1 eA⟩, rfl⟩)
  · rw [ev]
    subst ef
    have xf : (f : Int).toNat = f := by omega
    obtain ⟨g98, g99⟩ := g (by decide)
    have hf := hR.2.2 f lf
    have q1 : sq s s1 := by rw [e1]; exact sq_up (sq_refl s) _ rfl
    have s11 : s1 1 = s 1 := sq_1 q1
    have sp : ∀ res : Sum th Int, remF (s 1) (T f) res → unS (s 1) T (fun n => n = 0) f (remF (s 1)) res := fun res w => ⟨fun w2 => absurd ⟨by omega, lf⟩ w2, fun _ w2 => (w2 (by rw [xf]; exact kf)).elim, fun _ _ => by rw [xf]; exact w⟩
    refine k581_6 (fun _ => ?_) (fun w => absurd (by decide) w)
    rcases ef1 : T f with ⟨a, b⟩ | t
    · rw [ef1] at hf sp
      obtain ⟨_, p1, p2, p3, p4⟩ := hf
      have d1 := deg_le (fr_deg p1) (show 41 ≤ 176 by decide)
      have d2 := deg_le (fr_deg p2) (show 41 ≤ 176 by decide)
      refine k581_11 w1.1 (wm_mono (wq_N (fun h2 s2 A2 w2 r2 φ => ?_)) (V_splitTop w1 (g98.trans p1) (g99.trans p2) d1 d2 (hi_ge d2 (mo_n0 p3))))
      obtain ⟨e2, Q, R, x1, x2, x3, x4, x5⟩ := φ
      subst e2
      have eQ : A2 1309 = cf Q := by rw [x5, up_at]
      have m2 : sm A A2 scrA := by rw [x5]; exact sm_up (sm_up (sm_up (scr_A m1) _ rfl) _ rfl) _ rfl
      refine k581_15 w2.1 (wm_mono (wq_Q (fun h3 w3 r3 => ?_)) (V_copy w2 (c := 1302) (e := 1309) rfl rfl (by decide)))
      rw [eQ] at w3
      refine k581_26 w3.1 (wm_mono (wq_Q (fun h4 w4 r4 => ?_)) (V_become w3 (c := 1303) rfl (z := 1) (by decide)))
      rw [nF_1] at w4
      refine k581_34 w4.1 (wm_mono (wq_A (fun v5 h5 s5 A5 w5 r5 φ => ?_)) (V_keep w4 (by rw [s11]; exact b0) (N := Q) (D := zp_C 1) (by rw [up_ne _ _ (by decide), up_at]) (up_at _ _ _)))
      obtain ⟨res, z1, z3⟩ := endz_keeps hR q1 (sm_up (sm_up m2 _ rfl) _ rfl) x4 φ
      obtain ⟨u, eu⟩ := endz_vi z3
      subst eu
      exact k581_39 ⟨_, h5, s5, A5, w5, FR_trans r1 (FR_trans r2 (FR_trans r3 (FR_trans r4 r5))), ⟨res, sp res ⟨Q, ⟨R, x1, x2⟩, z1⟩, z3⟩, rfl⟩
    · rw [ef1] at kf
      rcases t with a | ⟨r, c, M⟩ | ⟨n, so, va⟩
      · exact (kdn kf rfl).elim
      · exact (kdn kf rfl).elim
      · exact (kdn kf rfl).elim
end
