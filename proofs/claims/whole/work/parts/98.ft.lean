/-! the reference's closed in the picture -/
def cloF (cnt : Int) (t : th) (ro : Option (Sum th Int)) : Prop := match t with
  | .inl (a, b) => (a = zp_C 0 → ro = some (.inr 2)) ∧ (a ≠ zp_C 0 → (cnt = 150 → ro = some (.inr 3)) ∧ (cnt ≠ 150 → ∃ P R G, gsp a b 21 P R G ∧ ((ro = none ∧ ∀ q, zp_deg q 21 → gop (P 21) (R 21) q ≠ gsw G 21) ∨ ∃ e q N D res, e ≤ 20 ∧ gan (P 21) (R 21) (gsw G 21) e q ∧ cn (zp_mul (mvf (R 21) (nF (-1))) q) (gsw G 21) N D ∧ kps cnt N D 3 res ∧ ro = some res)))
  | _ => ro = some (.inr 2)
def cloS (cnt : Int) (T : Nat → th) (x : Int) (ro : Option (Sum th Int)) : Prop := (¬ (0 ≤ x ∧ x < cnt) → ro = some (.inr 1)) ∧ ((0 ≤ x ∧ x < cnt) → cloF cnt (T x.toNat) ro)
section
variable {d : Nat} {h : s_H} {s : Nat → Int} {A : Nat → Nat → Int}
theorem V_closed (hv : RV h s A) {T : Nat → th} (hR : RI s A T) {x : Int} (hx : In3 x) : wm sw_P (d + 8) 420 [.index 1290, vi x] h (RA h (fun v s' A' => ∃ ro, cloS (s 1) T x ro ∧ endn s A T ro v s' A')) := by
  refine wm_in (cd := sw_c420) (nL := 2) (hd := sw_h420) rfl rfl ?_
  have b0 := hR.1.1
  refine k420_0 hv.1 (wm_mono (wq_A (fun v1 h1 s1 A1 w1 r1 φ => ?_)) (V_isOf hv hR hx (k := 0) (by decide)))
  rcases φ with ⟨ev, e1, q, eA⟩ | ⟨ev, e1, q, f, ef, lf, kf, m1, g, _⟩
  · rw [ev]
    refine k420_6 (fun w => absurd rfl w) (fun _ => k420_9 ⟨vi 0, h1, s1, A1, w1, r1, ⟨some (.inr (one s T x 0)), ?_, endz_bad hR (sq_refl s) sm_refl rfl e1 eA⟩, rfl⟩)
    rcases one_c q with ⟨w, e⟩ | ⟨w, w2, e⟩
    · exact ⟨fun _ => by rw [e], fun w2 => absurd w2 w⟩
    · refine ⟨fun w3 => absurd w w3, fun _ => ?_⟩
      rw [e]
      rcases et : T x.toNat with ⟨a, b⟩ | t
      · rw [et] at w2; exact absurd rfl w2
      · exact rfl
  rw [ev]
  subst ef
  have xf : (f : Int).toNat = f := by omega
  obtain ⟨g98, g99⟩ := g (by decide)
  have hf := hR.2.2 f lf
  have q1 : sq s s1 := by rw [e1]; exact sq_up (sq_refl s) _ rfl
  have sp : ∀ ro, cloF (s 1) (T f) ro → cloS (s 1) T f ro := fun ro w => ⟨fun w2 => absurd ⟨by omega, lf⟩ w2, fun _ => by rw [xf]; exact w⟩
  refine k420_6 (fun _ => ?_) (fun w => absurd (by decide) w)
  rcases ef1 : T f with ⟨a, b⟩ | t
  rotate_left
  · rw [ef1] at kf
    rcases t with a | ⟨r, c, M⟩ | ⟨n, so, va⟩
    · exact (kdn kf rfl).elim
    · exact (kdn kf rfl).elim
    · exact (kdn kf rfl).elim
  rw [ef1] at hf sp
  obtain ⟨_, p1, p2, p3, p4⟩ := hf
  have da := fr_deg p1
  have db := fr_deg p2
  have da6 := deg_le da (show 41 ≤ 176 by decide)
  have ba := hi_b a
  refine k420_11 w1.1 (wm_mono (wq_r ?_) (V_high w1 (c := 1298) rfl (g98.trans p1)))
  have raise_ : ∀ k : Int, cloS (s 1) T f (some (.inr k)) → ∀ v : Term, ∀ (h2 : s_H) (s2 : Nat → Int) (A2 : Nat → Nat → Int), RV h2 s2 A2 → FR h1 h2 → v = vi 0 → s2 = up s1 0 k → A2 = A1 → RA h (fun v s' A' => ∃ ro, cloS (s 1) T f ro ∧ endn s A T ro v s' A') (.inl (some v), h2, 0, 0) := fun k hs v h2 s2 A2 v2 r2 y1 y2 y3 => ⟨v, h2, s2, A2, v2, FR_trans r1 r2, ⟨some (.inr k), hs, endz_bad hR q1 (scr_A m1) y1 y2 y3⟩, rfl⟩
  by_cases a0 : a = zp_C 0
  · have ha0 : hi a < 0 := Int.not_le.mp (fun w => zp_ne0 w a0)
    refine k420_18 (fun w => absurd w (by omega)) (fun _ => ?_) (c1 := by unfold In3; omega)
    refine k420_21 w1.1 (wm_mono (wq_A (fun v2 h2 s2 A2 w2 r2 φ => ?_)) (V_raise w1))
    obtain ⟨y1, y2, y3⟩ := φ
    rw [y1]
    exact k420_26 (raise_ 2 (sp _ ⟨fun _ => rfl, fun w => absurd a0 w⟩) _ h2 s2 A2 w2 r2 rfl y2 y3)
  have ha0 := hi_ge da6 a0
  have s11 : s1 1 = s 1 := sq_1 q1
  refine k420_18 (fun _ => ?_) (fun w => absurd ha0 w) (c1 := by unfold In3; omega)
  by_cases q4 : s 1 = 150
  · refine k420_27 (z5 := s1 1) w1.1 (fun w => absurd (s11.trans q4) w) (fun _ => ?_) (c7 := by rw [s11]; unfold In3; omega)
    refine k420_37 w1.1 (wm_mono (wq_A (fun v2 h2 s2 A2 w2 r2 φ => ?_)) (V_raise w1))
    obtain ⟨y1, y2, y3⟩ := φ
    rw [y1]
    exact k420_42 (raise_ 3 (sp _ ⟨fun w => absurd w a0, fun _ => ⟨fun _ => rfl, fun w => absurd q4 w⟩⟩) _ h2 s2 A2 w2 r2 rfl y2 y3)
  refine k420_27 (z5 := s1 1) w1.1 (fun _ => ?_) (fun w => absurd (fun w2 => q4 (s11.symm.trans w2)) w) (c7 := by rw [s11]; unfold In3; omega)
  have s10 : s1 0 = 0 := by rw [e1, up_at]
  refine k420_43 w1.1 (wm_mono (wq_A (fun v2 h2 s2 A2 v2' r2 φ => ?_)) (V_isSplit w1 (g98.trans p1) (g99.trans p2) da db a0 p3))
  obtain ⟨es2, m2, P, R, G, N, gs, mN, dP, dR, P0, mR, w⟩ := φ
  subst es2
  have m2' : sm A A2 scrA := sm_tr (scr_A m1) (sm_sub m2 rfl)
  have tell : ∀ ro, ((ro = none ∧ ∀ q, zp_deg q 21 → gop (P 21) (R 21) q ≠ gsw G 21) ∨ ∃ e q N D res, e ≤ 20 ∧ gan (P 21) (R 21) (gsw G 21) e q ∧ cn (zp_mul (mvf (R 21) (nF (-1))) q) (gsw G 21) N D ∧ kps (s 1) N D 3 res ∧ ro = some res) → cloS (s 1) T f ro := fun ro w => sp _ ⟨fun w2 => absurd w2 a0, fun _ => ⟨fun w2 => absurd w2 q4, fun _ => ⟨P, R, G, gs, w⟩⟩⟩
  rcases w with ⟨y1, N60, k98, k99, k12⟩ | ⟨y1, N61⟩
  · subst y1
    refine k420_47 (fun w => absurd w (by decide)) (fun _ => ?_) (c1 := by decide)
    have dD : zp_deg (gsw G 21) 61 := deg_le mN.2 (by omega)
    refine k420_50 v2'.1 (wm_mono (wq_A (fun v3 h3 s3 A3 v3' r3 φ => ?_)) (V_isAnswered v2' k98 k99 k12 dP dR dD))
    obtain ⟨es3, m3, j99, w⟩ := φ
    subst es3
    have m3' : sm A A3 scrA := sm_tr m2' (sm_sub m3 rfl)
    rcases w with ⟨y1, e, q, e20, hq, dq, j08⟩ | ⟨y1, no⟩
    · subst y1
      refine k420_54 (fun _ => ?_) (fun w => absurd (by decide) w) (c1 := by decide)
      have dbb : zp_deg (mvf (R 21) (nF (-1))) 41 := mvf_dg (n := 40) _ dR (by omega)
      have dbq : zp_deg (zp_mul (mvf (R 21) (nF (-1))) q) 61 := zp_deg_mul (n := 40) (m := 20) dbb dq
      refine k420_59 v3'.1 (wm_mono (wq_Q (fun h4 v4 r4 => ?_)) (V_multiply v3' (p := 1299) (q := 1308) rfl rfl (by decide) (by decide) j99 j08))
      refine k420_71 v4.1 (wm_mono (wq_Q (fun h5 v5 r5 => ?_)) (V_copy v4 (c := 1302) (e := 1304) rfl rfl (by decide)))
      rw [up_at] at v5
      refine k420_82 v5.1 (wm_mono (wq_Q (fun h6 v6 r6 => ?_)) (V_copy v5 (c := 1303) (e := 1312) rfl rfl (by decide)))
      have i12 : up (up A3 1304 (cf (zp_mul (mvf (R 21) (nF (-1))) q))) 1302 (cf (zp_mul (mvf (R 21) (nF (-1))) q)) 1312 = cf (gsw G 21) := by rw [up_ne _ _ (by decide), up_ne _ _ (by decide), m3 1312 rfl, k12]
      rw [i12] at v6
      have dD6 := deg_le dD (show 61 ≤ 176 by decide)
      refine k420_93 v6.1 (wm_mono (wq_N (fun h7 s7 A7 v7 r7 φ => ?_)) (V_lower v6 (n := zp_mul (mvf (R 21) (nF (-1))) q) (m := gsw G 21) (by rw [up_ne _ _ (by decide), up_at]) (up_at _ _ _) (deg_le dbq (by decide)) dD6 (mo_pos ⟨N, mN.1, mN.2⟩ dD6)))
      obtain ⟨es7, ⟨Nn, Dd, x1, x2, x3, x4, x5⟩, m7⟩ := φ
      subst es7
      refine k420_97 v7.1 (wm_mono (wq_A (fun v8 h8 s8 A8 w8 r8 φ => ?_)) (V_keep v7 (by rw [s11]; exact b0) (N := Nn) (D := Dd) x4 x5))
      obtain ⟨res, z1, z3⟩ := endz_kps hR q1 (sm_tr (sm_up (sm_up (sm_up m3' _ rfl) _ rfl) _ rfl) (sm_sub m7 rfl)) x2 x3 x1.2.2 x1.2.1 φ
      obtain ⟨u, eu⟩ := endz_vi z3
      subst eu
      exact k420_102 ⟨_, h8, s8, A8, w8, FR_trans r1 (FR_trans r2 (FR_trans r3 (FR_trans r4 (FR_trans r5 (FR_trans r6 (FR_trans r7 r8)))))), ⟨some res, tell _ (.inr ⟨e, q, Nn, Dd, res, e20, hq, x1, z1, rfl⟩), z3⟩, rfl⟩
    · subst y1
      refine k420_54 (fun w => absurd rfl w) (fun _ => k420_57 ?_) (c1 := by decide)
      exact ⟨vi (-1), h3, _, A3, v3', FR_trans r1 (FR_trans r2 r3), ⟨none, tell _ (.inl ⟨rfl, no⟩), endn_none hR q1 m3' s10⟩, rfl⟩
  · subst y1
    refine k420_47 (fun _ => k420_57 ?_) (fun w => absurd rfl w) (c1 := by decide)
    refine ⟨vi (-1), h2, _, A2, v2', FR_trans r1 r2, ⟨none, tell _ (.inl ⟨rfl, fun q dq e => ?_⟩), endn_none hR q1 m2' s10⟩, rfl⟩
    have dg := gop_deg dP dR dq
    rw [e] at dg
    have t := mN.1
    rw [dg N (by omega)] at t
    exact zp_F10 t.symm
end
