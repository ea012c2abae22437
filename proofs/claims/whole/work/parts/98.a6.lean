/-! the reference's series, count and kind in the picture -/
def serF (cnt : Int) (t : th) (res : Sum th Int) : Prop := match t with
  | .inl (a, b) => (b.1 0 = 0 → res = .inr 3) ∧ (b.1 0 ≠ 0 → ∃ Q, qs a b Q 25 ∧ (cnt = 150 → res = .inr 4) ∧ (cnt ≠ 150 → res = .inl (th_se Q)))
  | _ => True
section
variable {d : Nat} {h : s_H} {s : Nat → Int} {A : Nat → Nat → Int}
theorem one_un {s : Nat → Int} {T : Nat → th} {x k : Int} {F : th → Sum th Int → Prop} (q : one s T x k ≠ 0) : unS (s 1) T (fun n => n = k) x F (.inr (one s T x k)) := by
  refine ⟨fun w => ?_, fun w w2 => ?_, fun w w2 => ?_⟩
  · have : one s T x k = 1 := if_pos w
    rw [this]
  · have ho : one s T x k = if kd (T x.toNat) = k then 0 else 2 := if_neg (fun w3 => w3 w)
    rw [ho, if_neg w2]
  · have ho : one s T x k = if kd (T x.toNat) = k then 0 else 2 := if_neg (fun w3 => w3 w)
    rw [if_pos w2] at ho
    exact absurd ho q
theorem V_series (hv : RV h s A) {T : Nat → th} (hR : RI s A T) {x : Int} (hx : In3 x) : wm sw_P (d + 4) 593 [.index 1290, vi x] h (RA h (fun v s' A' => ∃ res, unS (s 1) T (fun n => n = 0) x (serF (s 1)) res ∧ ends s A T res v s' A')) := by
  refine wm_in (cd := sw_c593) (nL := 2) (hd := sw_h593) rfl rfl ?_
  have b0 := hR.1.1
  refine k593_0 hv.1 (wm_mono (wq_A (fun v1 h1 s1 A1 w1 r1 φ => ?_)) (V_isOf hv hR hx (k := 0) (by decide)))
  rcases φ with ⟨ev, e1, q, eA⟩ | ⟨ev, e1, q, f, ef, lf, kf, m1, g, _⟩
  · rw [ev]
    refine k593_6 (fun w => absurd rfl w) (fun _ => k593_9 ⟨vi 0, h1, s1, A1, w1, r1, ⟨.inr (one s T x 0), one_un q, ?_⟩, rfl⟩)
    rw [e1, eA]
    exact ⟨sm_refl, rfl, rfl, RI_sc hR sm_refl rfl⟩
  · rw [ev]
    subst ef
    have xf : (f : Int).toNat = f := by omega
    obtain ⟨g98, g99⟩ := g (by decide)
    have hf := hR.2.2 f lf
    have s11 : s1 1 = s 1 := by rw [e1]; rfl
    have sp : ∀ res : Sum th Int, serF (s 1) (T f) res → unS (s 1) T (fun n => n = 0) f (serF (s 1)) res := fun res w => ⟨fun w2 => absurd ⟨by omega, lf⟩ w2, fun _ w2 => (w2 (by rw [xf]; exact kf)).elim, fun _ _ => by rw [xf]; exact w⟩
    refine k593_6 (fun _ => ?_) (fun w => absurd (by decide) w)
    rcases ef1 : T f with ⟨a, b⟩ | a | ⟨r, c, M⟩ | ⟨n, so, va⟩
    · rw [ef1] at hf sp
      obtain ⟨_, p1, p2, p3, p4⟩ := hf
      have e4 : gi (mk 176 (A1 1299)) 0 = cf b 0 := by rw [g99.trans p2]; exact gi_mkn (k := 0) (by decide)
      have b4 := cf_b b 0
      refine k593_11 w1.1 (Ra_ab w1) (fun q0 => ?_) (fun q0 => ?_) (c10 := by rw [mk_len]; decide) (c11 := by rw [e4]; exact in6_of (by omega) (by omega))
      · rw [e4] at q0
        have c0 : b.1 0 ≠ 0 := fun w => q0 (by unfold cf; rw [w]; rfl)
        refine k593_28 w1.1 (wm_mono (wq_Q (fun h2 w2 r2 => ?_)) (V_copy w1 (c := 1300) (e := 1299) rfl rfl (by decide)))
        refine k593_39 w2.1 (wm_mono (wq_N (fun h3 s3 A3 w3 r3 φ => ?_)) (V_quotientSeries w2 (a := a) (b := b) (by rw [up_ne _ _ (by decide)]; exact g98.trans p1) (by rw [up_at]; exact g99.trans p2) c0))
        obtain ⟨es2, Q, hQ, eA2⟩ := φ
        rw [es2] at w3
        refine k593_43 w3.1 (wm_mono (wq_A (fun v3 h4 s4 A4 w4 r4 φ => ?_)) (V_keepSeries w3 (by rw [s11]; exact b0) (f := Q) (by rw [eA2, up_at])))
        rw [e1] at φ
        obtain ⟨res, z1, z2, z3⟩ := ends_ksQ 0 hR (by rw [eA2]; exact sm_up (sm_up m1 _ rfl) _ rfl) hQ.1 (c25_cf hQ.1) φ
        obtain ⟨u, eu⟩ := ends_vi z3
        subst eu
        exact k593_48 ⟨_, h4, s4, A4, w4, FR_trans r1 (FR_trans r2 (FR_trans r3 r4)), ⟨res, sp res ⟨fun w => absurd w c0, fun _ => ⟨Q, hQ, z1, z2⟩⟩, z3⟩, rfl⟩
      · rw [e4] at q0
        have c0 : b.1 0 = 0 := cf_0 (by omega)
        refine k593_22 w1.1 (wm_mono (wq_A (fun v3 h3 s3 A3 w3 r3 φ => ?_)) (V_raise w1))
        obtain ⟨y1, y2, y3⟩ := φ
        rw [e1] at y2
        subst y1
        exact k593_27 ⟨_, h3, s3, A3, w3, FR_trans r1 r3, ⟨.inr 3, sp _ ⟨fun _ => rfl, fun w => absurd c0 w⟩, ends_bad hR m1 rfl y2 y3⟩, rfl⟩
    · rw [ef1] at kf; exact (kdn kf rfl).elim
    · rw [ef1] at kf; exact (kdn kf rfl).elim
    · rw [ef1] at kf; exact (kdn kf rfl).elim
theorem V_count (hv : RV h s A) : wm sw_P (d + 1) 427 [.index 1290] h (RA h (fun v s' A' => v = vi (s 1) ∧ s' = up s 0 0 ∧ A' = A)) := by
  refine wm_in (cd := sw_c427) (nL := 1) (hd := sw_h427) rfl rfl ?_
  exact k427_0 (z9 := s 1) hv.1 (hp_at hv.1) ⟨_, _, _, A, RV_fld hv (up s 0 0) (rF_0 s 0), FR_fld hv _, ⟨rfl, rfl, rfl⟩, rfl⟩
end
