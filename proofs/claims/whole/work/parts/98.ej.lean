/-! the reference's adjoint in the picture -/
theorem endz_badM {s s1 : Nat → Int} {A B C : Nat → Nat → Int} {T : Nat → th} {m : Nat} {dn : Nat → Nat → Prop} {M : Nat → Nat → zp_R} {k : Int} {v : Term} {s' : Nat → Int} {A' : Nat → Nat → Int} (h : RI s A T) (e : sq s s1) (mm : sm A B scrA) (a : inM B C m dn M) (em : s1 1 = m) (e1 : v = vi 0) (e2 : s' = up s1 0 k) (e3 : A' = C) : endz s A T (.inr k) v s' A' := by
  subst e3
  subst e2
  refine ⟨sm_tr (sm_sub mm rfl) (sm_sub a.1 rfl), fun j h1 h0 => ?_, e1, up_at _ _ _, ?_, ?_⟩
  · rw [up_ne _ _ (fun w => by rw [w] at h0; exact absurd h0 (by decide))]
    exact e j h0
  · rw [up_ne _ _ (by decide), sq_1 e]
  · exact RI_inM (RI_a h mm e) em (by rw [up_ne _ _ (by decide)]) a
/-- what stands against entry (i, j), turned and signed -/
noncomputable def adjM (M : Nat → Nat → zp_R) (r : Nat) : Nat → Nat → zp_R := fun i j => if (i + j) % 2 = 1 then zp_mul (zp_C (nF 32002)) (mnq M r (2 ^ r - 1 - 2 ^ j) (2 ^ r - 1 - 2 ^ i)) else mnq M r (2 ^ r - 1 - 2 ^ j) (2 ^ r - 1 - 2 ^ i)
def adjF (r : Nat) (M : Nat → Nat → zp_R) (res : Sum th Int) : Prop := ((∃ i j, i < r ∧ j < r ∧ 10 < hi (mnq M r (2 ^ r - 1 - 2 ^ j) (2 ^ r - 1 - 2 ^ i))) → res = .inr 3) ∧ ((∀ i j, i < r → j < r → hi (mnq M r (2 ^ r - 1 - 2 ^ j) (2 ^ r - 1 - 2 ^ i)) ≤ 10) → res = .inl (th_ma r r (adjM M r)))
theorem all_on {r j : Nat} (hr : r ≤ 4) (hj : j < r) : bt (2 ^ r - 1) j = 1 := by
  have : ∀ r : Fin 5, ∀ j : Fin 4, j.val < r.val → bt (2 ^ r.val - 1) j.val = 1 := by decide +kernel
  exact this ⟨r, by omega⟩ ⟨j, by omega⟩ hj
section
variable {d : Nat} {h : s_H} {s : Nat → Int} {A : Nat → Nat → Int}
theorem V_adjoint (hv : RV h s A) {T : Nat → th} (hR : RI s A T) {x : Int} (hx : In3 x) : wm sw_P (d + 5) 396 [.index 1290, vi x] h (RA h (fun v s' A' => ∃ res, sqF (s 1) T x adjF res ∧ endz s A T res v s' A')) := by
  refine wm_in (cd := sw_c396) (nL := 5) (hd := sw_h396) rfl rfl ?_
  have b0 := hR.1.1
  refine k396_0 hv.1 (wm_mono (wq_A (fun v1 h1 s1 A1 w1 r1 φ => ?_)) (V_isSquare hv hR hx))
  obtain ⟨eA, cc, hS, e1, q⟩ := φ
  subst eA
  have q1 : sq s s1 := by rw [e1]; exact sq_up (sq_refl s) _ rfl
  have s11 : s1 1 = s 1 := sq_1 q1
  rcases q with ⟨c0, ev⟩ | ⟨c0, ev, f, r, M, ef, lf, tf⟩
  · rw [ev]
    exact k396_5 (fun w => absurd rfl w) (fun _ => k396_8 ⟨vi 0, h1, s1, A1, w1, r1, ⟨.inr cc, ⟨cc, hS, fun _ => rfl, fun w => absurd w c0⟩, endz_bad hR (sq_refl s) sm_refl rfl e1 rfl⟩, rfl⟩)
  · rw [ev]
    subst ef
    have xf : (f : Int).toNat = f := by omega
    have hf := hR.2.2 f lf
    rw [tf] at hf
    obtain ⟨_, p1, p2, p3⟩ := hf
    have sp : ∀ res : Sum th Int, ((s 1 = 150 → res = .inr 3) ∧ (s 1 ≠ 150 → adjF r M res)) → sqF (s 1) T f adjF res := fun res w => ⟨cc, hS, fun w2 => absurd c0 w2, fun _ => by rw [xf, tf]; exact w⟩
    have g1 : gi (mk 150 (A1 1294)) (f : Int) = (r : Int) := by rw [gi_mkn (by omega)]; exact p3.1
    refine k396_5 (fun _ => ?_) (fun w => absurd (by decide) w)
    refine k396_10 (z5 := s1 1) w1.1 (fun q3 => ?_) (fun q3 => ?_) (c7 := by rw [s11]; unfold In3; omega)
    rotate_left
    · refine k396_20 w1.1 (wm_mono (wq_A (fun v3 h3 s3 A3 w3 r3 φ => ?_)) (V_raise w1))
      obtain ⟨y1, y2, y3⟩ := φ
      subst y1
      exact k396_25 ⟨_, h3, s3, A3, w3, FR_trans r1 r3, ⟨.inr 3, sp _ ⟨fun _ => rfl, fun w => absurd (by omega) w⟩, endz_bad hR q1 sm_refl rfl y2 y3⟩, rfl⟩
    obtain ⟨m, em⟩ : ∃ m : Nat, s1 1 = m := ⟨(s1 1).toNat, by omega⟩
    have pR := Nat.pow_le_pow_right (show 0 < 2 by decide) p1.2
    have pR1 := Nat.two_pow_pos r
    have dM : ∀ i j, i < r → j < r → zp_deg (M i j) 11 := fun i j h1 h2 => me_deg (p3.2.2 i j h1 h2)
    refine k396_26 w1.1 (wm_mono (wq_N (fun h2 s2 A2 w2 r2 φ => ?_)) (V_findMinors w1 (by omega) p1 p2 p3 hR.2.1))
    obtain ⟨e2, m2, mn⟩ := φ
    subst e2
    have m2' : sm A1 A2 scrA := sm_sub m2 rfl
    have r02 := FR_trans r1 r2
    have g2 : gi (mk 150 (A2 1294)) (f : Int) = (r : Int) := by rw [m2 1294 rfl]; exact g1
    have ez : zi 27 1 (r : Int) - 1 = ((2 ^ r - 1 : Nat) : Int) := by rw [zs (by omega)]; omega
    refine k396_31 w2.1 (Ra_rows w2) ?_ (c10 := by rw [mk_len]; omega) (c11 := by omega) (c12 := by unfold In3; omega)
    rw [g2, ez]
    have rows : ∀ {B : Nat → Nat → Int} {dn : Nat → Nat → Prop} {M : Nat → Nat → zp_R}, inM A2 B m dn M → gi (mk 150 (B 1294)) (f : Int) = (r : Int) := fun a => by rw [a.1 1294 rfl]; exact g2
    have outer : ∀ (l i : Nat) (B : Nat → Nat → Int) (h' : s_H) (t4 : Term), i + l = r → RV h' s2 B → FR h h' → inM A2 B m (fun x y => x < i ∧ y < r) (adjM M r) → (∀ x y, x < i → y < r → hi (mnq M r (2 ^ r - 1 - 2 ^ y) (2 ^ r - 1 - 2 ^ x)) ≤ 10) → wr sw_P (d + 4) sw_c396 sw_h396 (44, [.index 1290, vi (f : Int), vi ((2 ^ r - 1 : Nat) : Int), vi (i : Int), t4], [], h', 0, 0) (RA h (fun v s' A' => ∃ res, sqF (s 1) T f adjF res ∧ endz s A1 T res v s' A')) := by
      intro l
      induction l with
      | zero =>
        intro i B h' t4 hi2 v rr a hh
        have ra := rows a
        refine k396_44 v.1 (Ra_rows v) (fun _ => ?_) (fun w => absurd (by rw [ra]; omega) w) (c10 := by rw [mk_len]; omega) (c11 := by omega) (c12 := by unfold In3; omega) (c13 := by unfold In3; omega) (c14 := by rw [ra]; unfold In3; omega)
        refine k396_148 v.1 (Ra_rows v) ?_ (c10 := by rw [mk_len]; omega) (c11 := by omega) (c12 := by unfold In3; omega)
        rw [ra]
        refine wm_mono (wq_A (fun v2 h3 s3 A3 v3 r3 φ => ?_)) (V_keepMatrix v ⟨by omega, by omega⟩)
        obtain ⟨y1, y2, y3⟩ := φ
        have hN : newM A2 A3 (s2 1).toNat r r (adjM M r) := ⟨B, by rw [show (s2 1).toNat = m by omega]; exact inM_mono a (fun x y _ _ w => ⟨by omega, w.2⟩), y3⟩
        subst y1
        refine k396_164 ⟨_, h3, s3, A3, v3, FR_trans rr r3, ⟨.inl (th_ma r r (adjM M r)), sp _ ⟨fun w => absurd (by omega) q3, fun _ => ⟨fun w => ?_, fun _ => rfl⟩⟩, endz_new hR q1 m2' p1 p1 (by omega) rfl y2 hN⟩, rfl⟩
        obtain ⟨x, y, w1, w2, w3⟩ := w
        have := hh x y (by omega) w2
        omega
      | succ l ih =>
        intro i B h' t4 hi2 v rr a hh
        have ra := rows a
        refine k396_44 v.1 (Ra_rows v) (fun w => absurd w (by rw [ra]; omega)) (fun _ => k396_54 ?_) (c10 := by rw [mk_len]; omega) (c11 := by omega) (c12 := by unfold In3; omega) (c13 := by unfold In3; omega) (c14 := by rw [ra]; unfold In3; omega)
        have inner : ∀ (p j : Nat) (B : Nat → Nat → Int) (h' : s_H), j + p = r → RV h' s2 B → FR h h' → inM A2 B m (fun x y => y < r ∧ (x < i ∨ (x = i ∧ y < j))) (adjM M r) → (∀ x y, (x < i ∨ (x = i ∧ y < j)) → y < r → hi (mnq M r (2 ^ r - 1 - 2 ^ y) (2 ^ r - 1 - 2 ^ x)) ≤ 10) → wr sw_P (d + 4) sw_c396 sw_h396 (57, [.index 1290, vi (f : Int), vi ((2 ^ r - 1 : Nat) : Int), vi (i : Int), vi (j : Int)], [], h', 0, 0) (RA h (fun v s' A' => ∃ res, sqF (s 1) T f adjF res ∧ endz s A1 T res v s' A')) := by
          intro p
          induction p with
          | zero =>
            intro j B h' hj v rr a hh
            have ra := rows a
            exact k396_57 v.1 (Ra_rows v) (fun _ => k396_142 (ih (i + 1) B h' _ (by omega) v rr (inM_mono a (fun x y _ _ w => ⟨w.2, by omega⟩)) (fun x y h1 h2 => hh x y (by omega) h2))) (fun w => absurd (by rw [ra]; omega) w) (c10 := by rw [mk_len]; omega) (c11 := by omega) (c12 := by unfold In3; omega) (c13 := by unfold In3; omega) (c14 := by rw [ra]; unfold In3; omega)
          | succ p ih2 =>
            intro j B h' hj v rr a hh
            have ra := rows a
            refine k396_57 v.1 (Ra_rows v) (fun w => absurd w (by rw [ra]; omega)) (fun _ => ?_) (c10 := by rw [mk_len]; omega) (c11 := by omega) (c12 := by unfold In3; omega) (c13 := by unfold In3; omega) (c14 := by rw [ra]; unfold In3; omega)
            have bi := bt_on (c := 2 ^ r - 1) (j := i) (by omega) (by omega) (all_on p1.2 (by omega))
            have bj := bt_on (c := 2 ^ r - 1) (j := j) (by omega) (by omega) (all_on p1.2 (by omega))
            have z1 : ((2 ^ r - 1 : Nat) : Int) - zi 27 1 (j : Int) = ((2 ^ r - 1 - 2 ^ j : Nat) : Int) := by rw [zs (by omega)]; omega
            have z2 : ((2 ^ r - 1 : Nat) : Int) - zi 27 1 (i : Int) = ((2 ^ r - 1 - 2 ^ i : Nat) : Int) := by rw [zs (by omega)]; omega
            have lj : 2 ^ r - 1 - 2 ^ j ≤ 2 ^ r - 1 := Nat.sub_le _ _
            have li : 2 ^ r - 1 - 2 ^ i ≤ 2 ^ r - 1 := Nat.sub_le _ _
            refine k396_68 v.1 ?_
            rw [z1, z2]
            refine wm_mono (wq_Q (fun h3 v3 r3 => ?_)) (V_loadMinor v (p := 1308) rfl (r := 2 ^ r - 1 - 2 ^ j) (c := 2 ^ r - 1 - 2 ^ i) (by omega) (by omega))
            obtain ⟨N, eN⟩ : ∃ N, N = mnq M r (2 ^ r - 1 - 2 ^ j) (2 ^ r - 1 - 2 ^ i) := ⟨_, rfl⟩
            have eM : mi B (2 ^ r - 1 - 2 ^ j) (2 ^ r - 1 - 2 ^ i) = cf N := by
              rw [eN, ← mn (2 ^ r - 1 - 2 ^ j) (2 ^ r - 1 - 2 ^ i) (by omega) (by omega) (by omega)]
              unfold mi
              rw [a.1 1329 rfl]
            rw [eM] at v3
            have dN : zp_deg N 41 := by rw [eN]; exact mnq_deg p1.2 dM (by omega)
            have bh := hi_b N
            have a3 := inM_sc a (C := up B 1308 (cf N)) (sm_up sm_refl _ rfl)
            refine k396_87 v3.1 (wm_mono (wq_r ?_) (V_high v3 (c := 1308) rfl (up_at _ _ _)))
            refine k396_94 (fun w => ?_) (fun w => ?_) (c1 := by unfold In3; omega)
            rotate_left
            · refine k396_99 v3.1 (wm_mono (wq_A (fun v4 h4 s4 A4 w4 r4 φ => ?_)) (V_raise v3))
              obtain ⟨y1, y2, y3⟩ := φ
              subst y1
              refine k396_104 ⟨_, h4, s4, A4, w4, FR_trans rr (FR_trans r3 r4), ⟨.inr 3, sp _ ⟨fun _ => rfl, fun _ => ⟨fun _ => rfl, fun w2 => ?_⟩⟩, endz_badM hR q1 m2' a3 em rfl y2 y3⟩, rfl⟩
              have := w2 i j (by omega) (by omega)
              rw [← eN] at this
              exact absurd this w
            have dN11 : zp_deg N 11 := fun x hx => hi_deg (deg_le dN (by decide)) x (by omega)
            have hh2 : ∀ x y, (x < i ∨ (x = i ∧ y < j + 1)) → y < r → hi (mnq M r (2 ^ r - 1 - 2 ^ y) (2 ^ r - 1 - 2 ^ x)) ≤ 10 := fun x y h1 h2 => by
              by_cases q5 : x = i ∧ y = j
              · rw [q5.1, q5.2, ← eN]; exact w
              · exact hh x y (by omega) h2
            have et : Int.tmod ((i : Int) + (j : Int)) 2 = (((i + j) % 2 : Nat) : Int) := by
              rw [Int.tmod_eq_emod_of_nonneg (by omega)]; omega
            have go : ∀ (N' : zp_R) (C : Nat → Nat → Int) (h5 : s_H), RV h5 s2 C → FR h h5 → sm B C [1304, 1308, 1309, 1310] → C 1308 = cf N' → N' = adjM M r i j → zp_deg N' 11 → wr sw_P (d + 4) sw_c396 sw_h396 (125, [.index 1290, vi (f : Int), vi ((2 ^ r - 1 : Nat) : Int), vi (i : Int), vi (j : Int)], [], h5, 0, 0) (RA h (fun v s' A' => ∃ res, sqF (s 1) T f adjF res ∧ endz s A1 T res v s' A')) := by
              intro N' C h5 v5 r5 mC gN eN' dN'
              have a3 := inM_sc a mC
              subst eN'
              refine k396_125 v5.1 (wm_mono (wq_Q (fun h6 v6 r6 => ?_)) (V_keepEntry v5 (p := 1308) rfl (m := m) (i := i) (j := j) (by omega) em (by omega) (by omega) gN))
              exact k396_136 (ih2 (j + 1) _ _ (by omega) v6 (FR_trans r5 r6) (inM_mono (inM_step a3 (i := i) (j := j) (by omega) (by omega) dN') (fun x y _ _ w => by
                by_cases q5 : x = i ∧ y = j
                · exact .inr q5
                · exact .inl ⟨w.1, by omega⟩)) hh2)
            refine k396_105 (fun q4 => ?_) (fun q4 => ?_) (c1 := by unfold In3; omega) (c2 := by rw [et]; unfold In3; omega)
            · rw [et] at q4
              exact go N _ h3 v3 (FR_trans rr r3) (sm_up sm_refl _ rfl) (up_at _ _ _) (by unfold adjM; rw [if_neg (by omega), eN]) dN11
            · rw [et] at q4
              refine k396_115 v3.1 (wm_mono (wq_Q (fun h4 v4 r4 => ?_)) (V_scale v3 (c := 1308) rfl (up_at _ _ _) (z := 32002) (by decide)))
              exact go _ _ h4 v4 (FR_trans rr (FR_trans r3 r4)) (sm_up (sm_up sm_refl _ rfl) _ rfl) (up_at _ _ _) (by unfold adjM; rw [if_pos (by omega), eN]) (deg_Cm _ dN11)
        exact inner r 0 B h' (by omega) v rr (inM_mono a (fun x y _ _ w => ⟨by omega, w.1⟩)) (fun x y h1 h2 => hh x y (by omega) h2)
    exact outer r 0 A2 h2 _ (by omega) w2 r02 ⟨sm_refl, fun _ _ => rfl, fun _ => .inl rfl, fun x y _ _ w => absurd w.1 (by omega)⟩ (fun x y h1 => absurd h1 (by omega))
end
