/-! the reference's turned in the picture -/
def turF (cnt : Int) (t : th) (res : Sum th Int) : Prop := match t with
  | .inr (.inr (.inl (r, c, M))) => (cnt = 150 → res = .inr 3) ∧ (cnt ≠ 150 → res = .inl (th_ma c r (fun i j => M j i)))
  | _ => True
section
variable {d : Nat} {h : s_H} {s : Nat → Int} {A : Nat → Nat → Int}
theorem V_turned (hv : RV h s A) {T : Nat → th} (hR : RI s A T) {x : Int} (hx : In3 x) : wm sw_P (d + 4) 609 [.index 1290, vi x] h (RA h (fun v s' A' => ∃ res, unS (s 1) T (fun n => n = 2) x (turF (s 1)) res ∧ ends s A T res v s' A')) := by
  refine wm_in (cd := sw_c609) (nL := 4) (hd := sw_h609) rfl rfl ?_
  have b0 := hR.1.1
  refine k609_0 hv.1 (wm_mono (wq_A (fun v1 h1 s1 A1 w1 r1 φ => ?_)) (V_isOf hv hR hx (k := 2) (by decide)))
  rcases φ with ⟨ev, e1, q, eA⟩ | ⟨ev, e1, q, f, ef, lf, kf, m1, _, gA⟩
  · rw [ev]
    refine k609_6 (fun w => absurd rfl w) (fun _ => k609_9 ⟨vi 0, h1, s1, A1, w1, r1, ⟨.inr (one s T x 2), one_un q, ?_⟩, rfl⟩)
    rw [e1, eA]
    exact ⟨sm_refl, rfl, rfl, RI_sc hR sm_refl rfl⟩
  · rw [ev]
    subst ef
    have eA := gA (by decide)
    rw [eA] at w1
    have xf : (f : Int).toNat = f := by omega
    have hf := hR.2.2 f lf
    have s11 : s1 1 = s 1 := by rw [e1]; rfl
    have sp : ∀ res : Sum th Int, turF (s 1) (T f) res → unS (s 1) T (fun n => n = 2) f (turF (s 1)) res := fun res w => ⟨fun w2 => absurd ⟨by omega, lf⟩ w2, fun _ w2 => (w2 (by rw [xf]; exact kf)).elim, fun _ _ => by rw [xf]; exact w⟩
    refine k609_6 (fun _ => ?_) (fun w => absurd (by decide) w)
    rcases ef1 : T f with ⟨a, b⟩ | a | ⟨r, c, M⟩ | ⟨n, so, va⟩
    · rw [ef1] at kf; exact (kdn kf rfl).elim
    · rw [ef1] at kf; exact (kdn kf rfl).elim
    · rw [ef1] at hf sp
      obtain ⟨_, p1, p2, p3, p4, p5⟩ := hf
      have g1 : gi (mk 150 (A 1294)) (f : Int) = (r : Int) := by rw [gi_mkn (by omega)]; exact p3
      have g3 : gi (mk 150 (A 1295)) (f : Int) = (c : Int) := by rw [gi_mkn (by omega)]; exact p4
      refine k609_11 (z5 := s1 1) w1.1 (fun q3 => ?_) (fun q3 => ?_) (c7 := by rw [s11]; unfold In3; omega)
      rotate_left
      · refine k609_21 w1.1 (wm_mono (wq_A (fun v3 h3 s3 A3 w3 r3 φ => ?_)) (V_raise w1))
        obtain ⟨y1, y2, y3⟩ := φ
        rw [e1] at y2
        subst y1
        exact k609_26 ⟨_, h3, s3, A3, w3, FR_trans r1 r3, ⟨.inr 3, sp _ ⟨fun _ => rfl, fun w => absurd (by omega) w⟩, ends_bad hR sm_refl rfl y2 y3⟩, rfl⟩
      obtain ⟨m, em⟩ : ∃ m : Nat, s1 1 = m := ⟨(s1 1).toNat, by omega⟩
      have rows : ∀ {B : Nat → Nat → Int} {dn : Nat → Nat → Prop} {M : Nat → Nat → zp_R}, inM A B m dn M → B 1294 = A 1294 ∧ B 1295 = A 1295 := fun a => ⟨a.1 1294 rfl, a.1 1295 rfl⟩
      have outer : ∀ (l i : Nat) (B : Nat → Nat → Int) (h' : s_H) (t3 : Term), i + l = r → RV h' s1 B → FR h h' → inM A B m (fun x y => x < c ∧ y < i) (fun i j => M j i) → wr sw_P (d + 3) sw_c609 sw_h609 (29, [.index 1290, vi (f : Int), vi (i : Int), t3], [], h', 0, 0) (RA h (fun v s' A' => ∃ res, unS (s 1) T (fun n => n = 2) f (turF (s 1)) res ∧ ends s A T res v s' A')) := by
        intro l
        induction l with
        | zero =>
          intro i B h' t3 hi2 v rr a
          obtain ⟨ra, rb⟩ := rows a
          refine k609_29 v.1 (Ra_rows v) (fun _ => ?_) (fun w => absurd w ?_) (c10 := by rw [mk_len]; omega) (c12 := by unfold In3; omega) (c14 := by rw [ra, g1]; unfold In3; omega)
          rotate_left
          · rw [ra, g1]; omega
          refine k609_84 v.1 (Ra_columns v) (Ra_rows v) (wm_mono (wq_A (fun v2 h3 s3 A3 v3 r3 φ => ?_)) (V_keepMatrix v ⟨by omega, by omega⟩)) (c10 := by rw [mk_len]; omega) (c12 := by unfold In3; omega) (c18 := by rw [mk_len]; omega)
          obtain ⟨y1, y2, y3⟩ := φ
          rw [ra, rb, g1, g3] at y3
          have hN : newM A A3 (s1 1).toNat c r (fun i j => M j i) := ⟨B, by rw [show (s1 1).toNat = m by omega]; exact inM_mono a (fun x y _ _ w => ⟨w.1, by omega⟩), y3⟩
          rw [e1] at y1 y2 hN
          subst y1
          exact k609_100 ⟨_, h3, s3, A3, v3, FR_trans rr r3, ⟨.inl (th_ma c r (fun i j => M j i)), sp _ ⟨fun w => absurd (by omega) q3, fun _ => rfl⟩, ends_new hR sm_refl p2 p1 (by omega) rfl y2 hN⟩, rfl⟩
        | succ l ih =>
          intro i B h' t3 hi2 v rr a
          obtain ⟨ra, rb⟩ := rows a
          refine k609_29 v.1 (Ra_rows v) (fun w => absurd w ?_) (fun _ => ?_) (c10 := by rw [mk_len]; omega) (c12 := by unfold In3; omega) (c14 := by rw [ra, g1]; unfold In3; omega)
          · rw [ra, g1]; omega
          refine k609_39 ?_
          have inner : ∀ (p j : Nat) (B : Nat → Nat → Int) (h' : s_H), j + p = c → RV h' s1 B → FR h h' → inM A B m (fun x y => x < c ∧ (y < i ∨ (y = i ∧ x < j))) (fun i j => M j i) → wr sw_P (d + 3) sw_c609 sw_h609 (41, [.index 1290, vi (f : Int), vi (i : Int), vi (j : Int)], [], h', 0, 0) (RA h (fun v s' A' => ∃ res, unS (s 1) T (fun n => n = 2) f (turF (s 1)) res ∧ ends s A T res v s' A')) := by
            intro p
            induction p with
            | zero =>
              intro j B h' hj v rr a
              obtain ⟨ra, rb⟩ := rows a
              refine k609_41 v.1 (Ra_columns v) (fun _ => ?_) (fun w => absurd w ?_) (c10 := by rw [mk_len]; omega) (c12 := by unfold In3; omega) (c14 := by rw [rb, g3]; unfold In3; omega)
              rotate_left
              · rw [rb, g3]; omega
              exact k609_78 (ih (i + 1) B h' _ (by omega) v rr (inM_mono a (fun x y _ _ w => ⟨w.1, by omega⟩)))
            | succ p ih2 =>
              intro j B h' hj v rr a
              obtain ⟨ra, rb⟩ := rows a
              refine k609_41 v.1 (Ra_columns v) (fun w => absurd w ?_) (fun _ => ?_) (c10 := by rw [mk_len]; omega) (c12 := by unfold In3; omega) (c14 := by rw [rb, g3]; unfold In3; omega)
              · rw [rb, g3]; omega
              have x1 := p5 i j (by omega) (by omega)
              refine k609_51 v.1 (wm_mono (wq_Q (fun h3 v3 r3 => ?_)) (V_loadEntry v (p := 1308) rfl (m := f) (i := i) (j := j) (by omega) (by omega) (by omega) (inM_b a hR.2.1)))
              rw [inM_me a (by omega) (by omega) (by omega), x1] at v3
              have a3 := inM_sc a (C := up B 1308 (cf (M i j))) (sm_up sm_refl _ rfl)
              refine k609_62 v3.1 (wm_mono (wq_Q (fun h6 v6 r6 => ?_)) (V_keepEntry v3 (p := 1308) rfl (m := m) (i := j) (j := i) (by omega) em (by omega) (by omega) (up_at _ _ _)))
              exact k609_72 (ih2 (j + 1) _ _ (by omega) v6 (FR_trans rr (FR_trans r3 r6)) (inM_mono (inM_step a3 (i := j) (j := i) (by omega) (by omega) (me_deg x1)) (fun x y _ _ w => by
                by_cases q5 : x = j ∧ y = i
                · exact .inr q5
                · exact .inl ⟨w.1, by omega⟩)))
          exact inner c 0 B h' (by omega) v rr (inM_mono a (fun x y _ _ w => ⟨w.1, by omega⟩))
      exact k609_27 (outer r 0 A h1 _ (by omega) w1 r1 ⟨sm_refl, fun _ _ => rfl, fun _ => .inl rfl, fun x y _ _ w => absurd w.2 (by omega)⟩)
    · rw [ef1] at kf; exact (kdn kf rfl).elim
end
