/-! the reference's own matrices and companions in the picture -/
/-- the code of a matrix of as many rows as columns -/
def sqS (cnt : Int) (T : Nat → th) (x : Int) (c : Int) : Prop := (¬ (0 ≤ x ∧ x < cnt) → c = 1) ∧ ((0 ≤ x ∧ x < cnt) → match T x.toNat with
  | .inr (.inr (.inl (r, k, _))) => (r = k → c = 0) ∧ (r ≠ k → c = 2)
  | _ => c = 2)
def sqQ (s : Nat → Int) (A : Nat → Nat → Int) (T : Nat → th) (x : Int) : Term → (Nat → Int) → (Nat → Nat → Int) → Prop := fun v s' A' => A' = A ∧ ∃ c, sqS (s 1) T x c ∧ s' = up s 0 c ∧ ((c ≠ 0 ∧ v = vi 0) ∨ (c = 0 ∧ v = vi 1 ∧ ∃ (f r : Nat) (M : Nat → Nat → zp_R), x = f ∧ (f : Int) < s 1 ∧ T f = th_ma r r M))
/-- what comes of such a matrix, by its entries -/
def sqF (cnt : Int) (T : Nat → th) (x : Int) (F : Nat → (Nat → Nat → zp_R) → Sum th Int → Prop) (res : Sum th Int) : Prop := ∃ c, sqS cnt T x c ∧ (c ≠ 0 → res = .inr c) ∧ (c = 0 → match T x.toNat with
  | .inr (.inr (.inl (r, _, M))) => (cnt = 150 → res = .inr 3) ∧ (cnt ≠ 150 → F r M res)
  | _ => True)
/-- the letter times 1 less M -/
def ownM (M : Nat → Nat → zp_R) : Nat → Nat → zp_R := fun i j => if i = j then pst (zp_mul (zp_C (nF 32002)) (M i j)) 1 ((zp_mul (zp_C (nF 32002)) (M i j)).1 1 + 1) else zp_mul (zp_C (nF 32002)) (M i j)
def ownF (r : Nat) (M : Nat → Nat → zp_R) (res : Sum th Int) : Prop := res = .inl (th_ma r r (ownM M))
def cmpM (f : zp_R) (n : Nat) : Nat → Nat → zp_R := fun i j => if j = n - 1 then zp_C (-(f.1 i)) else if i = j + 1 then zp_C 1 else zp_C 0
def cmpF (cnt : Int) (t : th) (res : Sum th Int) : Prop := match t with
  | .inl (a, b) => (¬ (b = zp_C 1 ∧ (1 ≤ hi a ∧ hi a ≤ 4) ∧ a.1 (hi a).toNat = 1) → res = .inr 2) ∧ ((b = zp_C 1 ∧ (1 ≤ hi a ∧ hi a ≤ 4) ∧ a.1 (hi a).toNat = 1) → (cnt = 150 → res = .inr 3) ∧ (cnt ≠ 150 → res = .inl (th_ma (hi a).toNat (hi a).toNat (cmpM a (hi a).toNat))))
  | _ => True
theorem endz_new {s s1 : Nat → Int} {A B A' : Nat → Nat → Int} {T : Nat → th} {r c : Nat} {M : Nat → Nat → zp_R} {v : Term} {s' : Nat → Int} (h : RI s A T) (e : sq s s1) (m : sm A B scrA) (hr : 1 ≤ r ∧ r ≤ 4) (hc : 1 ≤ c ∧ c ≤ 4) (q : s 1 ≠ 150) (e1 : v = vi (s1 1)) (e2 : s' = up (up s1 0 0) 1 (s1 1 + 1)) (e3 : newM B A' (s1 1).toNat r c M) : endz s A T (.inl (th_ma r c M)) v s' A' := by
  have R1 := RI_a h m e
  refine endz_of (s1 := s1) (B := B) (ends_new (c0 := s1 0) R1 sm_refl hr hc (by rw [sq_1 e]; exact q) (by rw [up_same]; exact e1) (by rw [up_same]; exact e2) (by rw [up_same]; exact e3)) e m
section
variable {d : Nat} {h : s_H} {s : Nat → Int} {A : Nat → Nat → Int}
theorem V_isSquare (hv : RV h s A) {T : Nat → th} (hR : RI s A T) {x : Int} (hx : In3 x) : wm sw_P (d + 4) 491 [.index 1290, vi x] h (RA h (sqQ s A T x)) := by
  refine wm_in (cd := sw_c491) (nL := 2) (hd := sw_h491) rfl rfl ?_
  have b0 := hR.1.1
  refine k491_0 hv.1 (wm_mono (wq_A (fun v1 h1 s1 A1 w1 r1 φ => ?_)) (V_isOf hv hR hx (k := 2) (by decide)))
  rcases φ with ⟨ev, e1, q, eA⟩ | ⟨ev, e1, q, f, ef, lf, kf, m1, _, gA⟩
  · rw [ev]
    refine k491_6 (fun w => absurd rfl w) (fun _ => k491_9 ⟨vi 0, h1, s1, A1, w1, r1, ⟨eA, one s T x 2, ⟨fun w => if_pos w, fun w => ?_⟩, e1, .inl ⟨q, rfl⟩⟩, rfl⟩)
    have ho : one s T x 2 = if kd (T x.toNat) = 2 then 0 else 2 := if_neg (fun w3 => w3 w)
    rcases ef1 : T x.toNat with ⟨a, b⟩ | a | ⟨r, c, M⟩ | ⟨n, so, va⟩
    · rw [ef1] at ho; exact ho
    · rw [ef1] at ho; exact ho
    · rw [ef1] at ho; exact absurd ho q
    · rw [ef1] at ho; exact ho
  · rw [ev]
    subst ef
    have eA := gA (by decide)
    rw [eA] at w1
    have xf : (f : Int).toNat = f := by omega
    have hf := hR.2.2 f lf
    refine k491_6 (fun _ => ?_) (fun w => absurd (by decide) w)
    rcases ef1 : T f with ⟨a, b⟩ | a | ⟨r, c, M⟩ | ⟨n, so, va⟩
    · rw [ef1] at kf; exact (kdn kf rfl).elim
    · rw [ef1] at kf; exact (kdn kf rfl).elim
    · rw [ef1] at hf
      obtain ⟨_, p1, p2, p3, p4, p5⟩ := hf
      have g1 : gi (mk 150 (A 1294)) (f : Int) = (r : Int) := by rw [gi_mkn (by omega)]; exact p3
      have g3 : gi (mk 150 (A 1295)) (f : Int) = (c : Int) := by rw [gi_mkn (by omega)]; exact p4
      have v0 : ∀ z : Int, RV (hp h1 1290 (1, 11, (rF s1).set 0 (vi z))) (up s1 0 z) A := fun z => RV_fld w1 (up s1 0 z) (rF_0 s1 z)
      have r0 : ∀ z : Int, FR h (hp h1 1290 (1, 11, (rF s1).set 0 (vi z))) := fun z => FR_trans r1 (FR_fld w1 _)
      refine k491_11 w1.1 (Ra_rows w1) (Ra_columns w1) (fun w => ?_) (fun w => ?_) (c10 := by rw [mk_len]; omega) (c11 := by omega) (c12 := by unfold In3; omega) (c18 := by rw [mk_len]; omega) (c19 := by rw [g1]; unfold In3; omega) (c20 := by rw [g3]; unfold In3; omega)
      · rw [g1, g3] at w
        refine k491_31 (k491_32 (z10 := 2) w1.1 (hp_at w1.1) (fun _ => k491_46 (k491_47 ?_)) (fun w => absurd (by decide) w))
        exact ⟨vi 0, _, _, _, v0 2, r0 2, ⟨rfl, 2, ⟨fun w2 => absurd ⟨by omega, lf⟩ w2, fun _ => by rw [xf, ef1]; exact ⟨fun w3 => by omega, fun _ => rfl⟩⟩, by rw [e1, up2], .inl ⟨by decide, rfl⟩⟩, rfl⟩
      · rw [g1, g3] at w
        have rc : r = c := by omega
        subst rc
        refine k491_27 (k491_32 (z10 := 0) w1.1 (hp_at w1.1) (fun w => absurd rfl w) (fun _ => k491_42 (k491_47 ?_)))
        exact ⟨vi 1, _, _, _, v0 0, r0 0, ⟨rfl, 0, ⟨fun w2 => absurd ⟨by omega, lf⟩ w2, fun _ => by rw [xf, ef1]; exact ⟨fun _ => rfl, fun w3 => absurd rfl w3⟩⟩, by rw [e1, up2], .inr ⟨rfl, rfl, f, r, M, rfl, lf, ef1⟩⟩, rfl⟩
    · rw [ef1] at kf; exact (kdn kf rfl).elim
theorem V_own (hv : RV h s A) {T : Nat → th} (hR : RI s A T) {x : Int} (hx : In3 x) : wm sw_P (d + 5) 544 [.index 1290, vi x] h (RA h (fun v s' A' => ∃ res, sqF (s 1) T x ownF res ∧ endz s A T res v s' A')) := by
  refine wm_in (cd := sw_c544) (nL := 4) (hd := sw_h544) rfl rfl ?_
  have b0 := hR.1.1
  refine k544_0 hv.1 (wm_mono (wq_A (fun v1 h1 s1 A1 w1 r1 φ => ?_)) (V_isSquare hv hR hx))
  obtain ⟨eA, cc, hS, e1, q⟩ := φ
  subst eA
  have q1 : sq s s1 := by rw [e1]; exact sq_up (sq_refl s) _ rfl
  have s11 : s1 1 = s 1 := sq_1 q1
  rcases q with ⟨c0, ev⟩ | ⟨c0, ev, f, r, M, ef, lf, tf⟩
  · rw [ev]
    exact k544_5 (fun w => absurd rfl w) (fun _ => k544_8 ⟨vi 0, h1, s1, A1, w1, r1, ⟨.inr cc, ⟨cc, hS, fun _ => rfl, fun w => absurd w c0⟩, endz_bad hR (sq_refl s) sm_refl rfl e1 rfl⟩, rfl⟩)
  · rw [ev]
    subst ef
    have xf : (f : Int).toNat = f := by omega
    have hf := hR.2.2 f lf
    rw [tf] at hf
    obtain ⟨_, p1, p2, p3, p4, p5⟩ := hf
    have sp : ∀ res : Sum th Int, ((s 1 = 150 → res = .inr 3) ∧ (s 1 ≠ 150 → ownF r M res)) → sqF (s 1) T f ownF res := fun res w => ⟨cc, hS, fun w2 => absurd c0 w2, fun _ => by rw [xf, tf]; exact w⟩
    have g1 : gi (mk 150 (A1 1294)) (f : Int) = (r : Int) := by rw [gi_mkn (by omega)]; exact p3
    refine k544_5 (fun _ => ?_) (fun w => absurd (by decide) w)
    refine k544_10 (z5 := s1 1) w1.1 (fun q3 => ?_) (fun q3 => ?_) (c7 := by rw [s11]; unfold In3; omega)
    rotate_left
    · refine k544_20 w1.1 (wm_mono (wq_A (fun v3 h3 s3 A3 w3 r3 φ => ?_)) (V_raise w1))
      obtain ⟨y1, y2, y3⟩ := φ
      subst y1
      exact k544_25 ⟨_, h3, s3, A3, w3, FR_trans r1 r3, ⟨.inr 3, sp _ ⟨fun _ => rfl, fun w => absurd (by omega) w⟩, endz_bad hR q1 sm_refl rfl y2 y3⟩, rfl⟩
    obtain ⟨m, em⟩ : ∃ m : Nat, s1 1 = m := ⟨(s1 1).toNat, by omega⟩
    have rows : ∀ {B : Nat → Nat → Int} {dn : Nat → Nat → Prop} {M : Nat → Nat → zp_R}, inM A1 B m dn M → B 1294 = A1 1294 := fun a => a.1 1294 rfl
    have outer : ∀ (l i : Nat) (B : Nat → Nat → Int) (h' : s_H) (t3 : Term), i + l = r → RV h' s1 B → FR h h' → inM A1 B m (fun x y => x < i ∧ y < r) (ownM M) → wr sw_P (d + 4) sw_c544 sw_h544 (28, [.index 1290, vi (f : Int), vi (i : Int), t3], [], h', 0, 0) (RA h (fun v s' A' => ∃ res, sqF (s 1) T f ownF res ∧ endz s A1 T res v s' A')) := by
      intro l
      induction l with
      | zero =>
        intro i B h' t3 hi2 v rr a
        have ra := rows a
        refine k544_28 v.1 (Ra_rows v) (fun _ => ?_) (fun w => absurd w ?_) (c10 := by rw [mk_len]; omega) (c12 := by unfold In3; omega) (c14 := by rw [ra, g1]; unfold In3; omega)
        rotate_left
        · rw [ra, g1]; omega
        refine k544_116 v.1 (Ra_rows v) (wm_mono (wq_A (fun v2 h3 s3 A3 v3 r3 φ => ?_)) (V_keepMatrix v ⟨by omega, by omega⟩)) (c10 := by rw [mk_len]; omega) (c12 := by unfold In3; omega)
        obtain ⟨y1, y2, y3⟩ := φ
        rw [ra, g1] at y3
        have hN : newM A1 A3 (s1 1).toNat r r (ownM M) := ⟨B, by rw [show (s1 1).toNat = m by omega]; exact inM_mono a (fun x y _ _ w => ⟨by omega, w.2⟩), y3⟩
        subst y1
        exact k544_132 ⟨_, h3, s3, A3, v3, FR_trans rr r3, ⟨.inl (th_ma r r (ownM M)), sp _ ⟨fun w => absurd (by omega) q3, fun _ => rfl⟩, endz_new hR q1 sm_refl p1 p1 (by omega) rfl y2 hN⟩, rfl⟩
      | succ l ih =>
        intro i B h' t3 hi2 v rr a
        have ra := rows a
        refine k544_28 v.1 (Ra_rows v) (fun w => absurd w ?_) (fun _ => ?_) (c10 := by rw [mk_len]; omega) (c12 := by unfold In3; omega) (c14 := by rw [ra, g1]; unfold In3; omega)
        · rw [ra, g1]; omega
        refine k544_38 ?_
        have inner : ∀ (p j : Nat) (B : Nat → Nat → Int) (h' : s_H), j + p = r → RV h' s1 B → FR h h' → inM A1 B m (fun x y => y < r ∧ (x < i ∨ (x = i ∧ y < j))) (ownM M) → wr sw_P (d + 4) sw_c544 sw_h544 (40, [.index 1290, vi (f : Int), vi (i : Int), vi (j : Int)], [], h', 0, 0) (RA h (fun v s' A' => ∃ res, sqF (s 1) T f ownF res ∧ endz s A1 T res v s' A')) := by
          intro p
          induction p with
          | zero =>
            intro j B h' hj v rr a
            have ra := rows a
            refine k544_40 v.1 (Ra_rows v) (fun _ => ?_) (fun w => absurd w ?_) (c10 := by rw [mk_len]; omega) (c12 := by unfold In3; omega) (c14 := by rw [ra, g1]; unfold In3; omega)
            rotate_left
            · rw [ra, g1]; omega
            exact k544_110 (ih (i + 1) B h' _ (by omega) v rr (inM_mono a (fun x y _ _ w => ⟨w.2, by omega⟩)))
          | succ p ih2 =>
            intro j B h' hj v rr a
            have ra := rows a
            refine k544_40 v.1 (Ra_rows v) (fun w => absurd w ?_) (fun _ => ?_) (c10 := by rw [mk_len]; omega) (c12 := by unfold In3; omega) (c14 := by rw [ra, g1]; unfold In3; omega)
            · rw [ra, g1]; omega
            have x1 := p5 i j (by omega) (by omega)
            refine k544_50 v.1 (wm_mono (wq_Q (fun h3 v3 r3 => ?_)) (V_loadEntry v (p := 1308) rfl (m := f) (i := i) (j := j) (by omega) (by omega) (by omega) (inM_b a hR.2.1)))
            rw [inM_me a (by omega) (by omega) (by omega), x1] at v3
            refine k544_61 v3.1 (wm_mono (wq_Q (fun h4 v4 r4 => ?_)) (V_scale v3 (c := 1308) rfl (up_at _ _ _) (z := 32002) (by decide)))
            have md0 := deg_Cm (nF 32002) (me_deg x1)
            have go : ∀ (N : zp_R) (C : Nat → Nat → Int) (h5 : s_H), RV h5 s1 C → FR h h5 → sm B C [1304, 1308, 1309, 1310] → C 1308 = cf N → N = ownM M i j → zp_deg N 11 → wr sw_P (d + 4) sw_c544 sw_h544 (94, [.index 1290, vi (f : Int), vi (i : Int), vi (j : Int)], [], h5, 0, 0) (RA h (fun v s' A' => ∃ res, sqF (s 1) T f ownF res ∧ endz s A1 T res v s' A')) := by
              intro N C h5 v5 r5 mC gN eN dN
              have a3 := inM_sc a mC
              subst eN
              refine k544_94 v5.1 (wm_mono (wq_Q (fun h6 v6 r6 => ?_)) (V_keepEntry v5 (p := 1308) rfl (m := m) (i := i) (j := j) (by omega) em (by omega) (by omega) gN))
              exact k544_104 (ih2 (j + 1) _ _ (by omega) v6 (FR_trans r5 r6) (inM_mono (inM_step a3 (i := i) (j := j) (by omega) (by omega) dN) (fun x y _ _ w => by
                by_cases q5 : x = i ∧ y = j
                · exact .inr q5
                · exact .inl ⟨w.1, by omega⟩)))
            refine k544_71 (fun q4 => ?_) (fun q4 => ?_) (c1 := by unfold In3; omega) (c2 := by unfold In3; omega)
            · exact go _ _ h4 v4 (FR_trans rr (FR_trans r3 r4)) (sm_up (sm_up sm_refl _ rfl) _ rfl) (up_at _ _ _) (if_neg (by omega)).symm md0
            · have ij : i = j := by omega
              have g8 : up (up B 1308 (cf (M i j))) 1308 (cf (zp_mul (zp_C (nF 32002)) (M i j))) 1308 = cf (zp_mul (zp_C (nF 32002)) (M i j)) := up_at _ _ _
              have e8 : gi (mk 176 (up (up B 1308 (cf (M i j))) 1308 (cf (zp_mul (zp_C (nF 32002)) (M i j))) 1308)) 1 = (((zp_mul (zp_C (nF 32002)) (M i j)).1 1).val : Int) := by rw [g8]; exact gi_mkn (k := 1) (by decide)
              have bz := ((zp_mul (zp_C (nF 32002)) (M i j)).1 1).isLt
              refine k544_76 v4.1 (RV_l v4 (c := 1308) rfl) ?_ (c10 := by rw [mk_len]; decide) (c11 := by rw [e8]; exact in6_of (by omega) (by omega))
              have e9 : Int.tmod ((((zp_mul (zp_C (nF 32002)) (M i j)).1 1).val : Int) + 1) 32003 = (((zp_mul (zp_C (nF 32002)) (M i j)).1 1 + 1 : zp_F).val : Int) := by
                rw [tmod_nn (by omega), ← nF_v, nF_add, nF_val, nF_1]
              rw [e8, e9, mk_set, g8, cf_pst _ (n := 1) (t0 := Int.toNat 1) rfl rfl]
              exact go _ _ _ (RV_w v4 (c := 1308) rfl _) (FR_trans rr (FR_trans r3 (FR_trans r4 (FR_w v4 (c := 1308) rfl _)))) (sm_up (sm_up (sm_up sm_refl _ rfl) _ rfl) _ rfl) (up_at _ _ _) (if_pos ij).symm (pst_deg _ md0 (by decide))
        exact inner r 0 B h' (by omega) v rr (inM_mono a (fun x y _ _ w => ⟨by omega, w.1⟩))
    exact k544_26 (outer r 0 A1 h1 _ (by omega) w1 r1 ⟨sm_refl, fun _ _ => rfl, fun _ => .inl rfl, fun x y _ _ w => absurd w.1 (by omega)⟩)
theorem V_companion (hv : RV h s A) {T : Nat → th} (hR : RI s A T) {x : Int} (hx : In3 x) : wm sw_P (d + 4) 424 [.index 1290, vi x] h (RA h (fun v s' A' => ∃ res, unS (s 1) T (fun n => n = 0) x (cmpF (s 1)) res ∧ endz s A T res v s' A')) := by
  refine wm_in (cd := sw_c424) (nL := 5) (hd := sw_h424) rfl rfl ?_
  have b0 := hR.1.1
  refine k424_0 hv.1 (wm_mono (wq_A (fun v1 h1 s1 A1 w1 r1 φ => ?_)) (V_isOf hv hR hx (k := 0) (by decide)))
  rcases φ with ⟨ev, e1, q, eA⟩ | ⟨ev, e1, q, f, ef, lf, kf, m1, g, _⟩
  · rw [ev]
    refine k424_6 (fun w => absurd rfl w) (fun _ => k424_9 ⟨vi 0, h1, s1, A1, w1, r1, ⟨.inr (one s T x 0), one_un q, ?_⟩, rfl⟩)
    exact endz_bad hR (sq_refl s) sm_refl rfl e1 eA
  · rw [ev]
    subst ef
    have xf : (f : Int).toNat = f := by omega
    obtain ⟨g98, g99⟩ := g (by decide)
    have hf := hR.2.2 f lf
    have q1 : sq s s1 := by rw [e1]; exact sq_up (sq_refl s) _ rfl
    have s11 : s1 1 = s 1 := sq_1 q1
    have sp : ∀ res : Sum th Int, cmpF (s 1) (T f) res → unS (s 1) T (fun n => n = 0) f (cmpF (s 1)) res := fun res w => ⟨fun w2 => absurd ⟨by omega, lf⟩ w2, fun _ w2 => (w2 (by rw [xf]; exact kf)).elim, fun _ _ => by rw [xf]; exact w⟩
    refine k424_6 (fun _ => ?_) (fun w => absurd (by decide) w)
    rcases ef1 : T f with ⟨a, b⟩ | a | ⟨r, c, M⟩ | ⟨n, so, va⟩
    · rw [ef1] at hf sp
      obtain ⟨_, p1, p2, p3, p4⟩ := hf
      have h98 := g98.trans p1
      have h99 := g99.trans p2
      have d1 := deg_le (fr_deg p1) (show 41 ≤ 176 by decide)
      have d2 := deg_le (fr_deg p2) (show 41 ≤ 176 by decide)
      have ba := hi_b a
      have bad : ¬ (b = zp_C 1 ∧ (1 ≤ hi a ∧ hi a ≤ 4) ∧ a.1 (hi a).toNat = 1) → wr sw_P (d + 3) sw_c424 sw_h424 (52, [.index 1290, vi (f : Int), vi (hi a), .result, .result], [], h1, 0, 0) (RA h (fun v s' A' => ∃ res, unS (s 1) T (fun n => n = 0) f (cmpF (s 1)) res ∧ endz s A T res v s' A')) := fun hb => by
        refine k424_52 w1.1 (wm_mono (wq_A (fun v3 h3 s3 A3 w3 r3 φ => ?_)) (V_raise w1))
        obtain ⟨y1, y2, y3⟩ := φ
        subst y1
        exact k424_57 ⟨_, h3, s3, A3, w3, FR_trans r1 r3, ⟨.inr 2, sp _ ⟨fun _ => rfl, fun w => absurd w hb⟩, endz_bad hR q1 (scr_A m1) rfl y2 y3⟩, rfl⟩
      refine k424_11 w1.1 (wm_mono (wq_r ?_) (V_high w1 (c := 1298) rfl h98))
      refine k424_18 w1.1 (wm_mono (wq_r ?_) (V_isOne w1 (c := 1299) rfl h99))
      by_cases q2 : hi b = 0 ∧ cf b 0 = 1
      · rw [if_pos q2]
        have bo := (one_C d2).mp q2
        refine k424_26 (fun w => absurd w (by decide)) (fun _ => ?_)
        refine k424_29 (wm_mono (wq_r ?_) (t_in (x := hi a) (lo := 1) (hi := 4) (in6_of (by omega) (by omega)) (by decide) (by decide))) (c1 := by unfold In3; omega)
        by_cases q3 : 1 ≤ hi a ∧ hi a ≤ 4
        · rw [if_pos q3]
          refine k424_38 (fun w => absurd w (by decide)) (fun _ => ?_)
          obtain ⟨n, en⟩ : ∃ n : Nat, hi a = n := ⟨(hi a).toNat, by omega⟩
          have en2 : (hi a).toNat = n := by omega
          rw [en] at q3
          have e4 : gi (mk 176 (A1 1298)) (n : Int) = cf a n := by rw [h98]; exact gi_mkn (by omega)
          have b4 := cf_b a n
          rw [en]
          refine k424_41 w1.1 (Ra_at w1) (fun q4 => ?_) (fun q4 => ?_) (c10 := by rw [mk_len]; omega) (c11 := by omega) (c12 := by unfold In3; omega) (c13 := by rw [e4]; exact in6_of (by omega) (by omega))
          · rw [e4] at q4
            have ok : b = zp_C 1 ∧ (1 ≤ hi a ∧ hi a ≤ 4) ∧ a.1 (hi a).toNat = 1 := ⟨bo, by omega, by rw [en2]; exact F_ext q4⟩
            refine k424_58 (z5 := s1 1) w1.1 (fun q5 => ?_) (fun q5 => ?_) (c7 := by rw [s11]; unfold In3; omega)
            rotate_left
            · refine k424_68 w1.1 (wm_mono (wq_A (fun v3 h3 s3 A3 w3 r3 φ => ?_)) (V_raise w1))
              obtain ⟨y1, y2, y3⟩ := φ
              subst y1
              exact k424_73 ⟨_, h3, s3, A3, w3, FR_trans r1 r3, ⟨.inr 3, sp _ ⟨fun w => absurd ok w, fun _ => ⟨fun _ => rfl, fun w => absurd (by omega) w⟩⟩, endz_bad hR q1 (scr_A m1) rfl y2 y3⟩, rfl⟩
            obtain ⟨m, em⟩ : ∃ m : Nat, s1 1 = m := ⟨(s1 1).toNat, by omega⟩
            have at' : ∀ {B : Nat → Nat → Int} {dn : Nat → Nat → Prop} {M : Nat → Nat → zp_R}, inM A1 B m dn M → B 1298 = cf a := fun w => (w.1 1298 rfl).trans h98
            have outer : ∀ (l i : Nat) (B : Nat → Nat → Int) (h' : s_H) (t4 : Term), i + l = n → RV h' s1 B → FR h h' → inM A1 B m (fun x y => x < i ∧ y < n) (cmpM a n) → wr sw_P (d + 3) sw_c424 sw_h424 (76, [.index 1290, vi (f : Int), vi (n : Int), vi (i : Int), t4], [], h', 0, 0) (RA h (fun v s' A' => ∃ res, unS (s 1) T (fun n => n = 0) f (cmpF (s 1)) res ∧ endz s A T res v s' A')) := by
              intro l
              induction l with
              | zero =>
                intro i B h' t4 hi2 v rr w
                refine k424_76 (fun _ => ?_) (fun w => absurd w (by omega)) (c1 := by unfold In3; omega) (c2 := by unfold In3; omega)
                refine k424_151 v.1 (wm_mono (wq_A (fun v2 h3 s3 A3 v3 r3 φ => ?_)) (V_keepMatrix v ⟨by omega, by omega⟩))
                obtain ⟨y1, y2, y3⟩ := φ
                have hN : newM A1 A3 (s1 1).toNat n n (cmpM a n) := ⟨B, by rw [show (s1 1).toNat = m by omega]; exact inM_mono w (fun x y _ _ w => ⟨by omega, w.2⟩), y3⟩
                subst y1
                exact k424_157 ⟨_, h3, s3, A3, v3, FR_trans rr r3, ⟨.inl (th_ma n n (cmpM a n)), sp _ ⟨fun w => absurd ok w, fun _ => ⟨fun w => absurd (by omega) q5, fun _ => by rw [en2]⟩⟩, endz_new hR q1 (scr_A m1) (by omega) (by omega) (by omega) rfl y2 hN⟩, rfl⟩
              | succ l ih =>
                intro i B h' t4 hi2 v rr w
                refine k424_76 (fun w => absurd w (by omega)) (fun _ => k424_81 ?_) (c1 := by unfold In3; omega) (c2 := by unfold In3; omega)
                have inner : ∀ (p j : Nat) (B : Nat → Nat → Int) (h' : s_H), j + p = n → RV h' s1 B → FR h h' → inM A1 B m (fun x y => y < n ∧ (x < i ∨ (x = i ∧ y < j))) (cmpM a n) → wr sw_P (d + 3) sw_c424 sw_h424 (84, [.index 1290, vi (f : Int), vi (n : Int), vi (i : Int), vi (j : Int)], [], h', 0, 0) (RA h (fun v s' A' => ∃ res, unS (s 1) T (fun n => n = 0) f (cmpF (s 1)) res ∧ endz s A T res v s' A')) := by
                  intro p
                  induction p with
                  | zero =>
                    intro j B h' hj v rr w
                    exact k424_84 (fun _ => k424_145 (ih (i + 1) B h' _ (by omega) v rr (inM_mono w (fun x y _ _ w => ⟨w.2, by omega⟩)))) (fun w => absurd w (by omega)) (c1 := by unfold In3; omega) (c2 := by unfold In3; omega)
                  | succ p ih2 =>
                    intro j B h' hj v rr w
                    refine k424_84 (fun w => absurd w (by omega)) (fun _ => ?_) (c1 := by unfold In3; omega) (c2 := by unfold In3; omega)
                    have go : ∀ (zv : Int), In6 zv → zp_C (nF zv) = cmpM a n i j → wr sw_P (d + 3) sw_c424 sw_h424 (125, [.index 1290, vi (f : Int), vi (n : Int), vi (i : Int), vi (j : Int)], [vl zv, .index 1308], h', 0, 0) (RA h (fun v s' A' => ∃ res, unS (s 1) T (fun n => n = 0) f (cmpF (s 1)) res ∧ endz s A T res v s' A')) := by
                      intro zv iz ez
                      refine k424_125 (wm_mono (wq_Q (fun h5 v5 r5 => ?_)) (V_become v (c := 1308) rfl (z := zv) iz))
                      rw [ez] at v5
                      have a3 := inM_sc w (C := up B 1308 (cf (cmpM a n i j))) (sm_up sm_refl _ rfl)
                      refine k424_128 v5.1 (wm_mono (wq_Q (fun h6 v6 r6 => ?_)) (V_keepEntry v5 (p := 1308) rfl (m := m) (i := i) (j := j) (by omega) em (by omega) (by omega) (up_at _ _ _)))
                      exact k424_139 (ih2 (j + 1) _ _ (by omega) v6 (FR_trans rr (FR_trans r5 r6)) (inM_mono (inM_step a3 (i := i) (j := j) (by omega) (by omega) (by rw [← ez]; exact deg_le (zp_C_deg _) (by decide))) (fun x y _ _ w => by
                        by_cases q5 : x = i ∧ y = j
                        · exact .inr q5
                        · exact .inl ⟨w.1, by omega⟩)))
                    have g8 := at' w
                    have e8 : gi (mk 176 (B 1298)) (i : Int) = ((a.1 i).val : Int) := by rw [g8]; exact gi_mkn (by omega)
                    have bz := (a.1 i).isLt
                    refine k424_90 v.1 (fun q6 => ?_) (fun q6 => ?_) (c7 := by unfold In3; omega) (c8 := by unfold In3; omega)
                    · refine k424_112 (fun q7 => ?_) (fun q7 => ?_) (c1 := by unfold In3; omega) (c2 := by unfold In3; omega)
                      · refine k424_124 (go 0 (by decide) ?_)
                        unfold cmpM
                        rw [if_neg (by omega), if_neg (by omega), nF_0]
                      · refine k424_120 (go 1 (by decide) ?_)
                        unfold cmpM
                        rw [if_neg (by omega), if_pos (by omega), nF_1]
                    · refine k424_102 v.1 (Ra_at v) ?_ (c10 := by rw [mk_len]; omega) (c11 := by omega) (c12 := by unfold In3; omega)
                      rw [e8]
                      refine go _ (in6_of (by omega) (by omega)) ?_
                      unfold cmpM
                      rw [if_pos (by omega), nF_neg, nF_val]
                exact inner n 0 B h' (by omega) v rr (inM_mono w (fun x y _ _ w => ⟨by omega, w.1⟩))
            exact k424_74 (outer n 0 A1 h1 _ (by omega) w1 r1 ⟨sm_refl, fun _ _ => rfl, fun _ => .inl rfl, fun x y _ _ w => absurd w.1 (by omega)⟩)
          · rw [e4] at q4
            have := bad (fun w => q4 (by
              rw [en2] at w
              unfold cf
              rw [w.2.2]; rfl))
            rw [en] at this
            exact this
        · rw [if_neg q3]
          exact k424_38 (fun _ => bad (fun w => q3 w.2.1)) (fun w => absurd rfl w)
      · rw [if_neg q2]
        exact k424_26 (fun _ => bad (fun w => q2 ((one_C d2).mpr w.1))) (fun w => absurd rfl w)
    · rw [ef1] at kf; exact (kdn kf rfl).elim
    · rw [ef1] at kf; exact (kdn kf rfl).elim
    · rw [ef1] at kf; exact (kdn kf rfl).elim
end
