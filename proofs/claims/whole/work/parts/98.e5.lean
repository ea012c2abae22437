/-! the reference's recur in the picture -/
/-- c times the letter and k less 0, 1 and on, so many -/
def rcv (c : zp_F) (k : Int) : Nat → zp_R
  | 0 => zp_C c
  | e + 1 => zp_mul (rcv c k e) (pst (zp_C (nF (k - e))) 1 1)
/-- entry k of what a rule by slopes is by steps -/
def rcw (M : Nat → zp_R) (low k : Int) : Nat → zp_R
  | 0 => zp_C 0
  | i + 1 => if 0 ≤ (i : Int) - low - k ∧ (i : Int) - low - k ≤ 10 then zp_add (rcw M low k i) (rcv ((M i).1 ((i : Int) - low - k).toNat) k i) else rcw M low k i
theorem rcv_dg (c : zp_F) (k : Int) : ∀ e, zp_deg (rcv c k e) (e + 1)
  | 0 => zp_C_deg c
  | e + 1 => zp_deg_mul (n := e) (m := 1) (rcv_dg c k e) (pst_deg 1 (deg_le (zp_C_deg _) (by decide)) (by decide))
theorem rcw_dg (M : Nat → zp_R) (low k : Int) : ∀ i, i ≤ 4 → zp_deg (rcw M low k i) 11
  | 0, _ => deg_le (zp_C_deg 0) (by decide)
  | i + 1, h => by
    show zp_deg (if 0 ≤ (i : Int) - low - k ∧ (i : Int) - low - k ≤ 10 then zp_add (rcw M low k i) (rcv ((M i).1 ((i : Int) - low - k).toNat) k i) else rcw M low k i) 11
    split
    · exact deg_add (rcw_dg M low k i (by omega)) (deg_le (rcv_dg _ k i) (by omega))
    · exact rcw_dg M low k i (by omega)
/-- the least and the greatest of places less powers -/
def lowT (M : Nat → zp_R) (L : Nat) (low top : Int) : Prop := (∀ i j : Nat, i < L → j ≤ 10 → (M i).1 j ≠ 0 → low ≤ (i : Int) - j ∧ (i : Int) - j ≤ top) ∧ (∃ i j : Nat, i < L ∧ j ≤ 10 ∧ (M i).1 j ≠ 0 ∧ low = (i : Int) - j) ∧ (∃ i j : Nat, i < L ∧ j ≤ 10 ∧ (M i).1 j ≠ 0 ∧ top = (i : Int) - j)
def recF (t : th) (res : Sum th Int) : Prop := match t with
  | .inr (.inr (.inl (_, L, M))) => ∃ low top, lowT (M 0) L low top ∧ (3 < top - low → res = .inr 3) ∧ (top - low ≤ 3 → res = .inl (th_ma 1 ((top - low).toNat + 1) (fun _ k => rcw (M 0) low k L)))
  | _ => True
def recS (cnt : Int) (T : Nat → th) (x : Int) (res : Sum th Int) : Prop := (¬ (0 ≤ x ∧ x < cnt) → res = .inr 1) ∧ ((0 ≤ x ∧ x < cnt) → (¬ rulP (T x.toNat) → res = .inr 2) ∧ (rulP (T x.toNat) → (cnt = 150 → res = .inr 3) ∧ (cnt ≠ 150 → recF (T x.toNat) res)))
/-- the two, so far: rows ahead of i, and of row i the first j -/
def lowI (M : Nat → zp_R) (i j : Nat) (low top : Int) : Prop := (-10 ≤ low ∧ low ≤ 9) ∧ (-20 ≤ top ∧ top ≤ 3) ∧ (∀ a b : Nat, (a < i ∨ (a = i ∧ b < j)) → b ≤ 10 → (M a).1 b ≠ 0 → low ≤ (a : Int) - b ∧ (a : Int) - b ≤ top) ∧ (low = 9 ∨ ∃ a b : Nat, (a < i ∨ (a = i ∧ b < j)) ∧ b ≤ 10 ∧ (M a).1 b ≠ 0 ∧ low = (a : Int) - b) ∧ (top = -20 ∨ ∃ a b : Nat, (a < i ∨ (a = i ∧ b < j)) ∧ b ≤ 10 ∧ (M a).1 b ≠ 0 ∧ top = (a : Int) - b)
theorem lowI_0 {M : Nat → zp_R} {i j : Nat} {low top : Int} (h : lowI M i j low top) (z : (M i).1 j = 0) : lowI M i (j + 1) low top := by
  obtain ⟨h1, h2, h3, h4, h5⟩ := h
  refine ⟨h1, h2, fun a b hab hb n0 => h3 a b (by
    by_cases q : a = i ∧ b = j
    · rw [q.1, q.2] at n0; exact absurd z n0
    · omega) hb n0, ?_, ?_⟩
  · rcases h4 with h4 | ⟨a, b, y1, y2, y3, y4⟩
    · exact .inl h4
    · exact .inr ⟨a, b, by omega, y2, y3, y4⟩
  · rcases h5 with h5 | ⟨a, b, y1, y2, y3, y4⟩
    · exact .inl h5
    · exact .inr ⟨a, b, by omega, y2, y3, y4⟩
theorem lowI_1 {M : Nat → zp_R} {i j : Nat} {low top : Int} (h : lowI M i j low top) (n0 : (M i).1 j ≠ 0) (hi2 : i ≤ 3) (hj : j ≤ 10) : lowI M i (j + 1) (if low ≤ (i : Int) - j then low else (i : Int) - j) (if (i : Int) - j ≤ top then top else (i : Int) - j) := by
  obtain ⟨h1, h2, h3, h4, h5⟩ := h
  refine ⟨by split <;> omega, by split <;> omega, fun a b hab hb m0 => ?_, ?_, ?_⟩
  · by_cases q : a = i ∧ b = j
    · rw [q.1, q.2]
      split <;> split <;> omega
    · have := h3 a b (by omega) hb m0
      split <;> split <;> omega
  · by_cases q : low ≤ (i : Int) - j
    · rw [if_pos q]
      rcases h4 with h4 | ⟨a, b, y1, y2, y3, y4⟩
      · exact .inl h4
      · exact .inr ⟨a, b, by omega, y2, y3, y4⟩
    · rw [if_neg q]
      exact .inr ⟨i, j, by omega, hj, n0, rfl⟩
  · by_cases q : (i : Int) - j ≤ top
    · rw [if_pos q]
      rcases h5 with h5 | ⟨a, b, y1, y2, y3, y4⟩
      · exact .inl h5
      · exact .inr ⟨a, b, by omega, y2, y3, y4⟩
    · rw [if_neg q]
      exact .inr ⟨i, j, by omega, hj, n0, rfl⟩
theorem lowI_s {M : Nat → zp_R} {i : Nat} {low top : Int} (h : lowI M i 11 low top) : lowI M (i + 1) 0 low top := by
  obtain ⟨h1, h2, h3, h4, h5⟩ := h
  refine ⟨h1, h2, fun a b hab hb n0 => h3 a b (by omega) hb n0, ?_, ?_⟩
  · rcases h4 with h4 | ⟨a, b, y1, y2, y3, y4⟩
    · exact .inl h4
    · exact .inr ⟨a, b, by omega, y2, y3, y4⟩
  · rcases h5 with h5 | ⟨a, b, y1, y2, y3, y4⟩
    · exact .inl h5
    · exact .inr ⟨a, b, by omega, y2, y3, y4⟩
theorem lowI_e {M : Nat → zp_R} {L : Nat} {low top : Int} (h : lowI M L 0 low top) (hL : L ≤ 4) (dM : ∀ i, i < L → zp_deg (M i) 11) {i : Nat} (hi2 : i < L) (n0 : M i ≠ zp_C 0) : lowT M L low top := by
  obtain ⟨h1, h2, h3, h4, h5⟩ := h
  have ex : ∃ j, j ≤ 10 ∧ (M i).1 j ≠ 0 := by
    refine Classical.byContradiction (fun w => n0 (zp_ext (fun j => ?_)))
    rw [zp_C00]
    by_cases q : j ≤ 10
    · exact Classical.byContradiction (fun w2 => w ⟨j, q, w2⟩)
    · exact dM i hi2 j (by omega)
  obtain ⟨j, j1, j2⟩ := ex
  have b := h3 i j (.inl hi2) j1 j2
  refine ⟨fun a b ha hb m0 => h3 a b (.inl ha) hb m0, ?_, ?_⟩
  · rcases h4 with h4 | ⟨a, b, y1, y2, y3, y4⟩
    · omega
    · exact ⟨a, b, by omega, y2, y3, y4⟩
  · rcases h5 with h5 | ⟨a, b, y1, y2, y3, y4⟩
    · omega
    · exact ⟨a, b, by omega, y2, y3, y4⟩
/-- B but for two scratch rows of C -/
def b2 (B C : Nat → Nat → Int) : Nat → Nat → Int := up (up B 1311 (C 1311)) 1312 (C 1312)
theorem inW_sc {B C C' : Nat → Nat → Int} {m : Nat} {dn : Nat → Nat → Prop} {M : Nat → Nat → zp_R} (a : inM (b2 B C) C m dn M) (c : sm C C' [1304, 1308, 1309, 1310, 1311, 1312]) : inM (b2 B C') C' m dn M := by
  obtain ⟨h1, h2, h3, h4⟩ := a
  have e6 : C' 1296 = C 1296 := c 1296 rfl
  have f6 : b2 B C' 1296 = b2 B C 1296 := by
    unfold b2
    rw [up_ne _ _ (by decide), up_ne _ _ (by decide), up_ne _ _ (by decide), up_ne _ _ (by decide)]
  refine ⟨fun j hj => ?_, ?_, ?_, fun x y hx hy hd => ?_⟩
  · by_cases q : j = 1312
    · rw [q]
      exact (up_at _ _ _).symm
    · by_cases q2 : j = 1311
      · rw [q2]
        show C' 1311 = up (up B 1311 (C' 1311)) 1312 (C' 1312) 1311
        rw [up_ne _ _ (by decide), up_at]
      · have z := h1 j hj
        have k : C' j = C j := c j (by
          simp only [List.contains_cons, List.contains_nil, Bool.or_false] at hj ⊢
          simp only [Bool.or_eq_false_iff] at hj ⊢
          exact ⟨hj.2.1, hj.2.2.1, hj.2.2.2.1, hj.2.2.2.2, beq_false_of_ne q2, beq_false_of_ne q⟩)
        rw [k, z]
        unfold b2
        rw [up_ne _ _ q, up_ne _ _ q2, up_ne _ _ q, up_ne _ _ q2]
  · rw [e6, f6]; exact h2
  · rw [e6, f6]; exact h3
  · rw [← h4 x y hx hy hd]
    unfold me
    rw [e6]
theorem b2_sm (B C : Nat → Nat → Int) : sm B (b2 B C) scr := sm_up (sm_up sm_refl _ rfl) _ rfl
theorem b2_self (B : Nat → Nat → Int) : b2 B B = B := by
  unfold b2
  rw [up_self B 1311 rfl, up_self B 1312 rfl]
section
variable {d : Nat} {h : s_H} {s : Nat → Int} {A : Nat → Nat → Int}
theorem V_recur (hv : RV h s A) {T : Nat → th} (hR : RI s A T) {x : Int} (hx : In3 x) : wm sw_P (d + 4) 580 [.index 1290, vi x] h (RA h (fun v s' A' => ∃ res, recS (s 1) T x res ∧ endz s A T res v s' A')) := by
  refine wm_in (cd := sw_c580) (nL := 8) (hd := sw_h580) rfl rfl ?_
  have b0 := hR.1.1
  have bad : ∀ (z : Int) (B : Nat → Nat → Int) (h' : s_H), 0 < z → z < 4 → recS (s 1) T x (.inr z) → RV h' s B → FR h h' → sm A B scr → wr sw_P (d + 3) sw_c580 sw_h580 (40, [.index 1290, vi x, .result, .result, .result, .result, .result, .result], [vi z, .index 1290], h', 0, 0) (RA h (fun v s' A' => ∃ res, recS (s 1) T x res ∧ endz s A T res v s' A')) := by
    intro z B h' hz2 hz3 hs v r m
    refine k580_40 (z10 := z) v.1 (hp_at v.1) (fun w => absurd w (by omega)) (fun _ => k580_50 ?_) (c12 := by unfold In3; omega)
    exact ⟨_, _, _, _, RV_fld v (up s 0 z) (rF_0 s z), FR_trans r (FR_fld v _), ⟨.inr z, hs, endz_bad hR (sq_refl s) (scr_A m) rfl rfl rfl⟩, rfl⟩
  refine k580_0 hv.1 (wm_mono (wq_r ?_) (V_isThere hv b0 hx))
  by_cases qx : 0 ≤ x ∧ x < s 1
  case neg =>
    rw [if_neg qx]
    exact k580_6 (fun w => absurd rfl w) (fun _ => k580_9 (bad 1 A h (by decide) (by decide) ⟨fun _ => rfl, fun w => absurd w qx⟩ hv (FR_refl h) sm_refl))
  rw [if_pos qx]
  refine k580_6 (fun _ => ?_) (fun w => absurd (by decide) w)
  obtain ⟨f, ef⟩ : ∃ f : Nat, x = f := ⟨x.toNat, by omega⟩
  subst ef
  have xf : (f : Int).toNat = f := by omega
  refine k580_13 hv.1 (wm_mono (wq_A (fun v1 h1 s1 A1 w1 r1 φ => ?_)) (V_isRule hv hR (f := f) (by omega)))
  obtain ⟨e1, m1, y1, y2⟩ := φ
  subst e1
  have m1' : sm A A1 scr := sm_sub m1 rfl
  have R1 : RI s1 A1 T := RI_sc hR m1' rfl
  by_cases q1 : rulP (T f)
  case neg =>
    rw [y2 q1]
    exact k580_18 (fun w => absurd rfl w) (fun _ => k580_21 (bad 2 A1 h1 (by decide) (by decide) ⟨fun w => absurd qx w, fun _ => ⟨fun _ => rfl, fun w => absurd (by rw [xf] at w; exact w) q1⟩⟩ w1 r1 m1'))
  rw [y1 q1]
  refine k580_18 (fun _ => ?_) (fun w => absurd (by decide) w)
  have sp : ∀ res : Sum th Int, (s1 1 = 150 → res = .inr 3) → (s1 1 ≠ 150 → recF (T f) res) → recS (s1 1) T f res := fun ro y y' => ⟨fun w => absurd qx w, fun _ => ⟨fun w => absurd (by rw [xf]; exact q1) w, fun _ => ⟨y, by rw [xf]; exact y'⟩⟩⟩
  refine k580_25 (z5 := s1 1) w1.1 (fun q6 => k580_39 ?_) (fun q6 => k580_35 (bad 3 A1 h1 (by decide) (by decide) (sp _ (fun _ => rfl) (fun w => absurd (by omega) w)) w1 r1 m1')) (c7 := by unfold In3; omega)
  refine k580_40 (z10 := 0) w1.1 (hp_at w1.1) (fun _ => ?_) (fun w => absurd (by decide) w)
  have w2 := RV_fld w1 (up s1 0 0) (rF_0 s1 0)
  have r2 : FR h (hp h1 1290 (1, 11, (rF s1).set 0 (vi 0))) := FR_trans r1 (FR_fld w1 _)
  have sq2 : sq s1 (up s1 0 0) := sq_up (sq_refl s1) _ rfl
  have q1' := q1
  obtain ⟨L, M, tf⟩ := rul_ma q1
  rw [tf] at q1'
  have R2 : RI (up s1 0 0) A1 T := RI_sc hR m1' rfl
  have hf2 := R2.2.2 f qx.2
  rw [tf] at hf2
  obtain ⟨q0, hL⟩ := row0_T hf2 (RI_me R2)
  have dM : ∀ i, i < L → zp_deg (M 0 i) 11 := fun i hi2 => me_deg (q0.2.1 i hi2)
  refine k580_52 ?_
  -- the rows of the new rule
  have made : ∀ (low top u4 : Int) (t5 : Term) (B : Nat → Nat → Int) (h' : s_H), lowI (M 0) L 0 low top → RV h' (up s1 0 0) B → FR h h' → sm A1 B scr → wr sw_P (d + 3) sw_c580 sw_h580 (159, [.index 1290, vi (f : Int), vi low, vi top, vi u4, t5, .result, .result], [], h', 0, 0) (RA h (fun v s' A' => ∃ res, recS (s1 1) T f res ∧ endz s1 A T res v s' A')) := by
    intro low top u4 t5 B h' hI v0 r0 mB
    have hT := lowI_e hI hL.2 dM (i := L - 1) (by omega) q1'.2
    obtain ⟨hl, ht, _⟩ := hI
    have lt : low ≤ top := by
      have hT2 := hT
      obtain ⟨_, ⟨i, j, y1, y2, y3, y4⟩, _⟩ := hT2
      have := hT.1 i j y1 y2 y3
      omega
    have mB' := sm_tr m1' mB
    refine k580_159 (fun q7 => ?_) (fun q7 => ?_) (c1 := by unfold In3; omega)
    rotate_left
    · refine k580_166 v0.1 (wm_mono (wq_A (fun v4 h4 s4 A4 w4 r4 φ => ?_)) (V_raise v0))
      obtain ⟨z1, z2, z3⟩ := φ
      subst z1
      exact k580_171 ⟨_, h4, s4, A4, w4, FR_trans r0 r4, ⟨.inr 3, sp _ (fun w => absurd (by omega) q6) (fun _ => by rw [tf]; exact ⟨low, top, hT, fun _ => rfl, fun w => by omega⟩), endz_bad hR sq2 (scr_A mB') rfl z2 z3⟩, rfl⟩
    obtain ⟨m, em⟩ : ∃ m : Nat, s1 1 = m := ⟨(s1 1).toNat, by omega⟩
    obtain ⟨n, en⟩ : ∃ n : Nat, top - low = n := ⟨(top - low).toNat, by omega⟩
    refine k580_172 ?_
    -- scratch rows that are used: s t u v w, x
    have RB0 : RI (up s1 0 0) B T := RI_sc R1 mB rfl
    have q0B := row0_sm q0 mB
    have rest : ∀ (l k : Nat) (C : Nat → Nat → Int) (h2 : s_H) (t5 t6 t7 : Term), k + l = n + 1 → RV h2 (up s1 0 0) C → FR h h2 → inM (b2 B C) C m (fun x y => x < 1 ∧ y < k) (fun _ k => rcw (M 0) low k L) → wr sw_P (d + 3) sw_c580 sw_h580 (175, [.index 1290, vi (f : Int), vi low, vi top, vi (k : Int), t5, t6, t7], [], h2, 0, 0) (RA h (fun v s' A' => ∃ res, recS (s1 1) T f res ∧ endz s1 A T res v s' A')) := by
      intro l
      induction l with
      | zero =>
        intro k C h2 t5 t6 t7 hk v rr w
        refine k580_175 (fun _ => ?_) (fun w => absurd w (by omega)) (c1 := by unfold In3; omega) (c2 := by unfold In3; omega)
        refine k580_338 v.1 ?_
        rw [show top - low + 1 = ((n + 1 : Nat) : Int) by omega]
        refine wm_mono (wq_A (fun v2 h3 s3 A3 v3 r3 φ => ?_)) (V_keepMatrix v (show 0 ≤ s1 1 ∧ s1 1 < 150 from ⟨b0.1, by omega⟩))
        obtain ⟨y1, y2, y3⟩ := φ
        have hN : newM (b2 B C) A3 (up s1 0 0 1).toNat 1 (n + 1) (fun _ k => rcw (M 0) low k L) := ⟨C, by rw [show (up s1 0 0 1).toNat = m by show (s1 1).toNat = m; omega]; exact inM_mono w (fun x y _ _ w => ⟨w.1, by omega⟩), y3⟩
        subst y1
        refine k580_348 ⟨_, h3, s3, A3, v3, FR_trans rr r3, ⟨.inl (th_ma 1 (n + 1) (fun _ k => rcw (M 0) low k L)), sp _ (fun w => absurd (by omega) q6) (fun _ => by rw [tf]; exact ⟨low, top, hT, fun w => by omega, fun _ => by rw [en]; rfl⟩), endz_new hR sq2 (scr_A (sm_tr mB' (b2_sm B C))) (by omega) (by omega) (by omega) rfl y2 hN⟩, rfl⟩
      | succ l ih =>
        intro k C h2 t5 t6 t7 hk v rr w
        refine k580_175 (fun w => absurd w (by omega)) (fun _ => ?_) (c1 := by unfold In3; omega) (c2 := by unfold In3; omega)
        refine k580_183 v.1 (wm_mono (wq_Q (fun h3 v3 r3 => ?_)) (V_empty v (c := 1312) rfl))
        refine k580_190 ?_
        have inner : ∀ (l2 i : Nat) (D : Nat → Nat → Int) (h4 : s_H) (t6 t7 : Term), i + l2 = L → RV h4 (up s1 0 0) D → FR h h4 → sm C D [1304, 1308, 1309, 1310, 1311, 1312] → D 1312 = cf (rcw (M 0) low k i) → wr sw_P (d + 3) sw_c580 sw_h580 (193, [.index 1290, vi (f : Int), vi low, vi top, vi (k : Int), vi (i : Int), t6, t7], [], h4, 0, 0) (RA h (fun v s' A' => ∃ res, recS (s1 1) T f res ∧ endz s1 A T res v s' A')) := by
          intro l2
          induction l2 with
          | zero =>
            intro i D h4 t6 t7 hi2 v4 r4 mD g4
            have iL : i = L := by omega
            subst iL
            have aD := inW_sc w mD
            have c5 : D 1295 = B 1295 := (aD.1 1295 rfl).trans ((b2_sm B D) 1295 rfl)
            have g1 : gi (mk 150 (D 1295)) (f : Int) = (i : Int) := by rw [gi_mkn (by omega), c5]; exact q0B.1
            refine k580_193 v4.1 (Ra_columns v4) (fun _ => ?_) (fun w => absurd w (by rw [g1]; omega)) (c10 := by rw [mk_len]; omega) (c11 := by omega) (c12 := by unfold In3; omega) (c13 := by unfold In3; omega) (c14 := by rw [g1]; unfold In3; omega)
            refine k580_321 v4.1 (wm_mono (wq_Q (fun h8 v8 r8 => ?_)) (V_keepEntry v4 (p := 1312) rfl (m := m) (i := 0) (j := k) (by omega) (by show s1 1 = m; exact em) (by omega) (by omega) g4))
            refine k580_332 (ih (k + 1) _ _ _ _ _ (by omega) v8 (FR_trans r4 r8) ?_)
            have st := inM_step aD (i := 0) (j := k) (by omega) (by omega) (rcw_dg (M 0) low k i (by omega))
            have eb2 : b2 B (up D 1296 (erow (D 1296) (eb m 0 k) (cf (rcw (M 0) low k i)))) = b2 B D := by
              unfold b2
              rw [up_ne _ _ (by decide), up_ne _ _ (by decide)]
            rw [eb2]
            exact inM_mono st (fun x y _ _ w => by
              by_cases q5 : x = 0 ∧ y = k
              · exact .inr q5
              · exact .inl ⟨w.1, by omega⟩)
          | succ l2 ih2 =>
            intro i D h4 t6 t7 hi2 v4 r4 mD g4
            have aD := inW_sc w mD
            have c5 : D 1295 = B 1295 := (aD.1 1295 rfl).trans ((b2_sm B D) 1295 rfl)
            have g1 : gi (mk 150 (D 1295)) (f : Int) = (L : Int) := by rw [gi_mkn (by omega), c5]; exact q0B.1
            refine k580_193 v4.1 (Ra_columns v4) (fun w => absurd w (by rw [g1]; omega)) (fun _ => ?_) (c10 := by rw [mk_len]; omega) (c11 := by omega) (c12 := by unfold In3; omega) (c13 := by unfold In3; omega) (c14 := by rw [g1]; unfold In3; omega)
            refine k580_204 (wm_mono (wq_r ?_) (t_in (x := (i : Int) - low - k) (lo := 0) (hi := 10) (in6_of (by omega) (by omega)) (by decide) (by decide))) (c1 := by unfold In3; omega)
            have es : rcw (M 0) low k (i + 1) = if 0 ≤ (i : Int) - low - k ∧ (i : Int) - low - k ≤ 10 then zp_add (rcw (M 0) low k i) (rcv ((M 0 i).1 ((i : Int) - low - k).toNat) k i) else rcw (M 0) low k i := rfl
            by_cases qj : 0 ≤ (i : Int) - low - k ∧ (i : Int) - low - k ≤ 10
            case neg =>
              rw [if_neg qj] at es ⊢
              refine k580_223 (fun w => absurd rfl w) (fun _ => k580_226 (k580_315 ?_))
              exact ih2 (i + 1) D h4 _ _ (by omega) v4 r4 mD (by rw [g4, es])
            rw [if_pos qj] at es ⊢
            refine k580_223 (fun _ => ?_) (fun w => absurd (by decide) w)
            -- entry i is not the one that is under way, or lies in another matrix
            have mei : me D f 0 i = cf (M 0 i) := by
              have := inM_me (A := b2 B D) (B := D) aD (f := f) (i := 0) (j := i) (by omega) (by omega) (by omega)
              rw [this]
              have z := q0B.2.1 i (by omega)
              rw [← z]
              unfold me
              rw [(b2_sm B D) 1296 rfl]
            have hb3 : ∀ t, t < 26400 → In3 (D 1296 t) := inM_b aD (fun t ht => by
              rw [(b2_sm B D) 1296 rfl]
              exact RB0.2.1 t ht)
            refine k580_229 v4.1 (wm_mono (wq_Q (fun h5 v5 r5 => ?_)) (V_loadEntry v4 (p := 1308) rfl (m := f) (i := 0) (j := i) (by omega) (by omega) (by omega) hb3))
            rw [mei] at v5
            obtain ⟨j, ej⟩ : ∃ j : Nat, (i : Int) - low - k = j := ⟨((i : Int) - low - k).toNat, by omega⟩
            have gj : gi (mk 176 (up D 1308 (cf (M 0 i)) 1308)) ((i : Int) - low - k) = (((M 0 i).1 j).val : Int) := by rw [up_at, ej]; exact gi_mkn (by omega)
            have bz := ((M 0 i).1 j).isLt
            rw [show ((i : Int) - low - k).toNat = j by omega] at es
            refine k580_241 v5.1 (RV_l v5 (c := 1308) rfl) (wm_mono (wq_Q (fun h6 v6 r6 => ?_)) (V_become v5 (c := 1311) rfl (z := gi (mk 176 (up D 1308 (cf (M 0 i)) 1308)) ((i : Int) - low - k)) (by rw [gj]; exact in6_of (by omega) (by omega)))) (c12 := by rw [mk_len]; omega) (c13 := by omega) (c14 := by unfold In3; omega)
            rw [gj, nF_val] at v6
            refine k580_255 ?_
            have prod : ∀ (l3 e : Nat) (F : Nat → Nat → Int) (h7 : s_H), e + l3 = i → RV h7 (up s1 0 0) F → FR h h7 → sm C F [1304, 1308, 1309, 1310, 1311, 1312] → F 1312 = cf (rcw (M 0) low k i) → F 1311 = cf (rcv ((M 0 i).1 j) k e) → wr sw_P (d + 3) sw_c580 sw_h580 (258, [.index 1290, vi (f : Int), vi low, vi top, vi (k : Int), vi (i : Int), vi ((i : Int) - low - k), vi (e : Int)], [], h7, 0, 0) (RA h (fun v s' A' => ∃ res, recS (s1 1) T f res ∧ endz s1 A T res v s' A')) := by
              intro l3
              induction l3 with
              | zero =>
                intro e F h7 he v7 r7 mF g12 g11
                have ei : e = i := by omega
                subst ei
                refine k580_258 (fun _ => ?_) (fun w => absurd w (by omega)) (c1 := by unfold In3; omega) (c2 := by unfold In3; omega)
                refine k580_303 v7.1 (wm_mono (wq_Q (fun h8 v8 r8 => ?_)) (V_more v7 (c := 1312) (e := 1311) rfl rfl (by decide) g12 g11 (z := 1) (by decide)))
                rw [nF_1, mul1] at v8
                exact k580_315 (ih2 (e + 1) _ _ _ _ (by omega) v8 (FR_trans r7 r8) (sm_up mF _ rfl) (by rw [up_at, es]))
              | succ l3 ih3 =>
                intro e F h7 he v7 r7 mF g12 g11
                refine k580_258 (fun w => absurd w (by omega)) (fun _ => ?_) (c1 := by unfold In3; omega) (c2 := by unfold In3; omega)
                refine k580_265 v7.1 (wm_mono (wq_Q (fun h8 v8 r8 => ?_)) (V_become v7 (c := 1310) rfl (z := (k : Int) - e) (in6_of (by omega) (by omega)))) (c7 := by unfold In3; omega)
                have v9 := RV_w v8 (c := 1310) rfl (cf (pst (zp_C (nF ((k : Int) - e))) 1 1))
                have hrow : (al 176 (fun i => if i = Int.toNat 1 then (1 : Int) else up F 1310 (cf (zp_C (nF ((k : Int) - e)))) 1310 i)) = al 176 (cf (pst (zp_C (nF ((k : Int) - e))) 1 1)) := by
                  rw [up_at, cf_pst (zp_C (nF ((k : Int) - e))) (n := 1) (z := 1) (t0 := Int.toNat 1) (x := 1) rfl rfl]
                refine k580_278 v8.1 (RV_l v8 (c := 1310) rfl) ((hp_ne (RV_l v8 (c := 1310) rfl) (by decide)).trans v8.1) ?_ (c10 := by rw [mk_len]; decide)
                rw [mk_set, up_at, cf_pst (zp_C (nF ((k : Int) - e))) (n := 1) (z := 1) (t0 := Int.toNat 1) (x := 1) rfl rfl]
                refine wm_mono (wq_Q (fun ha va ra => ?_)) (V_multiplyBy v9 (p := 1311) (q := 1310) rfl rfl (by decide) (by decide) (f := rcv ((M 0 i).1 j) k e) (g := pst (zp_C (nF ((k : Int) - e))) 1 1) (by rw [up_ne _ _ (by decide), up_ne _ _ (by decide), g11]) (up_at _ _ _))
                refine k580_297 ?_
                exact ih3 (e + 1) _ _ (by omega) va (FR_trans r7 (FR_trans r8 (FR_trans (FR_w v8 (c := 1310) rfl _) ra))) (sm_up (sm_up (sm_up (sm_up mF _ rfl) _ rfl) _ rfl) _ rfl) (by rw [up_ne _ _ (by decide), up_ne _ _ (by decide), up_ne _ _ (by decide), up_ne _ _ (by decide), g12]) (by rw [up_at]; rfl)
            exact prod i 0 _ h6 (by omega) v6 (FR_trans r4 (FR_trans r5 r6)) (sm_up (sm_up mD _ rfl) _ rfl) (by rw [up_ne _ _ (by decide), up_ne _ _ (by decide), g4]) (up_at _ _ _)
        exact inner L 0 _ h3 _ _ (by omega) v3 (FR_trans rr r3) (sm_up sm_refl _ rfl) (up_at _ _ _)
    exact rest (n + 1) 0 B h' _ _ _ (by omega) v0 r0 (by rw [b2_self]; exact ⟨sm_refl, fun _ _ => rfl, fun _ => .inl rfl, fun x y _ _ w => absurd w.2 (Nat.not_lt_zero y)⟩)
  have mm : ∀ (l i : Nat) (low top : Int) (B : Nat → Nat → Int) (h' : s_H) (t5 : Term), i + l = L → lowI (M 0) i 0 low top → RV h' (up s1 0 0) B → FR h h' → sm A1 B scr → wr sw_P (d + 3) sw_c580 sw_h580 (61, [.index 1290, vi (f : Int), vi low, vi top, vi (i : Int), t5, .result, .result], [], h', 0, 0) (RA h (fun v s' A' => ∃ res, recS (s1 1) T f res ∧ endz s1 A T res v s' A')) := by
    intro l
    induction l with
    | zero =>
      intro i low top B h' t5 hi2 hI v rr m
      have iL : i = L := by omega
      subst iL
      have q0' := row0_sm q0 m
      have g1 : gi (mk 150 (B 1295)) (f : Int) = (i : Int) := by rw [gi_mkn (by omega)]; exact q0'.1
      exact k580_61 v.1 (Ra_columns v) (fun _ => made low top _ _ B h' hI v rr m) (fun w => absurd w (by rw [g1]; omega)) (c10 := by rw [mk_len]; omega) (c11 := by omega) (c12 := by unfold In3; omega) (c13 := by unfold In3; omega) (c14 := by rw [g1]; unfold In3; omega)
    | succ l ih =>
      intro i low top B h' t5 hi2 hI v rr m
      have q0' := row0_sm q0 m
      have g1 : gi (mk 150 (B 1295)) (f : Int) = (L : Int) := by rw [gi_mkn (by omega)]; exact q0'.1
      refine k580_61 v.1 (Ra_columns v) (fun w => absurd w (by rw [g1]; omega)) (fun _ => ?_) (c10 := by rw [mk_len]; omega) (c11 := by omega) (c12 := by unfold In3; omega) (c13 := by unfold In3; omega) (c14 := by rw [g1]; unfold In3; omega)
      refine k580_72 v.1 (wm_mono (wq_Q (fun h3 v3 r3 => ?_)) (V_loadEntry v (p := 1308) rfl (m := f) (i := 0) (j := i) (by omega) (by omega) (by omega) q0'.2.2))
      rw [q0'.2.1 i (by omega)] at v3
      refine k580_84 ?_
      have inner : ∀ (l2 j : Nat) (low top : Int), j + l2 = 11 → lowI (M 0) i j low top → wr sw_P (d + 3) sw_c580 sw_h580 (87, [.index 1290, vi (f : Int), vi low, vi top, vi (i : Int), vi (j : Int), .result, .result], [], h3, 0, 0) (RA h (fun v s' A' => ∃ res, recS (s1 1) T f res ∧ endz s1 A T res v s' A')) := by
        intro l2
        induction l2 with
        | zero =>
          intro j low top hj hI
          have j11 : j = 11 := by omega
          subst j11
          exact k580_87 (fun _ => k580_153 (ih (i + 1) low top _ h3 _ (by omega) (lowI_s hI) v3 (FR_trans rr r3) (sm_up m _ rfl))) (fun w => absurd w (by omega))
        | succ l2 ih2 =>
          intro j low top hj hI
          have hl := hI.1
          have ht := hI.2.1
          have g8 : gi (mk 176 (up B 1308 (cf (M 0 i)) 1308)) (j : Int) = (((M 0 i).1 j).val : Int) := by rw [up_at]; exact gi_mkn (by omega)
          have bz := ((M 0 i).1 j).isLt
          refine k580_87 (fun w => absurd w (by omega)) (fun _ => ?_)
          refine k580_94 v3.1 (RV_l v3 (c := 1308) rfl) (fun w => ?_) (fun w => ?_) (c10 := by rw [mk_len]; omega) (c11 := by omega) (c12 := by unfold In3; omega) (c13 := by rw [g8]; exact in6_of (by omega) (by omega))
          · rw [g8] at w
            have n0 : (M 0 i).1 j ≠ 0 := fun q => w (by rw [q]; rfl)
            have nx := lowI_1 hI n0 (by omega) (by omega)
            have go : ∀ lo : Int, lo = (if low ≤ (i : Int) - j then low else (i : Int) - j) → wr sw_P (d + 3) sw_c580 sw_h580 (127, [.index 1290, vi (f : Int), vi low, vi top, vi (i : Int), vi (j : Int), .result, .result], [vi lo], h3, 0, 0) (RA h (fun v s' A' => ∃ res, recS (s1 1) T f res ∧ endz s1 A T res v s' A')) := by
              intro lo elo
              rw [← elo] at nx
              refine k580_127 (fun q8 => ?_) (fun q8 => ?_) (c1 := by unfold In3; omega) (c2 := by unfold In3; omega)
              · rw [if_pos q8] at nx
                exact k580_145 (k580_146 (k580_147 (ih2 (j + 1) lo top (by omega) nx)))
              · rw [if_neg q8] at nx
                exact k580_137 (k580_146 (k580_147 (ih2 (j + 1) lo _ (by omega) nx)))
            refine k580_109 (fun q8 => k580_126 (go low (if_pos q8).symm)) (fun q8 => k580_118 (go _ (if_neg q8).symm)) (c1 := by unfold In3; omega) (c2 := by unfold In3; omega)
          · rw [g8] at w
            have z0 : (M 0 i).1 j = 0 := F_ext (by show (((M 0 i).1 j).val : Int) = 0; omega)
            exact k580_106 (k580_147 (ih2 (j + 1) low top (by omega) (lowI_0 hI z0)))
      exact inner 11 0 low top rfl hI
  exact mm L 0 9 (-20) _ _ _ (by omega) ⟨by omega, by omega, fun a b hab => by omega, .inl rfl, .inl rfl⟩ w2 r2 sm_refl
end
