/-! the reference's answer and meet in the picture -/
theorem kerp_fin (B : Nat → Nat → zp_F) (R : Nat → Int) (c : Nat) : zp_fin (fun i => if i = c then 1 else if i < c ∧ R i ≠ -1 then -(B (pc R i) c) else 0) := ⟨c + 1, fun i hi2 => by
  show (if i = c then (1 : zp_F) else if i < c ∧ R i ≠ -1 then -(B (pc R i) c) else 0) = 0
  rw [if_neg (by omega), if_neg (fun w => by omega)]⟩
/-- the answer of column c of a cleared table -/
def kerp (B : Nat → Nat → zp_F) (R : Nat → Int) (c : Nat) : zp_R := ⟨fun i => if i = c then 1 else if i < c ∧ R i ≠ -1 then -(B (pc R i) c) else 0, kerp_fin B R c⟩
theorem kerp_dg (B : Nat → Nat → zp_F) (R : Nat → Int) (c : Nat) : zp_deg (kerp B R c) (c + 1) := fun i hi2 => by
  show (if i = c then (1 : zp_F) else if i < c ∧ R i ≠ -1 then -(B (pc R i) c) else 0) = 0
  rw [if_neg (by omega), if_neg (fun w => by omega)]
theorem solp_fin (B : Nat → Nat → zp_F) (R : Nat → Int) (n : Nat) : zp_fin (fun i => if i < n ∧ R i ≠ -1 then B (pc R i) 47 else 0) := ⟨n, fun i hi2 => if_neg (fun w => by omega)⟩
/-- what column 47 tells of the first n columns -/
def solp (B : Nat → Nat → zp_F) (R : Nat → Int) (n : Nat) : zp_R := ⟨fun i => if i < n ∧ R i ≠ -1 then B (pc R i) 47 else 0, solp_fin B R n⟩
theorem solp_dg (B : Nat → Nat → zp_F) (R : Nat → Int) (n : Nat) : zp_deg (solp B R n) n := fun i hi2 => if_neg (fun w => by omega)
def awF (cnt w k : Int) (t : th) (res : Sum th Int) : Prop := match t with
  | .inr (.inr (.inl (_, L, M))) => ∃ B R, rr (rtb (M 0) L w (zp_C 0)) B 41 21 R ∧ (¬ (0 ≤ k ∧ k ≤ 21 - (pc R 21 : Int) - 1) → res = .inr 1) ∧ ((0 ≤ k ∧ k ≤ 21 - (pc R 21 : Int) - 1) → ∃ c : Nat, c < 21 ∧ R c = -1 ∧ (c : Int) - pc R c = k ∧ keeps cnt (kerp B R c) 3 res)
  | _ => True
def awS (cnt : Int) (T : Nat → th) (x w k : Int) (res : Sum th Int) : Prop := ∃ c, rfS cnt T x w c ∧ (c ≠ 0 → res = .inr c) ∧ (c = 0 → awF cnt w k (T x.toNat) res)
theorem rr_row {M B : Nat → Nat → zp_F} {h c : Nat} {R : Nat → Int} (a : rr M B h c R) {j : Nat} (hj : j < c) : -1 ≤ R j ∧ R j < h ∧ (R j ≠ -1 → R j = pc R j ∧ pc R j < h) := by
  rcases a.2 j hj with ⟨z1, _⟩ | ⟨z1, z2, _⟩
  · exact ⟨by omega, by omega, fun w => absurd z1 w⟩
  · exact ⟨by omega, by omega, fun _ => ⟨z1, z2⟩⟩
section
variable {d : Nat} {h : s_H} {s : Nat → Int} {A : Nat → Nat → Int}
theorem V_answer (hv : RV h s A) {T : Nat → th} (hR : RI s A T) {x w k : Int} (hx : In3 x) (hw : In3 w) (ik : In3 k) : wm sw_P (d + 6) 397 [.index 1290, vi x, vi w, vi k] h (RA h (fun v s' A' => ∃ res, awS (s 1) T x w k res ∧ endz s A T res v s' A')) := by
  refine wm_in (cd := sw_c397) (nL := 7) (hd := sw_h397) rfl rfl ?_
  have b0 := hR.1.1
  refine k397_0 hv.1 (wm_mono (wq_A (fun v1 h1 s1 A1 w1 r1 φ => ?_)) (V_isRuleFor hv hR hx hw))
  obtain ⟨m1, c, hc, e1, q⟩ := φ
  have q1 : sq s s1 := by rw [e1]; exact sq_up (sq_refl s) _ rfl
  have m1' : sm A A1 scrA := sm_sub m1 rfl
  rcases q with ⟨c0, ev⟩ | ⟨c0, ev, q3, f, L, M, ef, lf, tf, nM⟩
  · rw [ev]
    exact k397_6 (fun w => absurd rfl w) (fun _ => k397_9 ⟨vi 0, h1, s1, A1, w1, r1, ⟨.inr c, ⟨c, hc, fun _ => rfl, fun w => absurd w c0⟩, endz_bad hR (sq_refl s) m1' rfl e1 rfl⟩, rfl⟩)
  rw [ev]
  subst ef
  have xf : (f : Int).toNat = f := by omega
  have R1 : RI s1 A1 T := RI_a hR m1' q1
  have hf1 := R1.2.2 f (by rw [sq_1 q1]; exact lf)
  rw [tf] at hf1
  obtain ⟨q0, hL⟩ := row0_T hf1 (RI_me R1)
  refine k397_6 (fun _ => ?_) (fun w => absurd (by decide) w)
  refine k397_11 w1.1 (wm_mono (wq_Q (fun h2 w2 r2 => ?_)) (V_empty w1 (c := 1312) rfl))
  have q0' := row0_sm q0 (B := up A1 1312 (cf (zp_C 0))) (sm_up sm_refl _ rfl)
  refine k397_18 w2.1 (wm_mono (wq_N (fun h3 s3 A3 w3 r3 φ => ?_)) (V_clearRule w2 (f := f) (by omega) hL q0' hw (q := 1312) rfl rfl (up_at _ _ _)))
  obtain ⟨B, es, m3, g3, a3⟩ := φ
  have q3' : sq s s3 := by rw [es]; exact sq_up (sq_up q1 _ rfl) _ rfl
  have m3' : sm A A3 scrA := sm_tr (sm_up m1' _ rfl) (sm_sub m3 rfl)
  have ef : s3 32 = 21 - (pc (A3 1318) 21 : Int) := by rw [es, up_ne _ _ (by decide), up_at]
  have pb := pc_b (A3 1318) 21
  have r3' := FR_trans r1 (FR_trans r2 r3)
  have sp : ∀ res : Sum th Int, (¬ (0 ≤ k ∧ k ≤ 21 - (pc (A3 1318) 21 : Int) - 1) → res = .inr 1) → ((0 ≤ k ∧ k ≤ 21 - (pc (A3 1318) 21 : Int) - 1) → ∃ c : Nat, c < 21 ∧ A3 1318 c = -1 ∧ (c : Int) - pc (A3 1318) c = k ∧ keeps (s 1) (kerp B (A3 1318) c) 3 res) → awS (s 1) T f w k res := fun res y1 y2 => ⟨c, hc, fun w => absurd c0 w, fun _ => by rw [xf, tf]; exact ⟨B, A3 1318, a3, y1, y2⟩⟩
  refine k397_28 (z6 := s3 32) w3.1 (wm_mono (wq_r ?_) (t_in (x := k) (lo := 0) (hi := s3 32 - 1) (by unfold In6; unfold In3 at ik; omega) (by decide) (by rw [ef]; exact in6_of (by omega) (by omega)))) (c1 := ik) (c8 := by rw [ef]; unfold In3; omega)
  rw [ef]
  by_cases qk : 0 ≤ k ∧ k ≤ 21 - (pc (A3 1318) 21 : Int) - 1
  case neg =>
    rw [if_neg qk]
    refine k397_41 (fun w => absurd rfl w) (fun _ => ?_)
    refine k397_44 w3.1 (wm_mono (wq_A (fun v4 h4 s4 A4 w4 r4 φ => ?_)) (V_raise w3))
    obtain ⟨y1, y2, y3⟩ := φ
    subst y1
    exact k397_49 ⟨_, h4, s4, A4, w4, FR_trans r3' r4, ⟨.inr 1, sp _ (fun _ => rfl) (fun w => absurd w qk), endz_bad hR q3' m3' rfl y2 y3⟩, rfl⟩
  rw [if_pos qk]
  refine k397_41 (fun _ => ?_) (fun w => absurd (by decide) w)
  refine k397_50 ?_
  have fin : ∀ (c : Nat) (x5 : Int), x5 ≤ 0 → In3 x5 → c < 21 → A3 1318 c = -1 → (c : Int) - pc (A3 1318) c = k → wr sw_P (d + 5) sw_c397 sw_h397 (58, [.index 1290, vi (f : Int), vi w, vi k, vi (c : Int), vi x5, .result], [], h3, 0, 0) (RA h (fun v s' A' => ∃ res, awS (s 1) T f w k res ∧ endz s A T res v s' A')) := by
    intro c x5 h5 i5 c21 ec ekc
    refine k397_58 (fun _ => ?_) (fun w => absurd h5 w) (c1 := i5)
    refine k397_90 w3.1 (wm_mono (wq_Q (fun h4 w4 r4 => ?_)) (V_empty w3 (c := 1302) rfl))
    refine k397_97 w4.1 (RV_l w4 (c := 1302) rfl) ?_ (c10 := by rw [mk_len]; omega) (c11 := by omega) (c12 := by unfold In3; omega)
    rw [mk_set]
    have last : ∀ (l i : Nat) (C : Nat → Nat → Int) (h' : s_H), i + l = c → RV h' s3 C → FR h h' → (∀ x, x ≠ 1302 → C x = A3 x) → (∀ x, x < 176 → C 1302 x = if x = c then 1 else if x < i then cf (kerp B (A3 1318) c) x else 0) → wr sw_P (d + 5) sw_c397 sw_h397 (108, [.index 1290, vi (f : Int), vi w, vi k, vi (c : Int), vi x5, vi (i : Int)], [], h', 0, 0) (RA h (fun v s' A' => ∃ res, awS (s 1) T f w k res ∧ endz s A T res v s' A')) := by
      intro l
      induction l with
      | zero =>
        intro i C h' hi2 v r o g
        have ic : i = c := by omega
        subst ic
        refine k397_108 (fun _ => ?_) (fun w => absurd w (by omega)) (c1 := by unfold In3; omega) (c2 := by unfold In3; omega)
        have v5 := RV_c v (c := 1302) rfl (g := cf (kerp B (A3 1318) i)) (fun x hx => by
          rw [g x hx]
          show _ = ((if x = i then (1 : zp_F) else if x < i ∧ A3 1318 x ≠ -1 then -(B (pc (A3 1318) x) i) else 0 : zp_F).val : Int)
          by_cases q : x = i
          · rw [if_pos q, if_pos q]; rfl
          · rw [if_neg q, if_neg q]
            by_cases q2 : x < i
            · rw [if_pos q2]
              show ((if x = i then (1 : zp_F) else if x < i ∧ A3 1318 x ≠ -1 then -(B (pc (A3 1318) x) i) else 0 : zp_F).val : Int) = _
              rw [if_neg q]
            · rw [if_neg q2, if_neg (fun w => q2 w.1)]; rfl)
        have m5 : sm A (up C 1302 (cf (kerp B (A3 1318) i))) scrA := sm_tr m3' (fun j hj => by
          have hj3 : j ≠ 1302 := fun e => by rw [e] at hj; exact absurd hj (by decide)
          rw [up_ne _ _ hj3, o j hj3])
        refine k397_161 v5.1 (wm_mono (wq_Q (fun h6 v6 r6 => ?_)) (V_become v5 (c := 1303) rfl (z := 1) (by decide)))
        rw [nF_1] at v6
        refine k397_169 v6.1 (wm_mono (wq_A (fun v7 h7 s7 A7 w7 r7 φ => ?_)) (V_keep v6 (by rw [sq_1 q3']; exact b0) (N := kerp B (A3 1318) i) (D := zp_C 1) (by rw [up_ne _ _ (by decide), up_at]) (up_at _ _ _)))
        obtain ⟨res, z1, z3⟩ := endz_keeps hR q3' (sm_up m5 _ rfl) (deg_le (kerp_dg _ _ _) (by omega)) φ
        obtain ⟨u, eu⟩ := endz_vi z3
        subst eu
        exact k397_174 ⟨_, h7, s7, A7, w7, FR_trans r (FR_trans r6 r7), ⟨res, sp res (fun w => absurd qk w) (fun _ => ⟨i, c21, ec, ekc, z1⟩), z3⟩, rfl⟩
      | succ l ih =>
        intro i C h' hi2 v r o g
        refine k397_108 (fun w => absurd w (by omega)) (fun _ => ?_) (c1 := by unfold In3; omega) (c2 := by unfold In3; omega)
        have row := rr_row a3 (j := i) (by omega)
        have e1 : gi (mk 48 (C 1318)) (i : Int) = A3 1318 i := by rw [gi_mkn (by omega), o 1318 (by decide)]
        have nxt : ∀ (C' : Nat → Nat → Int) (h5 : s_H), RV h5 s3 C' → FR h h5 → (∀ x, x ≠ 1302 → C' x = A3 x) → (∀ x, x < 176 → C' 1302 x = if x = c then 1 else if x < i + 1 then cf (kerp B (A3 1318) c) x else 0) → wr sw_P (d + 5) sw_c397 sw_h397 (155, [.index 1290, vi (f : Int), vi w, vi k, vi (c : Int), vi x5, vi (i : Int)], [], h5, 0, 0) (RA h (fun v s' A' => ∃ res, awS (s 1) T f w k res ∧ endz s A T res v s' A')) := fun C' h5 v' r' o' g' => k397_155 (ih (i + 1) C' h5 (by omega) v' r' o' g')
        have kx : cf (kerp B (A3 1318) c) i = (((if A3 1318 i ≠ -1 then -(B (pc (A3 1318) i) c) else 0 : zp_F)).val : Int) := by
          show ((if i = c then (1 : zp_F) else if i < c ∧ A3 1318 i ≠ -1 then -(B (pc (A3 1318) i) c) else 0 : zp_F).val : Int) = _
          rw [if_neg (by omega)]
          by_cases q : A3 1318 i = -1
          · rw [if_neg (fun w => w.2 q), if_neg (fun w => w q)]
          · rw [if_pos ⟨by omega, q⟩, if_pos q]
        refine k397_115 v.1 (Ra_row v) (fun w => ?_) (fun w => ?_) (c10 := by rw [mk_len]; omega) (c11 := by omega) (c12 := by unfold In3; omega) (c13 := by rw [e1]; unfold In3; omega)
        · rw [e1] at w
          refine nxt C h' v r o (fun x hx => ?_)
          rw [g x hx]
          by_cases q : x = c
          · rw [if_pos q, if_pos q]
          · rw [if_neg q, if_neg q]
            by_cases q2 : x = i
            · rw [if_neg (show ¬ x < i by omega), if_pos (show x < i + 1 by omega), q2, kx, if_neg (fun w2 => w2 w)]; rfl
            · by_cases q3 : x < i
              · rw [if_pos q3, if_pos (show x < i + 1 by omega)]
              · rw [if_neg q3, if_neg (show ¬ x < i + 1 by omega)]
        · rw [e1] at w
          obtain ⟨y1, y2⟩ := row.2.2 w
          have e2 := gi_fl ((o 1317 (by decide)).trans g3) (n := pc (A3 1318) i) (i := c) (by omega) (by omega) (x := 48 * (A3 1318 i) + c) (by omega)
          have bz := (B (pc (A3 1318) i) c).isLt
          refine k397_126 v.1 (Ra_row v) (Ra_table v) (wm_mono (wq_r ?_) (t_modulo (by rw [e1, e2]; exact in6_of (by omega) (by omega)))) (c14 := by rw [mk_len]; omega) (c15 := by omega) (c16 := by unfold In3; omega) (c20 := by rw [e1, mk_len]; omega) (c21 := by rw [e1]; omega) (c22 := by rw [e1]; unfold In3; omega)
          rw [e1, e2, md_neg]
          refine k397_154 (RV_l v (c := 1302) rfl) ?_ (c4 := by rw [mk_len]; omega) (c5 := by omega) (c6 := by unfold In3; omega)
          rw [mk_set]
          refine nxt _ _ (RV_w v (c := 1302) rfl _) (FR_trans r (FR_w v (c := 1302) rfl _)) (fun x hx => by rw [up_ne _ _ hx, o x hx]) (fun x hx => ?_)
          rw [up_at]
          show (if x = (i : Int).toNat then ((-(B (pc (A3 1318) i) c) : zp_F).val : Int) else C 1302 x) = _
          by_cases q : x = i
          · rw [if_pos (by omega), if_neg (show ¬ x = c by omega), if_pos (show x < i + 1 by omega), q, kx, if_pos w]
          · rw [if_neg (by omega), g x hx]
            by_cases q3 : x = c
            · rw [if_pos q3, if_pos q3]
            · rw [if_neg q3, if_neg q3]
              by_cases q2 : x < i
              · rw [if_pos q2, if_pos (show x < i + 1 by omega)]
              · rw [if_neg q2, if_neg (show ¬ x < i + 1 by omega)]
    refine last c 0 _ _ (by omega) (RV_w w4 (c := 1302) rfl _) (FR_trans r3' (FR_trans r4 (FR_w w4 (c := 1302) rfl _))) (fun x hx => by rw [up_ne _ _ hx, up_ne _ _ hx]) (fun x hx => ?_)
    rw [up_at, up_at]
    show (if x = (c : Int).toNat then 1 else cf (zp_C 0) x) = _
    by_cases q : x = c
    · rw [if_pos (by omega), if_pos q]
    · rw [if_neg (by omega), if_neg q, if_neg (Nat.not_lt_zero x)]
      show ((zp_C 0).1 x : zp_F).val = (0 : Int)
      rw [zp_C00]; rfl
  -- the column
  have find : ∀ (l j : Nat), j + l = 21 → (0 < k + 1 - ((j : Int) - pc (A3 1318) j)) → wr sw_P (d + 5) sw_c397 sw_h397 (58, [.index 1290, vi (f : Int), vi w, vi k, vi ((j : Int) - 1), vi (k + 1 - ((j : Int) - pc (A3 1318) j)), .result], [], h3, 0, 0) (RA h (fun v s' A' => ∃ res, awS (s 1) T f w k res ∧ endz s A T res v s' A')) := by
    intro l
    induction l with
    | zero =>
      intro j hj hl
      have j21 : j = 21 := by omega
      subst j21
      omega
    | succ l ih =>
      intro j hj hl
      have bj := pc_b (A3 1318) j
      have row := rr_row a3 (j := j) (by omega)
      have e1 : gi (mk 48 (A3 1318)) ((j : Int) - 1 + 1) = A3 1318 j := by rw [show (j : Int) - 1 + 1 = (j : Int) by omega]; exact gi_mkn (by omega)
      have ps : pc (A3 1318) (j + 1) = pc (A3 1318) j + (if A3 1318 j = -1 then 0 else 1) := rfl
      refine k397_58 (fun w => absurd w (by omega)) (fun _ => ?_) (c1 := by unfold In3 at ik ⊢; omega)
      refine k397_63 w3.1 (Ra_row w3) (fun w => ?_) (fun w => ?_) (c10 := by rw [mk_len]; omega) (c11 := by omega) (c12 := by unfold In3; omega) (c13 := by rw [e1]; unfold In3; omega)
      · rw [e1] at w
        rw [if_neg w] at ps
        refine k397_83 (k397_84 ?_)
        have := ih (j + 1) (by omega) (by rw [ps]; omega)
        rw [ps, show ((j + 1 : Nat) : Int) - 1 = (j : Int) - 1 + 1 by omega, show k + 1 - (((j + 1 : Nat) : Int) - ((pc (A3 1318) j + 1 : Nat) : Int)) = k + 1 - ((j : Int) - pc (A3 1318) j) - 0 by omega] at this
        exact this
      · rw [e1] at w
        have w' : A3 1318 j = -1 := Decidable.byContradiction w
        rw [if_pos w'] at ps
        refine k397_79 (k397_84 ?_)
        by_cases q : k + 1 - ((j : Int) - pc (A3 1318) j) - 1 ≤ 0
        · have := fin j (k + 1 - ((j : Int) - pc (A3 1318) j) - 1) q (by unfold In3 at ik ⊢; omega) (by omega) w' (by omega)
          rw [show (j : Int) - 1 + 1 = (j : Int) by omega]
          exact this
        · have := ih (j + 1) (by omega) (by rw [ps]; omega)
          rw [ps, show ((j + 1 : Nat) : Int) - 1 = (j : Int) - 1 + 1 by omega, show k + 1 - (((j + 1 : Nat) : Int) - ((pc (A3 1318) j + 0 : Nat) : Int)) = k + 1 - ((j : Int) - pc (A3 1318) j) - 1 by omega] at this
          exact this
  have := find 21 0 rfl (by rw [show pc (A3 1318) 0 = 0 from rfl]; omega)
  rw [show k + 1 - (((0 : Nat) : Int) - pc (A3 1318) 0) = k + 1 by show k + 1 - (((0 : Nat) : Int) - ((0 : Nat) : Int)) = k + 1; omega, show (((0 : Nat) : Int) - 1) = -1 from rfl] at this
  exact this
end
