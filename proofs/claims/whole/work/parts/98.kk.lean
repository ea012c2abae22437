/-! the class's matrices: sums, products, own and companion ones; written by wip/gen/genmat.py -/
def MO (h : s_H) : Prop := s_get h 354 = some (1, 2, [.index 5, .index 355, .index 356, .index 357])
theorem MO_R {h h' : s_H} (H : MO h) (a : CF PR h h') (lo : 1376 ≤ h.1) : MO h' := (a.2 354 (fun p => by unfold PR at p; omega) (.inl (by omega))).trans H
theorem u_mark {D : Nat} {h : s_H} {k : Nat} (A : AL h k) : wm sw_P (D + 1) 110 [.index 5] h (qr (vi (k : Int)) h) := by
  refine wm_in (cd := sw_c110) (nL := 1) (hd := sw_h110) rfl rfl ?_
  exact k110_0 (z5 := (k : Int)) A.1 rfl
theorem MF_base {h h1 h' : s_H} {c r w : Nat} {M : Nat → Nat → zp_R} {i j g : Nat} (H : MF h1 h' c r w M i j g) (F : CF PR h h1) (e : h1.1 = h.1) : MF h h' c r w M i j g := by
  obtain ⟨F0, e0, ec, rest⟩ := H
  exact ⟨CF_trans F F0, by omega, by omega, rest⟩
theorem row_t {i w t : Nat} (ht : t = i * w + w) : t = (i + 1) * w + 0 := by rw [Nat.succ_mul]; omega
theorem t16 {i j r w t : Nat} (ht : t = i * w + j) (ir : i < r) (jw : j ≤ w) (r4 : r ≤ 4) (w4 : w ≤ 4) : t ≤ 16 := by
  have := Nat.mul_le_mul_right w (show i + 1 ≤ r by omega)
  rw [Nat.succ_mul] at this
  have b16 : r * w ≤ 4 * 4 := Nat.mul_le_mul r4 w4
  omega
theorem MF_lo {h0 h : s_H} {c r w : Nat} {M : Nat → Nat → zp_R} {i j g : Nat} (H : MF h0 h c r w M i j g) : CF PR h0 h ∧ h.1 = h0.1 + g := ⟨H.1, H.2.1⟩
theorem far_kp {h : s_H} {p q : Nat} (w : kp h p) (q39 : q < 39) : apt p q := by
  unfold apt
  rcases w with w | w <;> omega
theorem KT_ce {h : s_H} {c r w : Nat} {M : Nat → Nat → zp_R} (K : KT h c (th_ma r w M)) : ∃ e, s_get h c = some (1, 8, [vi 2, .null, .null, vi (r : Int), vi (w : Int), .index e, .null, vi 0]) := by
  obtain ⟨e, _, g, _⟩ := K
  exact ⟨e, g⟩
theorem KT_rw {h : s_H} {c r w : Nat} {M : Nat → Nat → zp_R} (K : KT h c (th_ma r w M)) : (1 ≤ r ∧ r ≤ 4) ∧ (1 ≤ w ∧ w ≤ 4) := by
  obtain ⟨_, _, _, _, _, _, a, b, _⟩ := K
  exact ⟨a, b⟩
section
variable {D : Nat} {h : s_H} {k : Nat}
theorem u_sumOf (A : AL h k) (hk : k + 1 < 16) (mo' : MO h) (lo : 1376 ≤ h.1) (rm : RM h 40) {a b r w : Nat} {M N : Nat → Nat → zp_R} (K1 : KT h a (th_ma r w M)) (k1 : kt h a) (K2 : KT h b (th_ma r w N)) (k2 : kt h b) {z : Int} (hz : 0 ≤ z ∧ z ≤ 32003) : wm sw_P (D + 4) 148 [.index 354, .index a, .index b, vi z] h (MN h k r w (fun i j => zp_add (M i j) (zp_mul (zp_C (nF z)) (N i j)))) := by
  refine wm_in (cd := sw_c148) (nL := 9) (hd := sw_h148) rfl rfl ?_
  obtain ⟨S, eS⟩ : ∃ S : Nat → Nat → zp_R, (fun i j => zp_add (M i j) (zp_mul (zp_C (nF z)) (N i j))) = S := ⟨_, rfl⟩
  rw [eS]
  obtain ⟨r14, w14⟩ := KT_rw K1
  refine k148_0 mo' A.1 (wm_mono (wq_r ?_) (u_mark A))
  refine k148_7 mo' A.1 (r_lend (RW_0 A (by omega)) (FA_refl [] k h) (by omega) (fun h10 R10' E10 => ?_))
  have R10 : RW h10 k 1 [zp_C 0] := R10'
  have F10 := CF_R E10
  have e11 : h10.1 = h.1 := E10.1
  obtain ⟨_, gc⟩ := KT_ce (KT_keep K1 k1 F10 FX_R lo)
  refine k148_16 (z7 := (r : Int)) (z9 := (w : Int)) gc (MO_R mo' F10 lo) (wm_mono (fun out => ?_) (u_empty (by omega) (RM_CF rm F10 (fun j p => by unfold PR at p; omega) lo (by omega)) r14 w14 S))
  intro ⟨h2, H2, N2, eo⟩
  rw [eo]
  have H2' := MF_base H2 F10 e11
  rw [e11] at H2'
  have R2 := RW_G R10 (fun j _ _ => N2.2 j id (.inl (by omega)) : ∀ j, 5 ≤ j → j < 39 → s_get h2 j = s_get h10 j)
  rw [e11]
  refine k148_30 ?_
  have b16 : r * w ≤ 4 * 4 := Nat.mul_le_mul r14.2 w14.2
  have loop : ∀ (m i t x y : Nat) (t8 : Term) (lst : List zp_R) (h' : s_H), i + m = r → t = i * w + 0 → MF h h' h.1 r w S i 0 (2 + 2 * t) → RW h' k 1 lst → x = 2 + 2 * t → y ≤ 24 + 194 * t → wr sw_P (D + 3) sw_c148 sw_h148 (35, [.index 354, .index a, .index b, vi z, vi (k : Int), .index (7 + 2 * (k + 0)), .index h.1, vi (i : Int), t8], [], h', x, y) (MN h k r w S) := by
    intro m
    induction m with
    | zero =>
      intro i t x y t8 lst h' hi2 ht H R ex ey
      have ei : i = r := by omega
      obtain ⟨F, _⟩ := MF_lo H
      have t1 : t = r * w := by rw [ht, ei]; omega
      have tl : t ≤ 16 := by omega
      obtain ⟨_, gco⟩ := KT_ce (KT_keep K1 k1 F FX_R lo)
      refine k148_35 (z5 := (r : Int)) gco (fun _ => ?_) (fun q => absurd (by omega) q) (c7 := by unfold In3; omega) (c8 := by unfold In3; omega)
      refine k148_104 (MO_R mo' F lo) R.1.1 (r_release R (FA_refl [] k h') (fun h'' A'' o'' E'' => k148_113 ⟨h'', _, _, ?_, A'', by omega, by omega, rfl⟩))
      have H'' := MF_F H (CF_R E'') (by omega) (g' := 0) (by have := E''.1; omega)
      rw [ei, t1] at H''
      exact H''
    | succ m ih =>
      intro i t x y t8 lst h' hi2 ht H R ex ey
      obtain ⟨F, eh⟩ := MF_lo H
      obtain ⟨_, gco⟩ := KT_ce (KT_keep K1 k1 F FX_R lo)
      refine k148_35 (z5 := (r : Int)) gco (fun q => absurd q (by omega)) (fun _ => k148_44 ?_) (c7 := by unfold In3; omega) (c8 := by unfold In3; omega)
      have inner : ∀ (m' j t x y : Nat) (lst : List zp_R) (h' : s_H), j + m' = w → t = i * w + j → MF h h' h.1 r w S i j (2 + 2 * t) → RW h' k 1 lst → x = 2 + 2 * t → y ≤ 24 + 194 * t → wr sw_P (D + 3) sw_c148 sw_h148 (47, [.index 354, .index a, .index b, vi z, vi (k : Int), .index (7 + 2 * (k + 0)), .index h.1, vi (i : Int), vi (j : Int)], [], h', x, y) (MN h k r w S) := by
        intro m'
        induction m' with
        | zero =>
          intro j t x y lst h' hj ht H R ex ey
          have ej : j = w := by omega
          obtain ⟨F, eh⟩ := MF_lo H
          obtain ⟨_, gci⟩ := KT_ce (KT_keep K1 k1 F FX_R lo)
          refine k148_47 (z5 := (w : Int)) gci (fun _ => k148_98 ?_) (fun q => absurd (by omega) q) (c7 := by unfold In3; omega) (c8 := by unfold In3; omega)
          rw [show (i : Int) + 1 = ((i + 1 : Nat) : Int) by omega]
          rw [ej] at H ht
          exact ih (i + 1) t x y _ lst h' (by omega) (row_t ht) (MF_row H) R ex ey
        | succ m' ih2 =>
          intro j t x y lst h' hj ht H R ex ey
          have tl := t16 ht (show i < r by omega) (by omega) r14.2 w14.2
          obtain ⟨F, eh⟩ := MF_lo H
          obtain ⟨_, gci⟩ := KT_ce (KT_keep K1 k1 F FX_R lo)
          refine k148_47 (z5 := (w : Int)) gci (fun q => absurd q (by omega)) (fun _ => ?_) (c7 := by unfold In3; omega) (c8 := by unfold In3; omega)
          have fin : ∀ (h3 : s_H) (lst3 : List zp_R), RW h3 k 1 lst3 → FA [] k h' h3 → lst3[0]? = some (S i j) → wr sw_P (D + 3) sw_c148 sw_h148 (78, [.index 354, .index a, .index b, vi z, vi (k : Int), .index (7 + 2 * (k + 0)), .index h.1, vi (i : Int), vi (j : Int)], [], h3, x, y) (MN h k r w S) := fun h3 lst3 R3 E3 e3 => by
            have H3 := MF_F H (CF_R E3) (by omega) (g' := 0) (by have := E3.1; omega)
            have e31 : h3.1 = h'.1 := E3.1
            refine k148_78 (RW_c R3 0 e3) (r_kept R3 (by omega) (RM_CF rm (CF_trans F (CF_R E3)) (fun j p => by unfold PR at p; omega) lo (by omega)) 0 e3 (fun h4 L hL P4 e4 F4 R4 => ?_))
            have H4 := MF_F H3 (CF_NA F4) (by omega) (g' := 2) (by omega)
            obtain ⟨_, _, _, _, _, _, gc4, _⟩ := id H4
            refine k148_89 gc4 (wm_mono (fun out => ?_) (u_setEntry (by omega) H4 (show i < r by omega) (show j < w by omega) r14.2 w14.2 (by omega) (by omega) P4))
            intro ⟨h5, H5, lo5, e5, _, eo⟩
            rw [eo]
            refine k148_92 ?_
            rw [show (j : Int) + 1 = ((j + 1 : Nat) : Int) by omega]
            refine ih2 (j + 1) (t + 1) _ _ _ h5 (by omega) (by omega) ?_ (RW_G R4 (fun x _ _ => lo5 x (by omega))) (by omega) (by omega)
            rw [show 2 + 2 * (t + 1) = 2 + 2 * t + 0 + 2 by omega]
            exact H5
          obtain ⟨_, gc2⟩ := KT_ce (KT_keep K2 k2 F FX_R lo)
          refine k148_56 gci (wm_mono (fun out => ?_) (u_entryAt (KT_keep K1 k1 F FX_R lo) (i := i) (j := j) (by omega) (by omega)))
          intro ⟨p, lp, kp1, Pp, dp, eo'⟩
          refine wq_r ?_ out eo'
          refine k148_66 gc2 (wm_mono (fun out => ?_) (u_entryAt (KT_keep K2 k2 F FX_R lo) (i := i) (j := j) (by omega) (by omega)))
          intro ⟨q, lq, kq1, Pq, dq, eo'⟩
          refine wq_r ?_ out eo'
          obtain ⟨l0, el⟩ := RW_j R (j := 0) (by decide)
          refine k148_74 (RW_c R 0 el) (r_sum R (FA_refl [] k h') 0 (by decide) Pp Pq (far_kp kp1 (by omega)) (far_kp kq1 (by omega)) hz (fD dp (by omega)) (fD dq (by omega)) (fun h3 R3 E3 => fin h3 _ R3 E3 ?_))
          rw [← eS]
          exact List.getElem?_set_self (by rw [R.2.2.1]; decide)
      exact inner w 0 t x y lst h' (by omega) ht H R ex ey
  exact loop r 0 0 _ _ _ _ h2 (by omega) (by omega) H2' R2 (by omega) (by omega)
theorem u_ownOf (A : AL h k) (hk : k + 1 < 16) (mo' : MO h) (lo : 1376 ≤ h.1) (rm : RM h 40) {a r : Nat} {M : Nat → Nat → zp_R} (K1 : KT h a (th_ma r r M)) (k1 : kt h a) : wm sw_P (D + 4) 142 [.index 354, .index a] h (MN h k r r (fun i j => if i = j then zp_add (zp_X 1) (zp_mul (zp_C (nF 32002)) (M i j)) else zp_add (zp_C 0) (zp_mul (zp_C (nF 32002)) (M i j)))) := by
  refine wm_in (cd := sw_c142) (nL := 7) (hd := sw_h142) rfl rfl ?_
  obtain ⟨S, eS⟩ : ∃ S : Nat → Nat → zp_R, (fun i j => if i = j then zp_add (zp_X 1) (zp_mul (zp_C (nF 32002)) (M i j)) else zp_add (zp_C 0) (zp_mul (zp_C (nF 32002)) (M i j))) = S := ⟨_, rfl⟩
  rw [eS]
  obtain ⟨r14, _⟩ := KT_rw K1
  refine k142_0 mo' A.1 (wm_mono (wq_r ?_) (u_mark A))
  refine k142_7 mo' A.1 (r_lend (RW_0 A (by omega)) (FA_refl [] k h) (by omega) (fun h10 R10' E10 => ?_))
  have R10 : RW h10 k 1 [zp_C 0] := R10'
  have F10 := CF_R E10
  have e11 : h10.1 = h.1 := E10.1
  obtain ⟨_, gc⟩ := KT_ce (KT_keep K1 k1 F10 FX_R lo)
  refine k142_15 (z7 := (r : Int)) (z9 := (r : Int)) gc (MO_R mo' F10 lo) (wm_mono (fun out => ?_) (u_empty (by omega) (RM_CF rm F10 (fun j p => by unfold PR at p; omega) lo (by omega)) r14 r14 S))
  intro ⟨h2, H2, N2, eo⟩
  rw [eo]
  have H2' := MF_base H2 F10 e11
  rw [e11] at H2'
  have R2 := RW_G R10 (fun j _ _ => N2.2 j id (.inl (by omega)) : ∀ j, 5 ≤ j → j < 39 → s_get h2 j = s_get h10 j)
  rw [e11]
  refine k142_28 ?_
  have b16 : r * r ≤ 4 * 4 := Nat.mul_le_mul r14.2 r14.2
  have loop : ∀ (m i t x y : Nat) (t6 : Term) (lst : List zp_R) (h' : s_H), i + m = r → t = i * r + 0 → MF h h' h.1 r r S i 0 (2 + 2 * t) → RW h' k 1 lst → x = 2 + 2 * t → y ≤ 24 + 194 * t → wr sw_P (D + 3) sw_c142 sw_h142 (33, [.index 354, .index a, vi (k : Int), .index (7 + 2 * (k + 0)), .index h.1, vi (i : Int), t6], [], h', x, y) (MN h k r r S) := by
    intro m
    induction m with
    | zero =>
      intro i t x y t6 lst h' hi2 ht H R ex ey
      have ei : i = r := by omega
      obtain ⟨F, _⟩ := MF_lo H
      have t1 : t = r * r := by rw [ht, ei]; omega
      have tl : t ≤ 16 := by omega
      obtain ⟨_, gco⟩ := KT_ce (KT_keep K1 k1 F FX_R lo)
      refine k142_33 (z5 := (r : Int)) gco (fun _ => ?_) (fun q => absurd (by omega) q) (c7 := by unfold In3; omega) (c8 := by unfold In3; omega)
      refine k142_115 (MO_R mo' F lo) R.1.1 (r_release R (FA_refl [] k h') (fun h'' A'' o'' E'' => k142_123 ⟨h'', _, _, ?_, A'', by omega, by omega, rfl⟩))
      have H'' := MF_F H (CF_R E'') (by omega) (g' := 0) (by have := E''.1; omega)
      rw [ei, t1] at H''
      exact H''
    | succ m ih =>
      intro i t x y t6 lst h' hi2 ht H R ex ey
      obtain ⟨F, eh⟩ := MF_lo H
      obtain ⟨_, gco⟩ := KT_ce (KT_keep K1 k1 F FX_R lo)
      refine k142_33 (z5 := (r : Int)) gco (fun q => absurd q (by omega)) (fun _ => k142_42 ?_) (c7 := by unfold In3; omega) (c8 := by unfold In3; omega)
      have inner : ∀ (m' j t x y : Nat) (lst : List zp_R) (h' : s_H), j + m' = r → t = i * r + j → MF h h' h.1 r r S i j (2 + 2 * t) → RW h' k 1 lst → x = 2 + 2 * t → y ≤ 24 + 194 * t → wr sw_P (D + 3) sw_c142 sw_h142 (45, [.index 354, .index a, vi (k : Int), .index (7 + 2 * (k + 0)), .index h.1, vi (i : Int), vi (j : Int)], [], h', x, y) (MN h k r r S) := by
        intro m'
        induction m' with
        | zero =>
          intro j t x y lst h' hj ht H R ex ey
          have ej : j = r := by omega
          obtain ⟨F, eh⟩ := MF_lo H
          obtain ⟨_, gci⟩ := KT_ce (KT_keep K1 k1 F FX_R lo)
          refine k142_45 (z5 := (r : Int)) gci (fun _ => k142_109 ?_) (fun q => absurd (by omega) q) (c7 := by unfold In3; omega) (c8 := by unfold In3; omega)
          rw [show (i : Int) + 1 = ((i + 1 : Nat) : Int) by omega]
          rw [ej] at H ht
          exact ih (i + 1) t x y _ lst h' (by omega) (row_t ht) (MF_row H) R ex ey
        | succ m' ih2 =>
          intro j t x y lst h' hj ht H R ex ey
          have tl := t16 ht (show i < r by omega) (by omega) r14.2 r14.2
          obtain ⟨F, eh⟩ := MF_lo H
          obtain ⟨_, gci⟩ := KT_ce (KT_keep K1 k1 F FX_R lo)
          refine k142_45 (z5 := (r : Int)) gci (fun q => absurd q (by omega)) (fun _ => ?_) (c7 := by unfold In3; omega) (c8 := by unfold In3; omega)
          have fin : ∀ (h3 : s_H) (lst3 : List zp_R), RW h3 k 1 lst3 → FA [] k h' h3 → lst3[0]? = some (S i j) → wr sw_P (D + 3) sw_c142 sw_h142 (90, [.index 354, .index a, vi (k : Int), .index (7 + 2 * (k + 0)), .index h.1, vi (i : Int), vi (j : Int)], [], h3, x, y) (MN h k r r S) := fun h3 lst3 R3 E3 e3 => by
            have H3 := MF_F H (CF_R E3) (by omega) (g' := 0) (by have := E3.1; omega)
            have e31 : h3.1 = h'.1 := E3.1
            refine k142_90 (RW_c R3 0 e3) (r_kept R3 (by omega) (RM_CF rm (CF_trans F (CF_R E3)) (fun j p => by unfold PR at p; omega) lo (by omega)) 0 e3 (fun h4 L hL P4 e4 F4 R4 => ?_))
            have H4 := MF_F H3 (CF_NA F4) (by omega) (g' := 2) (by omega)
            obtain ⟨_, _, _, _, _, _, gc4, _⟩ := id H4
            refine k142_100 gc4 (wm_mono (fun out => ?_) (u_setEntry (by omega) H4 (show i < r by omega) (show j < r by omega) r14.2 r14.2 (by omega) (by omega) P4))
            intro ⟨h5, H5, lo5, e5, _, eo⟩
            rw [eo]
            refine k142_103 ?_
            rw [show (j : Int) + 1 = ((j + 1 : Nat) : Int) by omega]
            refine ih2 (j + 1) (t + 1) _ _ _ h5 (by omega) (by omega) ?_ (RW_G R4 (fun x _ _ => lo5 x (by omega))) (by omega) (by omega)
            rw [show 2 + 2 * (t + 1) = 2 + 2 * t + 0 + 2 by omega]
            exact H5
          obtain ⟨l0, el⟩ := RW_j R (j := 0) (by decide)
          have put : ∀ (f : zp_R) (h3 : s_H) (lst3 : List zp_R), zp_deg f 11 → RW h3 k 1 lst3 → FA [] k h' h3 → lst3[0]? = some f → S i j = zp_add f (zp_mul (zp_C (nF 32002)) (M i j)) → wr sw_P (D + 3) sw_c142 sw_h142 (74, [.index 354, .index a, vi (k : Int), .index (7 + 2 * (k + 0)), .index h.1, vi (i : Int), vi (j : Int)], [], h3, x, y) (MN h k r r S) := fun f h3 lst3 df R3 E3 e3 es => by
            have F3 := CF_trans F (CF_R E3)
            obtain ⟨_, gc3⟩ := KT_ce (KT_keep K1 k1 F3 FX_R lo)
            refine k142_74 gc3 (wm_mono (fun out => ?_) (u_entryAt (KT_keep K1 k1 F3 FX_R lo) (i := i) (j := j) (by omega) (by omega)))
            intro ⟨p, lp, kp1, Pp, dp, eo'⟩
            refine wq_r ?_ out eo'
            refine k142_84 (RW_c R3 0 e3) (r_sum1 R3 E3 0 (by decide) e3 Pp (far_kp kp1 (by have := R3.2.1; omega)) (x := 32002) (by decide) (fD dp (by omega)) (fun h4 R4 E4 => fin h4 _ R4 E4 ?_))
            rw [es]
            exact List.getElem?_set_self (by rw [R3.2.2.1]; decide)
          refine k142_54 (fun q => k142_69 (RW_c R 0 el) (r_number R (FA_refl [] k h') 0 (by decide) (x := 0) (by decide) (fun h3 R3 E3 => put (zp_C 0) h3 _ (deg_le (zp_C_deg 0) (by decide)) R3 E3 ?_ ?_))) (fun q => k142_61 (RW_c R 0 el) (r_power R (FA_refl [] k h') 0 (by decide) (m := 1) (by decide) (fun h3 R3 E3 => k142_66 (put (zp_X 1) h3 _ (fun n hn => (dgp_X 1).2.1 n (by omega)) R3 E3 ?_ ?_)))) (c1 := by unfold In3; omega) (c2 := by unfold In3; omega)
          · rw [nF_0]
            exact List.getElem?_set_self (by rw [R.2.2.1]; decide)
          · rw [← eS]
            show (if i = j then _ else _) = _
            rw [if_neg (by omega)]
          · exact List.getElem?_set_self (by rw [R.2.2.1]; decide)
          · rw [← eS]
            show (if i = j then _ else _) = _
            rw [if_pos (by omega)]
      exact inner r 0 t x y lst h' (by omega) ht H R ex ey
  exact loop r 0 0 _ _ _ _ h2 (by omega) (by omega) H2' R2 (by omega) (by omega)
theorem u_productOf (A : AL h k) (hk : k + 3 < 16) (mo' : MO h) (lo : 1376 ≤ h.1) (rm : RM h 40) {a b r s w : Nat} {M N : Nat → Nat → zp_R} (K1 : KT h a (th_ma r s M)) (k1 : kt h a) (K2 : KT h b (th_ma s w N)) (k2 : kt h b) : wm sw_P (D + 4) 143 [.index 354, .index a, .index b] h (MN h k r w (fun i j => mpr M N i j s)) := by
  refine wm_in (cd := sw_c143) (nL := 10) (hd := sw_h143) rfl rfl ?_
  obtain ⟨S, eS⟩ : ∃ S : Nat → Nat → zp_R, (fun i j => mpr M N i j s) = S := ⟨_, rfl⟩
  rw [eS]
  obtain ⟨r14, m14⟩ := KT_rw K1
  obtain ⟨_, w14⟩ := KT_rw K2
  refine k143_0 mo' A.1 (wm_mono (wq_r ?_) (u_mark A))
  refine k143_7 mo' A.1 (r_lend (RW_0 A (by omega)) (FA_refl [] k h) (by omega) (fun h10 R10' E10 => ?_))
  have R10 : RW h10 k 1 [zp_C 0] := R10'
  have F10 := CF_R E10
  refine k143_15 (MO_R mo' F10 lo) R10.1.1 (r_lend R10 E10 (by omega) (fun h11 R11' E11 => ?_))
  have R11 : RW h11 k 2 [zp_C 0, zp_C 0] := R11'
  have F11 := CF_R E11
  have e11 : h11.1 = h.1 := E11.1
  obtain ⟨_, gc⟩ := KT_ce (KT_keep K1 k1 F11 FX_R lo)
  obtain ⟨_, gc2⟩ := KT_ce (KT_keep K2 k2 F11 FX_R lo)
  refine k143_24 (z8 := (r : Int)) (z14 := (w : Int)) gc gc2 (MO_R mo' F11 lo) (wm_mono (fun out => ?_) (u_empty (by omega) (RM_CF rm F11 (fun j p => by unfold PR at p; omega) lo (by omega)) r14 w14 S))
  intro ⟨h2, H2, N2, eo⟩
  rw [eo]
  have H2' := MF_base H2 F11 e11
  rw [e11] at H2'
  have R2 := RW_G R11 (fun j _ _ => N2.2 j id (.inl (by omega)) : ∀ j, 5 ≤ j → j < 39 → s_get h2 j = s_get h11 j)
  rw [e11]
  refine k143_38 ?_
  have b16 : r * w ≤ 4 * 4 := Nat.mul_le_mul r14.2 w14.2
  have loop : ∀ (m i t x y : Nat) (t8 t9 : Term) (lst : List zp_R) (h' : s_H), i + m = r → t = i * w + 0 → MF h h' h.1 r w S i 0 (2 + 2 * t) → RW h' k 2 lst → x = 2 + 2 * t → y ≤ 24 + 194 * t → wr sw_P (D + 3) sw_c143 sw_h143 (43, [.index 354, .index a, .index b, vi (k : Int), .index (7 + 2 * (k + 0)), .index (7 + 2 * (k + 1)), .index h.1, vi (i : Int), t8, t9], [], h', x, y) (MN h k r w S) := by
    intro m
    induction m with
    | zero =>
      intro i t x y t8 t9 lst h' hi2 ht H R ex ey
      have ei : i = r := by omega
      obtain ⟨F, _⟩ := MF_lo H
      have t1 : t = r * w := by rw [ht, ei]; omega
      have tl : t ≤ 16 := by omega
      obtain ⟨_, gco⟩ := KT_ce (KT_keep K1 k1 F FX_R lo)
      refine k143_43 (z5 := (r : Int)) gco (fun _ => ?_) (fun q => absurd (by omega) q) (c7 := by unfold In3; omega) (c8 := by unfold In3; omega)
      refine k143_154 (MO_R mo' F lo) R.1.1 (r_release R (FA_refl [] k h') (fun h'' A'' o'' E'' => k143_162 ⟨h'', _, _, ?_, A'', by omega, by omega, rfl⟩))
      have H'' := MF_F H (CF_R E'') (by omega) (g' := 0) (by have := E''.1; omega)
      rw [ei, t1] at H''
      exact H''
    | succ m ih =>
      intro i t x y t8 t9 lst h' hi2 ht H R ex ey
      obtain ⟨F, eh⟩ := MF_lo H
      obtain ⟨_, gco⟩ := KT_ce (KT_keep K1 k1 F FX_R lo)
      refine k143_43 (z5 := (r : Int)) gco (fun q => absurd q (by omega)) (fun _ => k143_52 ?_) (c7 := by unfold In3; omega) (c8 := by unfold In3; omega)
      have inner : ∀ (m' j t x y : Nat) (t9 : Term) (lst : List zp_R) (h' : s_H), j + m' = w → t = i * w + j → MF h h' h.1 r w S i j (2 + 2 * t) → RW h' k 2 lst → x = 2 + 2 * t → y ≤ 24 + 194 * t → wr sw_P (D + 3) sw_c143 sw_h143 (55, [.index 354, .index a, .index b, vi (k : Int), .index (7 + 2 * (k + 0)), .index (7 + 2 * (k + 1)), .index h.1, vi (i : Int), vi (j : Int), t9], [], h', x, y) (MN h k r w S) := by
        intro m'
        induction m' with
        | zero =>
          intro j t x y t9 lst h' hj ht H R ex ey
          have ej : j = w := by omega
          obtain ⟨F, eh⟩ := MF_lo H
          obtain ⟨_, gci⟩ := KT_ce (KT_keep K2 k2 F FX_R lo)
          refine k143_55 (z5 := (w : Int)) gci (fun _ => k143_148 ?_) (fun q => absurd (by omega) q) (c7 := by unfold In3; omega) (c8 := by unfold In3; omega)
          rw [show (i : Int) + 1 = ((i + 1 : Nat) : Int) by omega]
          rw [ej] at H ht
          exact ih (i + 1) t x y _ _ lst h' (by omega) (row_t ht) (MF_row H) R ex ey
        | succ m' ih2 =>
          intro j t x y t9 lst h' hj ht H R ex ey
          have tl := t16 ht (show i < r by omega) (by omega) r14.2 w14.2
          obtain ⟨F, eh⟩ := MF_lo H
          obtain ⟨_, gci⟩ := KT_ce (KT_keep K2 k2 F FX_R lo)
          refine k143_55 (z5 := (w : Int)) gci (fun q => absurd q (by omega)) (fun _ => ?_) (c7 := by unfold In3; omega) (c8 := by unfold In3; omega)
          have fin : ∀ (h3 : s_H) (lst3 : List zp_R) (e9 : Int), RW h3 k 2 lst3 → FA [] k h' h3 → lst3[0]? = some (S i j) → wr sw_P (D + 3) sw_c143 sw_h143 (128, [.index 354, .index a, .index b, vi (k : Int), .index (7 + 2 * (k + 0)), .index (7 + 2 * (k + 1)), .index h.1, vi (i : Int), vi (j : Int), vi e9], [], h3, x, y) (MN h k r w S) := fun h3 lst3 e9 R3 E3 e3 => by
            have H3 := MF_F H (CF_R E3) (by omega) (g' := 0) (by have := E3.1; omega)
            have e31 : h3.1 = h'.1 := E3.1
            refine k143_128 (RW_c R3 0 e3) (r_kept R3 (by omega) (RM_CF rm (CF_trans F (CF_R E3)) (fun j p => by unfold PR at p; omega) lo (by omega)) 0 e3 (fun h4 L hL P4 e4 F4 R4 => ?_))
            have H4 := MF_F H3 (CF_NA F4) (by omega) (g' := 2) (by omega)
            obtain ⟨_, _, _, _, _, _, gc4, _⟩ := id H4
            refine k143_139 gc4 (wm_mono (fun out => ?_) (u_setEntry (by omega) H4 (show i < r by omega) (show j < w by omega) r14.2 w14.2 (by omega) (by omega) P4))
            intro ⟨h5, H5, lo5, e5, _, eo⟩
            rw [eo]
            refine k143_142 ?_
            rw [show (j : Int) + 1 = ((j + 1 : Nat) : Int) by omega]
            refine ih2 (j + 1) (t + 1) _ _ _ _ h5 (by omega) (by omega) ?_ (RW_G R4 (fun x _ _ => lo5 x (by omega))) (by omega) (by omega)
            rw [show 2 + 2 * (t + 1) = 2 + 2 * t + 0 + 2 by omega]
            exact H5
          obtain ⟨l0, el⟩ := RW_j R (j := 0) (by decide)
          refine k143_64 (RW_c R 0 el) (r_number R (FA_refl [] k h') 0 (by decide) (x := 0) (by decide) (fun h3 R3 E3 => k143_70 ?_))
          rw [nF_0] at R3
          have third : ∀ (m'' e : Nat) (h3 : s_H) (lst3 : List zp_R), e + m'' = s → RW h3 k 2 lst3 → FA [] k h' h3 → lst3[0]? = some (mpr M N i j e) → wr sw_P (D + 3) sw_c143 sw_h143 (73, [.index 354, .index a, .index b, vi (k : Int), .index (7 + 2 * (k + 0)), .index (7 + 2 * (k + 1)), .index h.1, vi (i : Int), vi (j : Int), vi (e : Int)], [], h3, x, y) (MN h k r w S) := by
            intro m''
            induction m'' with
            | zero =>
              intro e h3 lst3 he R3 E3 e3
              have ee : e = s := by omega
              subst ee
              obtain ⟨_, gc3⟩ := KT_ce (KT_keep K1 k1 (CF_trans F (CF_R E3)) FX_R lo)
              refine k143_73 (z5 := (e : Int)) gc3 (fun _ => ?_) (fun q => absurd (Int.le_refl _) q) (c7 := by unfold In3; omega) (c8 := by unfold In3; omega)
              exact fin h3 lst3 _ R3 E3 (by rw [← eS]; exact e3)
            | succ m'' ih3 =>
              intro e h3 lst3 he R3 E3 e3
              have F3 := CF_trans F (CF_R E3)
              obtain ⟨_, gc3⟩ := KT_ce (KT_keep K1 k1 F3 FX_R lo)
              obtain ⟨_, gc4⟩ := KT_ce (KT_keep K2 k2 F3 FX_R lo)
              refine k143_73 (z5 := (s : Int)) gc3 (fun q => absurd q (by omega)) (fun _ => ?_) (c7 := by unfold In3; omega) (c8 := by unfold In3; omega)
              refine k143_82 (z5 := (s : Int)) gc4 (fun q => absurd q (by omega)) (fun _ => ?_) (c7 := by unfold In3; omega) (c8 := by unfold In3; omega)
              refine k143_91 gc3 (wm_mono (fun out => ?_) (u_entryAt (KT_keep K1 k1 F3 FX_R lo) (i := i) (j := e) (by omega) (by omega)))
              intro ⟨p, lp, kp1, Pp, dp, eo'⟩
              refine wq_r ?_ out eo'
              refine k143_101 gc4 (wm_mono (fun out => ?_) (u_entryAt (KT_keep K2 k2 F3 FX_R lo) (i := e) (j := j) (by omega) (by omega)))
              intro ⟨q, lq, kq1, Pq, dq, eo'⟩
              refine wq_r ?_ out eo'
              obtain ⟨l1, el1⟩ := RW_j R3 (j := 1) (by decide)
              have kn := R3.2.1
              have dpq : zp_deg (zp_mul (M i e) (N e j)) 21 := zp_deg_mul (n := 10) (m := 10) dp dq
              refine k143_109 (RW_c R3 1 el1) (r_product R3 E3 1 (by decide) Pp Pq (far_kp kp1 (by omega)) (far_kp kq1 (by omega)) (fD dpq (by omega)) (fun h4 R4 E4 => ?_))
              have g0 : (lst3.set 1 (zp_mul (M i e) (N e j)))[0]? = some (mpr M N i j e) := by rw [List.getElem?_set_ne (by decide)]; exact e3
              have g1 : (lst3.set 1 (zp_mul (M i e) (N e j)))[1]? = some (zp_mul (M i e) (N e j)) := List.getElem?_set_self (by rw [R3.2.2.1]; decide)
              refine k143_112 (RW_c R4 0 g0) (r_sum1 R4 E4 0 (by decide) g0 (RW_p R4 1 g1) (aR (by decide)) (x := 1) (by decide) (fD dpq (by omega)) (fun h5 R5 E5 => k143_122 ?_))
              rw [show (e : Int) + 1 = ((e + 1 : Nat) : Int) by omega]
              refine ih3 (e + 1) h5 _ (by omega) R5 E5 ?_
              have z : zp_add (mpr M N i j e) (zp_mul (zp_C (nF 1)) (zp_mul (M i e) (N e j))) = mpr M N i j (e + 1) := by rw [zp_C1m]; rfl
              rw [← z]
              exact List.getElem?_set_self (by rw [R4.2.2.1]; decide)
          exact third s 0 h3 _ (by omega) R3 E3 (List.getElem?_set_self (by rw [R.2.2.1]; decide))
      exact inner w 0 t x y _ lst h' (by omega) ht H R ex ey
  exact loop r 0 0 _ _ _ _ _ h2 (by omega) (by omega) H2' R2 (by omega) (by omega)
theorem cm_h : ∀ a : zp_F, a * 1 = a := by intro a; grind
theorem u_companionOf (A : AL h k) (hk : k + 1 < 16) (mo' : MO h) (lo : 1376 ≤ h.1) (rm : RM h 40) {a L n : Nat} {f : zp_R} (hp : PF h a L f) (kp1 : kp h a) (dn' : dgp f n) (n14 : 1 ≤ n ∧ n ≤ 4) : wm sw_P (D + 4) 136 [.index 354, .index a] h (MN h k n n (cmpM f n)) := by
  refine wm_in (cd := sw_c136) (nL := 8) (hd := sw_h136) rfl rfl ?_
  obtain ⟨S, eS⟩ : ∃ S : Nat → Nat → zp_R, (cmpM f n) = S := ⟨_, rfl⟩
  rw [eS]
  have hn := dn'.1
  refine k136_0 mo' A.1 (wm_mono (wq_r ?_) (u_mark A))
  refine k136_7 mo' A.1 (r_lend (RW_0 A (by omega)) (FA_refl [] k h) (by omega) (fun h10 R10' E10 => ?_))
  have R10 : RW h10 k 1 [zp_C 0] := R10'
  have F10 := CF_R E10
  have e11 : h10.1 = h.1 := E10.1
  have hp1 := PF_kp hp kp1 (CF_sub F10 (fun _ q => q)) FX_R lo
  obtain ⟨e1, _, P1, b1, _⟩ := id hp1
  have ee := dgp_one b1 dn'
  refine k136_15 (z6 := e1) P1.2.1 (MO_R mo' F10 lo) ?_
  rw [ee]
  refine wm_mono (fun out => ?_) (u_empty (by omega) (RM_CF rm F10 (fun j p => by unfold PR at p; omega) lo (by omega)) n14 n14 S)
  intro ⟨h2, H2, N2, eo⟩
  rw [eo]
  have H2' := MF_base H2 F10 e11
  rw [e11] at H2'
  have R2 := RW_G R10 (fun j _ _ => N2.2 j id (.inl (by omega)) : ∀ j, 5 ≤ j → j < 39 → s_get h2 j = s_get h10 j)
  rw [e11]
  refine k136_30 ?_
  have b16 : n * n ≤ 4 * 4 := Nat.mul_le_mul n14.2 n14.2
  have loop : ∀ (m i t x y : Nat) (t7 : Term) (lst : List zp_R) (h' : s_H), i + m = n → t = i * n + 0 → MF h h' h.1 n n S i 0 (2 + 2 * t) → RW h' k 1 lst → x = 2 + 2 * t → y ≤ 24 + 194 * t → wr sw_P (D + 3) sw_c136 sw_h136 (35, [.index 354, .index a, vi (k : Int), .index (7 + 2 * (k + 0)), vi (n : Int), .index h.1, vi (i : Int), t7], [], h', x, y) (MN h k n n S) := by
    intro m
    induction m with
    | zero =>
      intro i t x y t7 lst h' hi2 ht H R ex ey
      have ei : i = n := by omega
      obtain ⟨F, _⟩ := MF_lo H
      have t1 : t = n * n := by rw [ht, ei]; omega
      have tl : t ≤ 16 := by omega
      refine k136_35 (fun _ => ?_) (fun q => absurd (by omega) q) (c1 := by unfold In3; omega) (c2 := by unfold In3; omega)
      refine k136_122 (MO_R mo' F lo) R.1.1 (r_release R (FA_refl [] k h') (fun h'' A'' o'' E'' => k136_130 ⟨h'', _, _, ?_, A'', by omega, by omega, rfl⟩))
      have H'' := MF_F H (CF_R E'') (by omega) (g' := 0) (by have := E''.1; omega)
      rw [ei, t1] at H''
      exact H''
    | succ m ih =>
      intro i t x y t7 lst h' hi2 ht H R ex ey
      obtain ⟨F, eh⟩ := MF_lo H
      refine k136_35 (fun q => absurd q (by omega)) (fun _ => k136_42 ?_) (c1 := by unfold In3; omega) (c2 := by unfold In3; omega)
      have inner : ∀ (m' j t x y : Nat) (lst : List zp_R) (h' : s_H), j + m' = n → t = i * n + j → MF h h' h.1 n n S i j (2 + 2 * t) → RW h' k 1 lst → x = 2 + 2 * t → y ≤ 24 + 194 * t → wr sw_P (D + 3) sw_c136 sw_h136 (45, [.index 354, .index a, vi (k : Int), .index (7 + 2 * (k + 0)), vi (n : Int), .index h.1, vi (i : Int), vi (j : Int)], [], h', x, y) (MN h k n n S) := by
        intro m'
        induction m' with
        | zero =>
          intro j t x y lst h' hj ht H R ex ey
          have ej : j = n := by omega
          obtain ⟨F, eh⟩ := MF_lo H
          refine k136_45 (fun _ => k136_116 ?_) (fun q => absurd (by omega) q) (c1 := by unfold In3; omega) (c2 := by unfold In3; omega)
          rw [show (i : Int) + 1 = ((i + 1 : Nat) : Int) by omega]
          rw [ej] at H ht
          exact ih (i + 1) t x y _ lst h' (by omega) (row_t ht) (MF_row H) R ex ey
        | succ m' ih2 =>
          intro j t x y lst h' hj ht H R ex ey
          have tl := t16 ht (show i < n by omega) (by omega) n14.2 n14.2
          obtain ⟨F, eh⟩ := MF_lo H
          refine k136_45 (fun q => absurd q (by omega)) (fun _ => ?_) (c1 := by unfold In3; omega) (c2 := by unfold In3; omega)
          have fin : ∀ (h3 : s_H) (lst3 : List zp_R), RW h3 k 1 lst3 → FA [] k h' h3 → lst3[0]? = some (S i j) → wr sw_P (D + 3) sw_c136 sw_h136 (97, [.index 354, .index a, vi (k : Int), .index (7 + 2 * (k + 0)), vi (n : Int), .index h.1, vi (i : Int), vi (j : Int)], [], h3, x, y) (MN h k n n S) := fun h3 lst3 R3 E3 e3 => by
            have H3 := MF_F H (CF_R E3) (by omega) (g' := 0) (by have := E3.1; omega)
            have e31 : h3.1 = h'.1 := E3.1
            refine k136_97 (RW_c R3 0 e3) (r_kept R3 (by omega) (RM_CF rm (CF_trans F (CF_R E3)) (fun j p => by unfold PR at p; omega) lo (by omega)) 0 e3 (fun h4 L hL P4 e4 F4 R4 => ?_))
            have H4 := MF_F H3 (CF_NA F4) (by omega) (g' := 2) (by omega)
            obtain ⟨_, _, _, _, _, _, gc4, _⟩ := id H4
            refine k136_107 gc4 (wm_mono (fun out => ?_) (u_setEntry (by omega) H4 (show i < n by omega) (show j < n by omega) n14.2 n14.2 (by omega) (by omega) P4))
            intro ⟨h5, H5, lo5, e5, _, eo⟩
            rw [eo]
            refine k136_110 ?_
            rw [show (j : Int) + 1 = ((j + 1 : Nat) : Int) by omega]
            refine ih2 (j + 1) (t + 1) _ _ _ h5 (by omega) (by omega) ?_ (RW_G R4 (fun x _ _ => lo5 x (by omega))) (by omega) (by omega)
            rw [show 2 + 2 * (t + 1) = 2 + 2 * t + 0 + 2 by omega]
            exact H5
          obtain ⟨l0, el⟩ := RW_j R (j := 0) (by decide)
          have mid : ∀ (v : Int) (v01 : v = 0 ∨ v = 1), (j ≠ n - 1 → S i j = zp_C (nF v)) → wr sw_P (D + 3) sw_c136 sw_h136 (67, [.index 354, .index a, vi (k : Int), .index (7 + 2 * (k + 0)), vi (n : Int), .index h.1, vi (i : Int), vi (j : Int)], [vi v, .index (7 + 2 * (k + 0))], h', x, y) (MN h k n n S) := fun v v01 hv => by
            refine k136_67 (RW_c R 0 el) (r_number R (FA_refl [] k h') 0 (by decide) (x := v) (by omega) (fun h3 R3 E3 => ?_))
            have e3 : (lst.set 0 (zp_C (nF v)))[0]? = some (zp_C (nF v)) := List.getElem?_set_self (by rw [R.2.2.1]; decide)
            have F3 := CF_trans F (CF_R E3)
            refine k136_70 (fun q => ?_) (fun q => ?_) (c1 := by unfold In3; omega) (c2 := by unfold In3; omega)
            · exact fin h3 _ R3 E3 (by rw [hv (by omega)]; exact e3)
            · have hp3 := PF_kp hp kp1 F3 FX_R lo
              refine k136_79 (PF_c hp3) (r_coef hp3 (i := i) (by omega) ?_)
              have cb := cf_b f i
              refine k136_89 (RW_c R3 0 e3) ?_ (c1 := by unfold In3; omega)
              have cv : Int.tmod (32003 - cf f i) 32003 = ((-(f.1 i) : zp_F).val : Int) := by
                have := @tm_ng (f.1 i) 1
                rw [show (((1 : zp_F)).val : Int) = 1 from rfl, Int.mul_one] at this
                have e := md_lt (32003 - cf f i)
                have t1 := tmod_nn (x := 32003 - cf f i) (by omega)
                have t2 : Int.tmod (Int.tmod (32003 - cf f i) 32003) 32003 = Int.tmod (32003 - cf f i) 32003 := by
                  rw [t1, tmod_nn e.1, Int.emod_emod]
                rw [← t2]
                refine this.trans ?_
                rw [show (-(f.1 i) * 1 : zp_F) = -(f.1 i) from cm_h _]
              rw [cv]
              have lv := (-(f.1 i) : zp_F).isLt
              refine r_number R3 E3 0 (by decide) (x := ((-(f.1 i) : zp_F).val : Int)) (by omega) (fun h4 R4 E4 => fin h4 _ R4 E4 ?_)
              have es : S i j = zp_C (nF ((-(f.1 i) : zp_F).val : Int)) := by
                rw [← eS]
                show (if j = n - 1 then _ else _) = _
                rw [if_pos (by omega), nF_val]
              rw [es]
              exact List.getElem?_set_self (by rw [R3.2.2.1]; decide)
          refine k136_52 (fun q => k136_66 (mid 0 (.inl rfl) (fun w => ?_))) (fun q => k136_62 (mid 1 (.inr rfl) (fun w => ?_))) (c2 := by unfold In3; omega) (c3 := by unfold In3; omega)
          · rw [← eS]
            show (if j = n - 1 then _ else if i = j + 1 then _ else _) = _
            rw [if_neg w, if_neg (by omega), nF_0]
          · rw [← eS]
            show (if j = n - 1 then _ else if i = j + 1 then _ else _) = _
            rw [if_neg w, if_pos (by omega), nF_1]
      exact inner n 0 t x y lst h' (by omega) ht H R ex ey
  exact loop n 0 0 _ _ _ _ h2 (by omega) (by omega) H2' R2 (by omega) (by omega)
end
