/-! the reference's part: the table's columns -/
section
variable {d : Nat} {h : s_H} {s : Nat → Int} {A : Nat → Nat → Int}
def ptL : List Nat := [1305, 1310, 1312, 1317]
/-- one column -/
theorem W_col {Q : s_O → Prop} {H K c : Nat} {S : Nat → zp_R} {u : zp_R} (hc : c ≤ H) (H41 : H ≤ 41) (K48 : K < 48) (eS : S K = zp_mul (zp_X c) u) {x1 x2 x3 x6 x7 x8 : Int} {B : Nat → Nat → Int} (gu : B 1310 = cf u) (N : ∀ (D : Nat → Nat → Int) (h2 : s_H) (x10 : Int), RV h2 s D → FR h h2 → (∀ x, x ≠ 1317 → D x = B x) → D 1317 = fl (tc S H (K + 1) 0) → wr sw_P d sw_c545 sw_h545 (228, [.index 1290, vi x1, vi x2, vi x3, vi (H : Int), vi (K : Int), vi x6, vi x7, vi x8, vi (c : Int), vi x10], [], h2, 0, 0) Q) : ∀ (l e : Nat) (D : Nat → Nat → Int) (h2 : s_H), e + c + l = H → RV h2 s D → FR h h2 → (∀ x, x ≠ 1317 → D x = B x) → D 1317 = fl (tc S H K (e + c)) → wr sw_P d sw_c545 sw_h545 (189, [.index 1290, vi x1, vi x2, vi x3, vi (H : Int), vi (K : Int), vi x6, vi x7, vi x8, vi (c : Int), vi (e : Int)], [], h2, 0, 0) Q := by
  intro l
  induction l with
  | zero =>
    intro e D h2 he v r o g
    have eH : e + c = H := by omega
    refine k545_189 (fun _ => N D h2 _ v r o (by rw [g, eH, tc_s])) (fun w => absurd (by omega) w) (c1 := by unfold In3; omega) (c2 := by unfold In3; omega)
  | succ l ih =>
    intro e D h2 he v r o g
    have g1 : gi (mk 176 (D 1310)) (e : Int) = ((u.1 e).val : Int) := by rw [o 1310 (by decide), gu]; exact gi_mkn (by omega)
    refine k545_189 (fun w => absurd w (by omega)) (fun _ => ?_) (c1 := by unfold In3; omega) (c2 := by unfold In3; omega)
    refine k545_199 v.1 (Ra_u v) (Ra_table v) ?_ (c12 := by rw [mk_len]; omega) (c13 := by omega) (c14 := by unfold In3; omega) (c18 := by rw [mk_len]; omega) (c19 := by omega) (c20 := by unfold In3; omega)
    have eu : (S K).1 (e + c) = u.1 e := by
      rw [eS, Xc_at, if_neg (by omega), show e + c - c = e by omega]
    have e5 := fl_put (tc S H K (e + c)) (n := e + c) (i := K) K48 ((S K).1 (e + c)) (t0 := (48 * ((e : Int) + c) + K).toNat) (by omega) (x := gi (mk 176 (D 1310)) (e : Int)) (by rw [g1, eu])
    rw [mk_set, g, e5, tc_put (S := S) (show e + c < H by omega)]
    have := ih (e + 1) _ _ (by omega) (RV_t v (g := fl (tc S H K (e + c + 1))) rfl) (FR_trans r (FR_t v _)) (fun x hx => by rw [up_ne _ _ hx, o x hx]) (by rw [up_at, show e + 1 + c = e + c + 1 by omega])
    exact this
theorem W_cols {Q : s_O → Prop} {b : zp_R} {H n : Nat} {F : Nat → zp_R} {G O : Nat → Nat} {U : Nat → Nat → zp_R} (hb : mon b H) (H1 : 1 ≤ H) (H40 : H ≤ 40) (n40 : n ≤ 40) (fa : facs b n F G O) (hU : pfs b n F O U) (fr : ∀ i, i < n → pt A 1315 i = cf (F i) ∧ A 1314 i = (G i : Int) ∧ A 1316 i = (O i : Int) ∧ O i ≤ 176) (hbA : A 1299 = cf b) (h26 : s 26 = (n : Int)) {x1 : Int} {k j : Nat} {jk : Nat} (hk : k < n) (hj : j < O k) (ejk : jk = cbs G O k + j * G k) (N : ∀ (D : Nat → Nat → Int) (h2 : s_H) (x7 : Int) (t8 t9 t10 : Term), RV h2 s D → FR h h2 → sm A D ptL → D 1317 = fl (tc (scol G O U n) H H 0) → wr sw_P (d + 4) sw_c545 sw_h545 (249, [.index 1290, vi x1, vi (k : Int), vi ((j : Int) + 1), vi (H : Int), vi (H : Int), vi (jk : Int), vi x7, t8, t9, t10], [], h2, 0, 0) Q) : ∀ (l i : Nat) (D : Nat → Nat → Int) (h2 : s_H) (x6 : Int) (t8 t9 t10 : Term), i + l = n → RV h2 s D → FR h h2 → sm A D ptL → D 1317 = fl (tc (scol G O U n) H (cbs G O i) 0) → (k < i → x6 = (jk : Int)) → wr sw_P (d + 4) sw_c545 sw_h545 (98, [.index 1290, vi x1, vi (k : Int), vi ((j : Int) + 1), vi (H : Int), vi (cbs G O i : Int), vi x6, vi (i : Int), t8, t9, t10], [], h2, 0, 0) Q := by
  have eH := facs_deg hb fa
  have jO := (fr k hk).2.2.2
  have db6 : zp_deg b 176 := deg_le hb.2 (by omega)
  have mF : ∀ i, i < n → mo (F i) := fun i hi2 => irr_mo (fa.1 i hi2).1
  intro l
  induction l with
  | zero =>
    intro i D h2 x6 t8 t9 t10 hi2 v r a g e6
    have ei : i = n := by omega
    subst ei
    rw [eH] at g ⊢
    rw [e6 hk]
    exact k545_98 (z5 := (i : Int)) v.1 (fun _ => N D h2 _ _ _ _ v r a g) (fun w => absurd (by omega) w) (n6 := by
      show some (vi (s 26)) = _
      rw [h26]) (c7 := by unfold In3; omega) (c8 := by unfold In3; omega)
  | succ l ih =>
    intro i D h2 x6 t8 t9 t10 hi2 v r a g e6
    obtain ⟨hF, Fb, mFi, of⟩ := fa.1 i (by omega)
    obtain ⟨f1, f2, f3, f4⟩ := fr i (by omega)
    have dF42 := pt_deg f1
    have dF6 := deg_le dF42 (show 42 ≤ 176 by decide)
    have ci : cbs G O (i + 1) = cbs G O i + O i * G i := rfl
    have cle := cbs_le G O (show i + 1 ≤ n by omega)
    have g14 : ∀ E : Nat → Nat → Int, sm A E ptL → gi (mk 41 (E 1314)) (i : Int) = (G i : Int) := fun E m => by rw [gi_mkn (by omega), m 1314 rfl, f2]
    have g16 : ∀ E : Nat → Nat → Int, sm A E ptL → gi (mk 41 (E 1316)) (i : Int) = (O i : Int) := fun E m => by rw [gi_mkn (by omega), m 1316 rfl, f3]
    have G41 : G i ≤ 41 := by
      have := mon_le mFi hb Fb
      omega
    refine k545_98 (z5 := (n : Int)) v.1 (fun w => absurd w (by omega)) (fun _ => ?_) (n6 := by
      show some (vi (s 26)) = _
      rw [h26]) (c7 := by unfold In3; omega) (c8 := by unfold In3; omega)
    refine k545_107 v.1 (wm_mono (wq_Q (fun h3 v3 r3 => ?_)) (V_loadFactor v (p := 1312) rfl (k := i) (by omega)))
    have ptD : pt D 1315 i = cf (F i) := by
      rw [← f1]
      unfold pt
      rw [a 1315 rfl]
    rw [ptD] at v3
    refine k545_117 v3.1 (wm_mono (wq_Q (fun h4 v4 r4 => ?_)) (V_copy v3 (c := 1310) (e := 1299) rfl rfl (by decide)))
    have e99 : up D 1312 (cf (F i)) 1299 = cf b := by rw [up_ne _ _ (by decide), a 1299 rfl, hbA]
    rw [e99] at v4
    refine k545_128 ?_
    have mloop : ∀ (l2 m : Nat) (E : Nat → Nat → Int) (h3 : s_H) (x6 : Int) (t9 t10 : Term), m + l2 = O i → RV h3 s E → FR h h3 → sm A E ptL → E 1312 = cf (F i) → E 1310 = cf (ub b U i m) → E 1317 = fl (tc (scol G O U n) H (cbs G O i + m * G i) 0) → (k < i ∨ (k = i ∧ j < m) → x6 = (jk : Int)) → wr sw_P (d + 4) sw_c545 sw_h545 (131, [.index 1290, vi x1, vi (k : Int), vi ((j : Int) + 1), vi (H : Int), vi ((cbs G O i + m * G i : Nat) : Int), vi x6, vi (i : Int), vi ((m : Int) + 1), t9, t10], [], h3, 0, 0) Q := by
      intro l2
      induction l2 with
      | zero =>
        intro m E h3 x6 t9 t10 hm v5 r5 a5 g12 g10 g17 e6'
        have em : m = O i := by omega
        subst em
        refine k545_131 v5.1 (Ra_factorOften v5) (fun _ => k545_243 ?_) (fun w => absurd (by rw [g16 E a5]; omega) w) (c10 := by rw [mk_len]; omega) (c11 := by omega) (c12 := by unfold In3; omega) (c13 := by unfold In3; omega) (c14 := by rw [g16 E a5]; unfold In3; omega)
        have := ih (i + 1) E h3 x6 (vi ((O i : Int) + 1)) t9 t10 (by omega) v5 r5 a5 g17 (fun w => e6' (by
          by_cases q : k = i
          · exact .inr ⟨q, by rw [← q]; exact hj⟩
          · exact .inl (by omega)))
        exact this
      | succ l2 ih2 =>
        intro m E h3 x6 t9 t10 hm v5 r5 a5 g12 g10 g17 e6'
        have us := ub_s hU mF (i := i) (m := m) (by omega) (by omega)
        have eU : ub b U i (m + 1) = U i m := by
          unfold ub
          rw [if_neg (by omega), show m + 1 - 1 = m by omega]
        rw [eU] at us
        -- degree of what is left
        have eP := hU i (by omega) m (by omega)
        have mP : ∀ e, mon (zp_npow (F i) e) (e * G i) := fun e => by
          induction e with
          | zero => rw [Nat.zero_mul]; exact mon_C1
          | succ e ih => rw [npow_s, Nat.succ_mul]; exact mon_mul ih mFi
        obtain ⟨le1, mU⟩ := mon_quo (mP (m + 1)) hb eP
        have sm1 : (m + 1) * G i = m * G i + G i := Nat.succ_mul m (G i)
        have dub : zp_deg (ub b U i m) 176 := by
          unfold ub
          by_cases q : m = 0
          · rw [if_pos q]; exact db6
          · rw [if_neg q]
            have := (mon_quo (mP (m - 1 + 1)) hb (hU i (by omega) (m - 1) (by omega))).2.2
            exact deg_le this (by omega)
        refine k545_131 v5.1 (Ra_factorOften v5) (fun w => absurd w (by rw [g16 E a5]; omega)) (fun _ => ?_) (c10 := by rw [mk_len]; omega) (c11 := by omega) (c12 := by unfold In3; omega) (c13 := by unfold In3; omega) (c14 := by rw [g16 E a5]; unfold In3; omega)
        refine k545_143 v5.1 (wm_mono (wq_N (fun h6 s6 A6 v6 r6 φ => ?_)) (V_divideBy v5 (p := 1310) (q := 1312) rfl rfl (by decide) (by decide) (by decide) (f := ub b U i m) (g := F i) g10 g12 dub dF6 (mo_pos (mF i (by omega)) dF6)))
        obtain ⟨es6, Qt, Rm, e7, dRm, _, dQ, eA6⟩ := φ
        subst es6
        have qQ : U i m = Qt := exact_div (mF i (by omega)) dF6 e7 dRm us
        subst qQ
        have g10' : A6 1310 = cf (U i m) := by rw [eA6, up_at]
        have g12' : A6 1312 = cf (F i) := by rw [eA6, up_ne _ _ (by decide), up_ne _ _ (by decide), up_ne _ _ (by decide), g12]
        have g17' : A6 1317 = fl (tc (scol G O U n) H (cbs G O i + m * G i) 0) := by rw [eA6, up_ne _ _ (by decide), up_ne _ _ (by decide), up_ne _ _ (by decide), g17]
        have a6 : sm A A6 ptL := by
          rw [eA6]
          exact sm_up (sm_up (sm_up a5 _ rfl) _ rfl) _ rfl
        have le2 : (m + 1) * G i ≤ O i * G i := Nat.mul_le_mul_right _ (by omega)
        -- the columns of this place
        have cloop : ∀ (l3 c : Nat) (E : Nat → Nat → Int) (h3 : s_H) (x6 : Int) (t10 : Term), c + l3 = G i → RV h3 s6 E → FR h h3 → sm A E ptL → E 1312 = cf (F i) → E 1310 = cf (U i m) → E 1317 = fl (tc (scol G O U n) H (cbs G O i + m * G i + c) 0) → (k < i ∨ (k = i ∧ j < m + 1) → x6 = (jk : Int)) → wr sw_P (d + 4) sw_c545 sw_h545 (174, [.index 1290, vi x1, vi (k : Int), vi ((j : Int) + 1), vi (H : Int), vi ((cbs G O i + m * G i + c : Nat) : Int), vi x6, vi (i : Int), vi ((m : Int) + 1), vi (c : Int), t10], [], h3, 0, 0) Q := by
          intro l3
          induction l3 with
          | zero =>
            intro c E h3 x6 t10 hc v7 r7 a7 h12 h10 h17 e6''
            have ec : c = G i := by omega
            subst ec
            refine k545_174 v7.1 (Ra_factorDegree v7) (fun _ => k545_237 ?_) (fun w => absurd (by rw [g14 E a7]; omega) w) (c10 := by rw [mk_len]; omega) (c11 := by omega) (c12 := by unfold In3; omega) (c13 := by unfold In3; omega) (c14 := by rw [g14 E a7]; unfold In3; omega)
            have := ih2 (m + 1) E h3 x6 (vi (G i : Int)) t10 (by omega) v7 r7 a7 h12 (by rw [eU]; exact h10) (by rw [sm1, ← Nat.add_assoc]; exact h17) (fun w => e6'' (by omega))
            rw [sm1, ← Nat.add_assoc] at this
            exact this
          | succ l3 ih3 =>
            intro c E h3 x6 t10 hc v7 r7 a7 h12 h10 h17 e6''
            have cG : c < G i := by omega
            refine k545_174 v7.1 (Ra_factorDegree v7) (fun w => absurd w (by rw [g14 E a7]; omega)) (fun _ => k545_186 ?_) (c10 := by rw [mk_len]; omega) (c11 := by omega) (c12 := by unfold In3; omega) (c13 := by unfold In3; omega) (c14 := by rw [g14 E a7]; unfold In3; omega)
            have eS := scol_at (D := G) (O := O) (U := U) (i := i) (m := m) (c := c) (by omega) cG n (by omega)
            refine W_col (s := s6) (h := h) (H := H) (K := cbs G O i + m * G i + c) (c := c) (S := scol G O U n) (u := U i m) (by omega) (by omega) (by omega) eS (B := E) h10 (fun D' h4 x10 v8 r8 o8 g8 => k545_228 ?_) (H - c) 0 E h3 (by omega) v7 r7 (fun _ _ => rfl) (by
              rw [h17]
              refine congrArg fl (Eq.trans (tc_skip (e := c) (fun r hr => ?_)) (by rw [Nat.zero_add]))
              rw [eS, Xc_at, if_pos hr])
            have := ih3 (c + 1) D' h4 x6 (vi x10) (by omega) v8 r8 (sm_tr a7 (fun y hy => o8 y (fun w => by rw [w] at hy; exact absurd hy (by decide)))) ((o8 1312 (by decide)).trans h12) ((o8 1310 (by decide)).trans h10) g8 e6''
            exact this
        -- whether this is the place that was asked for
        refine k545_155 (fun w => ?_) (fun w => ?_) (c1 := by unfold In3; omega) (c2 := by unfold In3; omega)
        · have := cloop (G i) 0 A6 h6 x6 t10 (Nat.zero_add _) v6 (FR_trans r5 r6) a6 g12' g10' g17' (fun w2 => e6' (by omega))
          exact k545_171 this
        · have ik : i = k := by omega
          refine k545_161 (fun w2 => ?_) (fun w2 => ?_) (c1 := by unfold In3; omega) (c2 := by unfold In3; omega)
          · have := cloop (G i) 0 A6 h6 x6 t10 (Nat.zero_add _) v6 (FR_trans r5 r6) a6 g12' g10' g17' (fun w3 => e6' (by omega))
            exact k545_171 this
          · have mj : m = j := by omega
            have := cloop (G i) 0 A6 h6 ((cbs G O i + m * G i : Nat) : Int) t10 (Nat.zero_add _) v6 (FR_trans r5 r6) a6 g12' g10' g17' (fun _ => by rw [ejk, ik, mj])
            exact k545_167 (k545_171 this)
    have start := mloop (O i) 0 _ h4 x6 t9 t10 (Nat.zero_add _) v4 (FR_trans r (FR_trans r3 r4)) (sm_up (sm_up a _ rfl) _ rfl) (by rw [up_ne _ _ (by decide), up_at]) (by rw [up_at]; rfl) (by rw [up_ne _ _ (by decide), up_ne _ _ (by decide), Nat.zero_mul, Nat.add_zero]; exact g) (fun w => e6 (by omega))
    rw [Nat.zero_mul, Nat.add_zero] at start
    exact start
end
