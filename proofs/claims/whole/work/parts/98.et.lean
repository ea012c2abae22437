/-! the reference's findFixed: a base of what stays -/
theorem kerq_fin (B : Nat → Nat → zp_F) (R : Nat → Int) (n c : Nat) : zp_fin (fun i => if i = c then 1 else if i < n ∧ R i ≠ -1 then -(B (pc R i) c) else 0) := ⟨c + n + 1, fun i hi2 => by
  show (if i = c then (1 : zp_F) else if i < n ∧ R i ≠ -1 then -(B (pc R i) c) else 0) = 0
  rw [if_neg (by omega), if_neg (fun w => by omega)]⟩
/-- what column c of a cleared table tells of n columns -/
def kerq (B : Nat → Nat → zp_F) (R : Nat → Int) (n c : Nat) : zp_R := ⟨fun i => if i = c then 1 else if i < n ∧ R i ≠ -1 then -(B (pc R i) c) else 0, kerq_fin B R n c⟩
theorem kerq_dg (B : Nat → Nat → zp_F) (R : Nat → Int) {n c : Nat} (hc : c < n) : zp_deg (kerq B R n c) n := fun i hi2 => by
  show (if i = c then (1 : zp_F) else if i < n ∧ R i ≠ -1 then -(B (pc R i) c) else 0) = 0
  rw [if_neg (by omega), if_neg (fun w => by omega)]
/-- the columns without a row, below c -/
def fcn (R : Nat → Int) : Nat → Nat
  | 0 => 0
  | c + 1 => if R c = -1 then fcn R c + 1 else fcn R c
theorem fcn_y {R : Nat → Int} {c : Nat} (h : R c = -1) : fcn R (c + 1) = fcn R c + 1 := if_pos h
theorem fcn_n {R : Nat → Int} {c : Nat} (h : R c ≠ -1) : fcn R (c + 1) = fcn R c := if_neg h
theorem fcn_b (R : Nat → Int) : ∀ c, fcn R c ≤ c
  | 0 => Nat.le_refl 0
  | c + 1 => by
    have := fcn_b R c
    by_cases q : R c = -1
    · rw [fcn_y q]; omega
    · rw [fcn_n q]; omega
theorem fcn_lt {R : Nat → Int} {c : Nat} (h : R c = -1) : ∀ c', c < c' → fcn R c < fcn R c'
  | 0, w => absurd w (by omega)
  | c' + 1, w => by
    by_cases q : c = c'
    · rw [← q, fcn_y h]; omega
    · have := fcn_lt h c' (by omega)
      by_cases q2 : R c' = -1
      · rw [fcn_y q2]; omega
      · rw [fcn_n q2]; omega
theorem up_upj (s : Nat → Int) (j : Nat) (a b : Int) : up (up s j a) j b = up s j b := by
  funext x
  by_cases hx : x = j
  · rw [hx, up_at, up_at]
  · rw [up_ne _ _ hx, up_ne _ _ hx, up_ne _ _ hx]
/-- the polynomial at place k of the rows of 41 each -/
def ft (A : Nat → Nat → Int) (k : Nat) : Nat → Int := fun i => if i ≤ 40 then A 1320 (41 * k + i) else 0
/-- the three numbers that findFixed leaves -/
def fxq (s s' : Nat → Int) : Prop := ∀ j, j ≠ 32 → j ≠ 35 → j ≠ 37 → s' j = s j
theorem fxq_sq {s s' : Nat → Int} (h : fxq s s') : sq s s' := fun j hj => h j (fun w => by rw [w] at hj; exact absurd hj (by decide)) (fun w => by rw [w] at hj; exact absurd hj (by decide)) (fun w => by rw [w] at hj; exact absurd hj (by decide))
theorem fxq_35 {s s' : Nat → Int} (h : fxq s s') (z : Int) : fxq s (up s' 35 z) := fun j h1 h2 h3 => (up_ne _ _ h2).trans (h j h1 h2 h3)
section
variable {d : Nat} {h : s_H} {s : Nat → Int} {A : Nat → Nat → Int}
def fxB : List Nat := [1317, 1318, 1320]
theorem W_base {Q : s_O → Prop} {h' : s_H} (hv : RV h' s A) (rr0 : FR h h') {p n : Nat} (n41 : n ≤ 41) {M : Nat → Nat → zp_F} (hM : A 1317 = fl M) {x3 : Int} {t4 : Term} (K : ∀ (D : Nat → Nat → Int) (B : Nat → Nat → zp_F) (R : Nat → Int) (s2 : Nat → Int) (h2 : s_H) (t4 : Term), RV h2 s2 D → FR h h2 → sm A D fxB → fxq s s2 → s2 35 = (fcn R n : Int) → rr M B n n R → (∀ c, c < n → R c = -1 → ft D (fcn R c) = cf (kerq B R n c)) → wr sw_P (d + 4) sw_c451 sw_h451 (340, [.index 1290, .index p, vi (n : Int), vi (n : Int), t4], [], h2, 0, 0) Q) : wr sw_P (d + 4) sw_c451 sw_h451 (210, [.index 1290, .index p, vi (n : Int), vi x3, t4], [], h', 0, 0) Q := by
  refine k451_210 hv.1 (wm_mono (wq_N (fun h1 s1 A1 v1 r1 φ => ?_)) (V_clearTable hv hM (H := n) (w := n) (by omega) (by omega)))
  obtain ⟨B, e1, m1, g1, a1⟩ := φ
  obtain ⟨R, eR⟩ : ∃ R, A1 1318 = R := ⟨_, rfl⟩
  rw [eR] at a1
  have q1 : fxq s s1 := fun j h1 h2 h3 => by rw [e1, up_ne _ _ h3, up_ne _ _ h1]
  have v2 := RV_fld v1 (up s1 35 0) (rF_35 s1 0)
  refine k451_216 v1.1 ?_
  have loop : ∀ (l c : Nat) (C : Nat → Nat → Int) (h' : s_H) (t4 : Term), c + l = n → RV h' (up s1 35 (fcn R c : Int)) C → FR h h' → (∀ x, x ≠ 1320 → C x = A1 x) → (∀ c', c' < c → R c' = -1 → ft C (fcn R c') = cf (kerq B R n c')) → wr sw_P (d + 4) sw_c451 sw_h451 (223, [.index 1290, .index p, vi (n : Int), vi (c : Int), t4], [], h', 0, 0) Q := by
    intro l
    induction l with
    | zero =>
      intro c C h' t4 hc v r o g
      have ec : c = n := by omega
      subst ec
      refine k451_223 (fun _ => K C B R _ h' t4 v r (sm_tr (sm_sub m1 rfl) (fun j hj => o j (fun w => by rw [w] at hj; exact absurd hj (by decide)))) (fxq_35 q1 _) (up_at _ _ _) a1 g) (fun w => absurd (by omega) w) (c1 := by unfold In3; omega) (c2 := by unfold In3; omega)
    | succ l ih =>
      intro c C h' t4 hc v r o g
      have row := rr_row a1 (j := c) (by omega)
      have e2 : gi (mk 48 (C 1318)) (c : Int) = R c := by rw [gi_mkn (by omega), o 1318 (by decide), eR]
      have fb := fcn_b R c
      refine k451_223 (fun w => absurd w (by omega)) (fun _ => ?_) (c1 := by unfold In3; omega) (c2 := by unfold In3; omega)
      refine k451_228 v.1 (Ra_row v) (fun w => k451_241 ?_) (fun w => k451_238 (k451_334 ?_)) (c10 := by rw [mk_len]; omega) (c11 := by omega) (c12 := by unfold In3; omega) (c13 := by rw [e2]; unfold In3; omega)
      rotate_left
      · rw [e2] at w
        have ih2 := ih (c + 1) C h' t4 (by omega) (by rw [fcn_n w]; exact v) r o (fun c' h1 h2 => by
          by_cases q : c' = c
          · rw [q] at h2; exact absurd h2 w
          · exact g c' (by omega) h2)
        exact ih2
      rw [e2] at w
      have dq := kerq_dg B R (show c < n by omega)
      have inner : ∀ (l2 i : Nat) (D : Nat → Nat → Int) (h2 : s_H), i + l2 = 41 → RV h2 (up s1 35 (fcn R c : Int)) D → FR h h2 → (∀ x, x ≠ 1320 → D x = C x) → (∀ t, D 1320 t = if 41 * fcn R c ≤ t ∧ t < 41 * fcn R c + i then cf (kerq B R n c) (t - 41 * fcn R c) else C 1320 t) → wr sw_P (d + 4) sw_c451 sw_h451 (244, [.index 1290, .index p, vi (n : Int), vi (c : Int), vi (i : Int)], [], h2, 0, 0) Q := by
        intro l2
        induction l2 with
        | zero =>
          intro i D h2 hi2 v2 r2 o2 g2
          have e41 : i = 41 := by omega
          subst e41
          have v3 := RV_fld v2 (up (up s1 35 (fcn R c : Int)) 35 ((fcn R c : Int) + 1)) (rF_35 _ ((fcn R c : Int) + 1))
          refine k451_244 (fun _ => ?_) (fun w => absurd (by decide) w) (c1 := by decide)
          refine k451_324 (z5 := (fcn R c : Int)) v2.1 (k451_334 ?_) (n6 := by
            show some (vi (up s1 35 (fcn R c : Int) 35)) = _
            rw [up_at])
          rw [up_upj] at v3
          have ce : ((fcn R c : Int) + 1) = (fcn R (c + 1) : Int) := by rw [fcn_y w]; omega
          rw [ce] at v3
          have ih2 := fun hh e => ih (c + 1) D hh (vi ((41 : Nat) : Int)) (by omega) (e : RV hh _ D)
          have o3 : ∀ x, x ≠ 1320 → D x = A1 x := fun x hx => (o2 x hx).trans (o x hx)
          have r3 : FR h (hp h2 1290 (1, 11, (rF (up s1 35 (fcn R c : Int))).set 35 (vi ((fcn R c : Int) + 1)))) := FR_trans r2 (FR_fld v2 _)
          rw [ce] at r3
          rw [ce]
          refine ih2 _ v3 r3 o3 (fun c' h1 h3 => ?_)
          by_cases q : c' = c
          · subst q
            funext x
            unfold ft
            by_cases q2 : x ≤ 40
            · rw [if_pos q2, g2, if_pos (by omega), show 41 * fcn R c' + x - 41 * fcn R c' = x by omega]
            · rw [if_neg q2]
              unfold cf
              rw [dq x (by omega)]; rfl
          · have lt := fcn_lt h3 c (by omega)
            rw [← g c' (by omega) h3]
            funext x
            unfold ft
            by_cases q2 : x ≤ 40
            · rw [if_pos q2, if_pos q2, g2, if_neg (by omega)]
            · rw [if_neg q2, if_neg q2]
        | succ l2 ih2 =>
          intro i D h2 hi2 v2 r2 o2 g2
          have put : ∀ z : Int, z = cf (kerq B R n c) i → wr sw_P (d + 4) sw_c451 sw_h451 (317, [.index 1290, .index p, vi (n : Int), vi (c : Int), vi (i : Int)], [vl z, vi (41 * (fcn R c : Int) + (i : Int)), .index 1320], h2, 0, 0) Q := fun z ez => by
            refine k451_317 (Ra_fixedAt v2) ?_ (c4 := by rw [mk_len]; omega) (c5 := by omega) (c6 := by unfold In3; omega)
            rw [mk_set, show (41 * (fcn R c : Int) + (i : Int)).toNat = 41 * fcn R c + i by omega]
            refine ih2 (i + 1) _ _ (by omega) (Rp_fixedAt v2 _) (FR_trans r2 (FR_put v2 (c := 1320) (by decide) (by decide) _)) (fun x hx => by rw [up_ne _ _ hx]; exact o2 x hx) (fun t => ?_)
            rw [up_at]
            show (if t = 41 * fcn R c + i then _ else _) = _
            by_cases q : t = 41 * fcn R c + i
            · rw [if_pos q, if_pos (by omega), show t - 41 * fcn R c = i by omega, ez]
            · rw [if_neg q, g2]
              by_cases q2 : 41 * fcn R c ≤ t ∧ t < 41 * fcn R c + i
              · rw [if_pos q2, if_pos (by omega)]
              · rw [if_neg q2, if_neg (by omega)]
          have kz : ∀ z : zp_F, (if i = c then (1 : zp_F) else if i < n ∧ R i ≠ -1 then -(B (pc R i) c) else 0) = z → (z.val : Int) = cf (kerq B R n c) i := fun z e => by
            rw [← e]; rfl
          refine k451_244 (fun w => absurd w (by omega)) (fun _ => ?_) (c1 := by unfold In3; omega)
          refine k451_251 (z7 := (fcn R c : Int)) v2.1 (fun w2 => ?_) (fun w2 => ?_) (n8 := by
            show some (vi (up s1 35 (fcn R c : Int) 35)) = _
            rw [up_at]) (c9 := by unfold In3; omega) (c10 := by unfold In3; omega)
          rotate_left
          · exact k451_271 (put 1 (kz 1 (if_pos (by omega))))
          refine k451_275 (fun w3 => k451_292 (put 0 (kz 0 (by rw [if_neg (by omega), if_neg (fun w4 => by omega)])))) (fun w3 => ?_) (c1 := by unfold In3; omega) (c2 := by unfold In3; omega)
          have row2 := rr_row a1 (j := i) (by omega)
          have e3 : gi (mk 48 (D 1318)) (i : Int) = R i := by rw [gi_mkn (by omega), o2 1318 (by decide), o 1318 (by decide), eR]
          refine k451_281 v2.1 (Ra_row v2) (fun w4 => ?_) (fun w4 => k451_292 (put 0 (kz 0 (by rw [if_neg (by omega), if_neg (fun w5 => w4 (by rw [e3]; exact w5.2))])))) (c10 := by rw [mk_len]; omega) (c11 := by omega) (c12 := by unfold In3; omega) (c13 := by rw [e3]; unfold In3; omega)
          rw [e3] at w4
          obtain ⟨y1, y2⟩ := row2.2.2 w4
          have e4 := gi_fl (((o2 1317 (by decide)).trans (o 1317 (by decide))).trans g1) (n := pc R i) (i := c) (by omega) (by omega) (x := 48 * (R i) + c) (by omega)
          have bz := (B (pc R i) c).isLt
          refine k451_296 v2.1 (Ra_row v2) (Ra_table v2) (wm_mono (wq_r ?_) (t_modulo (by rw [e3, e4]; exact in6_of (by omega) (by omega)))) (c12 := by rw [mk_len]; omega) (c13 := by omega) (c14 := by unfold In3; omega) (c18 := by rw [e3, mk_len]; omega) (c19 := by rw [e3]; omega) (c20 := by rw [e3]; unfold In3; omega)
          rw [e3, e4, md_neg]
          exact put _ (kz _ (by rw [if_neg (by omega), if_pos ⟨by omega, w4⟩]))
      exact inner 41 0 C h' rfl v r (fun _ _ => rfl) (fun t => by rw [if_neg (by omega)])
  exact loop n 0 A1 _ _ (Nat.zero_add n) v2 (FR_trans rr0 (FR_trans r1 (FR_fld v1 _))) (fun _ _ => rfl) (fun c' h1 => absurd h1 (by omega))
end
