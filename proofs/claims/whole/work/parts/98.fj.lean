/-! the reference's findCore, the whole of it -/
def fcL : List Nat := [1298, 1304, 1305, 1306, 1307, 1308, 1309, 1310, 1311, 1317, 1318, 1321, 1322, 1323, 1324, 1325]
section
variable {d : Nat} {h : s_H} {s : Nat → Int} {A : Nat → Nat → Int}
/-- column 47, the clearing, the answers -/
theorem W_hread {Q : s_O → Prop} {n m : Nat} {S : Nat → zp_R} {E : zp_R} (mn : m ≤ n) (n40 : n ≤ 40) (hS : ∀ c, c < n → zp_deg (S c) n) (dE : zp_deg E n) (hE : A 1298 = cf E) (ind : ∀ y : Nat → zp_F, (∀ c, n ≤ c → y c = 0) → @zp_sum zp_R zp_ring (fun c => zp_mul (zp_C (y c)) (S c)) n = zp_C 0 → ∀ c, c < n → y c = 0) (N : ∀ (y : Nat → zp_F) (s2 : Nat → Int) (D : Nat → Nat → Int) (h2 : s_H) (x3 : Int) (t4 : Term), RV h2 s2 D → FR h h2 → clq s s2 → sm A D [1317, 1318, 1323, 1324] → @zp_sum zp_R zp_ring (fun c => zp_mul (zp_C (y c)) (S c)) n = E → D 1323 = cf (yps y 0 m) → D 1324 = cf (yps y m (n - m)) → wr sw_P (d + 4) sw_c449 sw_h449 (472, [.index 1290, vi (n : Int), vi (m : Int), vi x3, t4], [], h2, 0, 0) Q) (hT : A 1317 = fl (tc S n n 0)) {h' : s_H} (hv : RV h' s A) (rr0 : FR h h') {x3 : Int} {t4 : Term} : wr sw_P (d + 4) sw_c449 sw_h449 (352, [.index 1290, vi (n : Int), vi (m : Int), vi x3, t4], [], h', 0, 0) Q := by
  have last : ∀ (l e : Nat) (B : Nat → Nat → Int) (h' : s_H), e + l = n → RV h' s B → FR h h' → (∀ x, x ≠ 1317 → B x = A x) → B 1317 = fl (t47 (tc S n n 0) E e) → wr sw_P (d + 4) sw_c449 sw_h449 (354, [.index 1290, vi (n : Int), vi (m : Int), vi (e : Int), t4], [], h', 0, 0) Q := by
    intro l
    induction l with
    | zero =>
      intro e B h' he v r o g
      have eH : e = n := by omega
      subst eH
      refine k449_354 (fun _ => ?_) (fun w => absurd (by omega) w) (c1 := by unfold In3; omega) (c2 := by unfold In3; omega)
      refine k449_383 v.1 (wm_mono (wq_N (fun h3 s3 B3 v3 r3 φ => ?_)) (V_clearTable v g (H := e) (w := e) (by omega) (by omega)))
      obtain ⟨C, es3, m3, g3, a3⟩ := φ
      obtain ⟨own, sum⟩ := rr_sys (by omega) hS dE a3 ind
      have q3 : clq s s3 := ⟨_, _, es3⟩
      have m3' : sm A B3 [1317, 1318, 1323, 1324] := sm_tr (fun x hx => o x (fun w => by rw [w] at hx; exact absurd hx (by decide))) (sm_sub m3 rfl)
      refine k449_389 v3.1 (wm_mono (wq_Q (fun h4 v4 r4 => ?_)) (V_empty v3 (c := 1323) rfl))
      refine k449_396 v4.1 (wm_mono (wq_Q (fun h5 v5 r5 => k449_403 ?_)) (V_empty v4 (c := 1324) rfl))
      have gather : ∀ (l c : Nat) (D : Nat → Nat → Int) (h5 : s_H), c + l = e → RV h5 s3 D → FR h h5 → (∀ x, x ≠ 1323 → x ≠ 1324 → D x = B3 x) → D 1323 = cf (yps (fun i => C i 47) 0 (min c m)) → D 1324 = cf (yps (fun i => C i 47) m (c - m)) → wr sw_P (d + 4) sw_c449 sw_h449 (405, [.index 1290, vi (e : Int), vi (m : Int), vi (c : Int), t4], [], h5, 0, 0) Q := by
        intro l
        induction l with
        | zero =>
          intro c D h5 hc v5 r5 o5 g5 g6
          have ec : c = e := by omega
          subst ec
          refine k449_405 (fun _ => ?_) (fun w => absurd (by omega) w) (c1 := by unfold In3; omega) (c2 := by unfold In3; omega)
          exact N _ s3 D h5 _ _ v5 r5 q3 (sm_tr m3' (fun x hx => o5 x (fun w => by rw [w] at hx; exact absurd hx (by decide)) (fun w => by rw [w] at hx; exact absurd hx (by decide)))) sum (by rw [g5, Nat.min_eq_right mn]) g6
        | succ l ih =>
          intro c D h5 hc v5 r5 o5 g5 g6
          have gR : gi (mk 48 (D 1318)) (c : Int) = (c : Int) := by
            rw [gi_mkn (by omega), o5 1318 (by decide) (by decide)]
            exact own c (by omega)
          have gT := gi_fl ((o5 1317 (by decide) (by decide)).trans g3) (n := c) (i := 47) (by omega) (by omega) (x := 48 * (c : Int) + 47) rfl
          refine k449_405 (fun w => absurd w (by omega)) (fun _ => ?_) (c1 := by unfold In3; omega) (c2 := by unfold In3; omega)
          refine k449_410 (fun w => ?_) (fun w => ?_) (c1 := by unfold In3; omega) (c2 := by unfold In3; omega)
          · refine k449_441 v5.1 (Ra_row v5) (Ra_table v5) (RV_l v5 (c := 1324) rfl) ?_ (c14 := by rw [mk_len]; omega) (c15 := by omega) (c16 := by unfold In3; omega) (c20 := by rw [gR, mk_len]; omega) (c21 := by rw [gR]; omega) (c22 := by rw [gR]; unfold In3; omega) (c26 := by rw [mk_len]; omega) (c27 := by omega) (c28 := by unfold In3; omega)
            have es : pst (yps (fun i => C i 47) m (c - m)) (c - m) (C c 47) = yps (fun i => C i 47) m (c + 1 - m) := by
              have e1 := yps_s (fun i => C i 47) m (c - m)
              rw [show m + (c - m) = c by omega, show c - m + 1 = c + 1 - m by omega] at e1
              exact e1
            rw [gR, gT, mk_set, g6, cf_pst (yps (fun i => C i 47) m (c - m)) (n := c - m) (z := C c 47) (t0 := ((c : Int) - (m : Int)).toNat) (by omega) rfl, es]
            have := ih (c + 1) _ _ (by omega) (RV_w v5 (c := 1324) rfl (cf (yps (fun i => C i 47) m (c + 1 - m)))) (FR_trans r5 (FR_w v5 (c := 1324) rfl _)) (fun x hx hx2 => by rw [up_ne _ _ hx2, o5 x hx hx2]) (by rw [up_ne _ _ (by decide), g5, Nat.min_eq_right (by omega), Nat.min_eq_right (by omega)]) (up_at _ _ _)
            exact k449_466 this
          · refine k449_415 v5.1 (Ra_row v5) (Ra_table v5) (RV_l v5 (c := 1323) rfl) ?_ (c14 := by rw [mk_len]; omega) (c15 := by omega) (c16 := by unfold In3; omega) (c20 := by rw [gR, mk_len]; omega) (c21 := by rw [gR]; omega) (c22 := by rw [gR]; unfold In3; omega) (c26 := by rw [mk_len]; omega)
            have es : pst (yps (fun i => C i 47) 0 c) c (C c 47) = yps (fun i => C i 47) 0 (c + 1) := by
              have e1 := yps_s (fun i => C i 47) 0 c
              rw [Nat.zero_add] at e1
              exact e1
            rw [Nat.min_eq_left (show c ≤ m by omega)] at g5
            rw [gR, gT, mk_set, g5, cf_pst (yps (fun i => C i 47) 0 c) (n := c) (z := C c 47) (t0 := Int.toNat (c : Int)) rfl rfl, es]
            have := ih (c + 1) _ _ (by omega) (RV_w v5 (c := 1323) rfl (cf (yps (fun i => C i 47) 0 (c + 1)))) (FR_trans r5 (FR_w v5 (c := 1323) rfl _)) (fun x hx hx2 => by rw [up_ne _ _ hx, o5 x hx hx2]) (by rw [up_at, Nat.min_eq_left (show c + 1 ≤ m by omega)]) (by rw [up_ne _ _ (by decide), g6, show c - m = 0 by omega, show c + 1 - m = 0 by omega])
            exact k449_466 this
      exact gather e 0 _ h5 (Nat.zero_add _) v5 (FR_trans r (FR_trans r3 (FR_trans r4 r5))) (fun x hx hx2 => by rw [up_ne _ _ hx2, up_ne _ _ hx]) (by rw [up_ne _ _ (by decide), up_at, Nat.zero_min, yps_0]) (by rw [up_at, Nat.zero_sub, yps_0])
    | succ l ih =>
      intro e B h' he v r o g
      have gq : B 1298 = cf E := (o 1298 (by decide)).trans hE
      refine k449_354 (fun w => absurd w (by omega)) (fun _ => ?_) (c1 := by unfold In3; omega) (c2 := by unfold In3; omega)
      refine k449_359 v.1 (RV_l v (c := 1298) rfl) (Ra_table v) ?_ (c12 := by rw [mk_len]; omega) (c13 := by omega) (c14 := by unfold In3; omega) (c18 := by rw [mk_len]; omega) (c19 := by omega) (c20 := by unfold In3; omega)
      have e5 := fl_put (t47 (tc S n n 0) E e) (n := e) (i := 47) (by omega) (E.1 e) (t0 := (48 * (e : Int) + 47).toNat) (by omega) (x := gi (mk 176 (B 1298)) (e : Int)) (by rw [gq, gi_mkn (by omega)]; rfl)
      rw [mk_set, g, e5, t47_put]
      exact ih (e + 1) _ _ (by omega) (RV_t v rfl) (FR_trans r (FR_t v _)) (fun x hx => by rw [up_ne _ _ hx, o x hx]) (up_at _ _ _)
  exact k449_352 (last n 0 A h' (Nat.zero_add _) hv rr0 (fun _ _ => rfl) (by rw [hT, t47_0]))
theorem V_findCore (hv : RV h s A) {a b : zp_R} (ha : A 1298 = cf a) (hb : A 1299 = cf b) (da : zp_deg a 41) (db : zp_deg b 41) (mb : mo b) : wm sw_P (d + 6) 449 [.index 1290] h (RN h (fun s' A' => clq s s' ∧ sm A A' fcL ∧ ∃ K U W C r, herS a b K U W C r ∧ A' 1325 = cf K ∧ A' 1321 = cf U ∧ A' 1322 = cf W ∧ A' 1323 = cf C ∧ A' 1324 = cf r)) := by
  refine wm_in (cd := sw_c449) (nL := 5) (hd := sw_h449) rfl rfl ?_
  have da6 := deg_le da (show 41 ≤ 176 by decide)
  have db6 := deg_le db (show 41 ≤ 176 by decide)
  have h0 := mo_pos mb db6
  have lb := hi_lt db (Nat.le_refl _)
  obtain ⟨n, eH⟩ : ∃ n : Nat, hi b = n := ⟨(hi b).toNat, by omega⟩
  have mbH := mo_hi mb db6
  rw [eH] at mbH
  have mbn : mon b n := ⟨mbH.2.1, mbH.2.2⟩
  have eHn : (hi b).toNat = n := by omega
  refine k449_0 hv.1 (wm_mono (wq_N (fun h1 s1 A1 v1 r1 φ => ?_)) (V_splitTop hv ha hb da6 db6 h0))
  obtain ⟨e1, Qq, Rm, x1, x2, x3, x4, x5⟩ := φ
  subst e1
  rw [eHn] at x2
  refine k449_4 v1.1 (wm_mono (wq_Q (fun h2 v2 r2 => ?_)) (V_empty v1 (c := 1325) rfl))
  have a1 : sm A A1 fcL := by rw [x5]; exact sm_up (sm_up (sm_up sm_refl _ rfl) _ rfl) _ rfl
  have g99 : A1 1299 = cf b := (a1 1299 rfl).trans hb
  have g98 : A1 1298 = cf Rm := by rw [x5, up_ne _ _ (by decide), up_at]
  have g09 : A1 1309 = cf Qq := by rw [x5, up_at]
  refine W_intg (d := d + 3) (h := h) v2 (FR_trans r1 r2) (Qq := Qq) (by rw [up_ne _ _ (by decide)]; exact g09) (up_at _ _ _) (fun h3 y1 v3 r3 => ?_)
  have eup : up (up A1 1325 (cf (zp_C 0))) 1325 (cf (itg Qq 41)) = up A1 1325 (cf (itg Qq 41)) := by
    funext x
    by_cases q : x = 1325
    · rw [q, up_at, up_at]
    · rw [up_ne _ _ q, up_ne _ _ q, up_ne _ _ q]
  rw [eup] at v3
  have a3 : sm A (up A1 1325 (cf (itg Qq 41))) fcL := sm_up a1 _ rfl
  have k3 : ∀ x, x ≠ 1325 → up A1 1325 (cf (itg Qq 41)) x = A1 x := fun x hx => up_ne _ _ hx
  have w3 : up A1 1325 (cf (itg Qq 41)) 1325 = cf (itg Qq 41) := up_at _ _ _
  generalize up A1 1325 (cf (itg Qq 41)) = A3 at v3 a3 k3 w3
  have h99 : A3 1299 = cf b := (k3 1299 (by decide)).trans g99
  have h98 : A3 1298 = cf Rm := (k3 1298 (by decide)).trans g98
  refine k449_51 v3.1 (wm_mono (wq_Q (fun h4 v4 r4 => ?_)) (V_slope v3 (c := 1308) (e := 1299) rfl rfl (by decide) h99 db6))
  refine k449_62 v4.1 (wm_mono (wq_N (fun h5 s5 A5 v5 r5 φ => ?_)) (V_commonOf v4 (p := 1299) (q := 1308) rfl rfl (by decide) (by decide) (by decide) (f := b) (g := zp_D b) (by rw [up_ne _ _ (by decide)]; exact h99) (up_at _ _ _) db6 (D_deg db6)))
  obtain ⟨es5, ⟨U, hU, dU6, eU⟩, m5⟩ := φ
  subst es5
  obtain ⟨m, W, V, mn, mU, mW, eb, eV, dV, sW, pW⟩ := her_mk mbn (by omega) hU
  have moU : mo U := ⟨m, mU.1, mU.2⟩
  have a5 : sm A A5 fcL := sm_tr (sm_up a3 _ rfl) (sm_sub m5 rfl)
  have c5 : ∀ x, x ≠ 1308 → [1305, 1306, 1307].contains x = false → A5 x = A3 x := fun x hx hx2 => (m5 x hx2).trans (up_ne _ _ hx)
  refine k449_74 v5.1 (wm_mono (wq_Q (fun h6 v6 r6 => ?_)) (V_copy v5 (c := 1321) (e := 1306) rfl rfl (by decide)))
  rw [eU] at v6
  refine k449_85 v6.1 (wm_mono (wq_Q (fun h7 v7 r7 => ?_)) (V_copy v6 (c := 1322) (e := 1299) rfl rfl (by decide)))
  have i99 : up A5 1321 (cf U) 1299 = cf b := by rw [up_ne _ _ (by decide), c5 1299 (by decide) rfl, h99]
  rw [i99] at v7
  refine k449_96 v7.1 (wm_mono (wq_N (fun h8 s8 A8 v8 r8 φ => ?_)) (V_divideBy v7 (p := 1322) (q := 1321) rfl rfl (by decide) (by decide) (by decide) (f := b) (g := U) (up_at _ _ _) (by rw [up_ne _ _ (by decide), up_at]) db6 dU6 (mo_pos moU dU6)))
  obtain ⟨es8, Q8, R8, e8, dR8, _, dQ8, eA8⟩ := φ
  subst es8
  have qW : W = Q8 := exact_div moU dU6 e8 dR8 eb
  subst qW
  have a8 : sm A A8 fcL := by rw [eA8]; exact sm_up (sm_up (sm_up (sm_up (sm_up a5 _ rfl) _ rfl) _ rfl) _ rfl) _ rfl
  have j22 : A8 1322 = cf W := by rw [eA8, up_at]
  have j21 : A8 1321 = cf U := by rw [eA8, up_ne _ _ (by decide), up_ne _ _ (by decide), up_ne _ _ (by decide), up_ne _ _ (by decide), up_at]
  have j25 : A8 1325 = cf (itg Qq 41) := by rw [eA8, up_ne _ _ (by decide), up_ne _ _ (by decide), up_ne _ _ (by decide), up_ne _ _ (by decide), up_ne _ _ (by decide), c5 1325 (by decide) rfl, w3]
  have j98 : A8 1298 = cf Rm := by rw [eA8, up_ne _ _ (by decide), up_ne _ _ (by decide), up_ne _ _ (by decide), up_ne _ _ (by decide), up_ne _ _ (by decide), c5 1298 (by decide) rfl, h98]
  have j99 : A8 1299 = cf b := (a8 1299 rfl).trans hb
  refine k449_108 v8.1 (wm_mono (wq_Q (fun h9 v9 r9 => ?_)) (V_slope v8 (c := 1310) (e := 1321) rfl rfl (by decide) j21 dU6))
  refine k449_119 v9.1 (wm_mono (wq_Q (fun h10 v10 r10 => ?_)) (V_multiplyBy v9 (p := 1310) (q := 1322) rfl rfl (by decide) (by decide) (f := zp_D U) (g := W) (up_at _ _ _) (by rw [up_ne _ _ (by decide)]; exact j22)))
  have dUW : zp_deg (zp_mul (zp_D U) W) 176 := by
    have b1 : zp_deg (zp_D U) m := D_dg mU.2
    exact fun i hi2 => zp_c_lt b1 mW.2 (by omega)
  refine k449_131 v10.1 (wm_mono (wq_N (fun h11 s11 A11 v11 r11 φ => ?_)) (V_divideBy v10 (p := 1310) (q := 1321) rfl rfl (by decide) (by decide) (by decide) (f := zp_mul (zp_D U) W) (g := U) (up_at _ _ _) (by rw [up_ne _ _ (by decide), up_ne _ _ (by decide), up_ne _ _ (by decide)]; exact j21) dUW dU6 (mo_pos moU dU6)))
  obtain ⟨es11, Q11, R11, e11, dR11, _, dQ11, eA11⟩ := φ
  subst es11
  have qV : V = Q11 := exact_div moU dU6 e11 dR11 eV
  subst qV
  have a11 : sm A A11 fcL := by rw [eA11]; exact sm_up (sm_up (sm_up (sm_up (sm_up (sm_up a8 _ rfl) _ rfl) _ rfl) _ rfl) _ rfl) _ rfl
  have o11 : ∀ x, x ≠ 1310 → x ≠ 1304 → x ≠ 1305 → A11 x = A8 x := fun x y1 y2 y3 => by
    rw [eA11, up_ne _ _ y1, up_ne _ _ y1, up_ne _ _ y3, up_ne _ _ y1, up_ne _ _ y2, up_ne _ _ y1]
  have l10 : A11 1310 = cf V := by rw [eA11, up_at]
  have l21 := (o11 1321 (by decide) (by decide) (by decide)).trans j21
  have l22 := (o11 1322 (by decide) (by decide) (by decide)).trans j22
  have l25 := (o11 1325 (by decide) (by decide) (by decide)).trans j25
  have l98 := (o11 1298 (by decide) (by decide) (by decide)).trans j98
  have l99 := (o11 1299 (by decide) (by decide) (by decide)).trans j99
  have eHm : hi U = m := hi_mo mU.1 mU.2 dU6
  refine k449_143 v11.1 (wm_mono (wq_r ?_) (V_high v11 (c := 1299) rfl l99))
  rw [eH]
  refine k449_150 v11.1 (wm_mono (wq_r ?_) (V_high v11 (c := 1321) rfl l21))
  rw [eHm]
  refine k449_158 v11.1 (wm_mono (wq_Q (fun h12 v12 r12 => k449_163 ?_)) (V_emptyTable v11))
  have R12 : FR h h12 := FR_trans r3 (FR_trans r4 (FR_trans r5 (FR_trans r6 (FR_trans r7 (FR_trans r8 (FR_trans r9 (FR_trans r10 (FR_trans r11 r12))))))))
  have eHW : hi W = (n - m : Nat) := hi_mo mW.1 mW.2 (deg_le mW.2 (by omega))
  -- the columns
  have cols : ∀ (l c : Nat) (B : Nat → Nat → Int) (h' : s_H) (t4 : Term), c + l = n → RV h' s11 B → FR h h' → (∀ x, x ≠ 1311 → x ≠ 1317 → B x = A11 x) → B 1317 = fl (tc (hcol U W V m) n c 0) → wr sw_P (d + 5) sw_c449 sw_h449 (165, [.index 1290, vi (n : Int), vi (m : Int), vi (c : Int), t4], [], h', 0, 0) (RN h (fun s' A' => clq s11 s' ∧ sm A A' fcL ∧ ∃ K U W C r, herS a b K U W C r ∧ A' 1325 = cf K ∧ A' 1321 = cf U ∧ A' 1322 = cf W ∧ A' 1323 = cf C ∧ A' 1324 = cf r)) := by
    intro l
    induction l with
    | zero =>
      intro c B h' t4 hc v r o g
      have ec : c = n := by omega
      subst ec
      have aB : sm A B fcL := sm_tr a11 (fun x hx => o x (fun w => by rw [w] at hx; exact absurd hx (by decide)) (fun w => by rw [w] at hx; exact absurd hx (by decide)))
      refine k449_165 (fun _ => ?_) (fun w => absurd (by omega) w) (c1 := by unfold In3; omega) (c2 := by unfold In3; omega)
      refine W_hread (d := d + 1) (h := h) (s := s11) (A := B) (n := c) (m := m) (S := hcol U W V m) (E := Rm) mn (by omega) (fun x hx => hcol_deg mn mU mW dV hx) x2 ((o 1298 (by decide) (by decide)).trans l98) (fun y _ z => her_cols mn (by omega) mU sW pW eV y z) (fun y s2 D h2 x3 t4 v2 r2 q2 m2 sum g23 g24 => ?_) g v r
      rw [her_sum mn] at sum
      exact k449_472 ⟨h2, s2, D, v2, r2, ⟨q2, sm_tr aB (sm_sub m2 rfl), itg Qq 41, U, W, yps y 0 m, yps y m (c - m), ⟨Qq, Rm, V, x1, by rw [eHn]; exact x2, hU, eb, eV, by rw [eHm, Int.toNat_natCast]; exact yps_deg _ _ _, by rw [eHW, Int.toNat_natCast]; exact yps_deg _ _ _, sum, rfl⟩, by rw [m2 1325 rfl, o 1325 (by decide) (by decide), l25], by rw [m2 1321 rfl, o 1321 (by decide) (by decide), l21], by rw [m2 1322 rfl, o 1322 (by decide) (by decide), l22], g23, g24⟩, rfl⟩
    | succ l ih =>
      intro c B h' t4 hc v r o g
      refine k449_165 (fun w => absurd w (by omega)) (fun _ => ?_) (c1 := by unfold In3; omega) (c2 := by unfold In3; omega)
      refine k449_170 v.1 (wm_mono (wq_Q (fun h2 v2 r2 => ?_)) (V_empty v (c := 1311) rfl))
      -- when v is the column
      have done_ : ∀ (h3 : s_H) (x4 : Int), RV h3 s11 (up (up B 1311 (cf (zp_C 0))) 1311 (cf (hcol U W V m c))) → FR h h3 → wr sw_P (d + 5) sw_c449 sw_h449 (312, [.index 1290, vi (n : Int), vi (m : Int), vi (c : Int), vi x4], [], h3, 0, 0) (RN h (fun s' A' => clq s11 s' ∧ sm A A' fcL ∧ ∃ K U W C r, herS a b K U W C r ∧ A' 1325 = cf K ∧ A' 1321 = cf U ∧ A' 1322 = cf W ∧ A' 1323 = cf C ∧ A' 1324 = cf r)) := fun h3 x4 v3 r3 => by
        refine k449_312 ?_
        refine W_colT (d := d + 4) (h := h) (s := s11) (n := n) (c := c) (S := hcol U W V m) (x2 := (m : Int)) (by omega) (by omega) (A := up (up B 1311 (cf (zp_C 0))) 1311 (cf (hcol U W V m c))) (up_at _ _ _) (fun h4 x4 v4 r4 => k449_346 ?_) n 0 _ h3 (Nat.zero_add n) v3 r3 (fun _ _ => rfl) (by rw [up_ne _ _ (by decide), up_ne _ _ (by decide)]; exact g)
        have := ih (c + 1) _ h4 (vi x4) (by omega) v4 r4 (fun x y1 y2 => by rw [up_ne _ _ y2, up_ne _ _ y1, up_ne _ _ y1, o x y1 y2]) (up_at _ _ _)
        exact this
      refine k449_177 (fun w => k449_275 ?_) (fun w => k449_182 ?_) (c1 := by unfold In3; omega) (c2 := by unfold In3; omega)
      · have eh : hcol U W V m c = zp_mul (zp_X (c - m)) U := if_neg (by omega)
        rw [eh] at done_
        exact W_colB (d := d + 4) (h := h) (s := s11) (n := n) (m := m) (c := c) (U := U) (by omega) (by omega) (by omega) mU.2 (A := up B 1311 (cf (zp_C 0))) (by rw [up_ne _ _ (by decide), o 1321 (by decide) (by decide), l21]) done_ (n - (c - m)) 0 _ h2 (by omega) v2 (FR_trans r r2) (fun _ _ => rfl) (by rw [up_at, hup_0])
      · have eh : hcol U W V m c = zp_add (zp_mul (zp_D (zp_X c)) W) (zp_neg (zp_mul (zp_X c) V)) := if_pos (by omega)
        rw [eh] at done_
        exact W_colA (d := d + 4) (h := h) (s := s11) (n := n) (m := m) (c := c) (W := W) (V := V) (by omega) mn (by omega) mW.2 dV (A := up B 1311 (cf (zp_C 0))) (by rw [up_ne _ _ (by decide), o 1322 (by decide) (by decide), l22]) (by rw [up_ne _ _ (by decide), o 1310 (by decide) (by decide), l10]) done_ (n + 1 - c) 0 _ h2 (by omega) v2 (FR_trans r r2) (fun _ _ => rfl) (by rw [up_at, hvp_0])
  exact cols n 0 _ h12 _ (Nat.zero_add n) v12 R12 (fun x _ y2 => up_ne _ _ y2) (by rw [up_at, tc_0])
end
