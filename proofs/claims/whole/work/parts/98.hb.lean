/-! the reference's loadWorth, workNode -/
def frt (a b : zp_R) : Prop := zp_deg a 41 ∧ zp_deg b 41 ∧ mo b ∧ co a b
def wtX (so : Int) (a b c e : zp_R) : zp_R := if so = 2 then zp_add (zp_mul a e) (zp_mul (zp_C (nF 1)) (zp_mul c b)) else if so = 3 then zp_add (zp_mul a e) (zp_mul (zp_C (nF (-1))) (zp_mul c b)) else if so = 4 then zp_mul a c else zp_mul a e
def wtY (so : Int) (b c e : zp_R) : zp_R := if so = 5 then zp_mul b c else zp_mul b e
/-- a node's worth, out of its parts' -/
def wnd (x : nod) (a b c e : zp_R) (f : Int) (N D : zp_R) : Prop := (x.1 = 0 → f = 0 ∧ N = zp_C (nF x.2) ∧ D = zp_C 1) ∧ (x.1 = 1 → f = 0 ∧ N = zp_X 1 ∧ D = zp_C 1) ∧ (x.1 = 7 → ((0 < x.2 ∧ 40 < gd a b * x.2) → f = 4) ∧ (¬ (0 < x.2 ∧ 40 < gd a b * x.2) → f = 0 ∧ N = zp_npow a x.2.toNat ∧ D = zp_npow b x.2.toNat)) ∧ (x.1 = 6 → f = 0 ∧ N = zp_mul (zp_C (nF 32002)) a ∧ D = b) ∧ ((x.1 = 5 ∧ c = zp_C 0) → f = 3) ∧ (((2 ≤ x.1 ∧ x.1 ≤ 4) ∨ (x.1 = 5 ∧ c ≠ zp_C 0)) → cn (wtX x.1 a b c e) (wtY x.1 b c e) N D ∧ ((40 < hi N ∨ 40 < hi D) → f = 4) ∧ (¬ (40 < hi N ∨ 40 < hi D) → f = 0))
theorem frt_npow {a b : zp_R} {p : Nat} (h : frt a b) (g : ¬ (0 < (p : Int) ∧ 40 < gd a b * (p : Int))) : frt (zp_npow a p) (zp_npow b p) := by
  have da6 : zp_deg a 176 := deg_le h.1 (by decide)
  have db6 : zp_deg b 176 := deg_le h.2.1 (by decide)
  have b0 := mo_pos h.2.2.1 db6
  have gb := gd_b a b
  obtain ⟨gdn, egd⟩ : ∃ gdn : Nat, gd a b = gdn := ⟨(gd a b).toNat, by omega⟩
  obtain ⟨da1, db1⟩ := gd_deg da6 db6 (by omega)
  rw [show (gd a b).toNat = gdn by omega] at da1 db1
  have le : ∀ u : zp_R, zp_deg u (gdn + 1) → zp_deg (zp_npow u p) 41 := fun u hu => by
    by_cases p0 : p = 0
    · subst p0
      exact deg_le (zp_C_deg 1) (by decide)
    · have : gdn * p ≤ 40 := by
        rw [egd] at g
        have : ¬ (40 : Int) < (gdn : Int) * (p : Int) := fun w => g ⟨by omega, w⟩
        rw [← Int.natCast_mul] at this
        omega
      exact deg_le (npow_deg hu p) (by omega)
  exact ⟨le a da1, le b db1, mo_npow h.2.2.1 p, co_npow2 h.2.2.2 p p⟩
section
variable {d : Nat} {h : s_H} {s : Nat → Int} {A : Nat → Nat → Int}
theorem V_loadWorth (hv : RV h s A) {t b n : Nat} (ht : P9 t = true) (hb : P9 b = true) (htb : t ≠ b) (t1 : t ≠ 1361 ∧ t ≠ 1362) (b1 : b ≠ 1361 ∧ b ≠ 1362) (n200 : n < 200) {x : Int} (ex : x = (n : Int)) : wm sw_P (d + 2) 513 [.index 1290, .index t, .index b, vi x] h (RQ h s (up (up A t (fp A 1361 n)) b (fp A 1362 n))) := by
  subst ex
  refine wm_in (cd := sw_c513) (nL := 5) (hd := sw_h513) rfl rfl ?_
  have ti := P9_i ht
  have bi := P9_i hb
  refine k513_0 (wm_mono (wq_Q (fun h1 v1 r1 => ?_)) (V_empty hv ht))
  refine k513_4 (wm_mono (wq_Q (fun h2 v2 r2 => k513_8 ?_)) (V_empty v1 hb))
  have loop : ∀ (l i : Nat) (B : Nat → Nat → Int) (h' : s_H), i + l = 41 → RV h' s B → FR h h' → (∀ y, y ≠ t → y ≠ b → B y = A y) → B t = c41 (fp A 1361 n) i → B b = c41 (fp A 1362 n) i → wr sw_P (d + 1) sw_c513 sw_h513 (11, [.index 1290, .index t, .index b, vi (n : Int), vi (i : Int)], [], h', 0, 0) (RQ h s (up (up A t (fp A 1361 n)) b (fp A 1362 n))) := by
    intro l
    induction l with
    | zero =>
      intro i B h' hi2 v r o g1 g2
      have ei : i = 41 := by omega
      subst ei
      refine k513_11 (fun _ => k513_56 ?_) (fun w => absurd (by decide) w) (c1 := by decide)
      have e : B = up (up A t (fp A 1361 n)) b (fp A 1362 n) := by
        funext y
        by_cases q1 : y = b
        · rw [q1, up_at, g2, c41_fp]
        · rw [up_ne _ _ q1]
          by_cases q2 : y = t
          · rw [q2, up_at, g1, c41_fp]
          · rw [up_ne _ _ q2, o y q2 q1]
      rw [← e]
      exact ⟨h', s, B, v, r, ⟨rfl, rfl⟩, rfl⟩
    | succ l ih =>
      intro i B h' hi2 v r o g1 g2
      have e61 : B 1361 = A 1361 := o 1361 (fun q => t1.1 q.symm) (fun q => b1.1 q.symm)
      have e62 : B 1362 = A 1362 := o 1362 (fun q => t1.2 q.symm) (fun q => b1.2 q.symm)
      have hf : ∀ (c : Nat) (u : Nat → Int), u = A c → gi (mk 8200 u) (41 * (n : Int) + (i : Int)) = fp A c n i := fun c u e => by
        rw [show 41 * (n : Int) + (i : Int) = ((41 * n + i : Nat) : Int) by omega, gi_mkn (by omega), e]
        exact (if_pos (by omega)).symm
      have w1 := RV_w v (c := t) ht (c41 (fp A 1361 n) (i + 1))
      have w2 := RV_w w1 (c := b) hb (c41 (fp A 1362 n) (i + 1))
      refine k513_11 (fun w => absurd w (by omega)) (fun _ => ?_) (c1 := by unfold In3; omega)
      have es1 : (mk 176 (B t)).set (Int.toNat (i : Int)) (fp A 1361 n i) = mk 176 (c41 (fp A 1361 n) (i + 1)) := by
        rw [mk_set, g1, c41_s (i := i) (t0 := Int.toNat (i : Int)) rfl rfl]
      have es2 : (mk 176 (B b)).set (Int.toNat (i : Int)) (fp A 1362 n i) = mk 176 (c41 (fp A 1362 n) (i + 1)) := by
        rw [mk_set, g2, c41_s (i := i) (t0 := Int.toNat (i : Int)) rfl rfl]
      refine k513_18 (a9 := mk 8200 (B 1361)) (a15 := mk 176 (B t)) (a27 := mk 8200 (B 1362)) (a31 := mk 176 (B b)) v.1 (Ra_worthTop v) (RV_l v ht) (by rw [hf 1361 _ e61, es1]; exact w1.1) ((hp_ne (RV_l v ht) (fun q => t1.2 q.symm)).trans (Ra_worthBottom v)) ((hp_ne (RV_l v ht) (fun q => htb q.symm)).trans (RV_l v hb)) ?_ (c11 := by rw [mk_len]; omega) (c12 := by omega) (c13 := by unfold In3; omega) (c17 := by rw [mk_len]; omega) (c18 := by omega) (c19 := by unfold In3; omega) (c20 := by omega) (c29 := by rw [mk_len]; omega) (c33 := by rw [mk_len]; omega) (c34 := by omega)
      rw [hf 1361 _ e61, hf 1362 _ e62, es1, es2]
      refine ih (i + 1) _ _ (by omega) w2 (FR_trans r (FR_trans (FR_w v ht _) (FR_w w1 hb _))) (fun y y1 y2 => by rw [up_ne _ _ y2, up_ne _ _ y1]; exact o y y1 y2) ?_ (up_at _ _ _)
      rw [up_ne _ _ htb, up_at]
  have := loop 41 0 _ h2 (Nat.zero_add _) v2 (FR_trans r1 r2) (fun y y1 y2 => by rw [up_ne _ _ y2, up_ne _ _ y1]) (by rw [up_ne _ _ htb, up_at, c41_0]) (by rw [up_at, c41_0])
  exact this
theorem cf_X : cf (zp_X 1) = fun k => if k = 1 then 1 else 0 := by
  funext k
  unfold cf
  show (((if k = 1 then (1 : zp_F) else 0) : zp_F).val : Int) = _
  split <;> rfl
/-- what working a node comes to -/
def wkR_ (s : Nat → Int) (A : Nat → Nat → Int) (x : nod) (a b c e : zp_R) (v : Term) (s' : Nat → Int) (A' : Nat → Nat → Int) : Prop := s' = s ∧ sm A A' scr ∧ ∃ f N D, v = vi f ∧ (f = 0 ∨ f = 3 ∨ f = 4) ∧ wnd x a b c e f N D ∧ (f = 0 → A' 1302 = cf N ∧ A' 1303 = cf D ∧ frt N D)
theorem V_workNode {N : Nat} (C : ctx (gr A 1352 1353) N) (hv : RV h s A) {n : Nat} (hn : n < N) {a b c e : zp_R} (h1 : npa (A 1352 n) ≠ 0 → fp A 1361 (n + 1) = cf a ∧ fp A 1362 (n + 1) = cf b ∧ frt a b) (h2 : npa (A 1352 n) = 2 → fp A 1361 (snd_ (gr A 1352 1353) n) = cf c ∧ fp A 1362 (snd_ (gr A 1352 1353) n) = cf e ∧ frt c e) : wm sw_P (d + 9) 617 [.index 1290, vi (n : Int)] h (RA h (wkR_ s A (gr A 1352 1353 n) a b c e)) := by
  refine wm_in (cd := sw_c617) (nL := 3) (hd := sw_h617) rfl rfl ?_
  have n200 := C.2.2
  have gn : gdn (A 1352 n, A 1353 n) := C.2.1 n (Nat.zero_le _) hn
  obtain ⟨m, nm, hm⟩ := sub_ex C.1 hn
  obtain ⟨so, eso⟩ : ∃ so, A 1352 n = so := ⟨_, rfl⟩
  obtain ⟨va, eva⟩ : ∃ va, A 1353 n = va := ⟨_, rfl⟩
  have eg : gr A 1352 1353 n = (so, va) := by unfold gr; rw [eso, eva]
  rw [eso, eva] at gn
  rw [eso] at h1 h2
  rw [eg]
  have bso : 0 ≤ so ∧ so ≤ 7 := gn.1
  have bva : 0 ≤ va ∧ va < 32003 := gn.2.1
  obtain ⟨p0, p1, p2⟩ := npa_s bso
  have iso : In3 so := by unfold In3; omega
  have iva : In3 va := by unfold In3; omega
  have go : ∀ u : Nat → Int, gi (mk 420 u) (n : Int) = u n := fun u => gi_mkn (by omega)
  have len : ∀ g : Nat → Int, (mk 420 g).length = 420 := fun g => mk_len _ _
  -- behind the two rows' beginnings
  have at37 : ∀ (h' : s_H) (B : Nat → Nat → Int) (z : Int), (so = 0 → z = va) → (so ≠ 0 → z = 0) → RV h' s B → FR h h' → B = up (up A 1302 (cf (zp_C (nF z)))) 1303 (cf (zp_C (nF 1))) → wr sw_P (d + 8) sw_c617 sw_h617 (37, [.index 1290, vi (n : Int), vi so], [], h', 0, 0) (RA h (wkR_ s A (so, va) a b c e)) := fun h' B z z1 z2 v r eB => by
    have c1 : nF 1 = 1 := rfl
    have smB : sm A B scr := by rw [eB]; exact sm_up (sm_up sm_refl _ rfl) _ rfl
    have B02 : B 1302 = cf (zp_C (nF z)) := by rw [eB, up_ne _ _ (by decide), up_at]
    have B03 : B 1303 = cf (zp_C 1) := by rw [eB, up_at, c1]
    have mo1 : mo (zp_C 1) := ⟨0, rfl, zp_C_deg 1⟩
    by_cases s1 : so = 1
    · have v2 := RV_w v (c := 1302) rfl (cf (zp_X 1))
      refine k617_37 (fun w => absurd s1 w) (fun _ => ?_) (c1 := iso)
      refine k617_42 (a8 := mk 176 (B 1302)) v.1 (RV_l v (c := 1302) rfl) ?_ (c10 := by rw [mk_len]; decide)
      have e1 : (mk 176 (B 1302)).set (Int.toNat 1) 1 = mk 176 (cf (zp_X 1)) := by
        rw [mk_set, B02, z2 (by omega)]
        congr 1
        rw [cf_X]
        funext k
        show (if k = 1 then (1 : Int) else cf (zp_C (nF 0)) k) = _
        split
        · rfl
        · unfold cf
          show (((if k = 0 then nF 0 else 0 : zp_F)).val : Int) = 0
          split <;> rfl
      rw [e1]
      refine k617_49 (fun w => absurd w (by omega)) (fun _ => k617_54 ?_) (c1 := iso)
      refine ⟨_, _, _, _, v2, FR_trans r (FR_w v (c := 1302) rfl _), ⟨rfl, sm_up smB _ rfl, 0, zp_X 1, zp_C 1, rfl, .inl rfl, ⟨fun w => absurd (show so = 0 from w) (by omega), fun _ => ⟨rfl, rfl, rfl⟩, fun w => absurd (show so = 7 from w) (by omega), fun w => absurd (show so = 6 from w) (by omega), fun w => absurd (show so = 5 from w.1) (by omega), fun w => by
        have : (2 ≤ so ∧ so ≤ 4) ∨ (so = 5 ∧ c ≠ zp_C 0) := w
        omega⟩, fun _ => ⟨up_at _ _ _, by rw [up_ne _ _ (by decide)]; exact B03, fun i hi2 => if_neg (by omega), deg_le (zp_C_deg 1) (by decide), mo1, co_1 _⟩⟩, rfl⟩
    refine k617_37 (fun _ => ?_) (fun w => absurd (Classical.byContradiction w) s1) (c1 := iso)
    by_cases s0 : so = 0
    · refine k617_49 (fun w => absurd w (by omega)) (fun _ => k617_54 ?_) (c1 := iso)
      refine ⟨_, _, _, _, v, r, ⟨rfl, smB, 0, zp_C (nF va), zp_C 1, rfl, .inl rfl, ⟨fun _ => ⟨rfl, rfl, rfl⟩, fun w => absurd (show so = 1 from w) s1, fun w => absurd (show so = 7 from w) (by omega), fun w => absurd (show so = 6 from w) (by omega), fun w => absurd (show so = 5 from w.1) (by omega), fun w => by
        have : (2 ≤ so ∧ so ≤ 4) ∨ (so = 5 ∧ c ≠ zp_C 0) := w
        omega⟩, fun _ => ⟨by rw [B02, z1 s0], B03, deg_le (zp_C_deg _) (by decide), deg_le (zp_C_deg 1) (by decide), mo1, co_1 _⟩⟩, rfl⟩
    -- nodes over others
    have np : npa so ≠ 0 := by
      by_cases q : so = 6 ∨ so = 7
      · rw [p1 q]; decide
      · rw [p2 ⟨s0, s1, by omega, by omega⟩]; decide
    obtain ⟨fa, fb, Fab⟩ := h1 np
    have n1 : n + 1 < n + m := by
      rcases npa_012 so with q | q | q
      · exact absurd q np
      · obtain ⟨ma, em, hma⟩ := sub_1 hm (by rw [eg]; exact q)
        have := wlk_ne hma
        rw [pce_len] at this
        omega
      · obtain ⟨ma, mb, em, hma, _⟩ := sub_2 hm (by rw [eg]; exact q)
        have := wlk_ne hma
        rw [pce_len] at this
        omega
    have fB : ∀ (y k : Nat), y = 1361 ∨ y = 1362 → fp B y k = fp A y k := fun y k hy => by
      unfold fp
      rw [smB y (by rcases hy with q | q <;> rw [q] <;> rfl)]
    refine k617_49 (fun _ => ?_) (fun w => absurd (by omega) w) (c1 := iso)
    refine k617_56 v.1 (wm_mono (wq_Q (fun h2' v2 r2 => ?_)) (V_loadWorth v (t := 1298) (b := 1299) (n := n + 1) rfl rfl (by decide) (by decide) (by decide) (by omega) (by omega)))
    rw [fB 1361 _ (.inl rfl), fB 1362 _ (.inr rfl), fa, fb] at v2
    obtain ⟨B2, eB2⟩ : ∃ B2, up (up B 1298 (cf a)) 1299 (cf b) = B2 := ⟨_, rfl⟩
    rw [eB2] at v2
    have smB2 : sm A B2 scr := by rw [← eB2]; exact sm_up (sm_up smB _ rfl) _ rfl
    have a8 : B2 1298 = cf a := by rw [← eB2, up_ne _ _ (by decide), up_at]
    have a9 : B2 1299 = cf b := by rw [← eB2, up_at]
    have da6 : zp_deg a 176 := deg_le Fab.1 (by decide)
    have db6 : zp_deg b 176 := deg_le Fab.2.1 (by decide)
    have b0 : 0 ≤ hi b := mo_pos Fab.2.2.1 db6
    have R2 := FR_trans r r2
    by_cases s7 : so = 7
    · have v99 : va ≤ 99 := gn.2.2 s7
      have gv : gi (mk 420 (B2 1353)) (n : Int) = (va.toNat : Int) := by rw [go, smB2 1353 rfl, eva]; omega
      have vv : (va.toNat : Int) = va := by omega
      refine k617_71 (fun w => absurd s7 w) (fun _ => ?_) (c1 := iso)
      refine k617_77 (a8 := mk 420 (B2 1353)) v2.1 (Ra_nodeValue v2) (wm_mono (wq_A (fun v' h3 s3 A3 v3 r3 φ => ?_)) (by rw [gv]; exact V_isPower v2 a8 a9 b0 (n := va.toNat) (by omega))) (c10 := by rw [len]; omega) (c11 := by omega) (c12 := by unfold In3; omega)
      obtain ⟨e3, m3, y1, y2⟩ := φ
      subst e3
      have wn : ∀ (f : Int) (N D : zp_R), ((0 < va ∧ 40 < gd a b * va) → f = 4) → (¬ (0 < va ∧ 40 < gd a b * va) → f = 0 ∧ N = zp_npow a va.toNat ∧ D = zp_npow b va.toNat) → wnd (so, va) a b c e f N D := fun f N D u1 u2 => ⟨fun w => absurd (show so = 0 from w) s0, fun w => absurd (show so = 1 from w) s1, fun _ => ⟨u1, u2⟩, fun w => absurd (show so = 6 from w) (by omega), fun w => absurd (show so = 5 from w.1) (by omega), fun w => by
        have : (2 ≤ so ∧ so ≤ 4) ∨ (so = 5 ∧ c ≠ zp_C 0) := w
        omega⟩
      by_cases g : 0 < va.toNat ∧ 40 < gd a b * (va.toNat : Int)
      · have ev := y1 g
        subst ev
        refine k617_87 (fun _ => k617_94 (k617_95 ?_)) (fun w => absurd rfl w) (c1 := by decide)
        rw [vv] at g
        exact ⟨_, _, _, _, v3, FR_trans R2 r3, ⟨rfl, sm_tr smB2 m3, 4, zp_C 0, zp_C 0, rfl, .inr (.inr rfl), wn 4 _ _ (fun _ => rfl) (fun w => absurd ⟨by omega, g.2⟩ w), fun w => absurd w (by decide)⟩, rfl⟩
      · obtain ⟨ev, y3, y4⟩ := y2 g
        subst ev
        refine k617_87 (fun w => absurd w (by decide)) (fun _ => k617_90 (k617_95 ?_)) (c1 := by decide)
        have fr := frt_npow (p := va.toNat) Fab (fun w => g ⟨by omega, w.2⟩)
        exact ⟨_, _, _, _, v3, FR_trans R2 r3, ⟨rfl, sm_tr smB2 m3, 0, _, _, rfl, .inl rfl, wn 0 _ _ (fun w => absurd ⟨by omega, by rw [vv]; exact w.2⟩ g) (fun _ => ⟨rfl, rfl, rfl⟩), fun _ => ⟨y3, y4, fr⟩⟩, rfl⟩
    refine k617_71 (fun _ => ?_) (fun w => absurd (Classical.byContradiction w) s7) (c1 := iso)
    by_cases s6 : so = 6
    · refine k617_96 (fun w => absurd s6 w) (fun _ => ?_) (c1 := iso)
      refine k617_102 v2.1 (wm_mono (wq_Q (fun h3 v3 r3 => ?_)) (V_copy v2 (c := 1302) (e := 1298) rfl rfl (by decide)))
      rw [a8] at v3
      refine k617_113 v3.1 (wm_mono (wq_Q (fun h4 v4 r4 => ?_)) (V_scale v3 (c := 1302) rfl (f := a) (z := 32002) (up_at _ _ _) (by decide)))
      refine k617_123 v4.1 (wm_mono (wq_Q (fun h5 v5 r5 => k617_134 ?_)) (V_copy v4 (c := 1303) (e := 1299) rfl rfl (by decide)))
      rw [up_ne _ _ (show (1299 : Nat) ≠ 1302 by decide), up_ne _ _ (show (1299 : Nat) ≠ 1302 by decide), a9] at v5
      refine ⟨_, _, _, _, v5, FR_trans R2 (FR_trans r3 (FR_trans r4 r5)), ⟨rfl, sm_up (sm_up (sm_up smB2 _ rfl) _ rfl) _ rfl, 0, zp_mul (zp_C (nF 32002)) a, b, rfl, .inl rfl, ⟨fun w => absurd (show so = 0 from w) s0, fun w => absurd (show so = 1 from w) s1, fun w => absurd (show so = 7 from w) s7, fun _ => ⟨rfl, rfl, rfl⟩, fun w => absurd (show so = 5 from w.1) (by omega), fun w => by
        have : (2 ≤ so ∧ so ≤ 4) ∨ (so = 5 ∧ c ≠ zp_C 0) := w
        omega⟩, fun _ => ⟨by rw [up_ne _ _ (by decide), up_at], up_at _ _ _, deg_Cm _ Fab.1, Fab.2.1, Fab.2.2.1, co_nm Fab.2.2.2⟩⟩, rfl⟩
    refine k617_96 (fun _ => ?_) (fun w => absurd (Classical.byContradiction w) s6) (c1 := iso)
    -- two parts
    have n2 := p2 ⟨s0, s1, s6, s7⟩
    obtain ⟨ma, mb, em, hma, hmb⟩ := sub_2 hm (by rw [eg]; exact n2)
    have mbp := wlk_ne hmb
    rw [pce_len] at mbp
    obtain ⟨fc, fe, Fce⟩ := h2 n2
    rw [snd_eq hma] at fc fe
    have gr2 : gr B2 1352 1353 = gr A 1352 1353 := by
      unfold gr
      rw [smB2 1352 rfl, smB2 1353 rfl]
    have z := V_behind (d := d + 6) v2 (n := n + 1) (m := ma) (by rw [gr2]; exact hma) (by omega) (fun k hk => by
      rw [smB2 1352 rfl]
      have : 0 ≤ A 1352 (n + 1 + k) ∧ A 1352 (n + 1 + k) ≤ 7 := (C.2.1 (n + 1 + k) (Nat.zero_le _) (by omega)).1
      unfold In3
      omega)
    rw [show ((n + 1 : Nat) : Int) = (n : Int) + 1 by omega] at z
    refine k617_136 v2.1 (wm_mono (wq_r ?_) z)
    have fB2 : ∀ (y k : Nat), y = 1361 ∨ y = 1362 → fp B2 y k = fp A y k := fun y k hy => by
      unfold fp
      rw [smB2 y (by rcases hy with q | q <;> rw [q] <;> rfl)]
    refine k617_152 v2.1 (wm_mono (wq_Q (fun h3 v3 r3 => ?_)) (V_loadWorth v2 (t := 1300) (b := 1301) (n := n + 1 + ma) rfl rfl (by decide) (by decide) (by decide) (by omega) (by omega)))
    rw [fB2 1361 _ (.inl rfl), fB2 1362 _ (.inr rfl), fc, fe] at v3
    obtain ⟨B3, eB3⟩ : ∃ B3, up (up B2 1300 (cf c)) 1301 (cf e) = B3 := ⟨_, rfl⟩
    rw [eB3] at v3
    have smB3 : sm A B3 scr := by rw [← eB3]; exact sm_up (sm_up smB2 _ rfl) _ rfl
    have b8 : B3 1298 = cf a := by rw [← eB3, up_ne _ _ (by decide), up_ne _ _ (by decide)]; exact a8
    have b9 : B3 1299 = cf b := by rw [← eB3, up_ne _ _ (by decide), up_ne _ _ (by decide)]; exact a9
    have b00 : B3 1300 = cf c := by rw [← eB3, up_ne _ _ (by decide), up_at]
    have b01 : B3 1301 = cf e := by rw [← eB3, up_at]
    have dc6 : zp_deg c 176 := deg_le Fce.1 (by decide)
    have de6 : zp_deg e 176 := deg_le Fce.2.1 (by decide)
    have e0 : 0 ≤ hi e := mo_pos Fce.2.2.1 de6
    have R3 := FR_trans R2 r3
    have wn : ∀ (f : Int) (N D : zp_R), ((so = 5 ∧ c = zp_C 0) → f = 3) → (((2 ≤ so ∧ so ≤ 4) ∨ (so = 5 ∧ c ≠ zp_C 0)) → cn (wtX so a b c e) (wtY so b c e) N D ∧ ((40 < hi N ∨ 40 < hi D) → f = 4) ∧ (¬ (40 < hi N ∨ 40 < hi D) → f = 0)) → wnd (so, va) a b c e f N D := fun f N D u1 u2 => ⟨fun w => absurd (show so = 0 from w) s0, fun w => absurd (show so = 1 from w) s1, fun w => absurd (show so = 7 from w) s7, fun w => absurd (show so = 6 from w) s6, u1, u2⟩
    -- the end
    have at217 : ∀ (h4 : s_H) (A4 : Nat → Nat → Int) (N D : zp_R), ¬ (so = 5 ∧ c = zp_C 0) → RV h4 s A4 → FR h h4 → cn (wtX so a b c e) (wtY so b c e) N D → zp_deg N 176 → zp_deg D 176 → A4 1302 = cf N → A4 1303 = cf D → sm A A4 scr → wr sw_P (d + 8) sw_c617 sw_h617 (217, [.index 1290, vi (n : Int), vi so], [], h4, 0, 0) (RA h (wkR_ s A (so, va) a b c e)) := fun h4 A4 N D nz v4 r4 hcn dN dD gN gD m4 => by
      refine k617_217 v4.1 (wm_mono (wq_r ?_) (V_isGreat v4 gN gD))
      by_cases g : 40 < hi N ∨ 40 < hi D
      · rw [if_pos g]
        exact k617_221 (fun w => absurd w (by decide)) (fun _ => k617_224 (k617_229 ⟨_, _, _, _, v4, r4, ⟨rfl, m4, 4, N, D, rfl, .inr (.inr rfl), wn 4 N D (fun w => absurd w nz) (fun _ => ⟨hcn, fun _ => rfl, fun w => absurd g w⟩), fun w => absurd w (by decide)⟩, rfl⟩)) (c1 := by decide)
      · rw [if_neg g]
        exact k617_221 (fun _ => k617_228 (k617_229 ⟨_, _, _, _, v4, r4, ⟨rfl, m4, 0, N, D, rfl, .inl rfl, wn 0 N D (fun w => absurd w nz) (fun _ => ⟨hcn, fun w => absurd w g, fun _ => rfl⟩), fun _ => ⟨gN, gD, deg_ng dN (fun w => g (.inl w)), deg_ng dD (fun w => g (.inr w)), hcn.2.2, hcn.2.1⟩⟩, rfl⟩)) (fun w => absurd rfl w) (c1 := by decide)
    by_cases s5 : so = 5
    · refine k617_155 (fun w => absurd s5 w) (fun _ => k617_160 v3.1 (wm_mono (wq_r ?_) (V_high v3 (c := 1300) rfl b00))) (c1 := iso)
      have hc := hi_b c
      refine k617_167 (fun w => ?_) (fun w => k617_170 ?_) (c1 := by unfold In3; omega)
      rotate_left
      · have z0 : c = zp_C 0 := hi_0 dc6 (by omega)
        exact ⟨_, _, _, _, v3, R3, ⟨rfl, smB3, 3, zp_C 0, zp_C 0, rfl, .inr (.inl rfl), wn 3 _ _ (fun _ => rfl) (fun y => y.elim (fun y => by omega) (fun y => absurd z0 y.2)), fun y => absurd y (by decide)⟩, rfl⟩
      have cz : c ≠ zp_C 0 := fun z0 => hi_C0 (by rw [z0] at w; exact w)
      refine k617_172 (fun y => absurd y (by omega)) (fun _ => k617_177 (fun _ => k617_201 (fun _ => ?_) (fun y => absurd (by omega) y) (c1 := iso)) (fun y => absurd (by omega) y) (c1 := iso)) (c1 := iso)
      refine k617_213 v3.1 (wm_mono (wq_N (fun h4 s4 A4 v4 r4 φ => ?_)) (V_quotientAll v3 b8 b9 b00 b01 Fab.1 Fab.2.1 Fce.1 Fce.2.1 b0 w))
      obtain ⟨e4, ⟨N, D, hcn, dN, dD, gN, gD⟩, m4⟩ := φ
      subst e4
      refine at217 h4 A4 N D (fun y => cz y.2) v4 (FR_trans R3 r4) ?_ dN dD gN gD (sm_tr smB3 (sm_sub m4 rfl))
      unfold wtX wtY
      rw [if_neg (by omega), if_neg (by omega), if_neg (by omega), if_pos s5]
      exact hcn
    refine k617_155 (fun _ => ?_) (fun w => absurd (Classical.byContradiction w) s5) (c1 := iso)
    have wY : wtY so b c e = zp_mul b e := if_neg s5
    have sum : ∀ z : Int, (z = if so = 2 then 1 else -1) → (so = 2 ∨ so = 3) → wr sw_P (d + 8) sw_c617 sw_h617 (195, [.index 1290, vi (n : Int), vi so], [vl z, .index 1290], h3, 0, 0) (RA h (wkR_ s A (so, va) a b c e)) := fun z ez hz => by
      refine k617_195 v3.1 (wm_mono (wq_N (fun h4 s4 A4 v4 r4 φ => k617_198 ?_)) (V_sumAll v3 b8 b9 b00 b01 Fab.1 Fab.2.1 Fce.1 Fce.2.1 b0 e0 (z := z) (by rw [ez]; split <;> decide)))
      obtain ⟨e4, ⟨N, D, hcn, dN, dD, gN, gD⟩, m4⟩ := φ
      subst e4
      refine at217 h4 A4 N D (fun y => s5 y.1) v4 (FR_trans R3 r4) ?_ dN dD gN gD (sm_tr smB3 (sm_sub m4 rfl))
      rw [wY]
      unfold wtX
      by_cases q : so = 2
      · rw [if_pos q] at ez ⊢
        rw [← ez]
        exact hcn
      · rw [if_neg q] at ez ⊢
        rw [if_pos (hz.resolve_left q), ← ez]
        exact hcn
    refine k617_172 (fun w => k617_182 (fun y => absurd w y) (fun _ => k617_188 (sum 1 (by rw [if_pos w]) (.inl w))) (c2 := iso)) (fun w => ?_) (c1 := iso)
    refine k617_177 (fun w3 => ?_) (fun w3 => ?_) (c1 := iso)
    rotate_left
    · have s3 : so = 3 := Classical.byContradiction w3
      exact k617_182 (fun _ => k617_192 (sum (-1) (by rw [if_neg w]) (.inr s3))) (fun y => absurd w y) (c2 := iso)
    refine k617_201 (fun y => absurd (by omega) y) (fun _ => ?_) (c1 := iso)
    refine k617_206 v3.1 (wm_mono (wq_N (fun h4 s4 A4 v4 r4 φ => k617_210 ?_)) (V_productAll v3 b8 b9 b00 b01 Fab.1 Fab.2.1 Fce.1 Fce.2.1 b0 e0))
    obtain ⟨e4, ⟨N, D, hcn, dN, dD, gN, gD⟩, m4⟩ := φ
    subst e4
    refine at217 h4 A4 N D (fun y => s5 y.1) v4 (FR_trans R3 r4) ?_ dN dD gN gD (sm_tr smB3 (sm_sub m4 rfl))
    rw [wY]
    unfold wtX
    rw [if_neg w, if_neg w3, if_pos (by omega)]
    exact hcn
  have at26 : ∀ z : Int, (so = 0 → z = va) → (so ≠ 0 → z = 0) → In6 z → wr sw_P (d + 8) sw_c617 sw_h617 (26, [.index 1290, vi (n : Int), vi so], [vl z, .index 1302], h, 0, 0) (RA h (wkR_ s A (so, va) a b c e)) := fun z z1 z2 iz => by
    refine k617_26 (wm_mono (wq_Q (fun h1' v1 r1 => ?_)) (V_become hv (c := 1302) rfl iz))
    exact k617_29 v1.1 (wm_mono (wq_Q (fun h2' v2 r2 => at37 h2' _ z z1 z2 v2 (FR_trans r1 r2) rfl)) (V_become v1 (c := 1303) rfl (by decide)))
  have gso : gi (mk 420 (A 1352)) (n : Int) = so := by rw [go, eso]
  have gva : gi (mk 420 (A 1353)) (n : Int) = va := by rw [go, eva]
  refine k617_0 (a8 := mk 420 (A 1352)) hv.1 (Ra_nodeSort hv) (fun w => ?_) (fun w => ?_) (c10 := by rw [len]; omega) (c11 := by omega) (c12 := by unfold In3; omega) (c15 := by rw [gso]; exact iso)
  · rw [gso] at w ⊢
    exact k617_25 (at26 0 (fun y => absurd y w) (fun _ => rfl) (by decide))
  · rw [gso] at w ⊢
    refine k617_15 (a8 := mk 420 (A 1353)) hv.1 (Ra_nodeValue hv) ?_ (c10 := by rw [len]; omega) (c11 := by omega) (c12 := by unfold In3; omega) (c13 := by rw [gva]; exact iva)
    rw [gva]
    exact at26 va (fun _ => rfl) (fun y => absurd y w) (in6_of (by omega) (by omega))
end
