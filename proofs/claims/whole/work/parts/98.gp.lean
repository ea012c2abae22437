/-! the reference's loadTree and keepTree -/
theorem isT_oth {A B : Nat → Nat → Int} {i m : Nat} {t : th} (h : isT A i t) (q : i ≠ m) (e0 : B 1291 i = A 1291 i) (e1 : B 1292 = A 1292) (e2 : B 1293 = A 1293) (e3 : B 1294 = A 1294) (e4 : B 1295 = A 1295) (e5 : B 1296 = A 1296) (e6 : B 1349 i = A 1349 i) (e7 : ∀ t, (t < 200 * m ∨ 200 * m + 200 ≤ t) → B 1350 t = A 1350 t ∧ B 1351 t = A 1351 t) : isT B i t := by
  have f1 : fp B 1292 i = fp A 1292 i := by unfold fp; rw [e1]
  have f2 : fp B 1293 i = fp A 1293 i := by unfold fp; rw [e2]
  rcases t with ⟨N, D⟩ | f | ⟨r, c, M⟩ | ⟨n, so, va⟩
  · obtain ⟨h1, h2, h3, h4⟩ := h
    exact ⟨e0.trans h1, f1.trans h2, f2.trans h3, h4⟩
  · obtain ⟨h1, h2, h3, h4⟩ := h
    exact ⟨e0.trans h1, f1.trans h2, f2.trans h3, h4⟩
  · obtain ⟨h1, h2, h3, h4, h5, h6⟩ := h
    exact ⟨e0.trans h1, h2, h3, (congrFun e3 i).trans h4, (congrFun e4 i).trans h5, fun a b ha hb => by
      have := h6 a b ha hb
      unfold me at *
      rw [e5]
      exact this⟩
  · obtain ⟨h1, h2, h3, h4⟩ := h
    refine ⟨e0.trans h1, h2, e6.trans h3, fun k hk => ?_⟩
    have n200 := h2.1.2
    obtain ⟨x1, x2⟩ := e7 (200 * i + k) (by omega)
    obtain ⟨x3, x4⟩ := h4 k hk
    exact ⟨x1.trans x3, x2.trans x4⟩
section
variable {d : Nat} {h : s_H} {s : Nat → Int} {A : Nat → Nat → Int}
theorem V_loadTree (hv : RV h s A) {f n : Nat} (f150 : f < 150) (en : A 1349 f = (n : Int)) (n200 : n ≤ 200) : wm sw_P (d + 1) 512 [.index 1290, vi (f : Int)] h (RN h (fun s' A' => s' = up s 82 (n : Int) ∧ (∀ x, x ≠ 1352 → x ≠ 1353 → A' x = A x) ∧ ∀ k, k < n → A' 1352 k = A 1350 (200 * f + k) ∧ A' 1353 k = A 1351 (200 * f + k))) := by
  refine wm_in (cd := sw_c512) (nL := 3) (hd := sw_h512) rfl rfl ?_
  have g0 : gi (mk 150 (A 1349)) (f : Int) = (n : Int) := by rw [gi_mkn f150, en]
  have v1 := RV_fld hv (up s 82 (n : Int)) (rF_82 s (n : Int))
  have loop : ∀ (l k : Nat) (B : Nat → Nat → Int) (h' : s_H), k + l = n → RV h' (up s 82 (n : Int)) B → FR h h' → (∀ x, x ≠ 1352 → x ≠ 1353 → B x = A x) → (∀ j, j < k → B 1352 j = A 1350 (200 * f + j) ∧ B 1353 j = A 1351 (200 * f + j)) → wr sw_P d sw_c512 sw_h512 (12, [.index 1290, vi (f : Int), vi (k : Int)], [], h', 0, 0) (RN h (fun s' A' => s' = up s 82 (n : Int) ∧ (∀ x, x ≠ 1352 → x ≠ 1353 → A' x = A x) ∧ ∀ k, k < n → A' 1352 k = A 1350 (200 * f + k) ∧ A' 1353 k = A 1351 (200 * f + k))) := by
    intro l
    induction l with
    | zero =>
      intro k B h' hk v r o g
      have ek : k = n := by omega
      subst ek
      exact k512_12 (z5 := (k : Int)) v.1 (fun _ => k512_62 ⟨_, _, _, v, r, ⟨rfl, o, g⟩, rfl⟩) (fun w => absurd (Int.le_refl _) w) (n6 := by
        show some (vi (up s 82 (k : Int) 82)) = _
        rw [up_at]) (c7 := by unfold In3; omega) (c8 := by unfold In3; omega)
    | succ l ih =>
      intro k B h' hk v r o g
      have g1 : ∀ u : Nat → Int, gi (mk 30000 u) (200 * (f : Int) + (k : Int)) = u (200 * f + k) := fun u => by
        rw [show 200 * (f : Int) + (k : Int) = ((200 * f + k : Nat) : Int) by omega, gi_mkn (by omega)]
      have s1' : ∀ (g : Nat → Int) (z : Int), (mk 420 g).set (Int.toNat (k : Int)) z = mk 420 (fun t => if t = k then z else g t) := fun g z => by rw [mk_set]; rfl
      have w1 := Rp_nodeSort v (fun t => if t = k then B 1350 (200 * f + k) else B 1352 t)
      have w2 := Rp_nodeValue w1 (fun t => if t = k then B 1351 (200 * f + k) else B 1353 t)
      refine k512_12 (z5 := (n : Int)) v.1 (fun w => absurd w (by omega)) (fun _ => ?_) (n6 := by
        show some (vi (up s 82 (n : Int) 82)) = _
        rw [up_at]) (c7 := by unfold In3; omega) (c8 := by unfold In3; omega)
      refine k512_20 (a10 := mk 30000 (B 1350)) (a16 := mk 420 (B 1352)) (a29 := mk 30000 (B 1351)) (a33 := mk 420 (B 1353)) v.1 (Ra_sorts v) (Ra_nodeSort v) (by rw [g1, s1']; exact w1.1) ((hp_ne (Ra_nodeSort v) (by decide)).trans (Ra_values v)) ((hp_ne (Ra_nodeSort v) (by decide)).trans (Ra_nodeValue v)) ?_ (c12 := by rw [mk_len]; omega) (c13 := by omega) (c14 := by unfold In3; omega) (c18 := by rw [mk_len]; omega) (c19 := by omega) (c20 := by unfold In3; omega) (c31 := by rw [mk_len]; omega) (c35 := by rw [mk_len]; omega)
      rw [g1, g1, s1', s1']
      refine ih (k + 1) _ _ (by omega) w2 (FR_trans r (FR_trans (FR_put v (c := 1352) (by decide) (by decide) _) (FR_put w1 (c := 1353) (by decide) (by decide) _))) (fun x h1 h2 => by rw [up_ne _ _ h2, up_ne _ _ h1]; exact o x h1 h2) (fun j hj => ?_)
      rw [up_ne _ _ (show (1352 : Nat) ≠ 1353 by decide), up_at, up_at]
      show (if j = k then B 1350 (200 * f + k) else B 1352 j) = _ ∧ (if j = k then B 1351 (200 * f + k) else B 1353 j) = _
      by_cases q : j = k
      · rw [if_pos q, if_pos q, q, o 1350 (by decide) (by decide), o 1351 (by decide) (by decide)]
        exact ⟨rfl, rfl⟩
      · rw [if_neg q, if_neg q]
        exact g j (by omega)
  refine k512_0 (a8 := mk 150 (A 1349)) hv.1 (Ra_sizes hv) ?_ (c10 := by rw [mk_len]; omega) (c11 := by omega) (c12 := by unfold In3; omega)
  rw [g0]
  exact loop n 0 A _ (Nat.zero_add n) v1 (FR_fld hv _) (fun _ _ _ => rfl) (fun j hj => absurd hj (Nat.not_lt_zero _))
theorem V_keepTree (hv : RV h s A) {T : Nat → th} (R : RI s A T) {W : List nod} (e85 : s 85 = (W.length : Int)) (eW : pce (gr A 1354 1355) 0 W.length = W) (l420 : W.length ≤ 420) (tW : trL W) {bad : Int} : wm sw_P (d + 2) 500 [.index 1290, vi bad] h (RA h (fun v s' A' => ∃ res, (s 1 = 150 ∨ 200 < W.length → res = .inr bad) ∧ (¬ (s 1 = 150 ∨ 200 < W.length) → res = .inl (th_L W)) ∧ ends s A T res v s' A')) := by
  refine wm_in (cd := sw_c500) (nL := 3) (hd := sw_h500) rfl rfl ?_
  obtain ⟨m, em⟩ : ∃ m : Nat, s 1 = m := ⟨(s 1).toNat, by have := R.1.1; omega⟩
  have m150 : m ≤ 150 := by have := R.1.1; omega
  have W1 := wlk_ne tW.2
  obtain ⟨e, ee⟩ : ∃ e, W.length = e := ⟨_, rfl⟩
  rw [ee] at e85 l420 W1
  have eg : ∀ k, k < e → (A 1354 k, A 1355 k) = W.getD k (0, 0) := fun k hk => by
    have := pce_get (gr A 1354 1355) W.length 0 k (by omega)
    rw [eW, Nat.zero_add] at this
    exact this.symm
  have badT : (s 1 = 150 ∨ 200 < W.length) → wr sw_P (d + 1) sw_c500 sw_h500 (20, [.index 1290, vi bad, .result], [], h, 0, 0) (RA h (fun v s' A' => ∃ res, (s 1 = 150 ∨ 200 < W.length → res = .inr bad) ∧ (¬ (s 1 = 150 ∨ 200 < W.length) → res = .inl (th_L W)) ∧ ends s A T res v s' A')) := fun w => by
    refine k500_20 hv.1 (wm_mono (wq_A (fun v h1 s1 A1 v1 r1 φ => ?_)) (V_raise hv))
    obtain ⟨e1, e2, e3⟩ := φ
    subst e1 e2 e3
    exact k500_25 ⟨_, _, _, _, v1, r1, ⟨.inr bad, fun _ => rfl, fun x => absurd w x, sm_refl, rfl, rfl, RI_sc R sm_refl rfl⟩, rfl⟩
  refine k500_0 (z5 := s 1) hv.1 (fun w => badT (.inl w)) (fun w => ?_) (c7 := by unfold In3; omega)
  refine k500_10 (z5 := s 85) hv.1 (fun w2 => ?_) (fun w2 => badT (.inr (by omega))) (c7 := by unfold In3; omega)
  have nf : ¬ (s 1 = 150 ∨ 200 < W.length) := by omega
  have s1' : ∀ (g : Nat → Int) (z : Int), (mk 150 g).set (Int.toNat (m : Int)) z = mk 150 (fun t => if t = m then z else g t) := fun g z => by rw [mk_set]; rfl
  have v1 := RV_fld hv (up s 0 0) (rF_0 s 0)
  have v2 := Rp_kind v1 (fun t => if t = m then 3 else A 1291 t)
  have v3 := Rp_sizes v2 (fun t => if t = m then (e : Int) else A 1349 t)
  have loop : ∀ (l k : Nat) (B : Nat → Nat → Int) (h' : s_H), k + l = e → RV h' (up s 0 0) B → FR h h' → (∀ x, x ≠ 1291 → x ≠ 1349 → x ≠ 1350 → x ≠ 1351 → B x = A x) → B 1291 = (fun t => if t = m then 3 else A 1291 t) → B 1349 = (fun t => if t = m then (e : Int) else A 1349 t) → (∀ j, j < k → B 1350 (200 * m + j) = A 1354 j ∧ B 1351 (200 * m + j) = A 1355 j) → (∀ t, (t < 200 * m ∨ 200 * m + 200 ≤ t) → B 1350 t = A 1350 t ∧ B 1351 t = A 1351 t) → wr sw_P (d + 1) sw_c500 sw_h500 (56, [.index 1290, vi bad, vi (k : Int)], [], h', 0, 0) (RA h (fun v s' A' => ∃ res, (s 1 = 150 ∨ 200 < W.length → res = .inr bad) ∧ (¬ (s 1 = 150 ∨ 200 < W.length) → res = .inl (th_L W)) ∧ ends s A T res v s' A')) := by
    intro l
    induction l with
    | zero =>
      intro k B h' hk v r o o1 o2 g g2
      have ek : k = e := by omega
      subst ek
      refine k500_56 (z5 := (k : Int)) v.1 (fun _ => ?_) (fun w => absurd (Int.le_refl _) w) (n6 := by
        show some (vi (up s 0 0 85)) = _
        rw [up_ne _ _ (by decide), e85]) (c7 := by unfold In3; omega) (c8 := by unfold In3; omega)
      have v' := RV_fld v (up (up s 0 0) 1 ((m : Int) + 1)) (rF_1 (up s 0 0) ((m : Int) + 1))
      refine k500_112 (z5 := (m : Int)) (z11 := (m : Int) + 1) v.1 v'.1 ?_ (n6 := by
        show some (vi (up s 0 0 1)) = _
        rw [up_ne _ _ (by decide), em]) (n12 := by
        show some (vi (up (up s 0 0) 1 ((m : Int) + 1) 1)) = _
        rw [up_at])
      refine ⟨_, _, _, _, v', FR_trans r (FR_fld v _), ⟨.inl (th_L W), fun x => absurd x nf, fun _ => rfl, ?_, ?_⟩, rfl⟩
      · intro x hx
        have n1 : ∀ c, (sto ++ scr).contains c = true → x ≠ c := fun c hc q => by
          rw [q, hc] at hx
          cases hx
        exact o x (n1 1291 rfl) (n1 1349 rfl) (n1 1350 rfl) (n1 1351 rfl)
      · refine ⟨?_, ?_, ?_⟩
        · rw [em]
          congr 1
          omega
        · rw [em]
        · rw [em]
          obtain ⟨⟨b0, b1, b2, b3⟩, b4, b5⟩ := R
          have us : up (up s 0 0) 1 ((m : Int) + 1) 1 = (m : Int) + 1 := up_at _ _ _
          refine ⟨⟨by omega, fun i hi2 => ?_, ?_, ?_⟩, ?_, fun i hi2 => ?_⟩
          · rw [o1]
            show 0 ≤ (if i = m then (3 : Int) else A 1291 i) ∧ (if i = m then (3 : Int) else A 1291 i) ≤ 3
            split
            · decide
            · exact b1 i hi2
          · rw [o 1292 (by decide) (by decide) (by decide) (by decide)]
            exact b2
          · rw [o 1293 (by decide) (by decide) (by decide) (by decide)]
            exact b3
          · rw [o 1296 (by decide) (by decide) (by decide) (by decide)]
            exact b4
          · rw [us] at hi2
            by_cases q : i = m
            · subst q
              rw [show ((i : Int)).toNat = i by omega, up_at]
              refine ⟨?_, ⟨⟨by omega, by omega⟩, tro_W tW⟩, ?_, fun j hj => ?_⟩
              · rw [o1]
                exact if_pos rfl
              · rw [o2, ee]
                exact if_pos rfl
              · have x1 := g j (by omega)
                have x2 := eg j (by omega)
                rw [x1.1, x1.2]
                exact ⟨congrArg Prod.fst x2, congrArg Prod.snd x2⟩
            · rw [show ((m : Int)).toNat = m by omega, up_ne _ _ q]
              refine isT_oth (b5 i (by omega)) q ?_ (o 1292 (by decide) (by decide) (by decide) (by decide)) (o 1293 (by decide) (by decide) (by decide) (by decide)) (o 1294 (by decide) (by decide) (by decide) (by decide)) (o 1295 (by decide) (by decide) (by decide) (by decide)) (o 1296 (by decide) (by decide) (by decide) (by decide)) ?_ g2
              · rw [o1]
                exact if_neg q
              · rw [o2]
                exact if_neg q
    | succ l ih =>
      intro k B h' hk v r o o1 o2 g g2
      have g1 : ∀ u : Nat → Int, gi (mk 420 u) (k : Int) = u k := fun u => gi_mkn (by omega)
      have s2' : ∀ (g : Nat → Int) (z : Int), (mk 30000 g).set (Int.toNat (200 * (m : Int) + (k : Int))) z = mk 30000 (fun t => if t = 200 * m + k then z else g t) := fun g z => by
        rw [mk_set, show (200 * (m : Int) + (k : Int)).toNat = 200 * m + k by omega]
      have w1 := Rp_sorts v (fun t => if t = 200 * m + k then B 1354 k else B 1350 t)
      have w2 := Rp_values w1 (fun t => if t = 200 * m + k then B 1355 k else B 1351 t)
      refine k500_56 (z5 := (e : Int)) v.1 (fun w => absurd w (by omega)) (fun _ => ?_) (n6 := by
        show some (vi (up s 0 0 85)) = _
        rw [up_ne _ _ (by decide), e85]) (c7 := by unfold In3; omega) (c8 := by unfold In3; omega)
      refine k500_64 (z7 := (m : Int)) (z28 := (m : Int)) (a12 := mk 420 (B 1354)) (a18 := mk 30000 (B 1350)) (a33 := mk 420 (B 1355)) (a37 := mk 30000 (B 1351)) v.1 (Ra_newSort v) (Ra_sorts v) (by rw [g1, s2']; exact w1.1) ((hp_ne (Ra_sorts v) (by decide)).trans (Ra_newValue v)) ((hp_ne (Ra_sorts v) (by decide)).trans (Ra_values v)) ?_ (n8 := by
        show some (vi (up s 0 0 1)) = _
        rw [up_ne _ _ (by decide), em]) (n29 := by
        show some (vi (up s 0 0 1)) = _
        rw [up_ne _ _ (by decide), em]) (c14 := by rw [mk_len]; omega) (c15 := by omega) (c16 := by unfold In3; omega) (c20 := by rw [mk_len]; omega) (c21 := by omega) (c22 := by unfold In3; omega) (c35 := by rw [mk_len]; omega) (c39 := by rw [mk_len]; omega) (c40 := by omega) (c41 := by unfold In3; omega)
      rw [g1, g1, s2', s2']
      refine ih (k + 1) _ _ (by omega) w2 (FR_trans r (FR_trans (FR_put v (c := 1350) (by decide) (by decide) _) (FR_put w1 (c := 1351) (by decide) (by decide) _))) (fun x h1 h2 h3 h4 => by rw [up_ne _ _ h4, up_ne _ _ h3]; exact o x h1 h2 h3 h4) ?_ ?_ (fun j hj => ?_) (fun t ht => ?_)
      · rw [up_ne _ _ (by decide), up_ne _ _ (by decide)]
        exact o1
      · rw [up_ne _ _ (by decide), up_ne _ _ (by decide)]
        exact o2
      · rw [up_ne _ _ (show (1350 : Nat) ≠ 1351 by decide), up_at, up_at]
        show (if 200 * m + j = 200 * m + k then B 1354 k else B 1350 (200 * m + j)) = _ ∧ (if 200 * m + j = 200 * m + k then B 1355 k else B 1351 (200 * m + j)) = _
        by_cases q : j = k
        · rw [if_pos (by omega), if_pos (by omega), q, o 1354 (by decide) (by decide) (by decide) (by decide), o 1355 (by decide) (by decide) (by decide) (by decide)]
          exact ⟨rfl, rfl⟩
        · rw [if_neg (by omega), if_neg (by omega)]
          exact g j (by omega)
      · rw [up_ne _ _ (show (1350 : Nat) ≠ 1351 by decide), up_at, up_at]
        show (if t = 200 * m + k then B 1354 k else B 1350 t) = _ ∧ (if t = 200 * m + k then B 1355 k else B 1351 t) = _
        rw [if_neg (by omega), if_neg (by omega)]
        exact g2 t ht
  refine k500_26 (z11 := (m : Int)) (z24 := (m : Int)) (z26 := (e : Int)) (a14 := mk 150 (A 1291)) (a29 := mk 150 (A 1349)) hv.1 v1.1 (Ra_kind v1) (by rw [s1']; exact v2.1) ((hp_ne (Ra_kind v1) (by decide)).trans (Ra_sizes v1)) ?_ (n12 := by
    show some (vi (up s 0 0 1)) = _
    rw [up_ne _ _ (by decide), em]) (n25 := by
    show some (vi (up s 0 0 1)) = _
    rw [up_ne _ _ (by decide), em]) (n27 := by
    show some (vi (up s 0 0 85)) = _
    rw [up_ne _ _ (by decide), e85]) (c16 := by rw [mk_len]; omega) (c17 := by omega) (c18 := by unfold In3; omega) (c31 := by rw [mk_len]; omega) (c32 := by omega) (c33 := by unfold In3; omega)
  rw [s1', s1']
  refine loop e 0 _ _ (Nat.zero_add e) v3 (FR_trans (FR_fld hv (1, 11, rF (up s 0 0))) (FR_trans (FR_put v1 (c := 1291) (by decide) (by decide) _) (FR_put v2 (c := 1349) (by decide) (by decide) _))) (fun x h1 h2 _ _ => by rw [up_ne _ _ h2, up_ne _ _ h1]) ?_ ?_ (fun j hj => absurd hj (Nat.not_lt_zero _)) (fun t _ => ?_)
  · rw [up_ne _ _ (by decide), up_at]
  · rw [up_at]
  · rw [up_ne _ _ (by decide), up_ne _ _ (by decide), up_ne _ _ (by decide), up_ne _ _ (by decide)]
    exact ⟨rfl, rfl⟩
end
