/-! the reference's plantsNumber, areSamePieces -/
/-- the number that a node over numbers is -/
def numV (so a b e : Int) : zp_F := if so = 7 then nF a ^ e.toNat else if so = 2 then nF (a + b) else if so = 3 then nF (a - b) else if so = 4 then nF (a * b) else if so = 5 then nF a * nF b ^ 32001 else nF (-a)
/-- law 10 -/
def numQ (g : Nat → nod) (n : Nat) : Option (List nod) := if npa (g n).1 = 0 ∨ (g (n + 1)).1 ≠ 0 ∨ (npa (g n).1 = 2 ∧ (g (n + 2)).1 ≠ 0) then none else if (g n).1 = 5 ∧ (g (n + 2)).2 = 0 then none else some [(0, ((numV (g n).1 (g (n + 1)).2 (g (n + 2)).2 (g n).2).val : Int))]
section
variable {d : Nat} {h1 : s_H} {s s1 : Nat → Int} {A A1 : Nat → Nat → Int} {W : List nod} {N : Nat}
theorem V_plantsNumber (C : ctx (gr A 1352 1353) N) (v : RV h1 s1 A1) (nw : NW s A s1 A1 W) {n m : Nat} (hm : wlk (pce (gr A 1352 1353) n m) 1 0) (nm : n + m ≤ N) (l : W.length + 2 ≤ 420) : wm sw_P (d + 3) 554 [.index 1290, vi (n : Int), vi (A 1352 n)] h1 (RA h1 (laQ s A W m (numQ (gr A 1352 1353) n))) := by
  refine wm_in (cd := sw_c554) (nL := 11) (hd := sw_h554) rfl rfl ?_
  have m1 := wlk_ne hm
  rw [pce_len] at m1
  have n200 := C.2.2
  obtain ⟨x1, x2, x3, x4, x5⟩ := rd2 C nw (show n < N by omega) rfl
  have iso : In3 (A 1352 n) := by unfold In3; omega
  have p := npa_s x3
  have g1 : (gr A 1352 1353 n).1 = A 1352 n := rfl
  have g2 : (gr A 1352 1353 n).2 = A 1353 n := rfl
  have len : ∀ g : Nat → Int, (mk 420 g).length = 420 := fun g => mk_len _ _
  obtain ⟨o, eo⟩ : ∃ o, numQ (gr A 1352 1353) n = o := ⟨_, rfl⟩
  rw [eo]
  unfold numQ at eo
  rw [g1, g2, show (gr A 1352 1353 (n + 1)).1 = A 1352 (n + 1) from rfl, show (gr A 1352 1353 (n + 1)).2 = A 1353 (n + 1) from rfl, show (gr A 1352 1353 (n + 2)).1 = A 1352 (n + 2) from rfl, show (gr A 1352 1353 (n + 2)).2 = A 1353 (n + 2) from rfl] at eo
  have none_ : o = none → RA h1 (laQ s A W m o) (.inl (some (vi 0)), h1, 0, 0) := fun e => ⟨_, _, _, _, v, FR_refl h1, ⟨W, nw, by omega, fun Q hQ => (by rw [e] at hQ; cases hQ), fun _ => rfl⟩, rfl⟩
  have nb := npa_012 (A 1352 n)
  refine k554_0 (wm_mono (wq_r ?_) (V_partsOf iso))
  refine k554_4 (fun w => k554_36 (none_ ?_)) (fun w => ?_) (c1 := by unfold In3; omega)
  · rw [if_pos (.inl w)] at eo
    exact eo.symm
  have n1 : n + 1 < n + m := by
    rcases nb with q | q | q
    · omega
    · obtain ⟨ma, em, hma⟩ := sub_1 hm (by rw [g1]; exact q)
      have := wlk_ne hma
      rw [pce_len] at this
      omega
    · obtain ⟨ma, mb, em, hma, _⟩ := sub_2 hm (by rw [g1]; exact q)
      have := wlk_ne hma
      rw [pce_len] at this
      omega
  obtain ⟨y1, y2, y3, y4, _⟩ := rd2 C nw (show n + 1 < N by omega) (x := (n : Int) + 1) (by omega)
  refine k554_9 (a8 := mk 420 (A1 1352)) v.1 (Ra_nodeSort v) (fun w2 => k554_36 (none_ ?_)) (fun w2 => ?_) (c10 := by rw [len]; omega) (c11 := by omega) (c12 := by unfold In3; omega) (c13 := by rw [y1]; unfold In3; omega)
  · rw [y1] at w2
    rw [if_pos (.inr (.inl w2))] at eo
    exact eo.symm
  rw [y1] at w2
  have s10 : A 1352 (n + 1) = 0 := Classical.byContradiction w2
  have n2 : npa (A 1352 n) = 2 → n + 2 < n + m := fun q => by
    obtain ⟨ma, mb, em, hma, hmb⟩ := sub_2 hm (by rw [g1]; exact q)
    have := wlk_ne hma
    rw [pce_len] at this
    have := wlk_ne hmb
    rw [pce_len] at this
    omega
  -- the number
  have at185 : ∀ (z b : Int) (x3' : Int) (t5 t7 t9 : Term) (x10 : Int), In6 z → o = some [(0, ((nF z).val : Int))] → wr sw_P (d + 2) sw_c554 sw_h554 (185, [.index 1290, vi (n : Int), vi (A 1352 n), vi x3', vl (A 1353 (n + 1)), t5, vl b, t7, vl z, t9, vi x10], [], h1, 0, 0) (RA h1 (laQ s A W m o)) := fun z b x3' t5 t7 t9 x10 iz e => by
    refine k554_185 (wm_mono (wq_r ?_) (t_modulo iz))
    refine k554_192 v.1 (wm_mono (wq_N (fun h2 s2 A2 v2 r2 nw2 => k554_196 ?_)) (V_plant v nw (by omega)))
    rw [← nF_v] at nw2
    exact ⟨_, _, _, _, v2, r2, ⟨_, nw2, by rw [List.length_append]; show W.length + 1 ≤ _; omega, fun Q' hQ => (by rw [e] at hQ; exact ⟨rfl, by rw [Option.some.inj hQ]⟩), fun q => (by rw [e] at q; cases q)⟩, rfl⟩
  -- with the second number at hand
  have at67 : ∀ (b : Int) (t6 t7 t8 t9 t10 : Term), (0 ≤ b ∧ b < 32003) → (npa (A 1352 n) = 2 → b = A 1353 (n + 2) ∧ A 1352 (n + 2) = 0) → wr sw_P (d + 2) sw_c554 sw_h554 (67, [.index 1290, vi (n : Int), vi (A 1352 n), vi (npa (A 1352 n)), vl (A 1353 (n + 1)), .result, t6, t7, t8, t9, t10], [vl b], h1, 0, 0) (RA h1 (laQ s A W m o)) := fun b t6 t7 t8 t9 t10 hb hb2 => by
    obtain ⟨so, eso⟩ : ∃ so, A 1352 n = so := ⟨_, rfl⟩
    obtain ⟨a, ea⟩ : ∃ a, A 1353 (n + 1) = a := ⟨_, rfl⟩
    obtain ⟨e, ee⟩ : ∃ e, A 1353 n = e := ⟨_, rfl⟩
    rw [eso, ea, ee] at eo
    rw [eso, ea] at at185
    rw [ea] at y4
    rw [eso] at iso x3 x5 p w hb2 nb ⊢
    rw [ea]
    rw [ee] at x4 x5
    rw [if_neg (by
      intro y
      rcases y with y | y | y
      · exact w y
      · exact y s10
      · exact y.2 (hb2 y.1).2)] at eo
    have mm := mm_le y4 hb
    have at123 : ∀ (z : Int) (t5 t7 t9 : Term) (x10 : Int), In6 z → (so = 7 → nF z = nF a ^ e.toNat) → (so = 5 → b ≠ 0) → wr sw_P (d + 2) sw_c554 sw_h554 (123, [.index 1290, vi (n : Int), vi so, vi (npa so), vl a, t5, vl b, t7, vl z, t9, vi x10], [], h1, 0, 0) (RA h1 (laQ s A W m o)) := fun z t5 t7 t9 x10 iz h7 h5 => by
      have val : ∀ u : zp_F, numV so a (A 1353 (n + 2)) e = u → o = some [(0, (u.val : Int))] := fun u hu => by
        rw [if_neg (fun y => h5 y.1 (by rw [(hb2 (p.2.2 ⟨by omega, by omega, by omega, by omega⟩)).1]; exact y.2)), hu] at eo
        exact eo.symm
      have vb : so = 2 ∨ so = 3 ∨ so = 4 ∨ so = 5 → A 1353 (n + 2) = b := fun q => (hb2 (p.2.2 ⟨by omega, by omega, by omega, by omega⟩)).1.symm
      have s67 : so = 2 ∨ so = 3 ∨ so = 4 ∨ so = 5 ∨ so = 6 ∨ so = 7 := by
        have : ¬ (so = 0 ∨ so = 1) := fun y => w (p.1 y)
        omega
      refine k554_123 (fun q2 => ?_) (fun q2 => ?_) (c1 := iso)
      rotate_left
      · have q : so = 2 := Classical.byContradiction q2
        refine k554_128 (k554_135 (fun _ => k554_147 (fun _ => k554_159 (fun _ => k554_174 (fun _ => at185 _ _ _ _ _ _ _ (in6_of (by omega) (by omega)) (val _ ?_)) (fun y => absurd (by omega) y) (c1 := iso)) (fun y => absurd (by omega) y) (c1 := iso)) (fun y => absurd (by omega) y) (c1 := iso)) (fun y => absurd (by omega) y) (c1 := iso))
        unfold numV
        rw [if_neg (by omega), if_pos q, vb (.inl q)]
      refine k554_135 (fun q3 => ?_) (fun q3 => ?_) (c1 := iso)
      rotate_left
      · have q : so = 3 := Classical.byContradiction q3
        refine k554_140 (k554_147 (fun _ => k554_159 (fun _ => k554_174 (fun _ => at185 _ _ _ _ _ _ _ (in6_of (by omega) (by omega)) (val _ ?_)) (fun y => absurd (by omega) y) (c1 := iso)) (fun y => absurd (by omega) y) (c1 := iso)) (fun y => absurd (by omega) y) (c1 := iso))
        unfold numV
        rw [if_neg (by omega), if_neg q2, if_pos q, vb (.inr (.inl q))]
      refine k554_147 (fun q4 => ?_) (fun q4 => ?_) (c1 := iso)
      rotate_left
      · have q : so = 4 := Classical.byContradiction q4
        refine k554_152 (k554_159 (fun _ => k554_174 (fun _ => at185 _ _ _ _ _ _ _ (in6_of (by omega) (by omega)) (val _ ?_)) (fun y => absurd (by omega) y) (c1 := iso)) (fun y => absurd (by omega) y) (c1 := iso))
        unfold numV
        rw [if_neg (by omega), if_neg q2, if_neg q3, if_pos q, vb (.inr (.inr (.inl q)))]
      refine k554_159 (fun q5 => ?_) (fun q5 => ?_) (c1 := iso)
      rotate_left
      · have q : so = 5 := Classical.byContradiction q5
        refine k554_164 (wm_mono (wq_r (k554_171 ?_)) (t_inverse (in6_of (by omega) (by omega))))
        have vlt := (nF b ^ 32001 : zp_F).isLt
        have mm2 := mm_le y4 (y := ((nF b ^ 32001 : zp_F).val : Int)) (by omega)
        refine k554_174 (fun _ => at185 _ _ _ _ _ _ _ (in6_of (by omega) (by omega)) (val _ ?_)) (fun y => absurd (by omega) y) (c1 := iso)
        unfold numV
        rw [if_neg (by omega), if_neg q2, if_neg q3, if_neg q4, if_pos q, vb (.inr (.inr (.inr q))), nF_mul, nF_val]
      refine k554_174 (fun q6 => ?_) (fun q6 => ?_) (c1 := iso)
      · have q : so = 7 := by omega
        refine at185 _ _ _ _ _ _ _ iz (val _ ?_)
        unfold numV
        rw [if_pos q, h7 q]
      · refine k554_180 (at185 _ _ _ _ _ _ _ (in6_of (by omega) (by omega)) (val _ ?_))
        unfold numV
        rw [if_neg (by omega), if_neg q2, if_neg q3, if_neg q4, if_neg q5]
    have gv : gi (mk 420 (A1 1353)) (n : Int) = e := by rw [x2, ee]
    have loop : ∀ (q k : Nat) (t5 t7 t9 : Term), (so = 7 → k + q = e.toNat) → (so ≠ 7 → k = 0) → k ≤ 100 → (so = 5 → b ≠ 0) → wr sw_P (d + 2) sw_c554 sw_h554 (89, [.index 1290, vi (n : Int), vi so, vi (npa so), vl a, t5, vl b, t7, vl (((nF a ^ k : zp_F).val : Int)), t9, vi (k : Int)], [], h1, 0, 0) (RA h1 (laQ s A W m o)) := by
      intro q
      induction q with
      | zero =>
        intro k t5 t7 t9 h7 hn hk h5
        have vlt := (nF a ^ k : zp_F).isLt
        have go := at123 (((nF a ^ k : zp_F).val : Int)) t5 t7 t9 (k : Int) (in6_of (by omega) (by omega)) (fun y => by rw [nF_val, show k = e.toNat from h7 y]) h5
        refine k554_89 (a8 := mk 420 (A1 1353)) v.1 (Ra_nodeValue v) (fun _ => go) (fun y => ?_) (c10 := by rw [len]; omega) (c11 := by omega) (c12 := by unfold In3; omega) (c13 := by unfold In3; omega) (c14 := by rw [gv]; unfold In3; omega)
        rw [gv] at y
        refine k554_100 (fun _ => go) (fun y2 => ?_) (c1 := iso)
        have := h7 (Classical.byContradiction y2)
        omega
      | succ q ih =>
        intro k t5 t7 t9 h7 hn hk h5
        have vlt := (nF a ^ k : zp_F).isLt
        have mm2 := mm_le (x := ((nF a ^ k : zp_F).val : Int)) (by omega) y4
        by_cases w7 : so = 7
        · have kq := h7 w7
          have e99 := x5 w7
          refine k554_89 (a8 := mk 420 (A1 1353)) v.1 (Ra_nodeValue v) (fun y => ?_) (fun y => ?_) (c10 := by rw [len]; omega) (c11 := by omega) (c12 := by unfold In3; omega) (c13 := by unfold In3; omega) (c14 := by rw [gv]; unfold In3; omega)
          · rw [gv] at y
            omega
          refine k554_100 (fun y2 => absurd w7 y2) (fun _ => k554_106 ?_ (c1 := in6_of (by omega) (by omega))) (c1 := iso)
          have e1 : Int.tmod (((nF a ^ k : zp_F).val : Int) * a) 32003 = ((nF a ^ (k + 1) : zp_F).val : Int) := by
            rw [Int.tmod_eq_emod_of_nonneg mm2.1, zp_pow_succ, F_mul, nF_v]
            rw [show a % 32003 = a by omega]
          rw [e1, show (k : Int) + 1 = ((k + 1 : Nat) : Int) by omega]
          exact ih (k + 1) _ _ _ (fun _ => by omega) (fun y => absurd w7 y) (by omega) h5
        · have k0 := hn w7
          have go := at123 (((nF a ^ k : zp_F).val : Int)) t5 t7 t9 (k : Int) (in6_of (by omega) (by omega)) (fun y => absurd y w7) h5
          refine k554_89 (a8 := mk 420 (A1 1353)) v.1 (Ra_nodeValue v) (fun _ => go) (fun y => k554_100 (fun _ => go) (fun y2 => absurd w7 y2) (c1 := iso)) (c10 := by rw [len]; omega) (c11 := by omega) (c12 := by unfold In3; omega) (c13 := by unfold In3; omega) (c14 := by rw [gv]; unfold In3; omega)
    have at83 : ∀ (t5 t7 t8 t9 t10 : Term), (so = 5 → b ≠ 0) → wr sw_P (d + 2) sw_c554 sw_h554 (83, [.index 1290, vi (n : Int), vi so, vi (npa so), vl a, t5, vl b, t7, t8, t9, t10], [], h1, 0, 0) (RA h1 (laQ s A W m o)) := fun t5 t7 t8 t9 t10 h5 => by
      refine k554_83 ?_
      have e0 : ((nF a ^ 0 : zp_F).val : Int) = 1 := by
        rw [Lean.Grind.Semiring.pow_zero]
        rfl
      have := loop e.toNat 0 t5 (s_uu t7) .result (fun _ => Nat.zero_add _) (fun _ => rfl) (by decide) h5
      rw [e0] at this
      exact this
    refine k554_67 (fun y => at83 _ _ _ _ _ (fun y2 => absurd y2 y)) (fun y => ?_) (c1 := iso)
    refine k554_74 (fun y2 => at83 _ _ _ _ _ (fun _ => y2)) (fun y2 => k554_81 (none_ ?_)) (c1 := in6_of (by omega) (by omega))
    have q5 : so = 5 := Classical.byContradiction y
    rw [if_pos ⟨q5, by rw [← (hb2 (p.2.2 ⟨by omega, by omega, by omega, by omega⟩)).1]; exact Classical.byContradiction y2⟩] at eo
    exact eo.symm
  have at38 : (npa (A 1352 n) = 2 → A 1352 (n + 2) = 0) → wr sw_P (d + 2) sw_c554 sw_h554 (38, [.index 1290, vi (n : Int), vi (A 1352 n), vi (npa (A 1352 n)), .result, .result, .result, .result, .result, .result, .result], [], h1, 0, 0) (RA h1 (laQ s A W m o)) := fun hb2 => by
    refine k554_38 (a8 := mk 420 (A1 1353)) v.1 (Ra_nodeValue v) (fun q => ?_) (fun q => ?_) (c10 := by rw [len]; omega) (c11 := by omega) (c12 := by unfold In3; omega) (c13 := by rw [y2]; unfold In3; omega) (c14 := by unfold In3; omega)
    · rw [y2]
      exact k554_66 (at67 0 _ _ _ _ _ (by decide) (fun y => absurd y q))
    · rw [y2]
      have q2 : npa (A 1352 n) = 2 := Classical.byContradiction q
      have n2' := n2 q2
      obtain ⟨z1, z2, z3, z4, _⟩ := rd2 C nw (show n + 2 < N by omega) (x := (n : Int) + 2) (by omega)
      refine k554_54 (a8 := mk 420 (A1 1353)) v.1 (Ra_nodeValue v) ?_ (c10 := by rw [len]; omega) (c11 := by omega) (c12 := by unfold In3; omega) (c13 := by rw [z2]; unfold In3; omega)
      rw [z2]
      exact at67 _ _ _ _ _ _ z4 (fun y => ⟨rfl, hb2 y⟩)
  refine k554_20 (fun q => at38 (fun y => absurd y q)) (fun q => ?_) (c1 := by unfold In3; omega)
  have q2 : npa (A 1352 n) = 2 := Classical.byContradiction q
  have n2' := n2 q2
  obtain ⟨z1, z2, z3, z4, _⟩ := rd2 C nw (show n + 2 < N by omega) (x := (n : Int) + 2) (by omega)
  refine k554_25 (a8 := mk 420 (A1 1352)) v.1 (Ra_nodeSort v) (fun w3 => at38 (fun _ => by rw [z1] at w3; exact w3)) (fun w3 => k554_36 (none_ ?_)) (c10 := by rw [len]; omega) (c11 := by omega) (c12 := by unfold In3; omega) (c13 := by rw [z1]; unfold In3; omega)
  rw [z1] at w3
  rw [if_pos (.inr (.inr ⟨q2, w3⟩))] at eo
  exact eo.symm
theorem V_areSamePieces (C : ctx (gr A 1352 1353) N) (v : RV h1 s1 A1) (nw : NW s A s1 A1 W) {a b ma mb : Nat} (ha : wlk (pce (gr A 1352 1353) a ma) 1 0) (hb : wlk (pce (gr A 1352 1353) b mb) 1 0) (am : a + ma ≤ N) (bm : b + mb ≤ N) {xa xb : Int} (ea : xa = (a : Int)) (eb : xb = (b : Int)) : wm sw_P (d + 3) 399 [.index 1290, vi xa, vi xb] h1 (qr (vi (@ite _ (pce (gr A 1352 1353) a ma = pce (gr A 1352 1353) b mb) (Classical.propDecidable _) 1 0)) h1) := by
  refine wm_in (cd := sw_c399) (nL := 6) (hd := sw_h399) rfl rfl ?_
  have n200 := C.2.2
  have len : ∀ g : Nat → Int, (mk 420 g).length = 420 := fun g => mk_len _ _
  refine k399_0 v.1 (wm_mono (wq_r ?_) (V_beh C v nw ha am ea))
  refine k399_5 v.1 (wm_mono (wq_r ?_) (V_beh C v nw hb bm eb))
  have yes : pce (gr A 1352 1353) a ma = pce (gr A 1352 1353) b mb ↔ (ma = mb ∧ ∀ j, j < ma → gr A 1352 1353 (a + j) = gr A 1352 1353 (b + j)) := by
    refine ⟨fun e => ?_, fun ⟨e, w⟩ => by rw [← e]; exact pce_eq ma a b w⟩
    have l := congrArg List.length e
    rw [pce_len, pce_len] at l
    refine ⟨l, fun j hj => ?_⟩
    have := pce_get (gr A 1352 1353) ma a j hj
    rw [e, pce_get (gr A 1352 1353) mb b j (by omega)] at this
    exact this.symm
  have no : ∀ (t : Term) (y : Int), ¬ (pce (gr A 1352 1353) a ma = pce (gr A 1352 1353) b mb) → In3 y → wr sw_P (d + 2) sw_c399 sw_h399 (29, [.index 1290, vi xa, vi xb, vi ((a : Int) + (ma : Int) - xa), vi 0, vi y], [], h1, 0, 0) (qr (vi (@ite _ (pce (gr A 1352 1353) a ma = pce (gr A 1352 1353) b mb) (Classical.propDecidable _) 1 0)) h1) := fun t y q iy => by
    have done : qr (vi (@ite _ (pce (gr A 1352 1353) a ma = pce (gr A 1352 1353) b mb) (Classical.propDecidable _) 1 0)) h1 (.inl (some (vi 0)), h1, 0, 0) := by
      rw [if_neg q]
    exact k399_29 (fun _ => k399_95 done (c1 := .inl rfl)) (fun _ => k399_35 (fun _ => k399_95 done (c1 := .inl rfl)) (fun w => absurd rfl w) (c1 := by decide)) (c1 := iy) (c2 := by unfold In3; omega)
  refine k399_13 (fun w => k399_23 (k399_24 (no .result 0 (fun e => w ?_) (by decide)))) (fun w => k399_19 (k399_24 ?_)) (c1 := by unfold In3; omega) (c2 := by unfold In3; omega)
  · have := (yes.mp e).1
    omega
  have emm : ma = mb := by
    have := Classical.byContradiction w
    omega
  have loop : ∀ (q k : Nat), k + q = ma → (∀ j, j < k → gr A 1352 1353 (a + j) = gr A 1352 1353 (b + j)) → wr sw_P (d + 2) sw_c399 sw_h399 (29, [.index 1290, vi xa, vi xb, vi ((a : Int) + (ma : Int) - xa), vi 1, vi (k : Int)], [], h1, 0, 0) (qr (vi (@ite _ (pce (gr A 1352 1353) a ma = pce (gr A 1352 1353) b mb) (Classical.propDecidable _) 1 0)) h1) := by
    intro q
    induction q with
    | zero =>
      intro k hk w
      refine k399_29 (fun _ => k399_95 ?_ (c1 := .inr rfl)) (fun w2 => absurd (by omega) w2) (c1 := by unfold In3; omega) (c2 := by unfold In3; omega)
      rw [if_pos (yes.mpr ⟨emm, fun j hj => w j (by omega)⟩)]
    | succ q ih =>
      intro k hk w
      obtain ⟨x1, x2, x3, x4, _⟩ := rd2 C nw (show a + k < N by omega) (x := xa + (k : Int)) (by omega)
      obtain ⟨y1, y2, y3, y4, _⟩ := rd2 C nw (show b + k < N by omega) (x := xb + (k : Int)) (by omega)
      refine k399_29 (fun w2 => absurd w2 (by omega)) (fun _ => k399_35 (fun w2 => absurd w2 (by decide)) (fun _ => ?_) (c1 := by decide)) (c1 := by unfold In3; omega) (c2 := by unfold In3; omega)
      have diff : gr A 1352 1353 (a + k) ≠ gr A 1352 1353 (b + k) → wr sw_P (d + 2) sw_c399 sw_h399 (86, [.index 1290, vi xa, vi xb, vi ((a : Int) + (ma : Int) - xa), vi 1, vi (k : Int)], [], h1, 0, 0) (qr (vi (@ite _ (pce (gr A 1352 1353) a ma = pce (gr A 1352 1353) b mb) (Classical.propDecidable _) 1 0)) h1) := fun y => k399_86 (k399_87 (no .result _ (fun e => y ((yes.mp e).2 k (by omega))) (by unfold In3; omega)))
      refine k399_40 (a8 := mk 420 (A1 1352)) v.1 (Ra_nodeSort v) (fun y => diff (fun e => ?_)) (fun y => ?_) (c10 := by rw [len]; omega) (c11 := by omega) (c12 := by unfold In3; omega) (c13 := by rw [len]; omega) (c14 := by omega) (c15 := by unfold In3; omega) (c16 := by rw [x1]; unfold In3; omega) (c17 := by rw [y1]; unfold In3; omega)
      · rw [x1, y1] at y
        exact y (congrArg Prod.fst e)
      rw [x1, y1] at y
      refine k399_61 (a8 := mk 420 (A1 1353)) v.1 (Ra_nodeValue v) (fun z => diff (fun e => ?_)) (fun z => k399_82 (k399_87 ?_)) (c10 := by rw [len]; omega) (c11 := by omega) (c12 := by unfold In3; omega) (c13 := by rw [len]; omega) (c14 := by omega) (c15 := by unfold In3; omega) (c16 := by rw [x2]; unfold In3; omega) (c17 := by rw [y2]; unfold In3; omega)
      · rw [x2, y2] at z
        exact z (congrArg Prod.snd e)
      rw [x2, y2] at z
      rw [show (k : Int) + 1 = ((k + 1 : Nat) : Int) by omega]
      refine ih (k + 1) (by omega) (fun j hj => ?_)
      by_cases q : j = k
      · rw [q]
        unfold gr
        rw [Classical.byContradiction y, Classical.byContradiction z]
      · exact w j (by omega)
  exact loop ma 0 (Nat.zero_add ma) (fun j hj => absurd hj (Nat.not_lt_zero _))
end
