/-! the reference's plantsLaw -/
/-- what a law makes of a node -/
noncomputable def lawQ (g : Nat → nod) (n : Nat) (law : Int) : Option (List nod) := if law = 7 ∨ law = 9 then oneQ g n law else if law = 10 then numQ g n else if law = 8 ∧ (g n).1 = 7 then (if (g n).2 = 1 then some (trT g (n + 1)) else none) else if npa (g n).1 ≠ 2 then none else if law = 0 then (if (g n).1 = 2 ∨ (g n).1 = 4 then some (((g n).1, 0) :: (trT g (snd_ g n) ++ trT g (n + 1))) else none) else if law = 1 then (if ((g n).1 = 2 ∨ (g n).1 = 4) ∧ (g (n + 1)).1 = (g n).1 then some (((g n).1, 0) :: (trT g (n + 1 + 1) ++ (((g n).1, 0) :: (trT g (snd_ g (n + 1)) ++ trT g (snd_ g n))))) else none) else if law = 2 then (if ((g n).1 = 2 ∨ (g n).1 = 4) ∧ (g (snd_ g n)).1 = (g n).1 then some (((g n).1, 0) :: ((g n).1, 0) :: (trT g (n + 1) ++ (trT g (snd_ g n + 1) ++ trT g (snd_ g (snd_ g n))))) else none) else if law = 5 then (if (g n).1 = 3 then some ((2, 0) :: (trT g (n + 1) ++ ((6, 0) :: trT g (snd_ g n)))) else none) else if law = 6 then (if (g n).1 = 2 ∧ (g (snd_ g n)).1 = 6 then some ((3, 0) :: (trT g (n + 1) ++ trT g (snd_ g n + 1))) else none) else if law = 8 then samQ g n else morQ g n law
section
variable {d : Nat} {h1 : s_H} {s s1 : Nat → Int} {A A1 : Nat → Nat → Int} {W : List nod} {N : Nat}
theorem laQ_v {m : Nat} {o : Option (List nod)} {v : Term} {s' : Nat → Int} {A' : Nat → Nat → Int} (h : laQ s A W m o v s' A') : ∃ z : Int, (z = 0 ∨ z = 1) ∧ v = vi z := by
  obtain ⟨V, _, _, y, z⟩ := h
  cases o with
  | none => exact ⟨0, .inl rfl, z rfl⟩
  | some Q => exact ⟨1, .inr rfl, (y Q rfl).1⟩
theorem V_plantsLaw (C : ctx (gr A 1352 1353) N) (v : RV h1 s1 A1) (nw : NW s A s1 A1 W) {n m : Nat} (hm : wlk (pce (gr A 1352 1353) n m) 1 0) (nm : n + m ≤ N) (l : W.length + 2 * m + 2 ≤ 420) {law : Int} (hl : 0 ≤ law ∧ law ≤ 11) : wm sw_P (d + 5) 552 [.index 1290, vi (n : Int), vi law] h1 (RA h1 (laQ s A W m (lawQ (gr A 1352 1353) n law))) := by
  refine wm_in (cd := sw_c552) (nL := 8) (hd := sw_h552) rfl rfl ?_
  have n200 := C.2.2
  have len : ∀ g : Nat → Int, (mk 420 g).length = 420 := fun g => mk_len _ _
  have m1 := wlk_ne hm
  rw [pce_len] at m1
  obtain ⟨x1, x2, x3, x4, x5⟩ := rd2 C nw (show n < N by omega) rfl
  have p := npa_s x3
  have il : In3 law := by unfold In3; omega
  have iso : In3 (A 1352 n) := by unfold In3; omega
  obtain ⟨o, eo⟩ : ∃ o, lawQ (gr A 1352 1353) n law = o := ⟨_, rfl⟩
  rw [eo]
  unfold lawQ at eo
  have done : ∀ {v2 : Term} {h2 : s_H} {s2 : Nat → Int} {A2 : Nat → Nat → Int}, RV h2 s2 A2 → FR h1 h2 → laQ s A W m o v2 s2 A2 → RA h1 (laQ s A W m o) (.inl (some v2), h2, 0, 0) := fun {v2 h2 s2 A2} y1 y2 y3 => ⟨_, _, _, _, y1, y2, y3, rfl⟩
  have some_ : ∀ {h2 : s_H} {s2 : Nat → Int} {A2 : Nat → Nat → Int} {Q V : List nod}, RV h2 s2 A2 → FR h1 h2 → NW s A s2 A2 V → V = W ++ Q → Q.length ≤ 2 * m + 2 → o = some Q → RA h1 (laQ s A W m o) (.inl (some (vi 1)), h2, 0, 0) := fun {h2 s2 A2 Q V} v2 r2 n2 eV lq e => ⟨_, _, _, _, v2, r2, ⟨V, n2, by rw [eV, List.length_append]; omega, fun Q' hQ => (by rw [e] at hQ; exact ⟨rfl, by rw [eV, Option.some.inj hQ]⟩), fun q => (by rw [e] at q; cases q)⟩, rfl⟩
  have none_ : ∀ {h2 : s_H} {s2 : Nat → Int} {A2 : Nat → Nat → Int} {V : List nod}, RV h2 s2 A2 → FR h1 h2 → NW s A s2 A2 V → V.length ≤ W.length + 2 * m + 2 → o = none → RA h1 (laQ s A W m o) (.inl (some (vi 0)), h2, 0, 0) := fun {h2 s2 A2 V} v2 r2 n2 lV e => ⟨_, _, _, _, v2, r2, ⟨V, n2, lV, fun Q hQ => (by rw [e] at hQ; cases hQ), fun _ => rfl⟩, rfl⟩
  have at19 : (law = 7 ∨ law = 9) → wr sw_P (d + 4) sw_c552 sw_h552 (19, [.index 1290, vi (n : Int), vi law, vi (A 1352 n), .result, .result, .result, .result], [], h1, 0, 0) (RA h1 (laQ s A W m o)) := fun q => by
    rw [if_pos q] at eo
    refine k552_19 v.1 (wm_mono (wq_A (fun v2 h2 s2 A2 w2 r2 φ => ?_)) (V_plantsOne C v nw hm nm l q))
    rw [eo] at φ
    obtain ⟨z, hz, ez⟩ := laQ_v φ
    subst ez
    exact k552_26 (done w2 r2 φ) (c1 := hz)
  refine k552_0 (a8 := mk 420 (A1 1352)) v.1 (Ra_nodeSort v) (fun q => ?_) (fun q7 => ?_) (c10 := by rw [len]; omega) (c11 := by omega) (c12 := by unfold In3; omega) (c13 := il)
  · rw [x1]
    exact at19 (.inl q)
  rw [x1]
  refine k552_13 (fun q9 => ?_) (fun q9 => at19 (.inr (Classical.byContradiction q9))) (c1 := il)
  rw [if_neg (fun y => y.elim q7 q9)] at eo
  refine k552_27 (fun q10 => ?_) (fun q10 => ?_) (c1 := il)
  rotate_left
  · rw [if_pos (Classical.byContradiction q10)] at eo
    refine k552_33 v.1 (wm_mono (wq_A (fun v2 h2 s2 A2 w2 r2 φ => ?_)) (V_plantsNumber C v nw hm nm (by omega)))
    rw [eo] at φ
    obtain ⟨z, hz, ez⟩ := laQ_v φ
    subst ez
    exact k552_39 (done w2 r2 φ) (c1 := hz)
  rw [if_neg q10] at eo
  have at80 : ¬ (law = 8 ∧ A 1352 n = 7) → wr sw_P (d + 4) sw_c552 sw_h552 (80, [.index 1290, vi (n : Int), vi law, vi (A 1352 n), .result, .result, .result, .result], [], h1, 0, 0) (RA h1 (laQ s A W m o)) := fun q87 => by
    rw [if_neg (show ¬ (law = 8 ∧ (gr A 1352 1353 n).1 = 7) from q87)] at eo
    refine k552_80 (wm_mono (wq_r ?_) (V_partsOf iso))
    refine k552_84 (fun w2 => ?_) (fun w2 => k552_88 (none_ v (FR_refl h1) nw (by omega) ?_)) (c1 := by have := npa_b (A 1352 n); unfold In3; omega)
    rotate_left
    · rw [if_pos (show npa (gr A 1352 1353 n).1 ≠ 2 from fun y => w2 (by rw [show npa (A 1352 n) = 2 from y]; decide))] at eo
      exact eo.symm
    have n2 : npa (A 1352 n) = 2 := by have := npa_b (A 1352 n); omega
    rw [if_neg (show ¬ npa (gr A 1352 1353 n).1 ≠ 2 from fun y => y n2)] at eo
    obtain ⟨ma, mb, em, hma, hmb⟩ := sub_2 hm (show npa (gr A 1352 1353 n).1 = 2 from n2)
    have a1 := wlk_ne hma
    rw [pce_len] at a1
    have b1 := wlk_ne hmb
    rw [pce_len] at b1
    obtain ⟨y1, y2, y3, y4, _⟩ := rd2 C nw (show n + 1 < N by omega) (x := (n : Int) + 1) (by omega)
    obtain ⟨z1, z2, z3, z4, _⟩ := rd2 C nw (show n + 1 + ma < N by omega) (x := ((n + 1 : Nat) : Int) + (ma : Int)) (by omega)
    have isa : In3 (A 1352 (n + 1)) := by unfold In3; omega
    have isb' : In3 (A 1352 (n + 1 + ma)) := by unfold In3; omega
    obtain ⟨so, eso⟩ : ∃ so, A 1352 n = so := ⟨_, rfl⟩
    have eso' : (gr A 1352 1353 n).1 = so := eso
    rw [eso', snd_eq hma, trT_eq hma, trT_eq hmb] at eo
    rw [show (gr A 1352 1353 (n + 1)).1 = A 1352 (n + 1) from rfl, show (gr A 1352 1353 (n + 1 + ma)).1 = A 1352 (n + 1 + ma) from rfl] at eo
    refine k552_90 v.1 (wm_mono (wq_r ?_) (V_beh C v nw hma (by omega) (by omega)))
    refine k552_101 v.1 (wm_mono (wq_r ?_) (V_beh C v nw (k := n + 1 + ma) hmb (by omega) (by omega)))
    rw [eso] at iso n2 ⊢
    obtain ⟨ch, ech⟩ : ∃ ch : Int, (if so = 2 ∨ so = 4 then 1 else 0) = ch := ⟨_, rfl⟩
    have hch : ch = 0 ∨ ch = 1 := by rw [← ech]; split <;> omega
    have ch1 : (so = 2 ∨ so = 4) ↔ ch = 1 := by
      by_cases w : so = 2 ∨ so = 4
      · rw [if_pos w] at ech
        exact ⟨fun _ => ech.symm, fun _ => w⟩
      · rw [if_neg w] at ech
        exact ⟨fun y => absurd y w, fun y => absurd (ech.trans y) (by decide)⟩
    have ich : In3 ch := by unfold In3; omega
    have at126 : wr sw_P (d + 4) sw_c552 sw_h552 (126, [.index 1290, vi (n : Int), vi law, vi so, vi ((n : Int) + 1), vi (((n + 1 : Nat) : Int) + (ma : Int)), vi (((n + 1 + ma : Nat) : Int) + (mb : Int)), .result], [vi ch], h1, 0, 0) (RA h1 (laQ s A W m o)) := by
      refine k552_126 il ?_
      by_cases l0 : law = 0
      · rw [if_pos l0]
        rw [if_pos l0] at eo

        refine k552_180 v.1 (wm_mono (wq_N (fun h2 s2 A2 v2 r2 n2 => ?_)) (V_plant v nw (by first | omega | (simp only [List.length_append, List.length_cons, List.length_nil, pce_len]; omega))))
        refine k552_186 v2.1 (wm_mono (wq_N (fun h3 s3 A3 v3 r3 n3 => ?_)) (V_pp C v2 n2 (a := n + 1 + ma) (m := mb) (by omega) (by first | omega | (simp only [List.length_append, List.length_cons, List.length_nil, pce_len]; omega)) (by omega) (by omega)))
        refine k552_194 v3.1 (wm_mono (wq_N (fun h4 s4 A4 v4 r4 n4 => ?_)) (V_pp C v3 n3 (a := n + 1) (m := ma) (by omega) (by first | omega | (simp only [List.length_append, List.length_cons, List.length_nil, pce_len]; omega)) (by omega) (by omega)))
        refine k552_202 ?_ (c1 := hch)
        rcases hch with q | q
        · subst q
          rw [if_neg (fun y => absurd (ch1.mp y) (by decide))] at eo
          exact none_ v4 (FR_trans r2 (FR_trans r3 r4)) n4 (by first | omega | (simp only [List.length_append, List.length_cons, List.length_nil, pce_len]; omega)) eo.symm
        · subst q
          rw [if_pos (ch1.mpr rfl)] at eo
          exact some_ v4 (FR_trans r2 (FR_trans r3 r4)) n4 (by simp only [List.append_assoc, List.cons_append, List.nil_append]) (by first | omega | (simp only [List.length_append, List.length_cons, List.length_nil, pce_len]; omega)) eo.symm
      rw [if_neg l0]
      rw [if_neg l0] at eo
      by_cases l1 : law = 1
      · rw [if_pos l1]
        rw [if_pos l1] at eo
        have bad : ¬ ((so = 2 ∨ so = 4) ∧ A 1352 (n + 1) = so) → wr sw_P (d + 4) sw_c552 sw_h552 (221, [.index 1290, vi (n : Int), vi law, vi so, vi ((n : Int) + 1), vi (((n + 1 : Nat) : Int) + (ma : Int)), vi (((n + 1 + ma : Nat) : Int) + (mb : Int)), vi ch], [], h1, 0, 0) (RA h1 (laQ s A W m o)) := fun q => by
          rw [if_neg q] at eo
          exact k552_221 (none_ v (FR_refl h1) nw (by omega) eo.symm)
        refine k552_205 (fun w => bad (fun y => by have := ch1.mp y.1; omega)) (fun w => ?_) (c1 := ich)
        refine k552_210 (a8 := mk 420 (A1 1352)) v.1 (Ra_nodeSort v) (fun w2 => ?_) (fun w2 => bad (fun y => w2 (by rw [y1]; exact y.2))) (c10 := by rw [len]; omega) (c11 := by omega) (c12 := by unfold In3; omega) (c13 := by rw [y1]; exact isa) (c14 := iso)
        rw [y1] at w2
        have q24 := ch1.mpr (by omega)
        obtain ⟨ma1, ma2, ema, ha1, ha2⟩ := sub_2 hma (show npa (A 1352 (n + 1)) = 2 by rw [w2]; exact n2)
        rw [if_pos ⟨q24, w2⟩, snd_eq ha1, trT_eq ha1, trT_eq ha2] at eo
        have ec : pce (gr A 1352 1353) (n + 1 + 1 + ma1) ma2 ++ pce (gr A 1352 1353) (n + 1 + ma) mb = pce (gr A 1352 1353) (n + 1 + 1 + ma1) (ma2 + mb) := by
          rw [pce_app, show n + 1 + 1 + ma1 + ma2 = n + 1 + ma by omega]
        rw [ec] at eo

        refine k552_223 v.1 (wm_mono (wq_N (fun h2 s2 A2 v2 r2 n2 => ?_)) (V_plant v nw (by first | omega | (simp only [List.length_append, List.length_cons, List.length_nil, pce_len]; omega))))
        refine k552_229 v2.1 (wm_mono (wq_r ?_) (V_beh C v2 n2 ha1 (by omega) (by omega)))
        refine k552_242 v2.1 (wm_mono (wq_N (fun h3 s3 A3 v3 r3 n3 => ?_)) (V_pp C v2 n2 (a := n + 1 + 1) (m := ma1) (by omega) (by first | omega | (simp only [List.length_append, List.length_cons, List.length_nil, pce_len]; omega)) (by omega) (by omega)))
        refine k552_245 v3.1 (wm_mono (wq_N (fun h4 s4 A4 v4 r4 n4 => ?_)) (V_plant v3 n3 (by first | omega | (simp only [List.length_append, List.length_cons, List.length_nil, pce_len]; omega))))
        refine k552_251 v4.1 (wm_mono (wq_r ?_) (V_beh C v4 n4 ha1 (by omega) (by omega)))
        refine k552_260 v4.1 (wm_mono (wq_N (fun h5 s5 A5 v5 r5 n5 => ?_)) (V_pp C v4 n4 (a := n + 1 + 1 + ma1) (m := (ma2 + mb)) (by omega) (by first | omega | (simp only [List.length_append, List.length_cons, List.length_nil, pce_len]; omega)) (by omega) (by omega)))
        exact k552_265 (some_ v5 (FR_trans r2 (FR_trans r3 (FR_trans r4 r5))) n5 (by simp only [List.append_assoc, List.cons_append, List.nil_append]) (by first | omega | (simp only [List.length_append, List.length_cons, List.length_nil, pce_len]; omega)) eo.symm)
      rw [if_neg l1]
      rw [if_neg l1] at eo
      by_cases l2 : law = 2
      · rw [if_pos l2]
        rw [if_pos l2] at eo
        have bad : ¬ ((so = 2 ∨ so = 4) ∧ A 1352 (n + 1 + ma) = so) → wr sw_P (d + 4) sw_c552 sw_h552 (283, [.index 1290, vi (n : Int), vi law, vi so, vi ((n : Int) + 1), vi (((n + 1 : Nat) : Int) + (ma : Int)), vi (((n + 1 + ma : Nat) : Int) + (mb : Int)), vi ch], [], h1, 0, 0) (RA h1 (laQ s A W m o)) := fun q => by
          rw [if_neg q] at eo
          exact k552_283 (none_ v (FR_refl h1) nw (by omega) eo.symm)
        refine k552_267 (fun w => bad (fun y => by have := ch1.mp y.1; omega)) (fun w => ?_) (c1 := ich)
        refine k552_272 (a8 := mk 420 (A1 1352)) v.1 (Ra_nodeSort v) (fun w2 => ?_) (fun w2 => bad (fun y => w2 (by rw [z1]; exact y.2))) (c10 := by rw [len]; omega) (c11 := by omega) (c12 := by unfold In3; omega) (c13 := by rw [z1]; exact isb') (c14 := iso)
        rw [z1] at w2
        have q24 := ch1.mpr (by omega)
        obtain ⟨mb1, mb2, emb, hb1, hb2⟩ := sub_2 hmb (show npa (A 1352 (n + 1 + ma)) = 2 by rw [w2]; exact n2)
        rw [if_pos ⟨q24, w2⟩, snd_eq hb1, trT_eq hb1, trT_eq hb2] at eo
        have ec : pce (gr A 1352 1353) (n + 1 + ma + 1) mb1 ++ pce (gr A 1352 1353) (n + 1 + ma + 1 + mb1) mb2 = pce (gr A 1352 1353) (n + 1 + ma + 1) (mb1 + mb2) := by
          rw [pce_app]
        rw [ec] at eo

        refine k552_285 v.1 (wm_mono (wq_N (fun h2 s2 A2 v2 r2 n2 => ?_)) (V_plant v nw (by first | omega | (simp only [List.length_append, List.length_cons, List.length_nil, pce_len]; omega))))
        refine k552_291 v2.1 (wm_mono (wq_N (fun h3 s3 A3 v3 r3 n3 => ?_)) (V_plant v2 n2 (by first | omega | (simp only [List.length_append, List.length_cons, List.length_nil, pce_len]; omega))))
        refine k552_297 v3.1 (wm_mono (wq_N (fun h4 s4 A4 v4 r4 n4 => ?_)) (V_pp C v3 n3 (a := n + 1) (m := ma) (by omega) (by first | omega | (simp only [List.length_append, List.length_cons, List.length_nil, pce_len]; omega)) (by omega) (by omega)))
        refine k552_305 v4.1 (wm_mono (wq_N (fun h5 s5 A5 v5 r5 n5 => ?_)) (V_pp C v4 n4 (a := n + 1 + ma + 1) (m := (mb1 + mb2)) (by omega) (by first | omega | (simp only [List.length_append, List.length_cons, List.length_nil, pce_len]; omega)) (by omega) (by omega)))
        exact k552_315 (some_ v5 (FR_trans r2 (FR_trans r3 (FR_trans r4 r5))) n5 (by simp only [List.append_assoc, List.cons_append, List.nil_append]) (by first | omega | (simp only [List.length_append, List.length_cons, List.length_nil, pce_len]; omega)) eo.symm)
      rw [if_neg l2]
      rw [if_neg l2] at eo
      by_cases l5 : law = 5
      · rw [if_pos l5]
        rw [if_pos l5] at eo

        refine k552_317 v.1 (wm_mono (wq_N (fun h2 s2 A2 v2 r2 n2 => ?_)) (V_plant v nw (by first | omega | (simp only [List.length_append, List.length_cons, List.length_nil, pce_len]; omega))))
        refine k552_323 v2.1 (wm_mono (wq_N (fun h3 s3 A3 v3 r3 n3 => ?_)) (V_pp C v2 n2 (a := n + 1) (m := ma) (by omega) (by first | omega | (simp only [List.length_append, List.length_cons, List.length_nil, pce_len]; omega)) (by omega) (by omega)))
        refine k552_331 v3.1 (wm_mono (wq_N (fun h4 s4 A4 v4 r4 n4 => ?_)) (V_plant v3 n3 (by first | omega | (simp only [List.length_append, List.length_cons, List.length_nil, pce_len]; omega))))
        refine k552_338 v4.1 (wm_mono (wq_N (fun h5 s5 A5 v5 r5 n5 => ?_)) (V_pp C v4 n4 (a := n + 1 + ma) (m := mb) (by omega) (by first | omega | (simp only [List.length_append, List.length_cons, List.length_nil, pce_len]; omega)) (by omega) (by omega)))
        refine k552_346 (fun w => k552_355 (k552_356 ?_ (c1 := .inl rfl))) (fun w => k552_351 (k552_356 ?_ (c1 := .inr rfl))) (c1 := iso)
        · rw [if_neg w] at eo
          exact none_ v5 (FR_trans r2 (FR_trans r3 (FR_trans r4 r5))) n5 (by first | omega | (simp only [List.length_append, List.length_cons, List.length_nil, pce_len]; omega)) eo.symm
        · rw [if_pos (Classical.byContradiction w)] at eo
          exact some_ v5 (FR_trans r2 (FR_trans r3 (FR_trans r4 r5))) n5 (by simp only [List.append_assoc, List.cons_append, List.nil_append]) (by first | omega | (simp only [List.length_append, List.length_cons, List.length_nil, pce_len]; omega)) eo.symm
      rw [if_neg l5]
      rw [if_neg l5] at eo
      by_cases l6 : law = 6
      · rw [if_pos l6]
        rw [if_pos l6] at eo
        obtain ⟨mt, emt⟩ : ∃ mt, mb = 1 + mt := ⟨mb - 1, by omega⟩

        refine k552_357 v.1 (wm_mono (wq_N (fun h2 s2 A2 v2 r2 n2 => ?_)) (V_plant v nw (by first | omega | (simp only [List.length_append, List.length_cons, List.length_nil, pce_len]; omega))))
        refine k552_363 v2.1 (wm_mono (wq_N (fun h3 s3 A3 v3 r3 n3 => ?_)) (V_pp C v2 n2 (a := n + 1) (m := ma) (by omega) (by first | omega | (simp only [List.length_append, List.length_cons, List.length_nil, pce_len]; omega)) (by omega) (by omega)))
        refine k552_371 v3.1 (wm_mono (wq_N (fun h4 s4 A4 v4 r4 n4 => ?_)) (V_pp C v3 n3 (a := n + 1 + ma + 1) (m := mt) (by omega) (by first | omega | (simp only [List.length_append, List.length_cons, List.length_nil, pce_len]; omega)) (by omega) (by omega)))
        obtain ⟨u1, _⟩ := rd2 C n4 (show n + 1 + ma < N by omega) (x := ((n + 1 : Nat) : Int) + (ma : Int)) (by omega)
        have bad : ¬ (so = 2 ∧ A 1352 (n + 1 + ma) = 6) → RA h1 (laQ s A W m o) (.inl (some (vi 0)), _, 0, 0) := fun q => by
          rw [if_neg q] at eo
          exact none_ v4 (FR_trans r2 (FR_trans r3 r4)) n4 (by first | omega | (simp only [List.length_append, List.length_cons, List.length_nil, pce_len]; omega)) eo.symm
        refine k552_381 (fun w => k552_402 (k552_403 (bad (fun y => w y.1)) (c1 := .inl rfl))) (fun w => ?_) (c1 := iso)
        refine k552_386 (a8 := mk 420 (A4 1352)) v4.1 (Ra_nodeSort v4) (fun w2 => k552_402 (k552_403 (bad (fun y => w2 (by rw [u1]; exact y.2))) (c1 := .inl rfl))) (fun w2 => k552_398 (k552_403 ?_ (c1 := .inr rfl))) (c10 := by rw [len]; omega) (c11 := by omega) (c12 := by unfold In3; omega) (c13 := by rw [u1]; exact isb')
        rw [u1] at w2
        have w6 : A 1352 (n + 1 + ma) = 6 := Classical.byContradiction w2
        obtain ⟨mt', emt', ht⟩ := sub_1 hmb (show npa (A 1352 (n + 1 + ma)) = 1 by rw [w6]; rfl)
        have e1 : mt' = mt := by omega
        subst e1
        rw [if_pos ⟨Classical.byContradiction w, w6⟩, trT_eq ht] at eo
        exact some_ v4 (FR_trans r2 (FR_trans r3 r4)) n4 (by simp only [List.append_assoc, List.cons_append, List.nil_append]) (by first | omega | (simp only [List.length_append, List.length_cons, List.length_nil, pce_len]; omega)) eo.symm
      rw [if_neg l6]
      rw [if_neg l6] at eo
      by_cases l8 : law = 8
      · rw [if_pos l8]
        rw [if_pos l8] at eo
        have z := V_plantsSame (d := d + 1) C v nw hma hmb (by omega) (by omega) (xa := (n : Int) + 1) (xb := ((n + 1 : Nat) : Int) + (ma : Int)) (xe := ((n + 1 + ma : Nat) : Int) + (mb : Int)) (by omega) (by omega) (by omega)
        rw [eso, eo, ← em] at z
        refine k552_404 v.1 (wm_mono (wq_A (fun v2 h2 s2 A2 w2 r2 φ => ?_)) z)
        obtain ⟨z, hz, ez⟩ := laQ_v φ
        subst ez
        exact k552_415 (done w2 r2 φ) (c1 := hz)
      rw [if_neg l8]
      rw [if_neg l8] at eo
      have z := V_plantsMore (d := d) C v nw hma hmb (by omega) (by omega) hl (xa := (n : Int) + 1) (xb := ((n + 1 : Nat) : Int) + (ma : Int)) (xe := ((n + 1 + ma : Nat) : Int) + (mb : Int)) (by omega) (by omega) (by omega)
      rw [eso, eo, ← em] at z
      refine k552_416 v.1 (wm_mono (wq_A (fun v2 h2 s2 A2 w2 r2 φ => ?_)) z)
      obtain ⟨z, hz, ez⟩ := laQ_v φ
      subst ez
      exact k552_428 (done w2 r2 φ) (c1 := hz)
    refine k552_109 (fun w => k552_121 ?_) (fun w => k552_116 (fun w2 => k552_125 ?_) (fun w2 => k552_121 ?_) (c1 := iso)) (c1 := iso)
    · rw [if_pos (.inl w)] at ech
      have y := at126
      rw [← ech] at y
      exact y
    · rw [if_neg (fun y => y.elim w w2)] at ech
      have y := at126
      rw [← ech] at y
      exact y
    · rw [if_pos (.inr (Classical.byContradiction w2))] at ech
      have y := at126
      rw [← ech] at y
      exact y
  refine k552_40 (fun q8 => at80 (fun y => q8 y.1)) (fun q8 => ?_) (c1 := il)
  have l8 : law = 8 := Classical.byContradiction q8
  refine k552_46 (fun q => at80 (fun y => q y.2)) (fun q => ?_) (c1 := iso)
  have s7 : A 1352 n = 7 := Classical.byContradiction q
  obtain ⟨ma, em, hma⟩ := sub_1 hm (show npa (A 1352 n) = 1 from p.2.1 (.inr s7))
  rw [if_pos (show law = 8 ∧ (gr A 1352 1353 n).1 = 7 from ⟨l8, s7⟩), trT_eq hma, show (gr A 1352 1353 n).2 = A 1353 n from rfl] at eo
  refine k552_52 v.1 (wm_mono (wq_r ?_) (V_beh C v nw hm nm rfl))
  refine k552_61 v.1 (wm_mono (wq_N (fun h2 s2 A2 v2 r2 n2 => ?_)) (V_pp C v nw (a := n + 1) (m := ma) (by omega) (by omega) (by omega) (by omega)))
  obtain ⟨_, u2, _⟩ := rd2 C n2 (show n < N by omega) rfl
  refine k552_64 (a8 := mk 420 (A2 1353)) v2.1 (Ra_nodeValue v2) (fun w => k552_78 (k552_79 ?_ (c1 := .inl rfl))) (fun w => k552_74 (k552_79 ?_ (c1 := .inr rfl))) (c10 := by rw [len]; omega) (c11 := by omega) (c12 := by unfold In3; omega) (c13 := by rw [u2]; unfold In3; omega)
  · rw [u2] at w
    rw [if_neg w] at eo
    exact none_ v2 r2 n2 (by rw [List.length_append, pce_len]; omega) eo.symm
  · rw [u2] at w
    rw [if_pos (Classical.byContradiction w)] at eo
    exact some_ v2 r2 n2 rfl (by rw [pce_len]; omega) eo.symm
end
