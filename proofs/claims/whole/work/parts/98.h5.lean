/-! the reference's plantsMore -/
/-- laws 3, 4 and 11 -/
noncomputable def morQ (g : Nat → nod) (n : Nat) (law : Int) : Option (List nod) := if law = 3 then (if (g n).1 = 4 ∧ ((g (snd_ g n)).1 = 2 ∨ (g (snd_ g n)).1 = 3) then some (((g (snd_ g n)).1, 0) :: (4, 0) :: (trT g (n + 1) ++ (trT g (snd_ g n + 1) ++ ((4, 0) :: (trT g (n + 1) ++ trT g (snd_ g (snd_ g n))))))) else none) else if law = 4 then (if ((g n).1 = 2 ∨ (g n).1 = 3) ∧ (g (n + 1)).1 = 4 ∧ (g (snd_ g n)).1 = 4 ∧ trT g (n + 1 + 1) = trT g (snd_ g n + 1) then some ((4, 0) :: (trT g (n + 1 + 1) ++ (((g n).1, 0) :: (trT g (snd_ g (n + 1)) ++ trT g (snd_ g (snd_ g n)))))) else none) else if ((g n).1 = 4 ∨ (g n).1 = 5) ∧ (g (n + 1)).1 = 5 then some ((5, 0) :: (if (g n).1 = 4 then (4, 0) :: (trT g (n + 1 + 1) ++ (trT g (snd_ g n) ++ trT g (snd_ g (n + 1)))) else trT g (n + 1 + 1) ++ ((4, 0) :: (trT g (snd_ g (n + 1)) ++ trT g (snd_ g n))))) else none
theorem npa_2 {x : Int} (h : x = 2 ∨ x = 3 ∨ x = 4 ∨ x = 5) : npa x = 2 := by
  unfold npa
  rw [if_neg (by omega), if_neg (by omega)]
section
variable {d : Nat} {h1 : s_H} {s s1 : Nat → Int} {A A1 : Nat → Nat → Int} {W : List nod} {N : Nat}
theorem V_plantsMore (C : ctx (gr A 1352 1353) N) (v : RV h1 s1 A1) (nw : NW s A s1 A1 W) {n ma mb : Nat} (hma : wlk (pce (gr A 1352 1353) (n + 1) ma) 1 0) (hmb : wlk (pce (gr A 1352 1353) (n + 1 + ma) mb) 1 0) (nm : n + 1 + ma + mb ≤ N) (l : W.length + 2 * (ma + mb) + 4 ≤ 420) {law : Int} (hl : 0 ≤ law ∧ law ≤ 11) {xa xb xe : Int} (ea : xa = ((n + 1 : Nat) : Int)) (eb : xb = ((n + 1 + ma : Nat) : Int)) (ee : xe = ((n + 1 + ma + mb : Nat) : Int)) : wm sw_P (d + 4) 553 [.index 1290, vi (A 1352 n), vi law, vi xa, vi xb, vi xe] h1 (RA h1 (laQ s A W (1 + ma + mb) (morQ (gr A 1352 1353) n law))) := by
  refine wm_in (cd := sw_c553) (nL := 8) (hd := sw_h553) rfl rfl ?_
  have n200 := C.2.2
  have len : ∀ g : Nat → Int, (mk 420 g).length = 420 := fun g => mk_len _ _
  have a1 := wlk_ne hma
  rw [pce_len] at a1
  have b1 := wlk_ne hmb
  rw [pce_len] at b1
  obtain ⟨x1, x2, x3, x4, x5⟩ := rd2 C nw (show n < N by omega) rfl
  obtain ⟨y1, y2, y3, y4, _⟩ := rd2 C nw (show n + 1 < N by omega) ea
  obtain ⟨z1, z2, z3, z4, _⟩ := rd2 C nw (show n + 1 + ma < N by omega) eb
  obtain ⟨so, eso⟩ : ∃ so, A 1352 n = so := ⟨_, rfl⟩
  obtain ⟨sa, esa⟩ : ∃ sa, A 1352 (n + 1) = sa := ⟨_, rfl⟩
  obtain ⟨sb, esb⟩ : ∃ sb, A 1352 (n + 1 + ma) = sb := ⟨_, rfl⟩
  rw [eso] at x3 ⊢
  rw [esa] at y1 y3
  rw [esb] at z1 z3
  have iso : In3 so := by unfold In3; omega
  have isa : In3 sa := by unfold In3; omega
  have isb' : In3 sb := by unfold In3; omega
  have il : In3 law := by unfold In3; omega
  obtain ⟨o, eo⟩ : ∃ o, morQ (gr A 1352 1353) n law = o := ⟨_, rfl⟩
  rw [eo]
  unfold morQ at eo
  rw [snd_eq hma, show (gr A 1352 1353 n).1 = so from eso, show (gr A 1352 1353 (n + 1)).1 = sa from esa, show (gr A 1352 1353 (n + 1 + ma)).1 = sb from esb, trT_eq hma, trT_eq hmb] at eo
  have none_ : o = none → RA h1 (laQ s A W (1 + ma + mb) o) (.inl (some (vi 0)), h1, 0, 0) := fun e => ⟨_, _, _, _, v, FR_refl h1, ⟨W, nw, by omega, fun Q hQ => (by rw [e] at hQ; cases hQ), fun _ => rfl⟩, rfl⟩
  have some_ : ∀ {h2 : s_H} {s2 : Nat → Int} {A2 : Nat → Nat → Int} {Q V : List nod}, RV h2 s2 A2 → FR h1 h2 → NW s A s2 A2 V → V = W ++ Q → Q.length ≤ 2 * (1 + ma + mb) + 2 → o = some Q → RA h1 (laQ s A W (1 + ma + mb) o) (.inl (some (vi 1)), h2, 0, 0) := fun {h2 s2 A2 Q V} v2 r2 n2 eV lq e => ⟨_, _, _, _, v2, r2, ⟨V, n2, by rw [eV, List.length_append]; omega, fun Q' hQ => (by rw [e] at hQ; exact ⟨rfl, by rw [eV, Option.some.inj hQ]⟩), fun q => (by rw [e] at q; cases q)⟩, rfl⟩
  refine k553_0 (fun w3 => ?_) (fun w3 => ?_) (c1 := il)
  rotate_left
  · -- law 3
    rw [if_pos (Classical.byContradiction w3)] at eo
    have bad : ¬ (so = 4 ∧ (sb = 2 ∨ sb = 3)) → o = none := fun q => by
      rw [if_neg q] at eo
      exact eo.symm
    have good : (so = 4 ∧ (sb = 2 ∨ sb = 3)) → wr sw_P (d + 3) sw_c553 sw_h553 (33, [.index 1290, vi so, vi law, vi xa, vi xb, vi xe, vi sb, .result], [], h1, 0, 0) (RA h1 (laQ s A W (1 + ma + mb) o)) := fun q => by
      obtain ⟨mb1, mb2, em, hb1, hb2⟩ := sub_2 hmb (by show npa (A 1352 (n + 1 + ma)) = 2; rw [esb]; exact npa_2 (by omega))
      rw [if_pos q, snd_eq hb1, trT_eq hb1, trT_eq hb2] at eo

      refine k553_33 v.1 (wm_mono (wq_r ?_) (V_beh C v nw hb1 (by omega) (by omega)))
      refine k553_41 v.1 (wm_mono (wq_N (fun h2 s2 A2 v2 r2 n2 => ?_)) (V_plant v nw (by first | omega | (simp only [List.length_append, List.length_cons, List.length_nil, pce_len]; omega))))
      refine k553_50 v2.1 (wm_mono (wq_N (fun h3 s3 A3 v3 r3 n3 => ?_)) (V_plant v2 n2 (by first | omega | (simp only [List.length_append, List.length_cons, List.length_nil, pce_len]; omega))))
      refine k553_56 v3.1 (wm_mono (wq_N (fun h4 s4 A4 v4 r4 n4 => ?_)) (V_pp C v3 n3 (a := n + 1) (m := ma) (by omega) (by first | omega | (simp only [List.length_append, List.length_cons, List.length_nil, pce_len]; omega)) (by omega) (by omega)))
      refine k553_63 v4.1 (wm_mono (wq_N (fun h5 s5 A5 v5 r5 n5 => ?_)) (V_pp C v4 n4 (a := n + 1 + ma + 1) (m := mb1) (by omega) (by first | omega | (simp only [List.length_append, List.length_cons, List.length_nil, pce_len]; omega)) (by omega) (by omega)))
      refine k553_73 v5.1 (wm_mono (wq_N (fun h6 s6 A6 v6 r6 n6 => ?_)) (V_plant v5 n5 (by first | omega | (simp only [List.length_append, List.length_cons, List.length_nil, pce_len]; omega))))
      refine k553_79 v6.1 (wm_mono (wq_N (fun h7 s7 A7 v7 r7 n7 => ?_)) (V_pp C v6 n6 (a := n + 1) (m := ma) (by omega) (by first | omega | (simp only [List.length_append, List.length_cons, List.length_nil, pce_len]; omega)) (by omega) (by omega)))
      refine k553_86 v7.1 (wm_mono (wq_N (fun h8 s8 A8 v8 r8 n8 => ?_)) (V_pp C v7 n7 (a := n + 1 + ma + 1 + mb1) (m := mb2) (by omega) (by first | omega | (simp only [List.length_append, List.length_cons, List.length_nil, pce_len]; omega)) (by omega) (by omega)))
      exact k553_94 (some_ v8 (FR_trans r2 (FR_trans r3 (FR_trans r4 (FR_trans r5 (FR_trans r6 (FR_trans r7 r8)))))) n8 (by simp only [List.append_assoc, List.cons_append, List.nil_append]) (by first | omega | (simp only [List.length_append, List.length_cons, List.length_nil, pce_len]; omega)) eo.symm)
    refine k553_5 (a8 := mk 420 (A1 1352)) v.1 (Ra_nodeSort v) (fun w => k553_31 (none_ (bad (fun y => w y.1)))) (fun w => ?_) (c10 := by rw [len]; omega) (c11 := by omega) (c12 := by unfold In3; omega) (c13 := iso)
    have q4 : so = 4 := Classical.byContradiction w
    rw [z1]
    exact k553_19 (fun q2 => good ⟨q4, .inl q2⟩) (fun q2 => k553_25 (fun q3 => good ⟨q4, .inr q3⟩) (fun q3 => k553_31 (none_ (bad (fun y => y.2.elim q2 q3)))) (c1 := isb')) (c1 := isb')
  rw [if_neg w3] at eo
  refine k553_96 (fun w4 => ?_) (fun w4 => ?_) (c1 := il)
  rotate_left
  · -- law 4
    rw [if_pos (Classical.byContradiction w4)] at eo
    have bad : ¬ ((so = 2 ∨ so = 3) ∧ sa = 4 ∧ sb = 4 ∧ trT (gr A 1352 1353) (n + 1 + 1) = trT (gr A 1352 1353) (n + 1 + ma + 1)) → wr sw_P (d + 3) sw_c553 sw_h553 (146, [.index 1290, vi so, vi law, vi xa, vi xb, vi xe, .result, .result], [], h1, 0, 0) (RA h1 (laQ s A W (1 + ma + mb) o)) := fun q => by
      rw [if_neg q] at eo
      exact k553_146 (none_ eo.symm)
    have at111 : (so = 2 ∨ so = 3) → wr sw_P (d + 3) sw_c553 sw_h553 (111, [.index 1290, vi so, vi law, vi xa, vi xb, vi xe, .result, .result], [], h1, 0, 0) (RA h1 (laQ s A W (1 + ma + mb) o)) := fun q => by
      refine k553_111 (a8 := mk 420 (A1 1352)) v.1 (Ra_nodeSort v) (fun w => bad (fun y => w (by rw [y1]; exact y.2.1))) (fun w => ?_) (c10 := by rw [len]; omega) (c11 := by omega) (c12 := by unfold In3; omega) (c13 := by rw [y1]; exact isa)
      rw [y1] at w
      refine k553_121 (a8 := mk 420 (A1 1352)) v.1 (Ra_nodeSort v) (fun w2 => bad (fun y => w2 (by rw [z1]; exact y.2.2.1))) (fun w2 => ?_) (c10 := by rw [len]; omega) (c11 := by omega) (c12 := by unfold In3; omega) (c13 := by rw [z1]; exact isb')
      rw [z1] at w2
      have qa : sa = 4 := Classical.byContradiction w
      have qb : sb = 4 := Classical.byContradiction w2
      obtain ⟨ma1, ma2, ema, ha1, ha2⟩ := sub_2 hma (by show npa (A 1352 (n + 1)) = 2; rw [esa]; exact npa_2 (by omega))
      obtain ⟨mb1, mb2, emb, hb1, hb2⟩ := sub_2 hmb (by show npa (A 1352 (n + 1 + ma)) = 2; rw [esb]; exact npa_2 (by omega))
      rw [trT_eq ha1, trT_eq hb1] at bad eo
      refine k553_132 v.1 (wm_mono (wq_r ?_) (V_areSamePieces C v nw ha1 hb1 (by omega) (by omega) (by omega) (by omega)))
      by_cases e : pce (gr A 1352 1353) (n + 1 + 1) ma1 = pce (gr A 1352 1353) (n + 1 + ma + 1) mb1
      rotate_left
      · rw [if_neg e]
        exact k553_143 (fun y => absurd rfl y) (fun _ => bad (fun y => e y.2.2.2)) (c1 := by decide)
      rw [if_pos e]
      rw [if_pos ⟨q, qa, qb, e⟩, snd_eq ha1, snd_eq hb1, trT_eq ha2, trT_eq hb2] at eo
      refine k553_143 (fun _ => ?_) (fun y => absurd (by decide) y) (c1 := by decide)

      refine k553_148 v.1 (wm_mono (wq_N (fun h2 s2 A2 v2 r2 n2 => ?_)) (V_plant v nw (by first | omega | (simp only [List.length_append, List.length_cons, List.length_nil, pce_len]; omega))))
      refine k553_154 v2.1 (wm_mono (wq_r ?_) (V_beh C v2 n2 ha1 (by omega) (by omega)))
      refine k553_165 v2.1 (wm_mono (wq_N (fun h3 s3 A3 v3 r3 n3 => ?_)) (V_pp C v2 n2 (a := n + 1 + 1) (m := ma1) (by omega) (by first | omega | (simp only [List.length_append, List.length_cons, List.length_nil, pce_len]; omega)) (by omega) (by omega)))
      refine k553_168 v3.1 (wm_mono (wq_N (fun h4 s4 A4 v4 r4 n4 => ?_)) (V_plant v3 n3 (by first | omega | (simp only [List.length_append, List.length_cons, List.length_nil, pce_len]; omega))))
      refine k553_174 v4.1 (wm_mono (wq_r ?_) (V_beh C v4 n4 ha1 (by omega) (by omega)))
      refine k553_182 v4.1 (wm_mono (wq_N (fun h5 s5 A5 v5 r5 n5 => ?_)) (V_pp C v4 n4 (a := n + 1 + 1 + ma1) (m := ma2) (by omega) (by first | omega | (simp only [List.length_append, List.length_cons, List.length_nil, pce_len]; omega)) (by omega) (by omega)))
      refine k553_187 v5.1 (wm_mono (wq_r ?_) (V_beh C v5 n5 hb1 (by omega) (by omega)))
      refine k553_196 v5.1 (wm_mono (wq_N (fun h6 s6 A6 v6 r6 n6 => ?_)) (V_pp C v5 n5 (a := n + 1 + ma + 1 + mb1) (m := mb2) (by omega) (by first | omega | (simp only [List.length_append, List.length_cons, List.length_nil, pce_len]; omega)) (by omega) (by omega)))
      exact k553_201 (some_ v6 (FR_trans r2 (FR_trans r3 (FR_trans r4 (FR_trans r5 r6)))) n6 (by simp only [List.append_assoc, List.cons_append, List.nil_append]) (by first | omega | (simp only [List.length_append, List.length_cons, List.length_nil, pce_len]; omega)) eo.symm)
    exact k553_101 (fun q => at111 (.inl q)) (fun q => k553_106 (fun q2 => bad (fun y => y.1.elim q q2)) (fun q2 => at111 (.inr (Classical.byContradiction q2))) (c1 := iso)) (c1 := iso)
  -- law 11
  rw [if_neg w4] at eo
  have bad : ¬ ((so = 4 ∨ so = 5) ∧ sa = 5) → wr sw_P (d + 3) sw_c553 sw_h553 (223, [.index 1290, vi so, vi law, vi xa, vi xb, vi xe, .result, .result], [], h1, 0, 0) (RA h1 (laQ s A W (1 + ma + mb) o)) := fun q => by
    rw [if_neg q] at eo
    exact k553_223 (none_ eo.symm)
  have at213 : (so = 4 ∨ so = 5) → wr sw_P (d + 3) sw_c553 sw_h553 (213, [.index 1290, vi so, vi law, vi xa, vi xb, vi xe, .result, .result], [], h1, 0, 0) (RA h1 (laQ s A W (1 + ma + mb) o)) := fun q => by
    refine k553_213 (a8 := mk 420 (A1 1352)) v.1 (Ra_nodeSort v) (fun w => ?_) (fun w => bad (fun y => w (by rw [y1]; exact y.2))) (c10 := by rw [len]; omega) (c11 := by omega) (c12 := by unfold In3; omega) (c13 := by rw [y1]; exact isa)
    rw [y1] at w
    obtain ⟨ma1, ma2, ema, ha1, ha2⟩ := sub_2 hma (by show npa (A 1352 (n + 1)) = 2; rw [esa]; exact npa_2 (by omega))
    rw [if_pos ⟨q, w⟩, snd_eq ha1, trT_eq ha1, trT_eq ha2] at eo
    refine k553_225 v.1 (wm_mono (wq_r ?_) (V_beh C v nw ha1 (by omega) (by omega)))
    refine k553_232 v.1 (wm_mono (wq_N (fun h1' s1' A1' v1 r1 n1 => ?_)) (V_plant v nw (by omega)))
    refine k553_240 (fun y => ?_) (fun y => ?_) (c1 := iso)
    rotate_left
    · rw [if_pos (Classical.byContradiction y)] at eo

      refine k553_245 v1.1 (wm_mono (wq_N (fun h2 s2 A2 v2 r2 n2 => ?_)) (V_plant v1 n1 (by first | omega | (simp only [List.length_append, List.length_cons, List.length_nil, pce_len]; omega))))
      refine k553_251 v2.1 (wm_mono (wq_N (fun h3 s3 A3 v3 r3 n3 => ?_)) (V_pp C v2 n2 (a := n + 1 + 1) (m := ma1) (by omega) (by first | omega | (simp only [List.length_append, List.length_cons, List.length_nil, pce_len]; omega)) (by omega) (by omega)))
      refine k553_260 v3.1 (wm_mono (wq_N (fun h4 s4 A4 v4 r4 n4 => ?_)) (V_pp C v3 n3 (a := n + 1 + ma) (m := mb) (by omega) (by first | omega | (simp only [List.length_append, List.length_cons, List.length_nil, pce_len]; omega)) (by omega) (by omega)))
      refine k553_268 v4.1 (wm_mono (wq_N (fun h5 s5 A5 v5 r5 n5 => ?_)) (V_pp C v4 n4 (a := n + 1 + 1 + ma1) (m := ma2) (by omega) (by first | omega | (simp only [List.length_append, List.length_cons, List.length_nil, pce_len]; omega)) (by omega) (by omega)))
      exact k553_276 (k553_302 (some_ v5 (FR_trans r1 (FR_trans r2 (FR_trans r3 (FR_trans r4 r5)))) n5 (by simp only [List.append_assoc, List.cons_append, List.nil_append]) (by first | omega | (simp only [List.length_append, List.length_cons, List.length_nil, pce_len]; omega)) eo.symm))
    · rw [if_neg y] at eo
      have ec : pce (gr A 1352 1353) (n + 1 + 1 + ma1) ma2 ++ pce (gr A 1352 1353) (n + 1 + ma) mb = pce (gr A 1352 1353) (n + 1 + 1 + ma1) (ma2 + mb) := by
        rw [pce_app, show n + 1 + 1 + ma1 + ma2 = n + 1 + ma by omega]
      rw [ec] at eo

      refine k553_279 v1.1 (wm_mono (wq_N (fun h2 s2 A2 v2 r2 n2 => ?_)) (V_pp C v1 n1 (a := n + 1 + 1) (m := ma1) (by omega) (by first | omega | (simp only [List.length_append, List.length_cons, List.length_nil, pce_len]; omega)) (by omega) (by omega)))
      refine k553_288 v2.1 (wm_mono (wq_N (fun h3 s3 A3 v3 r3 n3 => ?_)) (V_plant v2 n2 (by first | omega | (simp only [List.length_append, List.length_cons, List.length_nil, pce_len]; omega))))
      refine k553_294 v3.1 (wm_mono (wq_N (fun h4 s4 A4 v4 r4 n4 => ?_)) (V_pp C v3 n3 (a := n + 1 + 1 + ma1) (m := (ma2 + mb)) (by omega) (by first | omega | (simp only [List.length_append, List.length_cons, List.length_nil, pce_len]; omega)) (by omega) (by omega)))
      exact k553_302 (some_ v4 (FR_trans r1 (FR_trans r2 (FR_trans r3 r4))) n4 (by simp only [List.append_assoc, List.cons_append, List.nil_append]) (by first | omega | (simp only [List.length_append, List.length_cons, List.length_nil, pce_len]; omega)) eo.symm)
  exact k553_203 (fun q => at213 (.inl q)) (fun q => k553_208 (fun q2 => bad (fun y => y.1.elim q q2)) (fun q2 => at213 (.inr (Classical.byContradiction q2))) (c1 := iso)) (c1 := iso)
end
