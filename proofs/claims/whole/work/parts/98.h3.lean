/-! the laws of a node: what a law makes; the reference's plantsOne, plantsSame -/
theorem k552_126 {P : s_P} {d : Nat} {Q : s_O → Prop} {h : s_H} {kc ks : Nat} {r0 : Term} {x1 x2 x3 x4 x5 x6 s0 : Int} {t7 : Term} (c : In3 x2) (k : wr P d sw_c552 sw_h552 ((if x2 = 0 then 180 else if x2 = 1 then 205 else if x2 = 2 then 267 else if x2 = 5 then 317 else if x2 = 6 then 357 else if x2 = 8 then 404 else 416), [r0, vi x1, vi x2, vi x3, vi x4, vi x5, vi x6, vi s0], [], h, kc, ks) Q) : wr P d sw_c552 sw_h552 (126, [r0, vi x1, vi x2, vi x3, vi x4, vi x5, vi x6, t7], [vi s0], h, kc, ks) Q := by
  refine w_st (ls' := [r0, vi x1, vi x2, vi x3, vi x4, vi x5, vi x6, vi s0]) rfl (Or.inl ⟨by decide, rfl⟩) rfl ?_
  refine w_ld rfl rfl (Or.inl ⟨by decide, rfl⟩) ?_
  refine w_tsw (off := 0) rfl c (fun w => ?_) (fun a b => ?_)
  · rw [if_neg (by omega), if_neg (by omega), if_neg (by omega), if_neg (by omega), if_neg (by omega), if_neg (by omega)] at k
    exact k
  · have q : x2 = 0 ∨ x2 = 1 ∨ x2 = 2 ∨ x2 = 3 ∨ x2 = 4 ∨ x2 = 5 ∨ x2 = 6 ∨ x2 = 7 ∨ x2 = 8 := by omega
    rcases q with q | q | q | q | q | q | q | q | q <;> subst q
    · exact ⟨51, rfl, by decide, k⟩
    · exact ⟨76, rfl, by decide, k⟩
    · exact ⟨138, rfl, by decide, k⟩
    · exact ⟨287, rfl, by decide, k⟩
    · exact ⟨287, rfl, by decide, k⟩
    · exact ⟨188, rfl, by decide, k⟩
    · exact ⟨228, rfl, by decide, k⟩
    · exact ⟨287, rfl, by decide, k⟩
    · exact ⟨275, rfl, by decide, k⟩
/-- the tree from a node on -/
noncomputable def trT (g : Nat → nod) (k : Nat) : List nod := pce g k (siz g k)
theorem trT_eq {g : Nat → nod} {k m : Nat} (h : wlk (pce g k m) 1 0) : trT g k = pce g k m := by
  unfold trT
  rw [siz_eq h]
/-- the second part -/
noncomputable def snd_ (g : Nat → nod) (n : Nat) : Nat := n + 1 + siz g (n + 1)
theorem snd_eq {g : Nat → nod} {n m : Nat} (h : wlk (pce g (n + 1) m) 1 0) : snd_ g n = n + 1 + m := by
  unfold snd_
  rw [siz_eq h]
/-- laws 7 and 9 -/
noncomputable def oneQ (g : Nat → nod) (n : Nat) (law : Int) : Option (List nod) := if law = 7 then (if (g n).1 = 6 ∧ (g (n + 1)).1 = 6 then some (trT g (n + 2)) else none) else if (g n).1 = 7 ∧ (g n).2 ≠ 1 then (if (g n).2 = 0 then some [(0, 1)] else some ((4, 0) :: (trT g (n + 1) ++ ((7, (g n).2 - 1) :: trT g (n + 1))))) else none
/-- law 8 of two parts -/
noncomputable def samQ (g : Nat → nod) (n : Nat) : Option (List nod) := if g (snd_ g n) = (0, if (g n).1 = 2 ∨ (g n).1 = 3 then 0 else 1) then some (trT g (n + 1)) else if g (n + 1) = (0, if (g n).1 = 2 ∨ (g n).1 = 3 then 0 else 1) ∧ (g n).1 ≠ 5 then some ((if (g n).1 = 3 then [(6, 0)] else []) ++ trT g (snd_ g n)) else none
/-- how a law's planting ends -/
def laQ (s : Nat → Int) (A : Nat → Nat → Int) (W : List nod) (m : Nat) (o : Option (List nod)) (v : Term) (s' : Nat → Int) (A' : Nat → Nat → Int) : Prop := ∃ V, NW s A s' A' V ∧ V.length ≤ W.length + 2 * m + 2 ∧ (∀ Q, o = some Q → v = vi 1 ∧ V = W ++ Q) ∧ (o = none → v = vi 0)
/-- a tree in the row that is looked at -/
def ctx (g : Nat → nod) (N : Nat) : Prop := wlk (pce g 0 N) 1 0 ∧ gds g 0 N ∧ N ≤ 200
section
variable {d : Nat} {h1 : s_H} {s s1 : Nat → Int} {A A1 : Nat → Nat → Int} {W : List nod} {N : Nat}
theorem V_beh (C : ctx (gr A 1352 1353) N) (v : RV h1 s1 A1) (nw : NW s A s1 A1 W) {k m : Nat} (hm : wlk (pce (gr A 1352 1353) k m) 1 0) (km : k + m ≤ N) {x : Int} (ex : x = (k : Int)) : wm sw_P (d + 2) 407 [.index 1290, vi x] h1 (qr (vi ((k : Int) + (m : Int))) h1) := by
  subst ex
  have e2 := nw.2.1 1352 (by decide) (by decide)
  have e3 := nw.2.1 1353 (by decide) (by decide)
  have n200 := C.2.2
  refine V_behind v ?_ (by omega) (fun j hj => ?_)
  · unfold gr at *
    rw [e2, e3]
    exact hm
  · rw [e2]
    have : 0 ≤ A 1352 (k + j) ∧ A 1352 (k + j) ≤ 7 := (C.2.1 (k + j) (Nat.zero_le _) (by omega)).1
    unfold In3
    omega
theorem V_pp (C : ctx (gr A 1352 1353) N) (v : RV h1 s1 A1) (nw : NW s A s1 A1 W) {a m : Nat} (am : a + m ≤ N) (l : W.length + m ≤ 420) {x y : Int} (ex : x = (a : Int)) (ey : y = (a : Int) + (m : Int)) : wm sw_P (d + 2) 550 [.index 1290, vi x, vi y] h1 (RN h1 (fun s' A' => NW s A s' A' (W ++ pce (gr A 1352 1353) a m))) := by
  subst ex ey
  have n200 := C.2.2
  exact V_plantPiece v nw (by omega) l
/-- what stands at a node, read -/
theorem rd2 (C : ctx (gr A 1352 1353) N) (nw : NW s A s1 A1 W) {k : Nat} (hk : k < N) {x : Int} (ex : x = (k : Int)) : gi (mk 420 (A1 1352)) x = A 1352 k ∧ gi (mk 420 (A1 1353)) x = A 1353 k ∧ (0 ≤ A 1352 k ∧ A 1352 k ≤ 7) ∧ (0 ≤ A 1353 k ∧ A 1353 k < 32003) ∧ (A 1352 k = 7 → A 1353 k ≤ 99) := by
  subst ex
  have n200 := C.2.2
  have g := C.2.1 k (Nat.zero_le _) hk
  refine ⟨?_, ?_, g.1, g.2.1, g.2.2⟩
  · rw [gi_mkn (by omega), nw.2.1 1352 (by decide) (by decide)]
  · rw [gi_mkn (by omega), nw.2.1 1353 (by decide) (by decide)]
theorem V_plantsOne (C : ctx (gr A 1352 1353) N) (v : RV h1 s1 A1) (nw : NW s A s1 A1 W) {n m : Nat} (hm : wlk (pce (gr A 1352 1353) n m) 1 0) (nm : n + m ≤ N) (l : W.length + 2 * m + 2 ≤ 420) {law : Int} (hl : law = 7 ∨ law = 9) : wm sw_P (d + 3) 555 [.index 1290, vi (n : Int), vi law, vi (A 1352 n)] h1 (RA h1 (laQ s A W m (oneQ (gr A 1352 1353) n law))) := by
  refine wm_in (cd := sw_c555) (nL := 5) (hd := sw_h555) rfl rfl ?_
  have m1 := wlk_ne hm
  rw [pce_len] at m1
  have n200 := C.2.2
  obtain ⟨x1, x2, x3, x4, x5⟩ := rd2 C nw (show n < N by omega) rfl
  have iso : In3 (A 1352 n) := by unfold In3; omega
  have il : In3 law := by unfold In3; omega
  have p := npa_s x3
  have g1 : (gr A 1352 1353 n).1 = A 1352 n := rfl
  have g2 : (gr A 1352 1353 n).2 = A 1353 n := rfl
  have len : ∀ g : Nat → Int, (mk 420 g).length = 420 := fun g => mk_len _ _
  have none_ : oneQ (gr A 1352 1353) n law = none → RA h1 (laQ s A W m (oneQ (gr A 1352 1353) n law)) (.inl (some (vi 0)), h1, 0, 0) := fun e => ⟨_, _, _, _, v, FR_refl h1, ⟨W, nw, by omega, fun Q hQ => (by rw [e] at hQ; cases hQ), fun _ => rfl⟩, rfl⟩
  have some_ : ∀ {h2 : s_H} {s2 : Nat → Int} {A2 : Nat → Nat → Int} {Q : List nod}, RV h2 s2 A2 → FR h1 h2 → NW s A s2 A2 (W ++ Q) → Q.length ≤ 2 * m + 2 → oneQ (gr A 1352 1353) n law = some Q → RA h1 (laQ s A W m (oneQ (gr A 1352 1353) n law)) (.inl (some (vi 1)), h2, 0, 0) := fun {h2 s2 A2 Q} v2 r2 n2 lq e => ⟨_, _, _, _, v2, r2, ⟨W ++ Q, n2, by rw [List.length_append]; omega, fun Q' hQ => (by rw [e] at hQ; exact ⟨rfl, by rw [Option.some.inj hQ]⟩), fun q => (by rw [e] at q; cases q)⟩, rfl⟩
  refine k555_0 v.1 (wm_mono (wq_r ?_) (V_beh C v nw hm nm rfl))
  refine k555_5 (fun w => ?_) (fun w => ?_) (c1 := il)
  rotate_left
  · have e7 : law = 7 := Classical.byContradiction w
    have eo : oneQ (gr A 1352 1353) n law = if (gr A 1352 1353 n).1 = 6 ∧ (gr A 1352 1353 (n + 1)).1 = 6 then some (trT (gr A 1352 1353) (n + 2)) else none := if_pos e7
    refine k555_13 (fun w2 => k555_32 (none_ (by rw [eo, if_neg (fun y => w2 y.1)]))) (fun w2 => ?_) (c1 := iso)
    have s6 : A 1352 n = 6 := Classical.byContradiction w2
    obtain ⟨ma, em, hma⟩ := sub_1 hm (by rw [g1]; exact p.2.1 (.inl s6))
    have ma1 := wlk_ne hma
    rw [pce_len] at ma1
    obtain ⟨y1, y2, y3, _⟩ := rd2 C nw (show n + 1 < N by omega) (x := (n : Int) + 1) (by omega)
    refine k555_19 (a8 := mk 420 (A1 1352)) v.1 (Ra_nodeSort v) (fun w3 => ?_) (fun w3 => k555_32 (none_ ?_)) (c10 := by rw [len]; omega) (c11 := by omega) (c12 := by unfold In3; omega) (c13 := by rw [y1]; unfold In3; omega)
    rotate_left
    · rw [y1] at w3
      rw [eo, if_neg (fun y => w3 y.2)]
    rw [y1] at w3
    obtain ⟨mb, em2, hmb⟩ := sub_1 hma (by show npa (A 1352 (n + 1)) = 1; rw [w3]; rfl)
    refine k555_34 v.1 (wm_mono (wq_N (fun h2 s2 A2 v2 r2 n2 => k555_43 (some_ v2 r2 n2 (by rw [pce_len]; omega) ?_))) (V_pp C v nw (a := n + 2) (m := mb) (by omega) (by omega) (by omega) (by omega)))
    rw [eo, if_pos ⟨s6, w3⟩, trT_eq (show wlk (pce (gr A 1352 1353) (n + 2) mb) 1 0 from hmb)]
  · have eo : oneQ (gr A 1352 1353) n law = if (gr A 1352 1353 n).1 = 7 ∧ (gr A 1352 1353 n).2 ≠ 1 then (if (gr A 1352 1353 n).2 = 0 then some [(0, 1)] else some ((4, 0) :: (trT (gr A 1352 1353) (n + 1) ++ ((7, (gr A 1352 1353 n).2 - 1) :: trT (gr A 1352 1353) (n + 1))))) else none := if_neg w
    rw [g1, g2] at eo
    refine k555_45 (fun w2 => k555_61 (none_ (by rw [eo, if_neg (fun y => w2 y.1)]))) (fun w2 => ?_) (c1 := iso)
    have s7 : A 1352 n = 7 := Classical.byContradiction w2
    obtain ⟨ma, em, hma⟩ := sub_1 hm (by rw [g1]; exact p.2.1 (.inr s7))
    refine k555_51 (a8 := mk 420 (A1 1353)) v.1 (Ra_nodeValue v) (fun w3 => ?_) (fun w3 => k555_61 (none_ ?_)) (c10 := by rw [len]; omega) (c11 := by omega) (c12 := by unfold In3; omega) (c13 := by rw [x2]; unfold In3; omega)
    rotate_left
    · rw [x2] at w3
      rw [eo, if_neg (fun y => w3 y.2)]
    rw [x2] at w3
    rw [if_pos ⟨s7, w3⟩] at eo
    refine k555_63 (a8 := mk 420 (A1 1353)) v.1 (Ra_nodeValue v) (fun w4 => ?_) (fun w4 => ?_) (c10 := by rw [len]; omega) (c11 := by omega) (c12 := by unfold In3; omega) (c13 := by rw [x2]; unfold In3; omega)
    rotate_left
    · rw [x2] at w4
      rw [if_pos (Classical.byContradiction w4)] at eo
      exact k555_72 v.1 (wm_mono (wq_N (fun h2 s2 A2 v2 r2 n2 => k555_78 (some_ v2 r2 n2 (by show 1 ≤ _; omega) eo))) (V_plant v nw (by omega)))
    rw [x2] at w4
    rw [if_neg w4, trT_eq hma] at eo
    refine k555_80 v.1 (wm_mono (wq_N (fun h2 s2 A2 v2 r2 n2 => ?_)) (V_plant v nw (by omega)))
    have l2 : (W ++ [((4 : Int), (0 : Int))]).length = W.length + 1 := by rw [List.length_append]; rfl
    refine k555_86 v2.1 (wm_mono (wq_N (fun h3 s3 A3 v3 r3 n3 => ?_)) (V_pp C v2 n2 (a := n + 1) (m := ma) (by omega) (by omega) (by omega) (by omega)))
    have l3 : (W ++ [((4 : Int), (0 : Int))] ++ pce (gr A 1352 1353) (n + 1) ma).length = W.length + 1 + ma := by rw [List.length_append, l2, pce_len]
    have z2 := (rd2 C n3 (show n < N by omega) rfl).2.1
    refine k555_95 (a8 := mk 420 (A3 1353)) v3.1 (Ra_nodeValue v3) (wm_mono (wq_N (fun h4 s4 A4 v4 r4 n4 => ?_)) (V_plant v3 n3 (by omega))) (c10 := by rw [len]; omega) (c11 := by omega) (c12 := by unfold In3; omega)
    rw [z2] at n4
    have l4 : (W ++ [((4 : Int), (0 : Int))] ++ pce (gr A 1352 1353) (n + 1) ma ++ [(7, A 1353 n - 1)]).length = W.length + 1 + ma + 1 := by rw [List.length_append, l3]; rfl
    refine k555_109 v4.1 (wm_mono (wq_N (fun h5 s5 A5 v5 r5 n5 => k555_118 (some_ v5 (FR_trans r2 (FR_trans r3 (FR_trans r4 r5))) ?_ (by simp only [List.length_append, List.length_cons, List.length_nil, pce_len]; omega) eo))) (V_pp C v4 n4 (a := n + 1) (m := ma) (by omega) (by omega) (by omega) (by omega)))
    have : W ++ (4, 0) :: (pce (gr A 1352 1353) (n + 1) ma ++ (7, A 1353 n - 1) :: pce (gr A 1352 1353) (n + 1) ma) = W ++ [((4 : Int), (0 : Int))] ++ pce (gr A 1352 1353) (n + 1) ma ++ [(7, A 1353 n - 1)] ++ pce (gr A 1352 1353) (n + 1) ma := by simp only [List.append_assoc, List.cons_append, List.nil_append]
    rw [this]
    exact n5
theorem V_isNumber (C : ctx (gr A 1352 1353) N) (v : RV h1 s1 A1) (nw : NW s A s1 A1 W) {k : Nat} (hk : k < N) {x : Int} (ex : x = (k : Int)) {z : Int} (hz : In3 z) : wm sw_P (d + 1) 480 [.index 1290, vi x, vi z] h1 (qr (vi (if gr A 1352 1353 k = (0, z) then 1 else 0)) h1) := by
  refine wm_in (cd := sw_c480) (nL := 3) (hd := sw_h480) rfl rfl ?_
  obtain ⟨x1, x2, x3, x4, _⟩ := rd2 C nw hk ex
  have n200 := C.2.2
  have eg : gr A 1352 1353 k = (A 1352 k, A 1353 k) := rfl
  rw [eg]
  refine k480_0 (a8 := mk 420 (A1 1352)) v.1 (Ra_nodeSort v) (fun w => k480_23 (k480_24 ?_ (c1 := .inl rfl))) (fun w => ?_) (c10 := by rw [mk_len]; omega) (c11 := by omega) (c12 := by unfold In3; omega) (c13 := by rw [x1]; unfold In3; omega)
  · rw [x1] at w
    rw [if_neg (fun e => w (congrArg Prod.fst e))]
  rw [x1] at w
  refine k480_9 (a8 := mk 420 (A1 1353)) v.1 (Ra_nodeValue v) (fun w2 => k480_23 (k480_24 ?_ (c1 := .inl rfl))) (fun w2 => k480_19 (k480_24 ?_ (c1 := .inr rfl))) (c10 := by rw [mk_len]; omega) (c11 := by omega) (c12 := by unfold In3; omega) (c13 := by rw [x2]; unfold In3; omega) (c14 := hz)
  · rw [x2] at w2
    rw [if_neg (fun e => w2 (congrArg Prod.snd e))]
  · rw [x2] at w2
    rw [if_pos (by rw [Classical.byContradiction w, Classical.byContradiction w2])]
theorem V_plantsSame (C : ctx (gr A 1352 1353) N) (v : RV h1 s1 A1) (nw : NW s A s1 A1 W) {n ma mb : Nat} (hma : wlk (pce (gr A 1352 1353) (n + 1) ma) 1 0) (hmb : wlk (pce (gr A 1352 1353) (n + 1 + ma) mb) 1 0) (nm : n + 1 + ma + mb ≤ N) (l : W.length + ma + mb + 2 ≤ 420) {xa xb xe : Int} (ea : xa = ((n + 1 : Nat) : Int)) (eb : xb = ((n + 1 + ma : Nat) : Int)) (ee : xe = ((n + 1 + ma + mb : Nat) : Int)) : wm sw_P (d + 3) 556 [.index 1290, vi (A 1352 n), vi xa, vi xb, vi xe] h1 (RA h1 (laQ s A W (1 + ma + mb) (samQ (gr A 1352 1353) n))) := by
  refine wm_in (cd := sw_c556) (nL := 8) (hd := sw_h556) rfl rfl ?_
  have n200 := C.2.2
  have a1 := wlk_ne hma
  rw [pce_len] at a1
  have b1 := wlk_ne hmb
  rw [pce_len] at b1
  obtain ⟨x1, x2, x3, x4, x5⟩ := rd2 C nw (show n < N by omega) rfl
  obtain ⟨so, eso⟩ : ∃ so, A 1352 n = so := ⟨_, rfl⟩
  have g1 : (gr A 1352 1353 n).1 = so := eso
  rw [eso] at x3 ⊢
  have iso : In3 so := by unfold In3; omega
  obtain ⟨z, ez⟩ : ∃ z : Int, (if so = 2 ∨ so = 3 then 0 else 1) = z := ⟨_, rfl⟩
  have iz : In3 z := by rw [← ez]; split <;> decide
  obtain ⟨o, eo⟩ : ∃ o, samQ (gr A 1352 1353) n = o := ⟨_, rfl⟩
  rw [eo]
  unfold samQ at eo
  rw [g1, snd_eq hma, ez, trT_eq hma, trT_eq hmb] at eo
  have fin : ∀ (h2 : s_H) (s2 : Nat → Int) (A2 : Nat → Nat → Int) (Q V : List nod) (y6 y7 : Int) , (y6 = 1 ∨ (y6 = 0 ∧ y7 = 1)) → In3 y7 → RV h2 s2 A2 → FR h1 h2 → NW s A s2 A2 V → V = W ++ Q → Q.length ≤ 2 * (1 + ma + mb) + 2 → o = some Q → wr sw_P (d + 2) sw_c556 sw_h556 (86, [.index 1290, vi so, vi xa, vi xb, vi xe, vi z, vi y6, vi y7], [], h2, 0, 0) (RA h1 (laQ s A W (1 + ma + mb) o)) := fun h2 s2 A2 Q V y6 y7 hy i7 v2 r2 n2 eV lq e => by
    have done : RA h1 (laQ s A W (1 + ma + mb) o) (.inl (some (vi 1)), h2, 0, 0) := ⟨_, _, _, _, v2, r2, ⟨V, n2, by rw [eV, List.length_append]; omega, fun Q' hQ => (by rw [e] at hQ; exact ⟨rfl, by rw [eV, Option.some.inj hQ]⟩), fun q => (by rw [e] at q; cases q)⟩, rfl⟩
    refine k556_86 (fun _ => k556_96 (k556_101 done (c1 := .inr rfl))) (fun w => k556_91 (fun w2 => absurd w2 (by omega)) (fun _ => k556_96 (k556_101 done (c1 := .inr rfl))) (c1 := i7)) (c1 := by unfold In3; omega)
  have at46 : ∀ y6 y7 : Int, y6 = (if gr A 1352 1353 (n + 1 + ma) = (0, z) then 1 else 0) → y7 = (if gr A 1352 1353 (n + 1) = (0, z) ∧ so ≠ 5 then 1 else 0) → wr sw_P (d + 2) sw_c556 sw_h556 (46, [.index 1290, vi so, vi xa, vi xb, vi xe, vi z, vi y6, .result], [vi y7], h1, 0, 0) (RA h1 (laQ s A W (1 + ma + mb) o)) := fun y6 y7 e6 e7 => by
    have i6 : In3 y6 := by rw [e6]; split <;> decide
    have i7 : In3 y7 := by rw [e7]; split <;> decide
    refine k556_46 (fun w => ?_) (fun w => ?_) (c1 := i6)
    rotate_left
    · have q : gr A 1352 1353 (n + 1 + ma) = (0, z) := Classical.byContradiction (fun q => w (by rw [e6, if_neg q]))
      rw [if_pos q] at eo e6
      refine k556_53 v.1 (wm_mono (wq_N (fun h2 s2 A2 v2 r2 n2 => k556_59 (fin h2 s2 A2 _ _ y6 y7 (.inl e6) i7 v2 r2 n2 rfl (by simp only [List.length_append, List.length_cons, List.length_nil, pce_len]; omega) eo.symm))) (V_pp C v nw (a := n + 1) (m := ma) (by omega) (by omega) ea (by omega)))
    have q : ¬ gr A 1352 1353 (n + 1 + ma) = (0, z) := fun q => by
      rw [if_pos q] at e6
      omega
    rw [if_neg q] at eo
    refine k556_62 (fun w2 => ?_) (fun w2 => ?_) (c1 := i7)
    · have q2 : ¬ (gr A 1352 1353 (n + 1) = (0, z) ∧ so ≠ 5) := fun q2 => by
        rw [if_pos q2] at e7
        omega
      rw [if_neg q2] at eo
      refine k556_86 (fun y => absurd w y) (fun _ => k556_91 (fun _ => k556_100 (k556_101 ?_ (c1 := .inl rfl))) (fun y => absurd w2 y) (c1 := i7)) (c1 := i6)
      exact ⟨_, _, _, _, v, FR_refl h1, ⟨W, nw, by omega, fun Q hQ => (by rw [← eo] at hQ; cases hQ), fun _ => rfl⟩, rfl⟩
    have q2 : gr A 1352 1353 (n + 1) = (0, z) ∧ so ≠ 5 := Classical.byContradiction (fun q => w2 (by rw [e7, if_neg q]))
    rw [if_pos q2] at eo e7
    refine k556_67 (fun w3 => ?_) (fun w3 => ?_) (c1 := iso)
    · rw [if_neg w3] at eo
      exact k556_79 v.1 (wm_mono (wq_N (fun h2 s2 A2 v2 r2 n2 => fin h2 s2 A2 _ _ y6 y7 (.inr ⟨w, e7⟩) i7 v2 r2 n2 rfl (by simp only [List.length_append, List.length_cons, List.length_nil, pce_len]; omega) eo.symm)) (V_pp C v nw (a := n + 1 + ma) (m := mb) (by omega) (by omega) eb (by omega)))
    · rw [if_pos (Classical.byContradiction w3)] at eo
      refine k556_72 v.1 (wm_mono (wq_N (fun h2 s2 A2 v2 r2 n2 => ?_)) (V_plant v nw (by omega)))
      have l2 : (W ++ [((6 : Int), (0 : Int))]).length = W.length + 1 := by rw [List.length_append]; rfl
      exact k556_79 v2.1 (wm_mono (wq_N (fun h3 s3 A3 v3 r3 n3 => fin h3 s3 A3 _ _ y6 y7 (.inr ⟨w, e7⟩) i7 v3 (FR_trans r2 r3) n3 (by rw [List.append_assoc]) (by simp only [List.length_append, List.length_cons, List.length_nil, pce_len]; omega) eo.symm)) (V_pp C v2 n2 (a := n + 1 + ma) (m := mb) (by omega) (by omega) eb (by omega)))
  have at15 : wr sw_P (d + 2) sw_c556 sw_h556 (15, [.index 1290, vi so, vi xa, vi xb, vi xe, .result, .result, .result], [vi z], h1, 0, 0) (RA h1 (laQ s A W (1 + ma + mb) o)) := by
    refine k556_15 v.1 (wm_mono (wq_r ?_) (V_isNumber C v nw (k := n + 1 + ma) (by omega) eb iz))
    refine k556_24 v.1 (wm_mono (wq_r ?_) (V_isNumber C v nw (k := n + 1) (by omega) ea iz))
    refine k556_33 (fun w => k556_45 (at46 _ 0 rfl ?_)) (fun w => k556_36 (fun w2 => k556_45 (at46 _ 0 rfl ?_)) (fun w2 => k556_41 (at46 _ 1 rfl ?_)) (c1 := iso)) (c1 := by split <;> decide)
    · rw [if_neg (fun y => by rw [if_pos y.1] at w; exact absurd w (by decide))]
    · rw [if_neg (fun y => y.2 w2)]
    · rw [if_pos ⟨Classical.byContradiction (fun y => w (if_neg y)), w2⟩]
  refine k556_0 (fun w => k556_10 ?_) (fun w => k556_5 (fun w2 => k556_14 ?_) (fun w2 => k556_10 ?_) (c1 := iso)) (c1 := iso)
  · rw [if_pos (.inl w)] at ez
    rw [ez]
    exact at15
  · rw [if_neg (fun y => y.elim w w2)] at ez
    rw [ez]
    exact at15
  · rw [if_pos (.inr (Classical.byContradiction w2))] at ez
    rw [ez]
    exact at15
end
