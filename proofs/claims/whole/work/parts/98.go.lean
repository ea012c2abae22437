/-! the reference's partsOf, plant, plantPiece, behind -/
/-- from s and A on, W has been planted -/
def NW (s : Nat → Int) (A : Nat → Nat → Int) (s1 : Nat → Int) (A1 : Nat → Nat → Int) (W : List nod) : Prop := s1 = up s 85 (W.length : Int) ∧ (∀ x, x ≠ 1354 → x ≠ 1355 → A1 x = A x) ∧ pce (gr A1 1354 1355) 0 W.length = W
section
variable {d : Nat} {h h1 : s_H} {s s1 : Nat → Int} {A A1 : Nat → Nat → Int} {W : List nod}
theorem V_partsOf {x : Int} (hx : In3 x) : wm sw_P (d + 1) 547 [vi x] h (qr (vi (npa x)) h) := by
  refine wm_in (cd := sw_c547) (nL := 1) (hd := sw_h547) rfl rfl ?_
  refine k547_0 (fun e => k547_12 (k547_26 ?_)) (fun e => k547_6 (fun e2 => k547_16 (fun e3 => k547_25 (k547_26 ?_)) (fun e3 => k547_21 (k547_26 ?_))) (fun e2 => k547_12 (k547_26 ?_)))
  · have : npa x = 1 := if_pos (.inl e)
    rw [this]
  · have : npa x = 2 := (if_neg (fun y => y.elim e e2)).trans (if_neg (by omega))
    rw [this]
  · have : npa x = 0 := (if_neg (fun y => y.elim e e2)).trans (if_pos (by omega))
    rw [this]
  · have : npa x = 1 := if_pos (.inr (Classical.byContradiction e2))
    rw [this]
theorem V_plant (hv : RV h1 s1 A1) (N : NW s A s1 A1 W) (l : W.length < 420) {x y : Int} : wm sw_P (d + 1) 549 [.index 1290, vi x, vi y] h1 (RN h1 (fun s' A' => NW s A s' A' (W ++ [(x, y)]))) := by
  refine wm_in (cd := sw_c549) (nL := 3) (hd := sw_h549) rfl rfl ?_
  obtain ⟨e, ee⟩ : ∃ e, W.length = e := ⟨_, rfl⟩
  have he : s1 85 = (e : Int) := by rw [N.1, up_at, ee]
  have v1 := Rp_newSort hv (fun t => if t = e then x else A1 1354 t)
  have v2 := Rp_newValue v1 (fun t => if t = e then y else A1 1355 t)
  have v3 := RV_fld v2 (up s1 85 ((e : Int) + 1)) (rF_85 s1 ((e : Int) + 1))
  have s1' : ∀ (g : Nat → Int) (z : Int), (mk 420 g).set (Int.toNat (e : Int)) z = mk 420 (fun t => if t = e then z else g t) := fun g z => by rw [mk_set]; rfl
  refine k549_0 (z7 := (e : Int)) (z20 := (e : Int)) (z31 := (e : Int)) (a10 := mk 420 (A1 1354)) (a23 := mk 420 (A1 1355)) hv.1 (Ra_newSort hv) (by rw [s1']; exact v1.1) ((hp_ne (Ra_newSort hv) (by decide)).trans (Ra_newValue hv)) (by rw [s1', s1']; exact v2.1) ?_ (n8 := by
    show some (vi (s1 85)) = _
    rw [he]) (n21 := by
    show some (vi (s1 85)) = _
    rw [he]) (n32 := by
    show some (vi (s1 85)) = _
    rw [he]) (c12 := by rw [mk_len]; omega) (c13 := by omega) (c14 := by unfold In3; omega) (c25 := by rw [mk_len]; omega) (c26 := by omega) (c27 := by unfold In3; omega)
  rw [s1', s1']
  refine ⟨_, _, _, v3, FR_trans (FR_put hv (c := 1354) (by decide) (by decide) _) (FR_trans (FR_put v1 (c := 1355) (by decide) (by decide) _) (FR_fld v2 _)), ⟨?_, fun z h1 h2 => ?_, ?_⟩, rfl⟩
  · rw [N.1, up_upj, List.length_append, ee]
    rfl
  · rw [up_ne _ _ h2, up_ne _ _ h1]
    exact N.2.1 z h1 h2
  · have g : ∀ t, gr (up (up A1 1354 (fun t => if t = e then x else A1 1354 t)) 1355 (fun t => if t = e then y else A1 1355 t)) 1354 1355 t = if t = e then (x, y) else gr A1 1354 1355 t := fun t => by
      unfold gr
      rw [up_ne _ _ (show (1354 : Nat) ≠ 1355 by decide), up_at, up_at]
      by_cases q : t = e
      · rw [if_pos q, if_pos q, if_pos q]
      · rw [if_neg q, if_neg q, if_neg q]
    rw [List.length_append, pce_app, pce_eq (g' := gr A1 1354 1355) W.length 0 0 (fun k hk => by rw [g, if_neg (by omega)]), N.2.2]
    congr 1
    show [_] = _
    rw [g, if_pos (by omega)]
theorem V_plantPiece (hv : RV h1 s1 A1) (N : NW s A s1 A1 W) {a m : Nat} (am : a + m ≤ 420) (l : W.length + m ≤ 420) : wm sw_P (d + 2) 550 [.index 1290, vi (a : Int), vi ((a : Int) + (m : Int))] h1 (RN h1 (fun s' A' => NW s A s' A' (W ++ pce (gr A 1352 1353) a m))) := by
  refine wm_in (cd := sw_c550) (nL := 4) (hd := sw_h550) rfl rfl ?_
  have loop : ∀ (l k : Nat) (h2 : s_H) (s2 : Nat → Int) (A2 : Nat → Nat → Int), k + l = m → RV h2 s2 A2 → FR h1 h2 → NW s A s2 A2 (W ++ pce (gr A 1352 1353) a k) → wr sw_P (d + 1) sw_c550 sw_h550 (2, [.index 1290, vi (a : Int), vi ((a : Int) + (m : Int)), vi ((a : Int) + (k : Int))], [], h2, 0, 0) (RN h1 (fun s' A' => NW s A s' A' (W ++ pce (gr A 1352 1353) a m))) := by
    intro l
    induction l with
    | zero =>
      intro k h2 s2 A2 hk v r n
      have ek : k = m := by omega
      subst ek
      exact k550_2 (fun _ => k550_29 ⟨_, _, _, v, r, n, rfl⟩) (fun w => absurd (by omega) w) (c1 := by unfold In3; omega) (c2 := by unfold In3; omega)
    | succ l ih =>
      intro k h2 s2 A2 hk v r n
      have g0 : ∀ u : Nat → Int, gi (mk 420 u) ((a : Int) + (k : Int)) = u (a + k) := fun u => by
        rw [show (a : Int) + (k : Int) = ((a + k : Nat) : Int) by omega, gi_mkn (by omega)]
      refine k550_2 (fun w => absurd w (by omega)) (fun _ => ?_) (c1 := by unfold In3; omega) (c2 := by unfold In3; omega)
      refine k550_7 (a8 := mk 420 (A2 1352)) (a16 := mk 420 (A2 1353)) v.1 (Ra_nodeSort v) (Ra_nodeValue v) (wm_mono (wq_N (fun h3 s3 A3 v3 r3 n3 => k550_23 ?_)) (V_plant v n (by rw [List.length_append, pce_len]; omega))) (c10 := by rw [mk_len]; omega) (c11 := by omega) (c12 := by unfold In3; omega) (c18 := by rw [mk_len]; omega)
      rw [g0, g0, n.2.1 1352 (by decide) (by decide), n.2.1 1353 (by decide) (by decide), List.append_assoc] at n3
      have e : pce (gr A 1352 1353) a k ++ [(A 1352 (a + k), A 1353 (a + k))] = pce (gr A 1352 1353) a (k + 1) := by
        rw [pce_app]
        rfl
      rw [e] at n3
      have := ih (k + 1) h3 s3 A3 (by omega) v3 (FR_trans r r3) n3
      rw [show (a : Int) + (k : Int) + 1 = (a : Int) + ((k + 1 : Nat) : Int) by omega]
      exact this
  refine k550_0 ?_
  have := loop m 0 h1 s1 A1 (by omega) hv (FR_refl h1) (by
    show NW s A s1 A1 (W ++ [])
    rw [List.append_nil]
    exact N)
  exact this
theorem V_behind (hv : RV h s A) {n m : Nat} (t : wlk (pce (gr A 1352 1353) n m) 1 0) (l : n + m ≤ 420) (b : ∀ k, k < m → In3 (A 1352 (n + k))) : wm sw_P (d + 2) 407 [.index 1290, vi (n : Int)] h (qr (vi ((n : Int) + (m : Int))) h) := by
  refine wm_in (cd := sw_c407) (nL := 4) (hd := sw_h407) rfl rfl ?_
  have loop : ∀ (l k : Nat) (z : Int), k + l = m → wlk (pce (gr A 1352 1353) (n + k) l) z 0 → wr sw_P (d + 1) sw_c407 sw_h407 (4, [.index 1290, vi (n : Int), vi ((n : Int) + (k : Int)), vi z], [], h, 0, 0) (qr (vi ((n : Int) + (m : Int))) h) := by
    intro l
    induction l with
    | zero =>
      intro k z hk w
      have ek : k = m := by omega
      subst ek
      have ez : z = 0 := w
      subst ez
      exact k407_4 (fun _ => k407_28 rfl) (fun w => absurd (by decide) w) (c1 := by decide)
    | succ l ih =>
      intro k z hk w
      have z0 : 0 < z := w.1
      have zl := wlk_le w
      rw [pce_len] at zl
      have g0 : gi (mk 420 (A 1352)) ((n : Int) + (k : Int)) = A 1352 (n + k) := by
        rw [show (n : Int) + (k : Int) = ((n + k : Nat) : Int) by omega, gi_mkn (by omega)]
      have nb := npa_b (A 1352 (n + k))
      refine k407_4 (fun w => absurd w (by omega)) (fun _ => ?_) (c1 := by unfold In3; omega)
      refine k407_8 (a8 := mk 420 (A 1352)) hv.1 (Ra_nodeSort hv) (wm_mono (wq_r (k407_18 ?_)) (V_partsOf (by rw [g0]; exact b k (by omega)))) (c10 := by rw [mk_len]; omega) (c11 := by omega) (c12 := by unfold In3; omega)
      rw [g0]
      have w2 : wlk (pce (gr A 1352 1353) (n + k + 1) l) (z + npa (A 1352 (n + k)) - 1) 0 := w.2
      have := ih (k + 1) (z + (npa (A 1352 (n + k)) - 1)) (by omega) (by
        rw [show n + (k + 1) = n + k + 1 by omega, show z + (npa (A 1352 (n + k)) - 1) = z + npa (A 1352 (n + k)) - 1 by omega]
        exact w2)
      rw [show (n : Int) + (k : Int) + 1 = (n : Int) + ((k + 1 : Nat) : Int) by omega]
      exact this
  have := loop m 0 1 (by omega) t
  exact k407_0 this
end
