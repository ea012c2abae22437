/-! the reference's isSimpler -/
def lawS (l : Int) : Prop := l = 7 ∨ l = 8 ∨ l = 10
/-- the first law that fits, from the last node on -/
def fst_ (g : Nat → nod) (N n : Nat) (law : Int) (V : List nod) : Prop := n < N ∧ lawS law ∧ chg g N n law = some V ∧ (∀ n', n < n' → n' < N → ∀ l, lawS l → chg g N n' l = none) ∧ ∀ l, lawS l → l < law → chg g N n l = none
def NX (s : Nat → Int) (A : Nat → Nat → Int) (st : Nat → Int) (B : Nat → Nat → Int) : Prop := (∃ z, st = up s 85 z) ∧ ∀ x, x ≠ 1354 → x ≠ 1355 → B x = A x
theorem NX_NW {s st s' : Nat → Int} {A B A' : Nat → Nat → Int} {V : List nod} (h : NX s A st B) (n : NW st B s' A' V) : NX s A s' A' := by
  obtain ⟨⟨z, e⟩, o⟩ := h
  refine ⟨⟨(V.length : Int), ?_⟩, fun x h1 h2 => (n.2.1 x h1 h2).trans (o x h1 h2)⟩
  rw [n.1, e, up_upj]
def sipR (s : Nat → Int) (A : Nat → Nat → Int) (N r : Nat) (v : Term) (s' : Nat → Int) (A' : Nat → Nat → Int) : Prop := (v = vi 0 ∧ NX s A s' A' ∧ ∀ n, n < N → ∀ l, lawS l → chg (gr A 1352 1353) N n l = none) ∨ (v = vi 1 ∧ ∃ (n : Nat) (law : Int) (V : List nod), fst_ (gr A 1352 1353) N n law V ∧ s' 82 = (V.length : Int) ∧ s' 98 = (r : Int) + 1 ∧ (∀ j, j ≠ 82 → j ≠ 85 → j ≠ 98 → s' j = s j) ∧ (∀ x, x ≠ 1352 → x ≠ 1353 → x ≠ 1354 → x ≠ 1355 → x ≠ 1365 → x ≠ 1366 → A' x = A x) ∧ (∀ k, k < V.length → gr A' 1352 1353 k = V.getD k (0, 0)) ∧ (∀ k, A' 1365 k = if k = r then (n : Int) else A 1365 k) ∧ ∀ k, A' 1366 k = if k = r then law else A 1366 k)
section
variable {d : Nat} {h : s_H} {s : Nat → Int} {A : Nat → Nat → Int} {N : Nat}
theorem V_isSimpler (C : ctx (gr A 1352 1353) N) (hv : RV h s A) (e82 : s 82 = (N : Int)) {r : Nat} (e98 : s 98 = (r : Int)) (r200 : r + N ≤ 200) : wm sw_P (d + 7) 488 [.index 1290] h (RA h (sipR s A N r)) := by
  refine wm_in (cd := sw_c488) (nL := 4) (hd := sw_h488) rfl rfl ?_
  have n200 := C.2.2
  have win : ∀ (n : Nat) (law : Int) (V : List nod) (st : Nat → Int) (B : Nat → Nat → Int) (h3 : s_H) (s3 : Nat → Int) (A3 : Nat → Nat → Int) (t : Term), fst_ (gr A 1352 1353) N n law V → NX s A st B → NW st B s3 A3 V → V.length ≤ 420 → RV h3 s3 A3 → FR h h3 → wr sw_P (d + 6) sw_c488 sw_h488 (38, [.index 1290, vi (n : Int), vi law, t], [], h3, 0, 0) (RA h (sipR s A N r)) := fun n law V st B h3 s3 A3 t hf nx nw lV v3 r3 => by
    obtain ⟨⟨z, ez⟩, o3⟩ := NX_NW nx nw
    have n1 : n < N := hf.1
    have s98 : s3 98 = (r : Int) := by rw [ez, up_ne _ _ (by decide), e98]
    have s85 : s3 85 = (V.length : Int) := by rw [nw.1, up_at]
    obtain ⟨e, ee⟩ : ∃ e, V.length = e := ⟨_, rfl⟩
    rw [ee] at s85 lV
    have eg : ∀ k, k < e → gr A3 1354 1355 k = V.getD k (0, 0) := fun k hk => by
      have := pce_get (gr A3 1354 1355) V.length 0 k (by omega)
      rw [nw.2.2, Nat.zero_add] at this
      exact this.symm
    have s1' : ∀ (g : Nat → Int) (z : Int), (mk 200 g).set (Int.toNat (r : Int)) z = mk 200 (fun t => if t = r then z else g t) := fun g z => by rw [mk_set]; rfl
    have v1 := Rp_rowNode v3 (fun t => if t = r then (n : Int) else A3 1365 t)
    have v2 := Rp_rowLaw v1 (fun t => if t = r then law else A3 1366 t)
    have v3' := RV_fld v2 (up s3 98 ((r : Int) + 1)) (rF_98 s3 ((r : Int) + 1))
    have v4 := RV_fld v3' (up (up s3 98 ((r : Int) + 1)) 82 (e : Int)) (rF_82 (up s3 98 ((r : Int) + 1)) (e : Int))
    have R4 := FR_trans r3 (FR_trans (FR_put v3 (c := 1365) (by decide) (by decide) (rc 1365 (fun t => if t = r then (n : Int) else A3 1365 t))) (FR_trans (FR_put v1 (c := 1366) (by decide) (by decide) (rc 1366 (fun t => if t = r then law else A3 1366 t))) (FR_trans (FR_fld v2 (1, 11, rF (up s3 98 ((r : Int) + 1)))) (FR_fld v3' (1, 11, rF (up (up s3 98 ((r : Int) + 1)) 82 (e : Int)))))))
    have loop : ∀ (l k : Nat) (B1 : Nat → Nat → Int) (h' : s_H), k + l = e → RV h' (up (up s3 98 ((r : Int) + 1)) 82 (e : Int)) B1 → FR h h' → (∀ x, x ≠ 1352 → x ≠ 1353 → x ≠ 1365 → x ≠ 1366 → B1 x = A3 x) → (∀ j, B1 1365 j = if j = r then (n : Int) else A3 1365 j) → (∀ j, B1 1366 j = if j = r then law else A3 1366 j) → (∀ j, j < k → gr B1 1352 1353 j = V.getD j (0, 0)) → wr sw_P (d + 6) sw_c488 sw_h488 (78, [.index 1290, vi (n : Int), vi law, vi (k : Int)], [], h', 0, 0) (RA h (sipR s A N r)) := by
      intro l
      induction l with
      | zero =>
        intro k B1 h' hk v rr o b1 b2 b3
        have ek : k = e := by omega
        subst ek
        refine k488_78 (z5 := (k : Int)) v.1 (fun _ => k488_116 ?_) (fun w => absurd (Int.le_refl _) w) (n6 := by
          show some (vi (up (up s3 98 ((r : Int) + 1)) 82 (k : Int) 82)) = _
          rw [up_at]) (c7 := by unfold In3; omega) (c8 := by unfold In3; omega)
        refine ⟨_, _, _, _, v, rr, .inr ⟨rfl, n, law, V, hf, ?_, ?_, fun j h1 h2 h3 => ?_, fun x h1 h2 h3 h4 h5 h6 => ?_, fun j hj => b3 j (by omega), fun j => ?_, fun j => ?_⟩, rfl⟩
        · rw [up_at, ee]
        · rw [up_ne _ _ (by decide), up_at]
        · rw [up_ne _ _ h1, up_ne _ _ h3, ez, up_ne _ _ h2]
        · rw [o x h1 h2 h5 h6]
          exact o3 x h3 h4
        · rw [b1, o3 1365 (by decide) (by decide)]
        · rw [b2, o3 1366 (by decide) (by decide)]
      | succ l ih =>
        intro k B1 h' hk v rr o b1 b2 b3
        have g1 : ∀ u : Nat → Int, gi (mk 420 u) (k : Int) = u k := fun u => gi_mkn (by omega)
        have s2' : ∀ (g : Nat → Int) (z : Int), (mk 420 g).set (Int.toNat (k : Int)) z = mk 420 (fun t => if t = k then z else g t) := fun g z => by rw [mk_set]; rfl
        have w1 := Rp_nodeSort v (fun t => if t = k then B1 1354 k else B1 1352 t)
        have w2 := Rp_nodeValue w1 (fun t => if t = k then B1 1355 k else B1 1353 t)
        refine k488_78 (z5 := (e : Int)) v.1 (fun w => absurd w (by omega)) (fun _ => ?_) (n6 := by
          show some (vi (up (up s3 98 ((r : Int) + 1)) 82 (e : Int) 82)) = _
          rw [up_at]) (c7 := by unfold In3; omega) (c8 := by unfold In3; omega)
        refine k488_86 (a10 := mk 420 (B1 1354)) (a16 := mk 420 (B1 1352)) (a27 := mk 420 (B1 1355)) (a31 := mk 420 (B1 1353)) v.1 (Ra_newSort v) (Ra_nodeSort v) (by rw [g1, s2']; exact w1.1) ((hp_ne (Ra_nodeSort v) (by decide)).trans (Ra_newValue v)) ((hp_ne (Ra_nodeSort v) (by decide)).trans (Ra_nodeValue v)) ?_ (c12 := by rw [mk_len]; omega) (c13 := by omega) (c14 := by unfold In3; omega) (c18 := by rw [mk_len]; omega) (c29 := by rw [mk_len]; omega) (c33 := by rw [mk_len]; omega)
        rw [g1, g1, s2', s2']
        refine ih (k + 1) _ _ (by omega) w2 (FR_trans rr (FR_trans (FR_put v (c := 1352) (by decide) (by decide) _) (FR_put w1 (c := 1353) (by decide) (by decide) _))) (fun x h1 h2 h3 h4 => by rw [up_ne _ _ h2, up_ne _ _ h1]; exact o x h1 h2 h3 h4) (fun j => by rw [up_ne _ _ (by decide), up_ne _ _ (by decide)]; exact b1 j) (fun j => by rw [up_ne _ _ (by decide), up_ne _ _ (by decide)]; exact b2 j) (fun j hj => ?_)
        have eg2 : (B1 1354 k, B1 1355 k) = V.getD k (0, 0) := by
          rw [o 1354 (by decide) (by decide) (by decide) (by decide), o 1355 (by decide) (by decide) (by decide) (by decide)]
          exact eg k (by omega)
        have gj : gr (up (up B1 1352 (fun t => if t = k then B1 1354 k else B1 1352 t)) 1353 (fun t => if t = k then B1 1355 k else B1 1353 t)) 1352 1353 j = if j = k then (B1 1354 k, B1 1355 k) else gr B1 1352 1353 j := by
          unfold gr
          rw [up_ne _ _ (show (1352 : Nat) ≠ 1353 by decide), up_at, up_at]
          by_cases q : j = k
          · rw [if_pos q, if_pos q, if_pos q]
          · rw [if_neg q, if_neg q, if_neg q]
        rw [gj]
        by_cases q : j = k
        · rw [if_pos q, q, eg2]
        · rw [if_neg q]
          exact b3 j (by omega)
    refine k488_38 (z7 := (r : Int)) (z20 := (r : Int)) (z31 := (r : Int)) (z37 := (e : Int)) (a10 := mk 200 (A3 1365)) (a23 := mk 200 (A3 1366)) v3.1 (Ra_rowNode v3) (by rw [s1']; exact v1.1) ((hp_ne (Ra_rowNode v3) (by decide)).trans (Ra_rowLaw v3)) (by rw [s1', s1']; exact v2.1) (by rw [s1', s1']; exact v3'.1) ?_ (n8 := by
      show some (vi (s3 98)) = _
      rw [s98]) (n21 := by
      show some (vi (s3 98)) = _
      rw [s98]) (n32 := by
      show some (vi (s3 98)) = _
      rw [s98]) (n38 := by
      show some (vi (up s3 98 ((r : Int) + 1) 85)) = _
      rw [up_ne _ _ (by decide), s85]) (c12 := by rw [mk_len]; omega) (c13 := by omega) (c14 := by unfold In3; omega) (c25 := by rw [mk_len]; omega) (c26 := by omega) (c27 := by unfold In3; omega)
    rw [s1', s1']
    refine loop e 0 _ _ (Nat.zero_add e) v4 R4 (fun x h1 h2 h3 h4 => by rw [up_ne _ _ h4, up_ne _ _ h3]) (fun j => ?_) (fun j => ?_) (fun j hj => absurd hj (Nat.not_lt_zero _))
    · rw [up_ne _ _ (by decide), up_at]
    · rw [up_at]
  have outer : ∀ (q : Nat) (st : Nat → Int) (B : Nat → Nat → Int) (h' : s_H) (t2 t3 : Term), q ≤ N → RV h' st B → FR h h' → NX s A st B → (∀ n', q ≤ n' → n' < N → ∀ l, lawS l → chg (gr A 1352 1353) N n' l = none) → wr sw_P (d + 6) sw_c488 sw_h488 (7, [.index 1290, vi ((q : Int) - 1), t2, t3], [], h', 0, 0) (RA h (sipR s A N r)) := by
    intro q
    induction q with
    | zero =>
      intro st B h' t2 t3 hq v rr nx nk
      exact k488_7 (fun _ => k488_130 ⟨_, _, _, _, v, rr, .inl ⟨rfl, nx, fun n hn l hl => nk n (Nat.zero_le _) hn l hl⟩, rfl⟩) (fun w => absurd (by decide) w) (c1 := by decide)
    | succ q ih =>
      intro st B h' t2 t3 hq v rr nx nk
      rw [show ((q + 1 : Nat) : Int) - 1 = (q : Int) by omega]
      refine k488_7 (fun w => absurd w (by omega)) (fun _ => k488_11 ?_) (c1 := by unfold In3; omega)
      -- one law
      have one_ : ∀ (law : Int) (st : Nat → Int) (B : Nat → Nat → Int) (h' : s_H) (t3 : Term), lawS law → RV h' st B → FR h h' → NX s A st B → (∀ l, lawS l → l < law → chg (gr A 1352 1353) N q l = none) → (∀ (st : Nat → Int) (B : Nat → Nat → Int) (h' : s_H), RV h' st B → FR h h' → NX s A st B → chg (gr A 1352 1353) N q law = none → wr sw_P (d + 6) sw_c488 sw_h488 (118, [.index 1290, vi (q : Int), vi law, t3], [], h', 0, 0) (RA h (sipR s A N r))) → wr sw_P (d + 6) sw_c488 sw_h488 (26, [.index 1290, vi (q : Int), vi law, t3], [], h', 0, 0) (RA h (sipR s A N r)) := fun law st B h' t3 hl v rr nx nl next => by
        have eg : gr B 1352 1353 = gr A 1352 1353 := by
          unfold gr
          rw [nx.2 1352 (by decide) (by decide), nx.2 1353 (by decide) (by decide)]
        obtain ⟨⟨z, ez⟩, _⟩ := id nx
        refine k488_26 v.1 (wm_mono (wq_A (fun v' h3 s3 A3 v3 r3 φ => ?_)) (V_isChanged (N := N) (by rw [eg]; exact C) v (by rw [ez, up_ne _ _ (by decide), e82]) (n := q) (by omega) (law := law) (by unfold lawS at hl; omega)))
        obtain ⟨V, n3, lV, y1, y2⟩ := φ
        rw [eg] at y1 y2
        cases eq : chg (gr A 1352 1353) N q law with
        | none =>
          have ev := y2 eq
          subst ev
          exact k488_32 (fun w => absurd rfl w) (fun _ => k488_35 (next s3 A3 h3 v3 (FR_trans rr r3) (NX_NW nx n3) eq)) (c1 := by decide)
        | some V' =>
          obtain ⟨ev, eV⟩ := y1 V' eq
          subst ev eV
          exact k488_32 (fun _ => win q law V st B h3 s3 A3 t3 ⟨by omega, hl, eq, fun n' h1 h2 l hl => nk n' h1 h2 l hl, nl⟩ nx n3 lV v3 (FR_trans rr r3)) (fun w => absurd (by decide) w) (c1 := by decide)
      refine k488_14 (fun w => absurd w (by decide)) (fun _ => k488_20 (fun w => absurd w (by decide)) (fun _ => ?_) (c1 := by decide)) (c1 := by decide)
      refine one_ 7 st B h' t3 (.inl rfl) v rr nx (fun l hl lt => by unfold lawS at hl; omega) (fun st B h' v rr nx c7 => k488_118 ?_)
      refine k488_14 (fun w => absurd w (by decide)) (fun _ => k488_20 (fun w => absurd w (by decide)) (fun _ => ?_) (c1 := by decide)) (c1 := by decide)
      refine one_ 8 st B h' t3 (.inr (.inl rfl)) v rr nx (fun l hl lt => by
        have e7 : l = 7 := by unfold lawS at hl; omega
        rw [e7]
        exact c7) (fun st B h' v rr nx c8 => k488_118 ?_)
      refine k488_14 (fun w => absurd w (by decide)) (fun _ => k488_20 (fun _ => k488_118 ?_) (fun w => absurd rfl w) (c1 := by decide)) (c1 := by decide)
      refine k488_14 (fun w => absurd w (by decide)) (fun _ => k488_20 (fun w => absurd w (by decide)) (fun _ => ?_) (c1 := by decide)) (c1 := by decide)
      refine one_ 10 st B h' t3 (.inr (.inr rfl)) v rr nx (fun l hl lt => by
        have e78 : l = 7 ∨ l = 8 := by unfold lawS at hl; omega
        rcases e78 with e | e
        · rw [e]; exact c7
        · rw [e]; exact c8) (fun st B h' v rr nx c10 => k488_118 ?_)
      refine k488_14 (fun _ => k488_124 ?_) (fun w => absurd (by decide) w) (c1 := by decide)
      rw [show (q : Int) + (-1) = (q : Int) - 1 by omega]
      refine ih st B h' _ t3 (by omega) v rr nx (fun n' h1 h2 l hl => ?_)
      by_cases e : n' = q
      · subst e
        rcases hl with e | e | e
        · rw [e]; exact c7
        · rw [e]; exact c8
        · rw [e]; exact c10
      · exact nk n' (by omega) h2 l hl
  refine k488_0 (z5 := (N : Int)) hv.1 (outer N s A h _ _ (Nat.le_refl _) hv (FR_refl h) ⟨⟨s 85, (up_same s 85).symm⟩, fun _ _ _ => rfl⟩ (fun n' h1 h2 => absurd h2 (by omega))) (n6 := by
    show some (vi (s 82)) = _
    rw [e82])
end
