/-! the reference's plantRow: a polynomial as a tree -/
/-- a term's nodes -/
def tmL (p : Nat → Int) (k : Nat) : List nod := (if 0 < k ∧ p k ≠ 1 then [(4, 0)] else []) ++ ((if k = 0 ∨ p k ≠ 1 then [(0, p k)] else []) ++ ((if 1 < k then [(7, (k : Int))] else []) ++ (if 0 < k then [(1, 0)] else [])))
def tms (p : Nat → Int) : Nat → List nod
  | 0 => []
  | k + 1 => (if p k = 0 then [] else tmL p k) ++ tms p k
def ntm (p : Nat → Int) : Nat → Nat
  | 0 => 0
  | k + 1 => ntm p k + (if p k = 0 then 0 else 1)
def plr (p : Nat → Int) : List nod := List.replicate (ntm p 41 - 1) (2, 0) ++ ((if ntm p 41 = 0 then [(0, 0)] else []) ++ tms p 41)
theorem ntm_le (p : Nat → Int) : ∀ k, ntm p k ≤ k
  | 0 => Nat.le_refl _
  | k + 1 => by
    have := ntm_le p k
    unfold ntm
    split <;> omega
theorem tmL_len (p : Nat → Int) (k : Nat) : (tmL p k).length ≤ 4 := by
  unfold tmL
  rw [List.length_append, List.length_append, List.length_append]
  have l1 : ∀ (c : Prop) [Decidable c] (x : nod), (if c then [x] else ([] : List nod)).length ≤ 1 := fun c _ x => by
    split
    · exact Nat.le_refl _
    · exact Nat.zero_le _
  have a1 := l1 (0 < k ∧ p k ≠ 1) (4, 0)
  have a2 := l1 (k = 0 ∨ p k ≠ 1) (0, p k)
  have a3 := l1 (1 < k) (7, (k : Int))
  have a4 := l1 (0 < k) (1, 0)
  omega
theorem tms_len (p : Nat → Int) : ∀ k, (tms p k).length ≤ 4 * k
  | 0 => Nat.le_refl _
  | k + 1 => by
    have := tms_len p k
    have := tmL_len p k
    unfold tms
    rw [List.length_append]
    split
    · show 0 + _ ≤ _
      omega
    · omega
theorem plr_len (p : Nat → Int) : (plr p).length ≤ 205 := by
  have := tms_len p 41
  have := ntm_le p 41
  unfold plr
  rw [List.length_append, List.length_append, List.length_replicate]
  split
  · show _ + (1 + _) ≤ _
    omega
  · show _ + (0 + _) ≤ _
    omega
theorem trL_app1 {x : nod} {l : List nod} (g : gdn x) (e : npa x.1 = 1) (h : trL l) : trL (x :: l) := ⟨fun z hz => by
  rcases List.mem_cons.mp hz with q | q
  · rw [q]; exact g
  · exact h.1 z q, wlk_m1 e h.2⟩
theorem trL_app2 {x : nod} {l1 l2 : List nod} (g : gdn x) (e : npa x.1 = 2) (h1 : trL l1) (h2 : trL l2) : trL (x :: (l1 ++ l2)) := ⟨fun z hz => by
  rcases List.mem_cons.mp hz with q | q
  · rw [q]; exact g
  · rcases List.mem_append.mp q with q | q
    · exact h1.1 z q
    · exact h2.1 z q, wlk_m2 e h1.2 h2.2⟩
theorem trL_0 {x : nod} (g : gdn x) (e : npa x.1 = 0) : trL [x] := ⟨fun z hz => by rw [List.mem_singleton.mp hz]; exact g, wlk_m0 e⟩
theorem tmL_tr {p : Nat → Int} {k : Nat} (hk : k ≤ 40) (b : 0 ≤ p k ∧ p k < 32003) : trL (tmL p k) := by
  have n0 : trL [((0 : Int), p k)] := trL_0 (gdn_mk (by decide) b (fun w => absurd w (by decide))) rfl
  have n1 : trL [((1 : Int), (0 : Int))] := trL_0 ⟨by decide, by decide, fun w => absurd w (by decide)⟩ rfl
  have n7 : trL [((7 : Int), (k : Int)), (1, 0)] := trL_app1 (gdn_mk (by decide) (by omega) (fun _ => by omega)) rfl n1
  have g4 : gdn ((4 : Int), (0 : Int)) := ⟨by decide, by decide, fun w => absurd w (by decide)⟩
  unfold tmL
  by_cases h0 : k = 0
  · rw [if_neg (by omega), if_pos (.inl h0), if_neg (by omega), if_neg (by omega)]
    exact n0
  · by_cases h1 : k = 1
    · by_cases e : p k = 1
      · rw [if_neg (fun w => w.2 e), if_neg (by omega), if_neg (by omega), if_pos (by omega)]
        exact n1
      · rw [if_pos ⟨by omega, e⟩, if_pos (.inr e), if_neg (by omega), if_pos (by omega)]
        exact (trL_app2 g4 rfl n0 n1 : trL ((4, 0) :: ([(0, p k)] ++ [(1, 0)])))
    · by_cases e : p k = 1
      · rw [if_neg (fun w => w.2 e), if_neg (by omega), if_pos (by omega), if_pos (by omega)]
        exact n7
      · rw [if_pos ⟨by omega, e⟩, if_pos (.inr e), if_pos (by omega), if_pos (by omega)]
        exact (trL_app2 g4 rfl n0 n7 : trL ((4, 0) :: ([(0, p k)] ++ [(7, (k : Int)), (1, 0)])))
theorem tms_tr {p : Nat → Int} : ∀ k, k ≤ 41 → (∀ i, i < k → 0 ≤ p i ∧ p i < 32003) → (∀ x, x ∈ tms p k → gdn x) ∧ wlk (tms p k) (ntm p k : Int) 0
  | 0, _, _ => ⟨fun x hx => absurd hx List.not_mem_nil, rfl⟩
  | k + 1, hk, b => by
    obtain ⟨i1, i2⟩ := tms_tr k (by omega) (fun i hi2 => b i (by omega))
    unfold tms ntm
    by_cases e : p k = 0
    · rw [if_pos e, if_pos e]
      exact ⟨i1, i2⟩
    · rw [if_neg e, if_neg e]
      have t := tmL_tr (p := p) (k := k) (by omega) (b k (by omega))
      refine ⟨fun x hx => ?_, wlk_app.mpr ⟨(ntm p k : Int), ?_, i2⟩⟩
      · rcases List.mem_append.mp hx with q | q
        · exact t.1 x q
        · exact i1 x q
      · have := wlk_one t.2 (i := (ntm p k : Int) + 1) (by omega)
        rw [show (ntm p k : Int) + 1 - 1 = (ntm p k : Int) by omega] at this
        exact this
theorem wlk_rep : ∀ (r : Nat) (j : Int), 0 < j → wlk (List.replicate r ((2 : Int), (0 : Int))) j (j + r)
  | 0, j, _ => by
    show j = j + ((0 : Nat) : Int)
    omega
  | r + 1, j, h => by
    refine ⟨h, ?_⟩
    have := wlk_rep r (j + 1) (by omega)
    rw [show j + npa ((2 : Int), (0 : Int)).1 - 1 = j + 1 by
      show j + 2 - 1 = j + 1
      omega, show j + ((r + 1 : Nat) : Int) = j + 1 + (r : Int) by omega]
    exact this
theorem plr_tr {p : Nat → Int} (b : ∀ i, i ≤ 40 → 0 ≤ p i ∧ p i < 32003) : trL (plr p) := by
  obtain ⟨t1, t2⟩ := tms_tr (p := p) 41 (Nat.le_refl _) (fun i hi2 => b i (by omega))
  unfold plr
  by_cases e : ntm p 41 = 0
  · rw [e, if_pos rfl]
    rw [e] at t2
    refine ⟨fun x hx => ?_, ?_⟩
    · rcases List.mem_append.mp hx with q | q
      · exact absurd q List.not_mem_nil
      · rcases List.mem_append.mp q with q | q
        · rw [List.mem_singleton.mp q]
          exact ⟨by decide, by decide, fun w => absurd w (by decide)⟩
        · exact t1 x q
    · show wlk ([((0 : Int), (0 : Int))] ++ tms p 41) 1 0
      exact wlk_app.mpr ⟨0, wlk_m0 rfl, t2⟩
  · rw [if_neg e]
    refine ⟨fun x hx => ?_, wlk_app.mpr ⟨(ntm p 41 : Int), ?_, t2⟩⟩
    · rcases List.mem_append.mp hx with q | q
      · rw [List.eq_of_mem_replicate q]
        exact ⟨by decide, by decide, fun w => absurd w (by decide)⟩
      · exact t1 x q
    · have := wlk_rep (ntm p 41 - 1) 1 (by decide)
      rw [show (1 : Int) + ((ntm p 41 - 1 : Nat) : Int) = (ntm p 41 : Int) by omega] at this
      exact this
section
variable {d : Nat} {h h1 : s_H} {s s1 : Nat → Int} {A A1 : Nat → Nat → Int} {W : List nod}
theorem NW_FR {h0 h2 : s_H} {V : List nod} {s2 : Nat → Int} {A2 : Nat → Nat → Int} (v : RV h2 s2 A2) (r : FR h0 h2) (N : NW s A s2 A2 V) : RN h0 (fun s' A' => NW s A s' A' V) (.inl none, h2, 0, 0) := ⟨_, _, _, v, r, N, rfl⟩
theorem V_plantRow (hv : RV h1 s1 A1) (N : NW s A s1 A1 W) {c : Nat} (hc : P9 c = true) (c4 : c ≠ 1354) (c5 : c ≠ 1355) (b : ∀ i, i ≤ 40 → 0 ≤ A c i ∧ A c i < 32003) (l : W.length + (plr (A c)).length ≤ 420) : wm sw_P (d + 2) 551 [.index 1290, .index c] h1 (RN h1 (fun s' A' => NW s A s' A' (W ++ plr (A c)))) := by
  refine wm_in (cd := sw_c551) (nL := 4) (hd := sw_h551) rfl rfl ?_
  obtain ⟨c1, c2, _, _⟩ := P9_i hc
  have row : ∀ {h2 : s_H} {s2 : Nat → Int} {A2 : Nat → Nat → Int} {V : List nod}, RV h2 s2 A2 → NW s A s2 A2 V → s_get h2 c = some (al 176 (A c)) := fun {h2 s2 A2 V} v n => by
    rw [v.2 c c1 c2, rc_9 hc, n.2.1 c c4 c5]
  have g0 : ∀ k : Nat, k ≤ 40 → gi (mk 176 (A c)) (k : Int) = A c k := fun k hk => gi_mkn (by omega)
  have i6 : ∀ k : Nat, k ≤ 40 → In6 (gi (mk 176 (A c)) (k : Int)) := fun k hk => by
    rw [g0 k hk]
    have := b k hk
    exact in6_of (by omega) (by omega)
  obtain ⟨n, en⟩ : ∃ n, ntm (A c) 41 = n := ⟨_, rfl⟩
  have n41 : n ≤ 41 := by rw [← en]; exact ntm_le _ _
  obtain ⟨V, eV⟩ : ∃ V, W ++ plr (A c) = V := ⟨_, rfl⟩
  have lV : V.length ≤ 420 := by rw [← eV, List.length_append]; exact l
  rw [eV]
  -- a node more
  have lt : ∀ {W2 R : List nod} {x : nod}, W2 ++ ([x] ++ R) = V → W2.length < 420 ∧ (W2 ++ [x]) ++ R = V := fun {W2 R x} e => by
    refine ⟨?_, by rw [List.append_assoc]; exact e⟩
    have := congrArg List.length e
    rw [List.length_append, List.length_append] at this
    have z : ([x] : List nod).length = 1 := rfl
    omega
  -- the terms
  have third : ∀ (k : Nat) (h2 : s_H) (s2 : Nat → Int) (A2 : Nat → Nat → Int) (W2 : List nod), k ≤ 41 → RV h2 s2 A2 → FR h1 h2 → NW s A s2 A2 W2 → W2 ++ tms (A c) k = V → wr sw_P (d + 1) sw_c551 sw_h551 (64, [.index 1290, .index c, vi (n : Int), vi ((k : Int) - 1)], [], h2, 0, 0) (RN h1 (fun s' A' => NW s A s' A' V)) := by
    intro k
    induction k with
    | zero =>
      intro h2 s2 A2 W2 hk v r N2 e
      refine k551_64 (fun _ => k551_146 ?_) (fun w => absurd (by decide) w) (c1 := by decide)
      have e2 : W2 = V := by
        rw [← e]
        exact (List.append_nil W2).symm
      rw [← e2]
      exact NW_FR v r N2
    | succ k ih =>
      intro h2 s2 A2 W2 hk v r N2 e
      rw [show ((k + 1 : Nat) : Int) - 1 = (k : Int) by omega]
      have gk := g0 k (by omega)
      have ik := i6 k (by omega)
      have at140 : ∀ (h3 : s_H) (s3 : Nat → Int) (A3 : Nat → Nat → Int) (W3 : List nod), RV h3 s3 A3 → FR h1 h3 → NW s A s3 A3 W3 → W3 ++ tms (A c) k = V → wr sw_P (d + 1) sw_c551 sw_h551 (140, [.index 1290, .index c, vi (n : Int), vi (k : Int)], [], h3, 0, 0) (RN h1 (fun s' A' => NW s A s' A' V)) := fun h3 s3 A3 W3 v3 r3 N3 e3 => by
        refine k551_140 ?_
        rw [show (k : Int) + (-1) = (k : Int) - 1 by omega]
        exact ih h3 s3 A3 W3 (by omega) v3 r3 N3 e3
      refine k551_64 (fun w => absurd w (by omega)) (fun _ => ?_) (c1 := by unfold In3; omega)
      refine k551_68 (a3 := mk 176 (A c)) (row v N2) (fun w => ?_) (fun w => ?_) (c5 := by rw [mk_len]; omega) (c6 := by omega) (c7 := by unfold In3; omega) (c8 := ik)
      rotate_left
      · rw [gk] at w
        have z : A c k = 0 := Classical.byContradiction w
        unfold tms at e
        rw [if_pos z] at e
        exact k551_76 (at140 h2 s2 A2 W2 v r N2 e)
      rw [gk] at w
      unfold tms at e
      rw [if_neg w] at e
      unfold tmL at e
      obtain ⟨T1, e1⟩ : ∃ T1 : List nod, (if 0 < k ∧ A c k ≠ 1 then [(4, 0)] else []) = T1 := ⟨_, rfl⟩
      obtain ⟨T2, e2⟩ : ∃ T2 : List nod, (if k = 0 ∨ A c k ≠ 1 then [(0, A c k)] else []) = T2 := ⟨_, rfl⟩
      obtain ⟨T3, e3⟩ : ∃ T3 : List nod, (if 1 < k then [(7, (k : Int))] else []) = T3 := ⟨_, rfl⟩
      obtain ⟨T4, e4⟩ : ∃ T4 : List nod, (if 0 < k then [(1, 0)] else []) = T4 := ⟨_, rfl⟩
      rw [e1, e2, e3, e4, List.append_assoc, List.append_assoc, List.append_assoc] at e
      have at130 : ∀ (h3 : s_H) (s3 : Nat → Int) (A3 : Nat → Nat → Int) (W3 : List nod), RV h3 s3 A3 → FR h1 h3 → NW s A s3 A3 W3 → W3 ++ (T4 ++ tms (A c) k) = V → wr sw_P (d + 1) sw_c551 sw_h551 (130, [.index 1290, .index c, vi (n : Int), vi (k : Int)], [], h3, 0, 0) (RN h1 (fun s' A' => NW s A s' A' V)) := fun h3 s3 A3 W3 v3 r3 N3 x3 => by
        refine k551_130 (fun w => ?_) (fun w => ?_) (c1 := by unfold In3; omega)
        · rw [if_neg (by omega)] at e4
          rw [← e4] at x3
          exact at140 h3 s3 A3 W3 v3 r3 N3 x3
        · rw [if_pos (by omega)] at e4
          rw [← e4] at x3
          obtain ⟨q1, q2⟩ := lt x3
          exact k551_134 v3.1 (wm_mono (wq_N (fun h4 s4 A4 v4 r4 N4 => at140 h4 s4 A4 _ v4 (FR_trans r3 r4) N4 q2)) (V_plant v3 N3 q1))
      have at118 : ∀ (h3 : s_H) (s3 : Nat → Int) (A3 : Nat → Nat → Int) (W3 : List nod), RV h3 s3 A3 → FR h1 h3 → NW s A s3 A3 W3 → W3 ++ (T3 ++ (T4 ++ tms (A c) k)) = V → wr sw_P (d + 1) sw_c551 sw_h551 (118, [.index 1290, .index c, vi (n : Int), vi (k : Int)], [], h3, 0, 0) (RN h1 (fun s' A' => NW s A s' A' V)) := fun h3 s3 A3 W3 v3 r3 N3 x3 => by
        refine k551_118 (fun w => ?_) (fun w => ?_) (c1 := by unfold In3; omega)
        · rw [if_neg (by omega)] at e3
          rw [← e3] at x3
          exact at130 h3 s3 A3 W3 v3 r3 N3 x3
        · rw [if_pos (by omega)] at e3
          rw [← e3] at x3
          obtain ⟨q1, q2⟩ := lt x3
          exact k551_123 v3.1 (wm_mono (wq_N (fun h4 s4 A4 v4 r4 N4 => at130 h4 s4 A4 _ v4 (FR_trans r3 r4) N4 q2)) (V_plant v3 N3 q1))
      have at109 : ∀ (h3 : s_H) (s3 : Nat → Int) (A3 : Nat → Nat → Int) (W3 : List nod), (k = 0 ∨ A c k ≠ 1) → RV h3 s3 A3 → FR h1 h3 → NW s A s3 A3 W3 → W3 ++ (T2 ++ (T3 ++ (T4 ++ tms (A c) k))) = V → wr sw_P (d + 1) sw_c551 sw_h551 (109, [.index 1290, .index c, vi (n : Int), vi (k : Int)], [], h3, 0, 0) (RN h1 (fun s' A' => NW s A s' A' V)) := fun h3 s3 A3 W3 w v3 r3 N3 x3 => by
        rw [if_pos w] at e2
        rw [← e2] at x3
        obtain ⟨q1, q2⟩ := lt x3
        refine k551_109 (a4 := mk 176 (A c)) (row v3 N3) v3.1 (wm_mono (wq_N (fun h4 s4 A4 v4 r4 N4 => at118 h4 s4 A4 _ v4 (FR_trans r3 r4) N4 ?_)) (V_plant v3 N3 q1)) (c6 := by rw [mk_len]; omega) (c7 := by omega) (c8 := by unfold In3; omega)
        rw [gk]
        exact q2
      have at97 : ∀ (h3 : s_H) (s3 : Nat → Int) (A3 : Nat → Nat → Int) (W3 : List nod), RV h3 s3 A3 → FR h1 h3 → NW s A s3 A3 W3 → W3 ++ (T2 ++ (T3 ++ (T4 ++ tms (A c) k))) = V → wr sw_P (d + 1) sw_c551 sw_h551 (97, [.index 1290, .index c, vi (n : Int), vi (k : Int)], [], h3, 0, 0) (RN h1 (fun s' A' => NW s A s' A' V)) := fun h3 s3 A3 W3 v3 r3 N3 x3 => by
        refine k551_97 (fun w => at109 h3 s3 A3 W3 (.inl (by omega)) v3 r3 N3 x3) (fun w => ?_) (c1 := by unfold In3; omega)
        refine k551_101 (a3 := mk 176 (A c)) (row v3 N3) (fun w2 => ?_) (fun w2 => ?_) (c5 := by rw [mk_len]; omega) (c6 := by omega) (c7 := by unfold In3; omega) (c8 := ik)
        · rw [gk] at w2
          rw [if_neg (fun y => y.elim (fun y => w (by omega)) (fun y => y w2))] at e2
          rw [← e2] at x3
          exact at118 h3 s3 A3 W3 v3 r3 N3 x3
        · rw [gk] at w2
          exact at109 h3 s3 A3 W3 (.inr w2) v3 r3 N3 x3
      refine k551_79 (fun w2 => ?_) (fun w2 => ?_) (c1 := by unfold In3; omega)
      · rw [if_neg (by omega)] at e1
        rw [← e1] at e
        exact at97 h2 s2 A2 W2 v r N2 e
      · refine k551_83 (a3 := mk 176 (A c)) (row v N2) (fun w3 => ?_) (fun w3 => ?_) (c5 := by rw [mk_len]; omega) (c6 := by omega) (c7 := by unfold In3; omega) (c8 := ik)
        · rw [gk] at w3
          rw [if_neg (fun y => y.2 w3)] at e1
          rw [← e1] at e
          exact at97 h2 s2 A2 W2 v r N2 e
        · rw [gk] at w3
          rw [if_pos ⟨by omega, w3⟩] at e1
          rw [← e1] at e
          obtain ⟨q1, q2⟩ := lt e
          exact k551_91 v.1 (wm_mono (wq_N (fun h4 s4 A4 v4 r4 N4 => at97 h4 s4 A4 _ v4 (FR_trans r r4) N4 q2)) (V_plant v N2 q1))
  -- the sums
  have eP : plr (A c) = List.replicate (n - 1) (2, 0) ++ ((if n = 0 then [(0, 0)] else []) ++ tms (A c) 41) := by
    unfold plr
    rw [en]
  have at61 : ∀ (k : Nat) (h2 : s_H) (s2 : Nat → Int) (A2 : Nat → Nat → Int) (W2 : List nod), RV h2 s2 A2 → FR h1 h2 → NW s A s2 A2 W2 → W2 ++ tms (A c) 41 = V → wr sw_P (d + 1) sw_c551 sw_h551 (61, [.index 1290, .index c, vi (n : Int), vi (k : Int)], [], h2, 0, 0) (RN h1 (fun s' A' => NW s A s' A' V)) := fun k h2 s2 A2 W2 v r N2 e => k551_61 (third 41 h2 s2 A2 W2 (Nat.le_refl _) v r N2 e)
  have middle : ∀ (q k : Nat) (h2 : s_H) (s2 : Nat → Int) (A2 : Nat → Nat → Int) (W2 : List nod), n - k = q → k ≤ 42 → RV h2 s2 A2 → FR h1 h2 → NW s A s2 A2 W2 → W2 ++ (List.replicate q (2, 0) ++ ((if n = 0 then [(0, 0)] else []) ++ tms (A c) 41)) = V → wr sw_P (d + 1) sw_c551 sw_h551 (34, [.index 1290, .index c, vi (n : Int), vi (k : Int)], [], h2, 0, 0) (RN h1 (fun s' A' => NW s A s' A' V)) := by
    intro q
    induction q with
    | zero =>
      intro k h2 s2 A2 W2 hk k42 v r N2 e
      replace e : W2 ++ ((if n = 0 then [(0, 0)] else []) ++ tms (A c) 41) = V := e
      refine k551_34 (fun _ => ?_) (fun w => absurd (by omega) w) (c1 := by unfold In3; omega) (c2 := by unfold In3; omega)
      refine k551_51 (fun w => ?_) (fun w => ?_) (c1 := by unfold In3; omega)
      · rw [if_neg (by omega)] at e
        exact at61 k h2 s2 A2 W2 v r N2 e
      · rw [if_pos (by omega)] at e
        obtain ⟨q1, q2⟩ := lt e
        exact k551_55 v.1 (wm_mono (wq_N (fun h4 s4 A4 v4 r4 N4 => at61 k h4 s4 A4 _ v4 (FR_trans r r4) N4 q2)) (V_plant v N2 q1))
    | succ q ih =>
      intro k h2 s2 A2 W2 hk k42 v r N2 e
      replace e : W2 ++ ([(2, 0)] ++ (List.replicate q (2, 0) ++ ((if n = 0 then [(0, 0)] else []) ++ tms (A c) 41))) = V := e
      obtain ⟨q1, q2⟩ := lt e
      refine k551_34 (fun w => absurd w (by omega)) (fun _ => ?_) (c1 := by unfold In3; omega) (c2 := by unfold In3; omega)
      exact k551_39 v.1 (wm_mono (wq_N (fun h4 s4 A4 v4 r4 N4 => k551_45 (ih (k + 1) h4 s4 A4 _ (by omega) (by omega) v4 (FR_trans r r4) N4 q2))) (V_plant v N2 q1))
  -- how many terms
  have first : ∀ (q k : Nat), k + q = 41 → wr sw_P (d + 1) sw_c551 sw_h551 (4, [.index 1290, .index c, vi (ntm (A c) k : Int), vi (k : Int)], [], h1, 0, 0) (RN h1 (fun s' A' => NW s A s' A' V)) := by
    intro q
    induction q with
    | zero =>
      intro k hk
      have ek : k = 41 := by omega
      subst ek
      refine k551_4 (fun _ => k551_32 ?_) (fun w => absurd (by decide) w) (c1 := by decide)
      rw [en]
      exact middle (n - 1) 1 h1 s1 A1 W rfl (by decide) hv (FR_refl h1) N (by rw [← eP]; exact eV)
    | succ q ih =>
      intro k hk
      have gk := g0 k (by omega)
      have kn := ntm_le (A c) k
      have nx : ∀ z : Int, z = (if A c k = 0 then 0 else 1) → wr sw_P (d + 1) sw_c551 sw_h551 (24, [.index 1290, .index c, vi (ntm (A c) k : Int), vi (k : Int)], [vi z, vi (ntm (A c) k : Int)], h1, 0, 0) (RN h1 (fun s' A' => NW s A s' A' V)) := fun z ez => by
        refine k551_24 ?_
        have e : (ntm (A c) k : Int) + z = (ntm (A c) (k + 1) : Int) := by
          have e1 : ntm (A c) (k + 1) = ntm (A c) k + (if A c k = 0 then 0 else 1) := rfl
          rw [e1, ez]
          by_cases q : A c k = 0
          · rw [if_pos q, if_pos q]
            omega
          · rw [if_neg q, if_neg q]
            omega
        rw [e]
        exact ih (k + 1) (by omega)
      refine k551_4 (fun w => absurd w (by omega)) (fun _ => ?_) (c1 := by unfold In3; omega)
      refine k551_10 (a3 := mk 176 (A c)) (row hv N) (fun w => k551_23 (nx 0 ?_)) (fun w => k551_19 (nx 1 ?_)) (c5 := by rw [mk_len]; omega) (c6 := by omega) (c7 := by unfold In3; omega) (c8 := i6 k (by omega))
      · rw [gk] at w
        rw [if_pos w]
      · rw [gk] at w
        rw [if_neg w]
  exact k551_0 (first 41 0 (by decide))
end
