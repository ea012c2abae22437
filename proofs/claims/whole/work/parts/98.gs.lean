/-! a formula's reading: what was put down at its end -/
theorem fr_rg {s s1 : Nat → Int} {A A1 : Nat → Nat → Int} {i n e : Nat} {a b p q p' q' : zp_R} (m1 : s 54 = 1) (c55 : s 55 = 0) (c59 : s 59 = (n : Int)) (c88 : s 88 = (e : Int)) (Q : EQ A e (psm A n + 1)) (ψ : rgR s A i n e a b p q p' q' s1 A1) : frI s1 A1 := by
  obtain ⟨s2, A2, φ, _, z2⟩ := ψ
  have pg := psm_ge A n
  have ht2 : 2 ≤ psm A n + 1 ∨ A 1336 n = 0 := by
    by_cases w : A 1336 n = 0
    · exact .inr w
    · left
      unfold pn at pg
      rw [if_pos w] at pg
      omega
  obtain ⟨e1, x1, x2, x3⟩ := fr_cp m1 c88 Q ht2 φ
  obtain ⟨t, et⟩ : ∃ t, (if A 1336 n ≠ 0 then 1 else 0) = t := ⟨_, rfl⟩
  obtain ⟨u, eu⟩ : ∃ u, (if A 1335 n ≠ 0 then 1 else 0) = u := ⟨_, rfl⟩
  have pA : pn A n = u + t := by
    unfold pn
    rw [et, eu]
  rw [pA] at pg
  rw [et] at x2
  have s55 : s2 55 = 0 := by rw [x1, up_ne _ _ (by decide)]; exact c55
  obtain ⟨a1, b1, e1', f1, k88, k1, k2⟩ := z2 s55
  have s88 : s2 88 = (e1 : Int) := by rw [x1, up_at]
  have ee : e1' = e1 := by omega
  subst ee
  have s54 : s2 54 = 1 := by rw [x1, up_ne _ _ (by decide)]; exact m1
  have s59 : s2 59 = (n : Int) := by rw [x1, up_ne _ _ (by decide)]; exact c59
  by_cases w1 : byt s A i = 42 ∨ byt s A i = 47
  · obtain ⟨es, o, _, _, e36, _, _⟩ := k1 w1
    refine frI_lo (n := n) (e := e1') ?_ ?_ ?_ ?_
    · rw [es, up_ne _ _ (by decide), up_ne _ _ (by decide)]
      exact s59
    · rw [es, up_ne _ _ (by decide), up_ne _ _ (by decide)]
      exact s88
    · rw [es, up_at]
      decide
    · have r35 : A1 1335 = A 1335 := (o 1335 (by decide) (by decide) (by decide) (by decide) (by decide)).trans (x3 1335 (by decide) (by decide))
      have r36 : ∀ k, A1 1336 k = if k = n then 1 else A 1336 k := fun k => by rw [e36, x3 1336 (by decide) (by decide)]
      have top := psm_top (A := A) (B := A1) n (fun k hk => pn_eq (by rw [r35]) (by rw [r36, if_neg (by omega)]))
      have p1 : pn A1 n = u + 1 := by
        unfold pn
        rw [r35, eu, r36, if_pos rfl]
        rfl
      rw [show psm A1 n = psm A n + 1 - t by omega]
      exact EQ_same x2 (o 1356 (by decide) (by decide) (by decide) (by decide) (by decide)) (o 1357 (by decide) (by decide) (by decide) (by decide) (by decide))
  obtain ⟨s3, A3, χ, _, z3⟩ := k2 w1
  have e35 : pa A2 1336 n 0 1335 = A 1335 := by rw [pa_ne (by decide), x3 1335 (by decide) (by decide)]
  have hu2 : 2 ≤ psm A n + 1 - t ∨ pa A2 1336 n 0 1335 n = 0 := by
    rw [e35]
    by_cases w : A 1335 n = 0
    · exact .inr w
    · left
      rw [if_pos w] at eu
      omega
  obtain ⟨e3, y1, y2, y3⟩ := fr_ct s54 s88 (EQ_same x2 (by rw [pa_ne (by decide)]) (by rw [pa_ne (by decide)])) (by omega) hu2 χ
  rw [e35, eu] at y2
  have t55 : s3 55 = 0 := by rw [y1, up_ne _ _ (by decide)]; exact s55
  have t59 : s3 59 = (n : Int) := by rw [y1, up_ne _ _ (by decide)]; exact s59
  have t88 : s3 88 = (e3 : Int) := by rw [y1, up_at]
  have r35 : A3 1335 = A 1335 := (y3 1335 (by decide) (by decide) (by decide) (by decide)).trans e35
  have r36 : ∀ k, A3 1336 k = if k = n then 0 else A 1336 k := fun k => by rw [y3 1336 (by decide) (by decide) (by decide) (by decide), pa_if, x3 1336 (by decide) (by decide)]
  obtain ⟨a2, b2, f2, l1, l2, l3, l4⟩ := z3 t55
  by_cases w2 : byt s A i = 43 ∨ byt s A i = 45
  · obtain ⟨es, o, _, _, e35', _, _⟩ := l1 w2
    refine frI_lo (n := n) (e := e3) ?_ ?_ ?_ ?_
    · rw [es, up_ne _ _ (by decide), up_ne _ _ (by decide)]
      exact t59
    · rw [es, up_ne _ _ (by decide), up_ne _ _ (by decide)]
      exact t88
    · rw [es, up_at]
      decide
    · have q35 : ∀ k, A1 1335 k = if k = n then 1 else A 1335 k := fun k => by rw [e35', r35]
      have q36 : ∀ k, A1 1336 k = if k = n then 0 else A 1336 k := fun k => by rw [o 1336 (by decide) (by decide) (by decide) (by decide) (by decide), r36]
      have top := psm_top (A := A) (B := A1) n (fun k hk => pn_eq (by rw [q35, if_neg (by omega)]) (by rw [q36, if_neg (by omega)]))
      have p1 : pn A1 n = 1 := by
        unfold pn
        rw [q35, q36, if_pos rfl, if_pos rfl]
        rfl
      rw [show psm A1 n = psm A n + 1 - t - u by omega]
      exact EQ_same y2 (o 1356 (by decide) (by decide) (by decide) (by decide) (by decide)) (o 1357 (by decide) (by decide) (by decide) (by decide) (by decide))
  by_cases w3 : byt s A i = 41 ∧ 0 < n
  · obtain ⟨es, eA⟩ := l2 w3
    obtain ⟨n', en⟩ : ∃ n', n = n' + 1 := ⟨n - 1, by omega⟩
    subst en
    refine frI_hi (n := n') (e := e3) ?_ ?_ ?_ ?_
    · rw [es, up_ne _ _ (by decide), up_ne _ _ (by decide), up_at]
      omega
    · rw [es, up_ne _ _ (by decide), up_ne _ _ (by decide), up_ne _ _ (by decide)]
      exact t88
    · rw [es, up_at]
      exact .inl rfl
    · rw [eA]
      have z : psm A3 n' = psm A n' := psm_eq n' (fun k hk => pn_eq (by rw [r35]) (by rw [r36, if_neg (by omega)]))
      have z2 : psm A (n' + 1) = psm A n' + (u + t) := by rw [← pA]; rfl
      rw [z, show psm A n' + 1 = psm A (n' + 1) + 1 - t - u by omega]
      exact y2
  have w4 : ¬ (s 54 = 3 ∧ byt s A i = 61 ∧ n = 0 ∧ s 75 = 0) := fun w => by
    have := w.1
    omega
  obtain ⟨eA, l5, l6⟩ := l4 w2 w3 w4
  by_cases w5 : (i : Int) < s 52 ∨ 0 < n ∨ (s 54 = 3 ∧ s 75 = 0)
  · exact frI_f ⟨_, l5 w5⟩ (by decide)
  · have es := l6 w5
    have n0 : n = 0 := by omega
    subst n0
    refine frI_4 (n := 0) (e := e3) ?_ ?_ ?_ ?_
    · rw [es, up_ne _ _ (by decide)]
      exact t59
    · rw [es, up_ne _ _ (by decide)]
      exact t88
    · rw [es, up_at]
    · rw [eA]
      have z : psm A 0 = u + t := pA
      rw [show (1 : Nat) = psm A 0 + 1 - t - u by omega]
      exact y2
theorem fr_step {T : Nat → th} {s s1 : Nat → Int} {A A1 : Nat → Nat → Int} (m1 : s 54 = 1) (g : going s) (I : frI s A) (ψ : stepR T s A s1 A1) : frI s1 A1 := by
  obtain ⟨i, n, e, c, ψ⟩ := ψ
  have c55 : s 55 = 0 := c.1.1
  have c59 : s 59 = (n : Int) := c.2.2.1.1
  have c88 : s 88 = (e : Int) := c.2.2.2.1
  rcases I with I | I | ⟨n', e', x9, x8, _, Q⟩
  · exact absurd c55 I
  · exact absurd g.2.1 I
  have en : n' = n := by omega
  have ee : e' = e := by omega
  subst en ee
  have Q := Q g.2.2
  rcases ψ with ⟨w2, φ⟩ | ⟨w2, a, b, f, ⟨_, _, φ⟩ | ⟨_, p, q, p', q', _, _, φ⟩⟩
  · rw [if_pos w2] at Q
    exact fr_ra m1 c55 c59 c88 Q φ
  · rw [if_neg w2] at Q
    exact fr_rp m1 c55 c59 Q φ
  · rw [if_neg w2] at Q
    exact fr_rg m1 c55 c59 c88 Q φ
theorem step_stq {T : Nat → th} {s s1 : Nat → Int} {A A1 : Nat → Nat → Int} (E : rdE s A T) (m3 : 0 ≤ s 54 ∧ s 54 ≤ 3) (ψ : stepR T s A s1 A1) : ∃ i, stq s A i s1 A1 := by
  obtain ⟨i, n, e, c, ψ⟩ := ψ
  have c13 := c.2.2.2.2.2.2.2
  refine ⟨i, ?_⟩
  rcases ψ with ⟨w2, φ⟩ | ⟨w2, a, b, f, ⟨_, h94, φ⟩ | ⟨_, p, q, p', q', _, _, φ⟩⟩
  · refine ra_stq E m3 c ?_ φ
    rcases c13 with x | x
    · exact x
    · omega
  · exact rp_stq E c f h94 φ
  · exact rg_stq E m3 c f φ
theorem fr_run {T : Nat → th} {s' : Nat → Int} {A' : Nat → Nat → Int} : ∀ (l : Nat) (s : Nat → Int) (A : Nat → Nat → Int), s 54 = 1 → rdE s A T → frI s A → runN T l s A s' A' → frI s' A'
  | 0, s, A, _, _, I, h => by
    obtain ⟨_, e1, e2⟩ := h
    rw [e1, e2]
    exact I
  | l + 1, s, A, m1, E, I, h => by
    obtain ⟨g, s1, A1, ψ, r⟩ := h
    obtain ⟨i, q1, q2, _⟩ := step_stq E (by omega) ψ
    exact fr_run l s1 A1 ((q1 54 rfl).trans m1) (rdE_to E q2 q1) (fr_step m1 g I ψ) r
/-- a formula that was read was put down as one tree -/
theorem fr_end {T : Nat → th} {s s' : Nat → Int} {A A' : Nat → Nat → Int} (E : rdE s A T) (φ : rsR T s A 1 s' A') (h55 : s' 55 = 0) : ∃ (e : Nat) (t : List nod), s' 88 = (e : Int) ∧ e ≤ 200 ∧ pzf (pce (gr A' 1356 1357) 0 e) [] = some [t] ∧ trL t ∧ ∀ x, x ∈ pce (gr A' 1356 1357) 0 e → gdn x := by
  obtain ⟨⟨l, r⟩, _, _, re⟩ := φ
  have E2 : rdE (bg s 1) (bgA A) T := rdE_to (rdE_m E 1) (bg_sm A) (bg_kf s 1)
  have c := bg_cfg (A := A) E.1.1.1 (1 : Int)
  have I0 : frI (bg s 1) (bgA A) := by
    refine frI_lo (n := 0) (e := 0) c.2.2.1.1 c.2.2.2.1 ?_ ?_
    · unfold bg
      rw [up_at]
      decide
    · have z : psm (bgA A) 0 = 0 := by
        show pn (bgA A) 0 = 0
        unfold pn
        rw [bgA_0 A (.inl rfl), bgA_0 A (.inr (.inl rfl))]
        rfl
      rw [z]
      exact ⟨[], rfl, rfl, fun t ht => absurd ht List.not_mem_nil, fun t ht => absurd ht List.not_mem_nil⟩
  have I := fr_run l (bg s 1) (bgA A) (by rw [bg_kf s 1 54 rfl, up_at]) E2 I0 r
  rcases re with x | x | x
  · omega
  · exact absurd x.1.2.2 (by decide)
  · obtain ⟨_, _, x76, x72, _, ⟨e, x88, e200⟩, _⟩ := x
    rcases I with I | I | ⟨n', e', _, x8, Q, _⟩
    · exact absurd h55 I
    · exact absurd x76 I
    have ee : e' = e := by omega
    subst ee
    obtain ⟨st, h1, h2, h3, h4⟩ := Q x72
    match st, h1, h2, h3 with
    | [t], h1, _, h3 => exact ⟨e', t, x88, e200, h1, h3 t List.mem_cons_self, h4⟩
