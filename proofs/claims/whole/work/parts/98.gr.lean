/-! a formula's reading keeps frI -/
theorem nF_b (x : Int) : 0 ≤ ((nF x).val : Int) ∧ ((nF x).val : Int) < 32003 := by
  have := (nF x).isLt
  omega
theorem frI_lo {s : Nat → Int} {A : Nat → Nat → Int} {n e : Nat} (h9 : s 59 = (n : Int)) (h8 : s 88 = (e : Int)) (h2 : s 72 < 2) (q : EQ A e (psm A n)) : frI s A := .inr (.inr ⟨n, e, h9, h8, fun w => absurd w (by omega), fun _ => by rw [if_pos h2]; exact q⟩)
theorem frI_hi {s : Nat → Int} {A : Nat → Nat → Int} {n e : Nat} (h9 : s 59 = (n : Int)) (h8 : s 88 = (e : Int)) (h2 : s 72 = 2 ∨ s 72 = 3) (q : EQ A e (psm A n + 1)) : frI s A := .inr (.inr ⟨n, e, h9, h8, fun w => absurd w (by omega), fun _ => by rw [if_neg (by omega)]; exact q⟩)
theorem frI_4 {s : Nat → Int} {A : Nat → Nat → Int} {n e : Nat} (h9 : s 59 = (n : Int)) (h8 : s 88 = (e : Int)) (h2 : s 72 = 4) (q : EQ A e 1) : frI s A := .inr (.inr ⟨n, e, h9, h8, fun _ => q, fun w => absurd w (by omega)⟩)
theorem frI_f {s : Nat → Int} {A : Nat → Nat → Int} {w p : Int} (e : ∃ s0, s = fl1 s0 w p) (h : w ≠ 0) : frI s A := by
  obtain ⟨s0, e⟩ := e
  left
  rw [e]
  exact fl1_55 _ _ h
theorem put2 {A X : Nat → Nat → Int} {e : Nat} {x y : Int} (x6 : X 1356 = A 1356) (x7 : X 1357 = A 1357) : (∀ k, pa (pa X 1356 e x) 1357 e y 1356 k = if k = e then x else A 1356 k) ∧ (∀ k, pa (pa X 1356 e x) 1357 e y 1357 k = if k = e then y else A 1357 k) := by
  refine ⟨fun k => ?_, fun k => ?_⟩
  · rw [pa_ne (by decide), pa_if, x6]
  · rw [pa_if, pa_ne (by decide), x7]
theorem psm_o {A B : Nat → Nat → Int} (h1 : B 1335 = A 1335) (h2 : B 1336 = A 1336) (n : Nat) : psm B n = psm A n := psm_eq n (fun k _ => pn_eq (by rw [h1]) (by rw [h2]))
theorem fr_ra {T : Nat → th} {s s1 : Nat → Int} {A A1 : Nat → Nat → Int} {i n e : Nat} (m1 : s 54 = 1) (c55 : s 55 = 0) (c59 : s 59 = (n : Int)) (c88 : s 88 = (e : Int)) (q : EQ A e (psm A n)) (ψ : raR s A T i n e s1 A1) : frI s1 A1 := by
  obtain ⟨y1, y2, y3, y4, y5, y6, y7⟩ := ψ
  by_cases w1 : byt s A i = 45 ∧ s 72 = 0
  · obtain ⟨e1, e2⟩ := y1 w1
    have o : ∀ x, x ≠ 1337 → A1 x = A x := fun x hx => by rw [e2, pa_ne hx]
    refine frI_lo (n := n) (e := e) ?_ ?_ ?_ ?_
    · rw [e1, up_ne _ _ (by decide), up_ne _ _ (by decide)]
      exact c59
    · rw [e1, up_ne _ _ (by decide), up_ne _ _ (by decide)]
      exact c88
    · rw [e1, up_at]
      decide
    · rw [psm_o (o 1335 (by decide)) (o 1336 (by decide))]
      exact EQ_same q (o 1356 (by decide)) (o 1357 (by decide))
  by_cases w2 : isd (byt s A i)
  · obtain ⟨k, s0, g, e1, e2⟩ := y2 w2
    rcases dg_or c55 g with x | x
    · subst x
      refine frI_hi (n := n) (e := e + 1) ?_ ?_ ?_ ?_
      · rw [e1, up_ne _ _ (by decide), up_ne _ _ (by decide), up_ne _ _ (by decide)]
        exact c59
      · rw [e1, up_ne _ _ (by decide), up_ne _ _ (by decide), up_at]
        omega
      · rw [e1, up_at]
        exact .inl rfl
      · have o : ∀ x, x ≠ 1302 → x ≠ 1303 → x ≠ 1356 → x ≠ 1357 → A1 x = A x := fun x h1 h2 h3 h4 => by rw [e2, pa_ne h4, pa_ne h3, up_ne _ _ h2, up_ne _ _ h1]
        rw [psm_o (o 1335 (by decide) (by decide) (by decide) (by decide)) (o 1336 (by decide) (by decide) (by decide) (by decide))]
        have nb := nF_b (num A i k)
        have p := put2 (A := A) (X := up (up A 1302 (cf (zp_C (nF (num A i k))))) 1303 (cf (zp_C 1))) (e := e) (x := 0) (y := ((nF (num A i k)).val : Int)) (by rw [up_ne _ _ (by decide), up_ne _ _ (by decide)]) (by rw [up_ne _ _ (by decide), up_ne _ _ (by decide)])
        rw [e2]
        exact EQ_0 q p.1 p.2 rfl (gdn_mk (by decide) nb (fun w => absurd w (by decide)))
    · left
      rw [e1, up_ne _ _ (by decide), up_ne _ _ (by decide), up_ne _ _ (by decide)]
      exact x
  by_cases w3 : byt s A i = 120
  · obtain ⟨e1, e2⟩ := y3 w3
    refine frI_hi (n := n) (e := e + 1) ?_ ?_ ?_ ?_
    · rw [e1, up_ne _ _ (by decide), up_ne _ _ (by decide), up_ne _ _ (by decide)]
      exact c59
    · rw [e1, up_ne _ _ (by decide), up_ne _ _ (by decide), up_at]
      omega
    · rw [e1, up_at]
      exact .inl rfl
    · have o : ∀ x, x ≠ 1302 → x ≠ 1303 → x ≠ 1356 → x ≠ 1357 → A1 x = A x := fun x h1 h2 h3 h4 => by rw [e2, pa_ne h4, pa_ne h3, up_ne _ _ h2, up_ne _ _ h1]
      rw [psm_o (o 1335 (by decide) (by decide) (by decide) (by decide)) (o 1336 (by decide) (by decide) (by decide) (by decide))]
      have p := put2 (A := A) (X := up (up A 1302 (cf (zp_X 1))) 1303 (cf (zp_C 1))) (e := e) (x := 1) (y := 0) (by rw [up_ne _ _ (by decide), up_ne _ _ (by decide)]) (by rw [up_ne _ _ (by decide), up_ne _ _ (by decide)])
      rw [e2]
      exact EQ_0 q p.1 p.2 rfl ⟨by decide, by decide, fun w => absurd w (by decide)⟩
  by_cases w4 : 65 ≤ byt s A i ∧ byt s A i ≤ 80
  · obtain ⟨e1, e2⟩ := (y4 w4).2 (by omega)
    exact frI_f ⟨_, e1⟩ (by decide)
  by_cases w5 : byt s A i = 35
  · obtain ⟨e1, e2⟩ := (y5 w5).2 (fun w => w.1 m1)
    exact frI_f ⟨_, e1⟩ (by decide)
  by_cases w6 : byt s A i = 40
  · by_cases w7 : n = 20
    · obtain ⟨e1, e2⟩ := (y6 w6).1 w7
      exact frI_f ⟨_, e1⟩ (by decide)
    · obtain ⟨e1, e2⟩ := (y6 w6).2 w7
      refine frI_lo (n := n + 1) (e := e) ?_ ?_ ?_ ?_
      · rw [e1, up_ne _ _ (by decide), up_ne _ _ (by decide), up_at]
        omega
      · rw [e1, up_ne _ _ (by decide), up_ne _ _ (by decide), up_ne _ _ (by decide)]
        exact c88
      · rw [e1, up_ne _ _ (by decide), up_at]
        decide
      · have f5 : ∀ k, A1 1335 k = if k = n + 1 then 0 else A 1335 k := fun k => by rw [e2, pa_ne (by decide), pa_ne (by decide), pa_if]
        have f6 : ∀ k, A1 1336 k = if k = n + 1 then 0 else A 1336 k := fun k => by rw [e2, pa_ne (by decide), pa_if, pa_ne (by decide)]
        have z : pn A1 (n + 1) = 0 := by
          unfold pn
          rw [f5, f6, if_pos rfl, if_pos rfl]
          rfl
        have z2 : psm A1 n = psm A n := psm_eq n (fun k hk => pn_eq (by rw [f5, if_neg (by omega)]) (by rw [f6, if_neg (by omega)]))
        show EQ A1 e (psm A1 n + pn A1 (n + 1))
        rw [z, z2]
        exact EQ_same q (by rw [e2, pa_ne (by decide), pa_ne (by decide), pa_ne (by decide)]) (by rw [e2, pa_ne (by decide), pa_ne (by decide), pa_ne (by decide)])
  obtain ⟨e1, e2⟩ := y7 ⟨w1, w2, w3, w4, w5, w6⟩
  exact frI_f ⟨_, e1⟩ (by decide)
theorem fr_rp {s s1 : Nat → Int} {A A1 : Nat → Nat → Int} {i n e : Nat} {a b : zp_R} (m1 : s 54 = 1) (c55 : s 55 = 0) (c59 : s 59 = (n : Int)) (q : EQ A e (psm A n + 1)) (ψ : rpR s A i e a b s1 A1) : frI s1 A1 := by
  obtain ⟨k, s0, g, y1, y2, y3⟩ := ψ
  by_cases w1 : k = 0
  · exact frI_f ⟨_, (y1 w1).1⟩ (by decide)
  have k0 : 0 < k := by omega
  by_cases w2 : s0 = s
  · obtain ⟨p, B, ep, p99, eB, y4, _⟩ := y3 k0 w2
    obtain ⟨e1, e2⟩ := y4 m1
    refine frI_hi (n := n) (e := e + 1) ?_ ?_ ?_ ?_
    · rw [e1, up_ne _ _ (by decide), up_ne _ _ (by decide), up_ne _ _ (by decide)]
      exact c59
    · rw [e1, up_ne _ _ (by decide), up_ne _ _ (by decide), up_at]
      omega
    · rw [e1, up_at]
      exact .inr rfl
    · have o : ∀ x, x ≠ 1298 → x ≠ 1299 → x ≠ 1356 → x ≠ 1357 → A1 x = A x := fun x h1 h2 h3 h4 => by rw [e2, eB, pa_ne h4, pa_ne h3, up_ne _ _ h2, up_ne _ _ h1]
      rw [psm_o (o 1335 (by decide) (by decide) (by decide) (by decide)) (o 1336 (by decide) (by decide) (by decide) (by decide))]
      have pp := put2 (A := A) (X := up (up A 1298 (A 1302)) 1299 (A 1303)) (e := e) (x := 7) (y := (p : Int)) (by rw [up_ne _ _ (by decide), up_ne _ _ (by decide)]) (by rw [up_ne _ _ (by decide), up_ne _ _ (by decide)])
      rw [e2, eB]
      exact EQ_1 q (by omega) pp.1 pp.2 rfl (gdn_mk (by decide) (by omega) (fun _ => by omega))
  · have e1 := (y2 k0 w2).1
    rcases dg_or c55 g with x | x
    · exact absurd x w2
    · left
      rw [e1]
      exact x
theorem fr_cp {s s1 : Nat → Int} {A A1 : Nat → Nat → Int} {n e : Nat} {a b p q : zp_R} {m : Nat} (m1 : s 54 = 1) (c88 : s 88 = (e : Int)) (Q : EQ A e m) (hm : 2 ≤ m ∨ A 1336 n = 0) (ψ : cpR s A n e a b p q s1 A1) : ∃ e1 : Nat, s1 = up s 88 (e1 : Int) ∧ EQ A1 e1 (m - (if A 1336 n ≠ 0 then 1 else 0)) ∧ ∀ x, x ≠ 1356 → x ≠ 1357 → A1 x = A x := by
  by_cases w : A 1336 n = 0
  · obtain ⟨e1, e2⟩ := ψ.1 w
    refine ⟨e, ?_, ?_, fun x _ _ => by rw [e2]⟩
    · rw [e1, ← c88, up_same]
    · rw [if_neg (fun x => x w), e2]
      exact Q
  · obtain ⟨e1, e2⟩ := (ψ.2 w).1 m1
    refine ⟨e + 1, e1, ?_, fun x h1 h2 => by rw [e2, pa_ne h2, pa_ne h1]⟩
    rw [if_pos w, e2]
    have pp := put2 (A := A) (X := A) (e := e) (x := if A 1339 n = 42 then 4 else 5) (y := 0) rfl rfl
    have hm2 : 2 ≤ m := hm.resolve_right w
    exact EQ_2 Q hm2 (by omega) pp.1 pp.2 (by split <;> rfl) (gdn_mk (by split <;> decide) (by decide) (fun w => absurd w (by split <;> decide)))
theorem fr_ct {s s1 : Nat → Int} {A A1 : Nat → Nat → Int} {n e : Nat} {a b p q : zp_R} {m : Nat} (m1 : s 54 = 1) (c88 : s 88 = (e : Int)) (Q : EQ A e m) (h1 : 1 ≤ m) (hm : 2 ≤ m ∨ A 1335 n = 0) (ψ : ctR s A n e a b p q s1 A1) : ∃ e1 : Nat, s1 = up s 88 (e1 : Int) ∧ EQ A1 e1 (m - (if A 1335 n ≠ 0 then 1 else 0)) ∧ ∀ x, x ≠ 1302 → x ≠ 1337 → x ≠ 1356 → x ≠ 1357 → A1 x = A x := by
  obtain ⟨s0, A0, e0, a0, z1, z2, z3, z4⟩ := ψ
  have st : s0 = up s 88 (e0 : Int) ∧ EQ A0 e0 m ∧ ∀ x, x ≠ 1302 → x ≠ 1337 → x ≠ 1356 → x ≠ 1357 → A0 x = A x := by
    by_cases w : A 1337 n = 0
    · obtain ⟨x1, x2, x3, _⟩ := z1 w
      refine ⟨by rw [x1, x3, ← c88, up_same], ?_, fun x _ h2 _ _ => by rw [x2, pa_ne h2]⟩
      rw [x3]
      exact EQ_same Q (by rw [x2, pa_ne (by decide)]) (by rw [x2, pa_ne (by decide)])
    · obtain ⟨x1, x2, _, x4⟩ := z2 w
      refine ⟨by rw [x1, x2]; rfl, ?_, fun x h1 h2 h3 h4 => by rw [x4, pa_ne h2, up_ne _ _ h1, pa_ne h4, pa_ne h3]⟩
      rw [x2]
      have pp := put2 (A := A) (X := A) (e := e) (x := 6) (y := 0) rfl rfl
      refine EQ_1 Q h1 (x := 6) (y := 0) (fun k => ?_) (fun k => ?_) rfl ⟨by decide, by decide, fun w => absurd w (by decide)⟩
      · rw [x4, pa_ne (by decide), up_ne _ _ (by decide)]
        exact pp.1 k
      · rw [x4, pa_ne (by decide), up_ne _ _ (by decide)]
        exact pp.2 k
  obtain ⟨t1, t2, t3⟩ := st
  by_cases w : A 1335 n = 0
  · obtain ⟨x1, x2⟩ := z3 w
    refine ⟨e0, by rw [x1, t1], ?_, fun x h1 h2 h3 h4 => by rw [x2]; exact t3 x h1 h2 h3 h4⟩
    rw [if_neg (fun x => x w), x2]
    exact t2
  · obtain ⟨x1, x2⟩ := (z4 w).1 m1
    refine ⟨e0 + 1, by rw [x1, t1, up_upj]; rfl, ?_, fun x h1 h2 h3 h4 => by rw [x2, pa_ne h4, pa_ne h3]; exact t3 x h1 h2 h3 h4⟩
    rw [if_pos w, x2]
    have pp := put2 (A := A0) (X := A0) (e := e0) (x := if A 1338 n = 43 then 2 else 3) (y := 0) rfl rfl
    have hm2 : 2 ≤ m := hm.resolve_right w
    exact EQ_2 t2 hm2 (by omega) pp.1 pp.2 (by split <;> rfl) (gdn_mk (by split <;> decide) (by decide) (fun w => absurd w (by split <;> decide)))
