/-! a step: a sign, a bracket's end, = or the end -/
theorem kf_3 {s s1 : Nat → Int} (h : ∀ j, j ≠ 55 → j ≠ 56 → j ≠ 88 → s1 j = s j) : kf s s1 := fun j hj => h j (fun q => by rw [q] at hj; cases hj) (fun q => by rw [q] at hj; cases hj) (fun q => by rw [q] at hj; cases hj)
/-- the stored fractions of a bracket, or any -/
theorem frk_pq {A : Nat → Nat → Int} {n : Nat} (h : frk A n) : ∃ p q p' q' : zp_R, (A 1336 n ≠ 0 → fp A 1344 n = cf p ∧ fp A 1345 n = cf q ∧ zp_deg p 41 ∧ zp_deg q 41 ∧ 0 ≤ hi q) ∧ (A 1335 n ≠ 0 → fp A 1342 n = cf p' ∧ fp A 1343 n = cf q' ∧ zp_deg p' 41 ∧ zp_deg q' 41 ∧ 0 ≤ hi q') := by
  have one : ∀ (P : Prop) (t b : Nat), (P → stf A t b n) → ∃ p q : zp_R, P → fp A t n = cf p ∧ fp A b n = cf q ∧ zp_deg p 41 ∧ zp_deg q 41 ∧ 0 ≤ hi q := fun P t b hP => by
    by_cases w : P
    · obtain ⟨p, q, x1, x2, x3, x4, x5, _⟩ := hP w
      exact ⟨p, q, fun _ => ⟨x1, x2, x3, x4, mo_pos x5 (deg_le x4 (by decide))⟩⟩
    · exact ⟨zp_C 0, zp_C 0, fun x => absurd x w⟩
  obtain ⟨p, q, h1⟩ := one (A 1336 n ≠ 0) 1344 1345 (fun w => (h.2.2 w).2.2)
  obtain ⟨p', q', h2⟩ := one (A 1335 n ≠ 0) 1342 1343 (fun w => (h.2.1 w).2.2)
  exact ⟨p, q, p', q', h1, h2⟩
theorem rg_stq {s s' : Nat → Int} {A A' : Nat → Nat → Int} {T : Nat → th} {i n e : Nat} {a b p q p' q' : zp_R} (E : rdE s A T) (m3 : 0 ≤ s 54 ∧ s 54 ≤ 3) (c : cfg s A i n e) (f : frc A a b) (φ : rgR s A i n e a b p q p' q' s' A') : stq s A i s' A' := by
  obtain ⟨⟨c1, c2, c3, c4⟩, ⟨c5, c6⟩, ⟨c7, c8⟩, c9, c10, c11, c12, c13⟩ := id c
  obtain ⟨hS, _⟩ := E
  have i200 : i ≤ 200 := by have := hS.1.2; omega
  have fn := c10 n (Nat.le_refl _)
  obtain ⟨s1, A1, φ1, r1, r2⟩ := φ
  obtain ⟨k1, m1, o1⟩ := cpR_out φ1 c1 c9 fn.1.2.1 f
  have K1 := kf_3 k1
  have M1 : sm A A1 rdL := sm_sub m1 rfl
  rcases o1 with ⟨o1, o2, o3⟩ | ⟨z55, z56, a1, b1, e1, f1, h88, e1b⟩
  · obtain ⟨x1, x2⟩ := r1 (by rcases o1 with x | x <;> omega)
    rw [x1, x2]
    have pl := (fn.2.2 o3).2.1
    exact ⟨K1, M1, .inl ⟨by rcases o1 with x | x <;> omega, by omega, by rw [k1 76 (by decide) (by decide) (by decide)]; exact c3⟩⟩
  obtain ⟨a2, b2, e2, f2, g88, r3, r4⟩ := r2 z55
  have ee : e2 = e1 := by omega
  subst ee
  have row1 : ∀ x, 1335 ≤ x → x ≤ 1347 → A1 x = A x := fun x y1 y2 => m1 x (by
    have : cpL.all (fun j => decide (j < 1335 ∨ 1347 < j)) = true := rfl
    rw [List.all_eq_true] at this
    cases q : cpL.contains x with
    | false => rfl
    | true =>
      have := of_decide_eq_true (this x (List.contains_iff_mem.mp q))
      omega)
  by_cases w1 : byt s A i = 42 ∨ byt s A i = 47
  · obtain ⟨x1, x2, x3, x4, x5, x6, x7⟩ := r3 w1
    have lt := byt_in (s := s) (A := A) (i := i) rfl (by omega)
    have rw_ : ∀ x, 1335 ≤ x → x ≤ 1347 → x ≠ 1344 → x ≠ 1345 → x ≠ 1336 → x ≠ 1339 → x ≠ 1341 → A' x = A x := fun x y1 y2 y3 y4 y5 y6 y7 => (x2 x y3 y4 y5 y6 y7).trans (row1 x y1 y2)
    have fpo : ∀ x k, (x = 1342 ∨ x = 1343 ∨ x = 1344 ∨ x = 1345) → k ≠ n → fp A' x k = fp A x k := fun x k hx hk => by
      have t1 : fp A1 x k = fp A x k := by
        unfold fp
        rw [row1 x (by omega) (by omega)]
      rcases hx with q | q | q | q
      · unfold fp; rw [q, rw_ 1342 (by decide) (by decide) (by decide) (by decide) (by decide) (by decide) (by decide)]
      · unfold fp; rw [q, rw_ 1343 (by decide) (by decide) (by decide) (by decide) (by decide) (by decide) (by decide)]
      · subst q; exact (x3.2 k hk).trans t1
      · subst q; exact (x4.2 k hk).trans t1
    have e36 : ∀ k, A' 1336 k = if k = n then 1 else A 1336 k := fun k => by rw [x5, row1 1336 (by decide) (by decide)]
    have e39 : ∀ k, A' 1339 k = if k = n then byt s A i else A 1339 k := fun k => by rw [x6, row1 1339 (by decide) (by decide)]
    have e41 : ∀ k, A' 1341 k = if k = n then (i : Int) else A 1341 k := fun k => by rw [x7, row1 1341 (by decide) (by decide)]
    have e35 : A' 1335 = A 1335 := rw_ 1335 (by decide) (by decide) (by decide) (by decide) (by decide) (by decide) (by decide)
    have e37 : A' 1337 = A 1337 := rw_ 1337 (by decide) (by decide) (by decide) (by decide) (by decide) (by decide) (by decide)
    have e38 : A' 1338 = A 1338 := rw_ 1338 (by decide) (by decide) (by decide) (by decide) (by decide) (by decide) (by decide)
    have e40 : A' 1340 = A 1340 := rw_ 1340 (by decide) (by decide) (by decide) (by decide) (by decide) (by decide) (by decide)
    have lower : ∀ k, k < n → frk A' k ∧ frn A' k = frn A k := fun k hk => by
      refine ⟨frk_to (c10 k (by omega)) (by rw [e35]) (by rw [e36, if_neg (by omega)]) (by rw [e37]; exact (c10 k (by omega)).1.2.2) (by rw [e38]) (by rw [e39, if_neg (by omega)]) (by rw [e40]) (by rw [e41, if_neg (by omega)]) (fun x hx => fpo x k hx (by omega)), ?_⟩
      unfold frn
      rw [e35, e37, e36, if_neg (by omega)]
    have top : frk A' n := by
      refine ⟨⟨by rw [e35]; exact fn.1.1, by rw [e36, if_pos rfl]; exact .inr rfl, by rw [e37]; exact fn.1.2.2⟩, fun w => ?_, fun _ => ⟨by rw [e39, if_pos rfl]; exact w1, by rw [e41, if_pos rfl]; omega, stf_pfn x3 x4 f2.2.2.1 f2.2.2.2.1 f2.2.2.2.2.1 f2.2.2.2.2.2⟩⟩
      rw [e35] at w
      rw [e38, e40]
      refine ⟨(fn.2.1 w).1, (fn.2.1 w).2.1, stf_to (fn.2.1 w).2.2 ?_ ?_⟩
      · unfold fp
        rw [rw_ 1342 (by decide) (by decide) (by decide) (by decide) (by decide) (by decide) (by decide)]
      · unfold fp
        rw [rw_ 1343 (by decide) (by decide) (by decide) (by decide) (by decide) (by decide) (by decide)]
    have M' : sm A A' rdL := sm_tr M1 (fun j hj => x2 j (fun q => by rw [q] at hj; cases hj) (fun q => by rw [q] at hj; cases hj) (fun q => by rw [q] at hj; cases hj) (fun q => by rw [q] at hj; cases hj) (fun q => by rw [q] at hj; cases hj))
    rw [x1]
    refine ⟨kf_up (kf_up K1 _ rfl) _ rfl, M', .inr (.inr (.inr ⟨i + 1, n, e2, by omega, ⟨⟨?_, ?_, ?_, ?_⟩, ⟨?_, ?_⟩, ⟨?_, c8⟩, ?_, ?_, ?_, fun w => ?_, .inl (.inr ?_)⟩⟩))⟩
    · rw [up_ne _ _ (by decide), up_ne _ _ (by decide)]; exact z55
    · rw [up_ne _ _ (by decide), up_ne _ _ (by decide)]; omega
    · rw [up_ne _ _ (by decide), up_ne _ _ (by decide), k1 76 (by decide) (by decide) (by decide)]; exact c3
    · rw [up_ne _ _ (by decide), up_ne _ _ (by decide), k1 75 (by decide) (by decide) (by decide)]; exact c4
    · rw [up_ne _ _ (by decide), up_at]; omega
    · rw [up_ne _ _ (by decide), up_ne _ _ (by decide), k1 52 (by decide) (by decide) (by decide)]; omega
    · rw [up_ne _ _ (by decide), up_ne _ _ (by decide), k1 59 (by decide) (by decide) (by decide)]; exact c7
    · rw [up_ne _ _ (by decide), up_ne _ _ (by decide)]; exact g88
    · intro k hk
      by_cases q : k = n
      · rw [q]; exact top
      · exact (lower k (by omega)).1
    · have t1 := tot_top (A := A) (B := A') n (fun k hk => (lower k hk).2)
      have t2 : frn A' n = A 1335 n + 1 + A 1337 n := by
        unfold frn
        rw [e35, e36, e37, if_pos rfl]
      have t3 : frn A n = A 1335 n + A 1336 n + A 1337 n := rfl
      omega
    · rw [up_ne _ _ (by decide), up_ne _ _ (by decide), k1 75 (by decide) (by decide) (by decide)] at w
      unfold stc
      rw [rw_ 1346 (by decide) (by decide) (by decide) (by decide) (by decide) (by decide) (by decide), rw_ 1347 (by decide) (by decide) (by decide) (by decide) (by decide) (by decide) (by decide)]
      exact c12 w
    · rw [up_at]
  obtain ⟨s2, A2, χ, q1, q2⟩ := r4 w1
  have rowP : ∀ x, x ≠ 1336 → pa A1 1336 n 0 x = A1 x := fun x hx => pa_ne hx
  have f2' : frc (pa A1 1336 n 0) a2 b2 := ⟨(rowP 1302 (by decide)).trans f2.1, (rowP 1303 (by decide)).trans f2.2.1, f2.2.2⟩
  have r35 : pa A1 1336 n 0 1335 = A 1335 := (rowP 1335 (by decide)).trans (row1 1335 (by decide) (by decide))
  have r37 : pa A1 1336 n 0 1337 = A 1337 := (rowP 1337 (by decide)).trans (row1 1337 (by decide) (by decide))
  obtain ⟨t1, t2, t3, t4, t5⟩ := ctR_out χ z55 g88 (by rw [r37]; exact fn.1.2.2) (by rw [r35]; exact fn.1.1) f2'
  have K2 : kf s s2 := kf_3 (fun j y1 y2 y3 => (t1 j y1 y2 y3).trans (k1 j y1 y2 y3))
  have M2 : sm A A2 rdL := sm_tr (pa_sm M1 _ _ rfl) (sm_sub t2 rfl)
  have row2 : ∀ x, 1335 ≤ x → x ≤ 1347 → x ≠ 1336 → x ≠ 1337 → A2 x = A x := fun x y1 y2 y3 y4 => (t2 x (by
    have : ctL.all (fun j => decide (j < 1335 ∨ 1347 < j ∨ j = 1337)) = true := rfl
    rw [List.all_eq_true] at this
    cases q : ctL.contains x with
    | false => rfl
    | true =>
      have := of_decide_eq_true (this x (List.contains_iff_mem.mp q))
      omega)).trans ((rowP x y3).trans (row1 x y1 y2))
  have r36 : ∀ k, A2 1336 k = if k = n then 0 else A 1336 k := fun k => by
    rw [t2 1336 rfl]
    split
    · rename_i q
      rw [q, pa_0]
    · rename_i q
      rw [pa_k q, row1 1336 (by decide) (by decide)]
  have r37' : ∀ k, A2 1337 k = if k = n then 0 else A 1337 k := fun k => by
    split
    · rename_i q
      rw [q, t3]
    · rename_i q
      rw [t4 k q, r37]
  have lower2 : ∀ k, k < n → frk A2 k ∧ frn A2 k = frn A k := fun k hk => by
    refine ⟨frk_to (c10 k (by omega)) (by rw [row2 1335 (by decide) (by decide) (by decide) (by decide)]) (by rw [r36, if_neg (by omega)]) (by rw [r37', if_neg (by omega)]; exact (c10 k (by omega)).1.2.2) (by rw [row2 1338 (by decide) (by decide) (by decide) (by decide)]) (by rw [row2 1339 (by decide) (by decide) (by decide) (by decide)]) (by rw [row2 1340 (by decide) (by decide) (by decide) (by decide)]) (by rw [row2 1341 (by decide) (by decide) (by decide) (by decide)]) (fun x hx => ?_), ?_⟩
    · unfold fp
      rw [row2 x (by omega) (by omega) (by omega) (by omega)]
    · unfold frn
      rw [row2 1335 (by decide) (by decide) (by decide) (by decide), r36, r37', if_neg (by omega), if_neg (by omega)]
  have s2j : ∀ j, j ≠ 55 → j ≠ 56 → j ≠ 88 → s2 j = s j := fun j y1 y2 y3 => (t1 j y1 y2 y3).trans (k1 j y1 y2 y3)
  rcases t5 with ⟨t5, t6, t7⟩ | ⟨u55, u56, a3, b3, e3, f3, u88, e3b⟩
  · obtain ⟨x1, x2⟩ := q1 (by omega)
    rw [x1, x2]
    rw [r35] at t7
    have pl := (fn.2.1 t7).2.1
    rw [rowP 1340 (by decide), row1 1340 (by decide) (by decide)] at t6
    exact ⟨K2, M2, .inl ⟨by omega, by omega, by rw [s2j 76 (by decide) (by decide) (by decide)]; exact c3⟩⟩
  rw [r35, r37] at e3b
  have e3c : (e3 : Int) ≤ (e : Int) + frn A n := by
    unfold frn
    omega
  obtain ⟨a4, b4, f4, q3, q4, q5, q6⟩ := q2 u55
  have v56 : s2 56 = -1 := by omega
  have v76 : s2 76 = -1 := (s2j 76 (by decide) (by decide) (by decide)).trans c3
  have v75 : s2 75 = s 75 := s2j 75 (by decide) (by decide) (by decide)
  have v59 : s2 59 = (n : Int) := (s2j 59 (by decide) (by decide) (by decide)).trans c7
  have v52 : s2 52 = s 52 := s2j 52 (by decide) (by decide) (by decide)
  have claim2 : s 75 = 1 → stc A2 := fun w => by
    unfold stc
    rw [row2 1346 (by decide) (by decide) (by decide) (by decide), row2 1347 (by decide) (by decide) (by decide) (by decide)]
    exact c12 w
  by_cases w2 : byt s A i = 43 ∨ byt s A i = 45
  · obtain ⟨x1, x2, x3, x4, x5, x6, x7⟩ := q3 w2
    have lt := byt_in (s := s) (A := A) (i := i) rfl (by omega)
    have rw_ : ∀ x, 1335 ≤ x → x ≤ 1347 → x ≠ 1342 → x ≠ 1343 → x ≠ 1335 → x ≠ 1338 → x ≠ 1340 → x ≠ 1336 → x ≠ 1337 → A' x = A x := fun x y1 y2 y3 y4 y5 y6 y7 y8 y9 => (x2 x y3 y4 y5 y6 y7).trans (row2 x y1 y2 y8 y9)
    have e35 : ∀ k, A' 1335 k = if k = n then 1 else A 1335 k := fun k => by rw [x5, row2 1335 (by decide) (by decide) (by decide) (by decide)]
    have e38 : ∀ k, A' 1338 k = if k = n then byt s A i else A 1338 k := fun k => by rw [x6, row2 1338 (by decide) (by decide) (by decide) (by decide)]
    have e40 : ∀ k, A' 1340 k = if k = n then (i : Int) else A 1340 k := fun k => by rw [x7, row2 1340 (by decide) (by decide) (by decide) (by decide)]
    have e36 : A' 1336 = A2 1336 := x2 1336 (by decide) (by decide) (by decide) (by decide) (by decide)
    have e37 : A' 1337 = A2 1337 := x2 1337 (by decide) (by decide) (by decide) (by decide) (by decide)
    have e39 : A' 1339 = A 1339 := rw_ 1339 (by decide) (by decide) (by decide) (by decide) (by decide) (by decide) (by decide) (by decide) (by decide)
    have e41 : A' 1341 = A 1341 := rw_ 1341 (by decide) (by decide) (by decide) (by decide) (by decide) (by decide) (by decide) (by decide) (by decide)
    have fpo : ∀ x k, (x = 1342 ∨ x = 1343 ∨ x = 1344 ∨ x = 1345) → k ≠ n → fp A' x k = fp A2 x k := fun x k hx hk => by
      rcases hx with q | q | q | q
      · subst q; exact x3.2 k hk
      · subst q; exact x4.2 k hk
      · unfold fp; rw [q, x2 1344 (by decide) (by decide) (by decide) (by decide) (by decide)]
      · unfold fp; rw [q, x2 1345 (by decide) (by decide) (by decide) (by decide) (by decide)]
    have low' : ∀ k, k < n → frk A' k ∧ frn A' k = frn A k := fun k hk => by
      have l := lower2 k hk
      refine ⟨frk_to l.1 (by rw [x5]; exact if_neg (by omega)) (by rw [e36]) (by rw [e37]; exact l.1.1.2.2) (by rw [x6]; exact if_neg (by omega)) (by rw [x2 1339 (by decide) (by decide) (by decide) (by decide) (by decide)]) (by rw [x7]; exact if_neg (by omega)) (by rw [x2 1341 (by decide) (by decide) (by decide) (by decide) (by decide)]) (fun x hx => fpo x k hx (by omega)), ?_⟩
      rw [← l.2]
      unfold frn
      rw [e36, e37, x5]
      show (if k = n then 1 else A2 1335 k) + A2 1336 k + A2 1337 k = _
      rw [if_neg (by omega)]
    have top : frk A' n := by
      refine ⟨⟨by rw [e35, if_pos rfl]; exact .inr rfl, by rw [e36, r36, if_pos rfl]; exact .inl rfl, by rw [e37, r37', if_pos rfl]; exact .inl rfl⟩, fun _ => ⟨by rw [e38, if_pos rfl]; exact w2, by rw [e40, if_pos rfl]; omega, stf_pfn x3 x4 f4.2.2.1 f4.2.2.2.1 f4.2.2.2.2.1 f4.2.2.2.2.2⟩, fun w => ?_⟩
      rw [e36, r36, if_pos rfl] at w
      exact absurd rfl w
    have M' : sm A A' rdL := sm_tr M2 (fun j hj => x2 j (fun q => by rw [q] at hj; cases hj) (fun q => by rw [q] at hj; cases hj) (fun q => by rw [q] at hj; cases hj) (fun q => by rw [q] at hj; cases hj) (fun q => by rw [q] at hj; cases hj))
    rw [x1]
    refine ⟨kf_up (kf_up K2 _ rfl) _ rfl, M', .inr (.inr (.inr ⟨i + 1, n, e3, by omega, ⟨⟨?_, ?_, ?_, ?_⟩, ⟨?_, ?_⟩, ⟨?_, c8⟩, ?_, ?_, ?_, fun w => ?_, .inl (.inr ?_)⟩⟩))⟩
    · rw [up_ne _ _ (by decide), up_ne _ _ (by decide)]; exact u55
    · rw [up_ne _ _ (by decide), up_ne _ _ (by decide)]; exact v56
    · rw [up_ne _ _ (by decide), up_ne _ _ (by decide)]; exact v76
    · rw [up_ne _ _ (by decide), up_ne _ _ (by decide), v75]; exact c4
    · rw [up_ne _ _ (by decide), up_at]; omega
    · rw [up_ne _ _ (by decide), up_ne _ _ (by decide), v52]; omega
    · rw [up_ne _ _ (by decide), up_ne _ _ (by decide)]; exact v59
    · rw [up_ne _ _ (by decide), up_ne _ _ (by decide)]; exact u88
    · intro k hk
      by_cases q : k = n
      · rw [q]; exact top
      · exact (low' k (by omega)).1
    · have t1 := tot_top (A := A) (B := A') n (fun k hk => (low' k hk).2)
      have t2 : frn A' n = 1 := by
        unfold frn
        rw [e35, e36, e37, r36, r37', if_pos rfl, if_pos rfl, if_pos rfl]
        rfl
      omega
    · rw [up_ne _ _ (by decide), up_ne _ _ (by decide), v75] at w
      have := claim2 w
      unfold stc at *
      rw [x2 1346 (by decide) (by decide) (by decide) (by decide) (by decide), x2 1347 (by decide) (by decide) (by decide) (by decide) (by decide)]
      exact this
    · rw [up_at]
  by_cases w3 : byt s A i = 41 ∧ 0 < n
  · obtain ⟨x1, x2⟩ := q4 w3
    have lt := byt_in w3.1 (by decide)
    rw [x1, x2]
    refine ⟨kf_up (kf_up (kf_up K2 _ rfl) _ rfl) _ rfl, M2, .inr (.inr (.inr ⟨i + 1, n - 1, e3, by omega, ⟨⟨?_, ?_, ?_, ?_⟩, ⟨?_, ?_⟩, ⟨?_, by omega⟩, ?_, fun k hk => (lower2 k (by omega)).1, ?_, fun w => ?_, .inr ⟨.inl ?_, a4, b4, f4⟩⟩⟩))⟩
    · rw [up_ne _ _ (by decide), up_ne _ _ (by decide), up_ne _ _ (by decide)]; exact u55
    · rw [up_ne _ _ (by decide), up_ne _ _ (by decide), up_ne _ _ (by decide)]; exact v56
    · rw [up_ne _ _ (by decide), up_ne _ _ (by decide), up_ne _ _ (by decide)]; exact v76
    · rw [up_ne _ _ (by decide), up_ne _ _ (by decide), up_ne _ _ (by decide), v75]; exact c4
    · rw [up_ne _ _ (by decide), up_at]; omega
    · rw [up_ne _ _ (by decide), up_ne _ _ (by decide), up_ne _ _ (by decide), v52]; omega
    · rw [up_ne _ _ (by decide), up_ne _ _ (by decide), up_at]; omega
    · rw [up_ne _ _ (by decide), up_ne _ _ (by decide), up_ne _ _ (by decide)]; exact u88
    · obtain ⟨n', en⟩ : ∃ n', n = n' + 1 := ⟨n - 1, by omega⟩
      have t1 := tot_to (A := A) (B := A2) n' (fun k hk => (lower2 k (by omega)).2)
      have t2 : tot A n = tot A n' + frn A n := by
        rw [en]
        rfl
      rw [show n - 1 = n' by omega]
      omega
    · rw [up_ne _ _ (by decide), up_ne _ _ (by decide), up_ne _ _ (by decide), v75] at w
      exact claim2 w
    · rw [up_at]
  by_cases w4 : s 54 = 3 ∧ byt s A i = 61 ∧ n = 0 ∧ s 75 = 0
  · obtain ⟨x1, x2⟩ := q5 w4
    have lt := byt_in w4.2.1 (by decide)
    have n0 : n = 0 := w4.2.2.1
    subst n0
    have zr : ∀ x, (x = 1335 ∨ x = 1336 ∨ x = 1337) → A' x 0 = 0 := fun x hx => by
      rw [x2]
      rcases hx with q | q | q <;> subst q
      · rw [pa_ne (by decide), pa_ne (by decide), pa_0]
      · rw [pa_ne (by decide), pa_0]
      · rw [pa_0]
    have M' : sm A A' rdL := by
      rw [x2]
      exact pa_sm (pa_sm (pa_sm (sm_up (sm_up M2 _ rfl) _ rfl) _ _ rfl) _ _ rfl) _ _ rfl
    rw [x1]
    refine ⟨kf_up (kf_up (kf_up K2 _ rfl) _ rfl) _ rfl, M', .inr (.inr (.inr ⟨i + 1, 0, e3, by omega, ⟨⟨?_, ?_, ?_, ?_⟩, ⟨?_, ?_⟩, ⟨?_, by omega⟩, ?_, fun k hk => ?_, ?_, fun _ => ?_, .inl (.inl ?_)⟩⟩))⟩
    · rw [up_ne _ _ (by decide), up_ne _ _ (by decide), up_ne _ _ (by decide)]; exact u55
    · rw [up_ne _ _ (by decide), up_ne _ _ (by decide), up_ne _ _ (by decide)]; exact v56
    · rw [up_ne _ _ (by decide), up_ne _ _ (by decide), up_ne _ _ (by decide)]; exact v76
    · rw [up_ne _ _ (by decide), up_ne _ _ (by decide), up_at]; exact .inr rfl
    · rw [up_at]; omega
    · rw [up_ne _ _ (by decide), up_ne _ _ (by decide), up_ne _ _ (by decide), v52]; omega
    · rw [up_ne _ _ (by decide), up_ne _ _ (by decide), up_ne _ _ (by decide)]; exact v59
    · rw [up_ne _ _ (by decide), up_ne _ _ (by decide), up_ne _ _ (by decide)]; exact u88
    · have k0 : k = 0 := by omega
      subst k0
      unfold frk
      rw [zr _ (.inl rfl), zr _ (.inr (.inl rfl)), zr _ (.inr (.inr rfl))]
      exact ⟨⟨.inl rfl, .inl rfl, .inl rfl⟩, fun w => absurd rfl w, fun w => absurd rfl w⟩
    · have : tot A' 0 = 0 := by
        unfold tot frn
        rw [zr _ (.inl rfl), zr _ (.inr (.inl rfl)), zr _ (.inr (.inr rfl))]
        rfl
      have : tot A 0 = frn A 0 := rfl
      omega
    · refine ⟨a4, b4, ?_, ?_, f4.2.2⟩
      · rw [x2, pa_ne (by decide), pa_ne (by decide), pa_ne (by decide), up_ne _ _ (by decide), up_at]
      · rw [x2, pa_ne (by decide), pa_ne (by decide), pa_ne (by decide), up_at]
    · rw [up_ne _ _ (by decide), up_at]
  obtain ⟨x2, y1, y2⟩ := q6 w2 w3 w4
  rw [x2]
  by_cases w5 : (i : Int) < s 52 ∨ 0 < n ∨ (s 54 = 3 ∧ s 75 = 0)
  · exact stq_bad K2 v76 M2 (y1 w5) (by decide) (by omega)
  · have x1 := y2 w5
    rw [x1]
    have tg := tot_ge n c10
    have tn : frn A n ≤ tot A n := tg.1
    refine ⟨kf_up K2 _ rfl, M2, .inr (.inr (.inl ⟨?_, ?_, ?_, up_at _ _ _, ⟨a4, b4, f4⟩, ⟨e3, ?_, by omega⟩, fun m => claim2 ?_⟩))⟩
    · rw [up_ne _ _ (by decide)]; exact u55
    · rw [up_ne _ _ (by decide)]; exact v56
    · rw [up_ne _ _ (by decide)]; exact v76
    · rw [up_ne _ _ (by decide)]; exact u88
    · rcases c4 with x | x
      · exact absurd (.inr (.inr ⟨m, x⟩)) w5
      · exact x
