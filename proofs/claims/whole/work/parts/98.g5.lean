/-! a step: an atom -/
theorem X_hd : zp_deg (zp_X 1) 2 := fun i hi2 => if_neg (by omega)
theorem frc_X {A : Nat → Nat → Int} (e1 : A 1302 = cf (zp_X 1)) (e2 : A 1303 = cf (zp_C 1)) : frc A (zp_X 1) (zp_C 1) := ⟨e1, e2, deg_le X_hd (by decide), deg_le (zp_C_deg 1) (by decide), ⟨0, rfl, zp_C_deg 1⟩, co_1 _⟩
theorem byt_in {s : Nat → Int} {A : Nat → Nat → Int} {i : Nat} {c : Int} (h : byt s A i = c) (hc : c ≠ 0) : (i : Int) < s 52 := byt_lt (by rw [h]; exact hc)
/-- an atom is read: the state is 2, one more node or none -/
theorem cfg_atom {s s' : Nat → Int} {A A' : Nat → Nat → Int} {i n e i' e' : Nat} (c : cfg s A i n e) (k : ∀ j, j ≠ 71 → j ≠ 72 → j ≠ 88 → s' j = s j) (e71 : s' 71 = (i' : Int)) (e72 : s' 72 = 2 ∨ s' 72 = 3) (e88 : s' 88 = (e' : Int)) (m : ∀ x, 1335 ≤ x → x ≤ 1347 → A' x = A x) (h1 : (e' : Int) - e ≤ (i' : Int) - i) (h2 : (i' : Int) ≤ s 52) {a b : zp_R} (f : frc A' a b) : cfg s' A' i' n e' := by
  obtain ⟨⟨c1, c2, c3, c4⟩, ⟨c5, c6⟩, ⟨c7, c8⟩, c9, c10, c11, c12, c13⟩ := c
  have fr : ∀ k, k ≤ n → frk A' k := fun k hk => frk_sm (c10 k hk) (fun x x1 x2 => m x (by omega) (by omega))
  have tt : tot A' n = tot A n := tot_to n (fun k _ => by
    unfold frn
    rw [m 1335 (by decide) (by decide), m 1336 (by decide) (by decide), m 1337 (by decide) (by decide)])
  refine ⟨⟨?_, ?_, ?_, ?_⟩, ⟨e71, ?_⟩, ⟨?_, c8⟩, e88, fr, by omega, fun w => ?_, .inr ⟨e72, a, b, f⟩⟩
  · rw [k 55 (by decide) (by decide) (by decide)]; exact c1
  · rw [k 56 (by decide) (by decide) (by decide)]; exact c2
  · rw [k 76 (by decide) (by decide) (by decide)]; exact c3
  · rw [k 75 (by decide) (by decide) (by decide)]; exact c4
  · rw [k 52 (by decide) (by decide) (by decide)]; exact h2
  · rw [k 59 (by decide) (by decide) (by decide)]; exact c7
  · rw [k 75 (by decide) (by decide) (by decide)] at w
    unfold stc
    rw [m 1346 (by decide) (by decide), m 1347 (by decide) (by decide)]
    exact c12 w
theorem pa_lo {A : Nat → Nat → Int} {c n : Nat} {z : Int} (hc : c = 1356 ∨ c = 1357) (x : Nat) (h : x ≤ 1347) : pa A c n z x = A x := pa_ne (by omega)
theorem up_lo {A : Nat → Nat → Int} {c : Nat} {g : Nat → Int} (hc : c ≤ 1334) (x : Nat) (h : 1335 ≤ x) : up A c g x = A x := up_ne _ _ (by omega)
theorem pa_k {A : Nat → Nat → Int} {c n : Nat} {z : Int} {x k : Nat} (h : k ≠ n) : pa A c n z x k = A x k := by
  by_cases q : x = c
  · unfold pa
    rw [q, up_at, if_neg h]
  · rw [pa_ne q]
theorem pa_0 {A : Nat → Nat → Int} {c n : Nat} {z : Int} : pa A c n z c n = z := by
  unfold pa
  rw [up_at, if_pos rfl]
theorem ra_stq {s s' : Nat → Int} {A A' : Nat → Nat → Int} {T : Nat → th} {i n e : Nat} (E : rdE s A T) (m3 : 0 ≤ s 54 ∧ s 54 ≤ 3) (c : cfg s A i n e) (st : s 72 = 0 ∨ s 72 = 1) (φ : raR s A T i n e s' A') : stq s A i s' A' := by
  obtain ⟨⟨c1, c2, c3, c4⟩, ⟨c5, c6⟩, ⟨c7, c8⟩, c9, c10, c11, c12, c13⟩ := id c
  obtain ⟨hS, hB, hV, hF, hR⟩ := E
  have i200 : i ≤ 200 := by have := hS.1.2; omega
  obtain ⟨p1, p2, p3, p4, p5, p6, p7⟩ := φ
  by_cases w1 : byt s A i = 45 ∧ s 72 = 0
  · obtain ⟨x1, x2⟩ := p1 w1
    have lt := byt_in w1.1 (by decide)
    rw [x1, x2]
    refine ⟨kf_up (kf_up kf_0 _ rfl) _ rfl, pa_sm sm_refl _ _ rfl, .inr (.inr (.inr ⟨i + 1, n, e, by omega, ⟨⟨?_, ?_, ?_, ?_⟩, ⟨?_, ?_⟩, ⟨?_, c8⟩, ?_, ?_, ?_, fun w => ?_, .inl (.inr ?_)⟩⟩))⟩
    · rw [up_ne _ _ (by decide), up_ne _ _ (by decide)]; exact c1
    · rw [up_ne _ _ (by decide), up_ne _ _ (by decide)]; exact c2
    · rw [up_ne _ _ (by decide), up_ne _ _ (by decide)]; exact c3
    · rw [up_ne _ _ (by decide), up_ne _ _ (by decide)]; exact c4
    · rw [up_ne _ _ (by decide), up_at]; rfl
    · rw [up_ne _ _ (by decide), up_ne _ _ (by decide)]; omega
    · rw [up_ne _ _ (by decide), up_ne _ _ (by decide)]; exact c7
    · rw [up_ne _ _ (by decide), up_ne _ _ (by decide)]; exact c9
    · intro k hk
      refine frk_to (c10 k hk) (by rw [pa_ne (by decide)]) (by rw [pa_ne (by decide)]) ?_ (by rw [pa_ne (by decide)]) (by rw [pa_ne (by decide)]) (by rw [pa_ne (by decide)]) (by rw [pa_ne (by decide)]) (fun x hx => ?_)
      · unfold pa
        rw [up_at]
        split
        · exact .inr rfl
        · exact (c10 k hk).1.2.2
      · unfold fp
        rw [pa_ne (by omega)]
    · have := tot_top (A := A) (B := pa A 1337 n 1) n (fun k hk => by
        unfold frn
        rw [pa_ne (by decide), pa_ne (by decide)]
        unfold pa
        rw [up_at, if_neg (by omega)])
      have : frn (pa A 1337 n 1) n = frn A n - A 1337 n + 1 := by
        unfold frn
        rw [pa_ne (by decide), pa_ne (by decide)]
        unfold pa
        rw [up_at, if_pos rfl]
        omega
      have := (c10 n (Nat.le_refl _)).1.2.2
      unfold bl at this
      omega
    · rw [up_ne _ _ (by decide), up_ne _ _ (by decide)] at w
      unfold stc
      rw [pa_ne (by decide), pa_ne (by decide)]
      exact c12 w
    · rw [up_at]
  by_cases w2 : isd (byt s A i)
  · obtain ⟨k, s1, ds, x1, x2⟩ := p2 w2
    obtain ⟨k6, gd', dgc⟩ := id ds
    have k0 : 0 < k := Nat.pos_of_ne_zero (fun w => by
      rcases dgc with ⟨w3, _⟩ | ⟨w3, _⟩
      · rw [w] at w3; exact w3 w2
      · omega)
    have sm' : sm A A' rdL := by
      rw [x2]
      exact pa_sm (pa_sm (sm_up (sm_up sm_refl _ rfl) _ rfl) _ _ rfl) _ _ rfl
    have lk : ((i + (k - 1) : Nat) : Int) < s 52 := byt_lt (fun w => by
      have := gd' (k - 1) (by omega)
      rw [w] at this
      exact absurd this.1 (by decide))
    rcases dgc with ⟨_, es⟩ | ⟨_, _, es⟩
    · subst es
      rw [x1] at *
      rw [x2] at *
      refine ⟨kf_up (kf_up (kf_up kf_0 _ rfl) _ rfl) _ rfl, sm', .inr (.inr (.inr ⟨i + k, n, e + 1, by omega, cfg_atom c (fun j y1 y2 y3 => by rw [up_ne _ _ y2, up_ne _ _ y1, up_ne _ _ y3]) ?_ (.inl ?_) ?_ (fun x y1 y2 => ?_) (by omega) (by omega) (frc_C (nF (num A i k)) ?_ ?_)⟩))⟩
      · rw [up_ne _ _ (by decide), up_at]; omega
      · rw [up_at]
      · rw [up_ne _ _ (by decide), up_ne _ _ (by decide), up_at]; omega
      · rw [pa_lo (.inr rfl) x y2, pa_lo (.inl rfl) x y2, up_lo (by decide) x y1, up_lo (by decide) x y1]
      · rw [pa_ne (by decide), pa_ne (by decide), up_ne _ _ (by decide), up_at]
      · rw [pa_ne (by decide), pa_ne (by decide), up_at]
    · rw [flS_0 c1] at es
      rw [x1, es]
      refine ⟨kf_up (kf_up (kf_up (kf_up (kf_up kf_0 _ rfl) _ rfl) _ rfl) _ rfl) _ rfl, sm', .inl ⟨?_, ?_, ?_⟩⟩
      · unfold fl1
        rw [up_ne _ _ (by decide), up_ne _ _ (by decide), up_ne _ _ (by decide), up_ne _ _ (by decide), up_at]
        decide
      · unfold fl1
        rw [up_ne _ _ (by decide), up_ne _ _ (by decide), up_ne _ _ (by decide), up_at]
        omega
      · unfold fl1
        rw [up_ne _ _ (by decide), up_ne _ _ (by decide), up_ne _ _ (by decide), up_ne _ _ (by decide), up_ne _ _ (by decide)]
        exact c3
  by_cases w3 : byt s A i = 120
  · obtain ⟨x1, x2⟩ := p3 w3
    have lt := byt_in w3 (by decide)
    rw [x1, x2]
    refine ⟨kf_up (kf_up (kf_up kf_0 _ rfl) _ rfl) _ rfl, pa_sm (pa_sm (sm_up (sm_up sm_refl _ rfl) _ rfl) _ _ rfl) _ _ rfl, .inr (.inr (.inr ⟨i + 1, n, e + 1, by omega, cfg_atom c (fun j y1 y2 y3 => by rw [up_ne _ _ y2, up_ne _ _ y1, up_ne _ _ y3]) ?_ (.inl ?_) ?_ (fun x y1 y2 => ?_) (by omega) (by omega) (frc_X ?_ ?_)⟩))⟩
    · rw [up_ne _ _ (by decide), up_at]; omega
    · rw [up_at]
    · rw [up_ne _ _ (by decide), up_ne _ _ (by decide), up_at]; omega
    · rw [pa_lo (.inr rfl) x y2, pa_lo (.inl rfl) x y2, up_lo (by decide) x y1, up_lo (by decide) x y1]
    · rw [pa_ne (by decide), pa_ne (by decide), up_ne _ _ (by decide), up_at]
    · rw [pa_ne (by decide), pa_ne (by decide), up_at]
  by_cases w4 : 65 ≤ byt s A i ∧ byt s A i ≤ 80
  · have lt := byt_in (s := s) (A := A) (i := i) rfl (by omega)
    by_cases m : 2 ≤ s 54
    · obtain ⟨r1, r2⟩ := (p4 w4).1 m
      obtain ⟨z, ez⟩ : ∃ z : Nat, (byt s A i - 65).toNat = z := ⟨_, rfl⟩
      rw [ez] at r1 r2
      by_cases du : due A z
      · obtain ⟨x1, x2⟩ := r1 du
        rw [x1, x2]
        exact ⟨kf_up kf_0 _ rfl, sm_refl, .inr (.inl ⟨⟨by rw [up_ne _ _ (by decide)]; exact c1, by rw [up_ne _ _ (by decide)]; exact c2, m⟩, z, by omega, up_at _ _ _, du, by omega⟩)⟩
      · obtain ⟨y1, y2⟩ := r2 du
        by_cases hf : hsf A z
        · obtain ⟨x1, x2⟩ := y2 hf
          have b := hB.1 z (by omega)
          have wk : A 1373 z < A 1374 z := (Classical.byContradiction (fun w => du ⟨hf.1, w⟩) : wkd A z).1
          have hF' : ∀ c, c < 16 → A 1373 c < A 1374 c → A 1371 c = 0 → ∃ a b, fp A 1369 c = cf a ∧ fp A 1370 c = cf b ∧ zp_deg a 41 ∧ zp_deg b 41 ∧ mo b ∧ co a b := hF
          obtain ⟨a, bo, f1, f2, f3⟩ := hF' z (by omega) wk hf.2
          rw [x1, x2, f1, f2]
          refine ⟨kf_up (kf_up kf_0 _ rfl) _ rfl, sm_up (sm_up sm_refl _ rfl) _ rfl, .inr (.inr (.inr ⟨i + 1, n, e, by omega, cfg_atom c (fun j y1 y2 y3 => by rw [up_ne _ _ y2, up_ne _ _ y1]) ?_ (.inl ?_) ?_ (fun x y1 y2 => ?_) (by omega) (by omega) (a := a) (b := bo) ⟨?_, ?_, f3⟩⟩))⟩
          · rw [up_ne _ _ (by decide), up_at]; omega
          · rw [up_at]
          · rw [up_ne _ _ (by decide), up_ne _ _ (by decide)]; exact c9
          · rw [up_lo (by decide) x y1, up_lo (by decide) x y1]
          · rw [up_ne _ _ (by decide), up_at]
          · rw [up_at]
        · obtain ⟨x1, x2⟩ := y1 hf
          exact stq_bad kf_0 c3 (by rw [x2]; exact sm_refl) x1 (by decide) (by omega)
    · obtain ⟨x1, x2⟩ := (p4 w4).2 m
      exact stq_bad kf_0 c3 (by rw [x2]; exact sm_refl) x1 (by decide) (by omega)
  by_cases w5 : byt s A i = 35
  · have lt := byt_in w5 (by decide)
    by_cases m : s 54 ≠ 1 ∧ s 54 ≠ 2
    · obtain ⟨k, s1, ds, r1, r2, r3⟩ := (p5 w5).1 m
      obtain ⟨k6, gd', dgc⟩ := id ds
      by_cases k0 : k = 0
      · obtain ⟨x1, x2⟩ := r1 k0
        exact stq_bad kf_0 c3 (by rw [x2]; exact sm_refl) x1 (by decide) (by omega)
      have lk : ((i + 1 + (k - 1) : Nat) : Int) < s 52 := byt_lt (fun w => by
        have := gd' (k - 1) (by omega)
        rw [w] at this
        exact absurd this.1 (by decide))
      by_cases es : s1 = s
      · obtain ⟨q1, q2⟩ := r3 (by omega) es
        by_cases th0 : num A (i + 1) k < s 1 ∧ kd (T (num A (i + 1) k).toNat) = 0
        · obtain ⟨N, D, eT⟩ : ∃ N D, T (num A (i + 1) k).toNat = .inl (N, D) := by
            have q := th0.2
            rcases eT : T (num A (i + 1) k).toNat with ⟨N, D⟩ | f | ⟨r, c, M⟩ | ⟨n, so, va⟩
            · exact ⟨N, D, rfl⟩
            all_goals
              rw [eT] at q
              exact (kdn q rfl).elim
          obtain ⟨x1, x2⟩ := q2 th0.1 N D eT
          have nb := num_b (A := A) (i := i + 1) k (fun j hj => (dg_src hS gd').2 j hj)
          have it := hR.2.2 (num A (i + 1) k).toNat (by have := th0.1; omega)
          rw [eT] at it
          obtain ⟨t1, t2, t3, t4, t5⟩ := it
          rw [x1, x2]
          refine ⟨kf_up (kf_up kf_0 _ rfl) _ rfl, sm_up (sm_up sm_refl _ rfl) _ rfl, .inr (.inr (.inr ⟨i + (k + 1), n, e, by omega, cfg_atom c (fun j y1 y2 y3 => by rw [up_ne _ _ y2, up_ne _ _ y1]) ?_ (.inl ?_) ?_ (fun x y1 y2 => ?_) (by omega) (by omega) (a := N) (b := D) ⟨?_, ?_, fr_deg t2, fr_deg t3, t4, t5⟩⟩))⟩
          · rw [up_ne _ _ (by decide), up_at]; omega
          · rw [up_at]
          · rw [up_ne _ _ (by decide), up_ne _ _ (by decide)]; exact c9
          · rw [up_lo (by decide) x y1, up_lo (by decide) x y1]
          · rw [up_ne _ _ (by decide), up_at]
          · rw [up_at]
        · obtain ⟨x1, x2⟩ := q1 th0
          exact stq_bad kf_0 c3 (by rw [x2]; exact sm_refl) x1 (by decide) (by omega)
      · obtain ⟨x1, x2⟩ := r2 (by omega) es
        rcases dgc with ⟨_, es2⟩ | ⟨_, _, es2⟩
        · exact absurd es2 es
        · rw [flS_0 c1] at es2
          exact stq_bad kf_0 c3 (by rw [x2]; exact sm_refl) (x1.trans es2) (by decide) (by omega)
    · obtain ⟨x1, x2⟩ := (p5 w5).2 m
      exact stq_bad kf_0 c3 (by rw [x2]; exact sm_refl) x1 (by decide) (by omega)
  by_cases w6 : byt s A i = 40
  · have lt := byt_in w6 (by decide)
    obtain ⟨r1, r2⟩ := p6 w6
    by_cases n20 : n = 20
    · obtain ⟨x1, x2⟩ := r1 n20
      exact stq_bad kf_0 c3 (by rw [x2]; exact sm_refl) x1 (by decide) (by omega)
    · obtain ⟨x1, x2⟩ := r2 n20
      have rowB : ∀ x k, k ≠ n + 1 → pa (pa (pa A 1335 (n + 1) 0) 1336 (n + 1) 0) 1337 (n + 1) 0 x k = A x k := fun x k hk => by
        rw [pa_k hk, pa_k hk, pa_k hk]
      have rowC : ∀ x, (x = 1335 ∨ x = 1336 ∨ x = 1337) → pa (pa (pa A 1335 (n + 1) 0) 1336 (n + 1) 0) 1337 (n + 1) 0 x (n + 1) = 0 := fun x hx => by
        rcases hx with q | q | q <;> subst q
        · rw [pa_ne (by decide), pa_ne (by decide), pa_0]
        · rw [pa_ne (by decide), pa_0]
        · rw [pa_0]
      have rowD : ∀ x, x ≠ 1335 → x ≠ 1336 → x ≠ 1337 → pa (pa (pa A 1335 (n + 1) 0) 1336 (n + 1) 0) 1337 (n + 1) 0 x = A x := fun x y1 y2 y3 => by rw [pa_ne y3, pa_ne y2, pa_ne y1]
      have sm' : sm A A' rdL := by
        rw [x2]
        exact pa_sm (pa_sm (pa_sm sm_refl _ _ rfl) _ _ rfl) _ _ rfl
      rw [← x2] at rowB rowC rowD
      have lower : ∀ k, k ≤ n → frk A' k ∧ frn A' k = frn A k := fun k hk => by
        refine ⟨frk_to (c10 k hk) (rowB _ _ (by omega)) (rowB _ _ (by omega)) ?_ (rowB _ _ (by omega)) (rowB _ _ (by omega)) (rowB _ _ (by omega)) (rowB _ _ (by omega)) (fun x hx => ?_), ?_⟩
        · rw [rowB _ _ (by omega)]
          exact (c10 k hk).1.2.2
        · unfold fp
          rw [rowD x (by omega) (by omega) (by omega)]
        · unfold frn
          rw [rowB _ _ (by omega), rowB _ _ (by omega), rowB _ _ (by omega)]
      rw [x1]
      refine ⟨kf_up (kf_up (kf_up kf_0 _ rfl) _ rfl) _ rfl, sm', .inr (.inr (.inr ⟨i + 1, n + 1, e, by omega, ⟨⟨?_, ?_, ?_, ?_⟩, ⟨?_, ?_⟩, ⟨?_, by omega⟩, ?_, ?_, ?_, fun w => ?_, .inl (.inl ?_)⟩⟩))⟩
      · rw [up_ne _ _ (by decide), up_ne _ _ (by decide), up_ne _ _ (by decide)]; exact c1
      · rw [up_ne _ _ (by decide), up_ne _ _ (by decide), up_ne _ _ (by decide)]; exact c2
      · rw [up_ne _ _ (by decide), up_ne _ _ (by decide), up_ne _ _ (by decide)]; exact c3
      · rw [up_ne _ _ (by decide), up_ne _ _ (by decide), up_ne _ _ (by decide)]; exact c4
      · rw [up_at]; omega
      · rw [up_ne _ _ (by decide), up_ne _ _ (by decide), up_ne _ _ (by decide)]; omega
      · rw [up_ne _ _ (by decide), up_ne _ _ (by decide), up_at]; omega
      · rw [up_ne _ _ (by decide), up_ne _ _ (by decide), up_ne _ _ (by decide)]; exact c9
      · intro k hk
        by_cases q : k = n + 1
        · subst q
          unfold frk
          rw [rowC _ (.inl rfl), rowC _ (.inr (.inl rfl)), rowC _ (.inr (.inr rfl))]
          exact ⟨⟨.inl rfl, .inl rfl, .inl rfl⟩, fun w => absurd rfl w, fun w => absurd rfl w⟩
        · exact (lower k (by omega)).1
      · have : frn A' (n + 1) = 0 := by
          unfold frn
          rw [rowC _ (.inl rfl), rowC _ (.inr (.inl rfl)), rowC _ (.inr (.inr rfl))]
          rfl
        unfold tot
        rw [tot_to (A := A) n (fun k hk => (lower k hk).2)]
        omega
      · rw [up_ne _ _ (by decide), up_ne _ _ (by decide), up_ne _ _ (by decide)] at w
        unfold stc
        rw [rowD _ (by decide) (by decide) (by decide), rowD _ (by decide) (by decide) (by decide)]
        exact c12 w
      · rw [up_ne _ _ (by decide), up_at]
  obtain ⟨x1, x2⟩ := p7 ⟨w1, w2, w3, w4, w5, w6⟩
  exact stq_bad kf_0 c3 (by rw [x2]; exact sm_refl) x1 (by decide) (by omega)
