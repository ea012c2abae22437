/-! the reference's goOn -/
def cpL : List Nat := [1298, 1299, 1300, 1301, 1302, 1303, 1304, 1305, 1306, 1307, 1308, 1309, 1310, 1311, 1312, 1356, 1357]
def ctL : List Nat := [1298, 1299, 1300, 1301, 1302, 1303, 1304, 1305, 1306, 1307, 1308, 1309, 1310, 1311, 1312, 1337, 1356, 1357]
/-- a fraction that may be put by -/
def frc (A : Nat → Nat → Int) (a b : zp_R) : Prop := A 1302 = cf a ∧ A 1303 = cf b ∧ zp_deg a 41 ∧ zp_deg b 41 ∧ mo b ∧ co a b
theorem co_h5 {R : Type} [Lean.Grind.CommRing R] {c b : R} (h : c * c = 1) : c * c + 0 * b = 1 := by grind
theorem co_nm {a b : zp_R} (h : co a b) : co (zp_mul (zp_C (nF 32002)) a) b := co_mul ⟨zp_C (nF 32002), zp_C 0, @co_h5 zp_R zp_ring (zp_C (nF 32002)) b (by
  show zp_mul _ _ = _
  rw [zp_C_mul, show nF 32002 * nF 32002 = (1 : zp_F) by decide +kernel]
  exact zp_C1)⟩ h
theorem deg_ng {N : zp_R} (d : zp_deg N 176) (h : ¬ 40 < hi N) : zp_deg N 41 := fun i hi2 => hi_deg d i (by omega)
theorem cpR_out {s s1 : Nat → Int} {A A1 : Nat → Nat → Int} {n e : Nat} {a b p q : zp_R} (h : cpR s A n e a b p q s1 A1) (b55 : s 55 = 0) (he : s 88 = (e : Int)) (ht : A 1336 n = 0 ∨ A 1336 n = 1) (f : frc A a b) : (∀ j, j ≠ 55 → j ≠ 56 → j ≠ 88 → s1 j = s j) ∧ sm A A1 cpL ∧ (((s1 55 = 4 ∨ s1 55 = 5) ∧ s1 56 = A 1341 n ∧ A 1336 n ≠ 0) ∨ (s1 55 = 0 ∧ s1 56 = s 56 ∧ ∃ (a1 b1 : zp_R) (e1 : Nat), frc A1 a1 b1 ∧ s1 88 = (e1 : Int) ∧ (e1 : Int) ≤ (e : Int) + A 1336 n)) := by
  obtain ⟨h1, h2⟩ := h
  have fl5 : ∀ w pl : Int, fl1 s w pl 55 = w := fun w pl => by
    unfold fl1
    rw [up_ne _ _ (by decide), up_at]
  have flj : ∀ w pl : Int, ∀ j, j ≠ 55 → j ≠ 56 → fl1 s w pl j = s j := fun w pl j y1 y2 => by
    unfold fl1
    rw [up_ne _ _ y2, up_ne _ _ y1]
  by_cases w : A 1336 n = 0
  · obtain ⟨e1, e2⟩ := h1 w
    rw [e1, e2]
    exact ⟨fun _ _ _ _ => rfl, sm_refl, .inr ⟨b55, rfl, a, b, e, f, he, by omega⟩⟩
  have t1 : A 1336 n = 1 := ht.resolve_left w
  obtain ⟨x1, x2⟩ := h2 w
  by_cases m : s 54 = 1
  · obtain ⟨e1, e2⟩ := x1 m
    rw [e1, e2]
    refine ⟨fun j _ _ y3 => up_ne _ _ y3, sm_up (sm_up sm_refl _ rfl) _ rfl, .inr ⟨by rw [up_ne _ _ (by decide)]; exact b55, up_ne _ _ (by decide), a, b, e + 1, ?_, by rw [up_at]; rfl, by omega⟩⟩
    exact ⟨by rw [pa_ne (by decide), pa_ne (by decide)]; exact f.1, by rw [pa_ne (by decide), pa_ne (by decide)]; exact f.2.1, f.2.2⟩
  obtain ⟨y1, y2, y3⟩ := x2 m
  have sc : sm A A1 cpL := sm_sub y1 rfl
  by_cases z : A 1339 n = 47 ∧ a = zp_C 0
  · have e1 := y2 z
    rw [e1]
    exact ⟨fun j z1 z2 _ => flj _ _ j z1 z2, sc, .inl ⟨.inl (fl5 _ _), up_at _ _ _, w⟩⟩
  obtain ⟨N, D, c, dN, dD, gN, gD, g1, g2⟩ := y3 z
  by_cases gr : 40 < hi N ∨ 40 < hi D
  · have e1 := g1 gr
    rw [e1]
    exact ⟨fun j z1 z2 _ => flj _ _ j z1 z2, sc, .inl ⟨.inr (fl5 _ _), up_at _ _ _, w⟩⟩
  · have e1 := g2 gr
    rw [e1]
    exact ⟨fun _ _ _ _ => rfl, sc, .inr ⟨b55, rfl, N, D, e, ⟨gN, gD, deg_ng dN (fun w2 => gr (.inl w2)), deg_ng dD (fun w2 => gr (.inr w2)), c.2.2, c.2.1⟩, he, by omega⟩⟩
theorem ctR_out {s s1 : Nat → Int} {A A1 : Nat → Nat → Int} {n e : Nat} {a b p q : zp_R} (h : ctR s A n e a b p q s1 A1) (b55 : s 55 = 0) (he : s 88 = (e : Int)) (hl : A 1337 n = 0 ∨ A 1337 n = 1) (ht : A 1335 n = 0 ∨ A 1335 n = 1) (f : frc A a b) : (∀ j, j ≠ 55 → j ≠ 56 → j ≠ 88 → s1 j = s j) ∧ sm A A1 ctL ∧ A1 1337 n = 0 ∧ (∀ k, k ≠ n → A1 1337 k = A 1337 k) ∧ ((s1 55 = 5 ∧ s1 56 = A 1340 n ∧ A 1335 n ≠ 0) ∨ (s1 55 = 0 ∧ s1 56 = s 56 ∧ ∃ (a1 b1 : zp_R) (e1 : Nat), frc A1 a1 b1 ∧ s1 88 = (e1 : Int) ∧ (e1 : Int) ≤ (e : Int) + A 1337 n + A 1335 n)) := by
  obtain ⟨s2, A2, e2, a2, k0, k1, h1, h2⟩ := h
  -- what the sign of the term leaves
  have mid_ : (∀ j, j ≠ 88 → s2 j = s j) ∧ sm A A2 ctL ∧ A2 1337 n = 0 ∧ (∀ k, k ≠ n → A2 1337 k = A 1337 k) ∧ frc A2 a2 b ∧ s2 88 = (e2 : Int) ∧ (e2 : Int) = (e : Int) + A 1337 n := by
    by_cases w : A 1337 n = 0
    · obtain ⟨z1, z2, z3, z4⟩ := k0 w
      rw [z1, z2, z3, z4]
      refine ⟨fun _ _ => rfl, sm_up sm_refl _ rfl, ?_, fun k hk => ?_, ⟨by rw [pa_ne (by decide)]; exact f.1, by rw [pa_ne (by decide)]; exact f.2.1, f.2.2⟩, he, by omega⟩
      · show up A 1337 _ 1337 n = 0
        rw [up_at, if_pos rfl]
      · show up A 1337 _ 1337 k = _
        rw [up_at, if_neg hk]
    · have l1 := hl.resolve_left w
      obtain ⟨z1, z2, z3, z4⟩ := k1 w
      have rw_ : ∀ x, x ≠ 1302 → x ≠ 1356 → x ≠ 1357 → x ≠ 1337 → A2 x = A x := fun x q1 q2 q3 q4 => by rw [z4, pa_ne q4, up_ne _ _ q1, pa_ne q3, pa_ne q2]
      refine ⟨fun j hj => by rw [z1, up_ne _ _ hj], ?_, ?_, fun k hk => ?_, ⟨by rw [z4, pa_ne (by decide), up_at], by rw [rw_ 1303 (by decide) (by decide) (by decide) (by decide)]; exact f.2.1, by rw [z3]; exact deg_Cm _ f.2.2.1, f.2.2.2.1, f.2.2.2.2.1, by rw [z3]; exact co_nm f.2.2.2.2.2⟩, by rw [z1, up_at, z2]; rfl, by rw [z2]; omega⟩
      · exact fun j hj => rw_ j (fun q => by rw [q] at hj; exact absurd hj (by decide)) (fun q => by rw [q] at hj; exact absurd hj (by decide)) (fun q => by rw [q] at hj; exact absurd hj (by decide)) (fun q => by rw [q] at hj; exact absurd hj (by decide))
      · rw [z4]
        unfold pa
        rw [up_at, if_pos rfl]
      · rw [z4]
        have y : ∀ (B : Nat → Nat → Int), pa B 1337 n 0 1337 k = B 1337 k := fun B => by
          unfold pa
          rw [up_at, if_neg hk]
        rw [y, up_ne _ _ (by decide), pa_ne (by decide), pa_ne (by decide)]
  obtain ⟨m1, m2, m3, m4, m5, m6, m7⟩ := mid_
  have z55 : s2 55 = 0 := by rw [m1 55 (by decide)]; exact b55
  have fl5 : ∀ w pl : Int, fl1 s2 w pl 55 = w := fun w pl => by
    unfold fl1
    rw [up_ne _ _ (by decide), up_at]
  have flj : ∀ w pl : Int, ∀ j, j ≠ 55 → j ≠ 56 → fl1 s2 w pl j = s2 j := fun w pl j y1 y2 => by
    unfold fl1
    rw [up_ne _ _ y2, up_ne _ _ y1]
  by_cases w : A 1335 n = 0
  · obtain ⟨e1, e3⟩ := h1 w
    rw [e1, e3]
    exact ⟨fun j _ _ y3 => m1 j y3, m2, m3, m4, .inr ⟨z55, m1 56 (by decide), a2, b, e2, m5, m6, by omega⟩⟩
  have t1 : A 1335 n = 1 := ht.resolve_left w
  obtain ⟨x1, x2⟩ := h2 w
  by_cases m : s 54 = 1
  · obtain ⟨e1, e3⟩ := x1 m
    rw [e1, e3]
    refine ⟨fun j _ _ y3 => by rw [up_ne _ _ y3]; exact m1 j y3, sm_up (sm_up m2 _ rfl) _ rfl, by rw [pa_ne (by decide), pa_ne (by decide)]; exact m3, fun k hk => by rw [pa_ne (by decide), pa_ne (by decide)]; exact m4 k hk, .inr ⟨by rw [up_ne _ _ (by decide)]; exact z55, by rw [up_ne _ _ (by decide)]; exact m1 56 (by decide), a2, b, e2 + 1, ⟨by rw [pa_ne (by decide), pa_ne (by decide)]; exact m5.1, by rw [pa_ne (by decide), pa_ne (by decide)]; exact m5.2.1, m5.2.2⟩, by rw [up_at]; rfl, by omega⟩⟩
  obtain ⟨y1, N, D, c, dN, dD, gN, gD, g1, g2⟩ := x2 m
  have sc : sm A A1 ctL := sm_tr m2 (sm_sub y1 rfl)
  have c37 : A1 1337 = A2 1337 := y1 1337 rfl
  by_cases gr : 40 < hi N ∨ 40 < hi D
  · have e1 := g1 gr
    rw [e1]
    exact ⟨fun j z1 z2 z3 => by rw [flj _ _ j z1 z2]; exact m1 j z3, sc, by rw [c37]; exact m3, fun k hk => by rw [c37]; exact m4 k hk, .inl ⟨fl5 _ _, by
      unfold fl1
      rw [up_at], w⟩⟩
  · have e1 := g2 gr
    rw [e1]
    exact ⟨fun j _ _ z3 => m1 j z3, sc, by rw [c37]; exact m3, fun k hk => by rw [c37]; exact m4 k hk, .inr ⟨z55, m1 56 (by decide), N, D, e2, ⟨gN, gD, deg_ng dN (fun w2 => gr (.inl w2)), deg_ng dD (fun w2 => gr (.inr w2)), c.2.2, c.2.1⟩, m6, by omega⟩⟩
/-- a sign stands at i: what lies in a fraction goes to rows t and b, the sign and its place are kept -/
def sgR (s : Nat → Int) (A : Nat → Nat → Int) (i n : Nat) (c : Int) (t bo ha si pl : Nat) (a b : zp_R) (s' : Nat → Int) (A' : Nat → Nat → Int) : Prop := s' = up (up s 71 ((i : Int) + 1)) 72 1 ∧ (∀ x, x ≠ t → x ≠ bo → x ≠ ha → x ≠ si → x ≠ pl → A' x = A x) ∧ pfn A A' t n a ∧ pfn A A' bo n b ∧ A' ha = (fun k => if k = n then 1 else A ha k) ∧ A' si = (fun k => if k = n then c else A si k) ∧ A' pl = fun k => if k = n then (i : Int) else A pl k
/-- behind a power, at place i: n brackets are open -/
def rgR (s : Nat → Int) (A : Nat → Nat → Int) (i n e : Nat) (a b p q p' q' : zp_R) (s' : Nat → Int) (A' : Nat → Nat → Int) : Prop := ∃ (s1 : Nat → Int) (A1 : Nat → Nat → Int), cpR s A n e a b p q s1 A1 ∧ (s1 55 ≠ 0 → s' = s1 ∧ A' = A1) ∧ (s1 55 = 0 → ∃ (a1 b1 : zp_R) (e1 : Nat), frc A1 a1 b1 ∧ s1 88 = (e1 : Int) ∧ ((byt s A i = 42 ∨ byt s A i = 47) → sgR s1 A1 i n (byt s A i) 1344 1345 1336 1339 1341 a1 b1 s' A') ∧ (¬ (byt s A i = 42 ∨ byt s A i = 47) → ∃ (s2 : Nat → Int) (A2 : Nat → Nat → Int), ctR s1 (pa A1 1336 n 0) n e1 a1 b1 p' q' s2 A2 ∧ (s2 55 ≠ 0 → s' = s2 ∧ A' = A2) ∧ (s2 55 = 0 → ∃ (a2 b2 : zp_R), frc A2 a2 b2 ∧ ((byt s A i = 43 ∨ byt s A i = 45) → sgR s2 A2 i n (byt s A i) 1342 1343 1335 1338 1340 a2 b2 s' A') ∧ ((byt s A i = 41 ∧ 0 < n) → s' = up (up (up s2 59 ((n : Int) - 1)) 71 ((i : Int) + 1)) 72 2 ∧ A' = A2) ∧ ((s 54 = 3 ∧ byt s A i = 61 ∧ n = 0 ∧ s 75 = 0) → s' = up (up (up s2 75 1) 72 0) 71 ((i : Int) + 1) ∧ A' = pa (pa (pa (up (up A2 1346 (cf a2)) 1347 (cf b2)) 1335 n 0) 1336 n 0) 1337 n 0) ∧ (¬ (byt s A i = 43 ∨ byt s A i = 45) → ¬ (byt s A i = 41 ∧ 0 < n) → ¬ (s 54 = 3 ∧ byt s A i = 61 ∧ n = 0 ∧ s 75 = 0) → A' = A2 ∧ (((i : Int) < s 52 ∨ 0 < n ∨ (s 54 = 3 ∧ s 75 = 0)) → s' = fl1 s2 1 (i : Int)) ∧ (¬ ((i : Int) < s 52 ∨ 0 < n ∨ (s 54 = 3 ∧ s 75 = 0)) → s' = up s2 72 4)))))
section
variable {d : Nat} {h : s_H} {s : Nat → Int} {A : Nat → Nat → Int}
theorem V_goOn (hv : RV h s A) (hS : SX s A) (b55 : s 55 = 0) (m3 : 0 ≤ s 54 ∧ s 54 ≤ 3) (s75 : s 75 = 0 ∨ s 75 = 1) {i n e : Nat} (hi2 : s 71 = (i : Int)) (i200 : i ≤ 200) (hn : s 59 = (n : Int)) (n20 : n ≤ 20) (he : s 88 = (e : Int)) (e200 : (e : Int) + A 1335 n + A 1336 n + A 1337 n ≤ 200) (hsu : A 1335 n = 0 ∨ A 1335 n = 1) (hte : A 1336 n = 0 ∨ A 1336 n = 1) (hle : A 1337 n = 0 ∨ A 1337 n = 1) (ssg : A 1335 n ≠ 0 → A 1338 n = 43 ∨ A 1338 n = 45) (tsg : A 1336 n ≠ 0 → A 1339 n = 42 ∨ A 1339 n = 47) {a b p q p' q' : zp_R} (f : frc A a b) (ht1 : A 1336 n ≠ 0 → fp A 1344 n = cf p ∧ fp A 1345 n = cf q ∧ zp_deg p 41 ∧ zp_deg q 41 ∧ 0 ≤ hi q) (hs1 : A 1335 n ≠ 0 → fp A 1342 n = cf p' ∧ fp A 1343 n = cf q' ∧ zp_deg p' 41 ∧ zp_deg q' 41 ∧ 0 ≤ hi q') : wm sw_P (d + 9) 458 [.index 1290] h (RN h (rgR s A i n e a b p q p' q')) := by
  refine wm_in (cd := sw_c458) (nL := 2) (hd := sw_h458) rfl rfl ?_
  have i54 : In3 (s 54) := by unfold In3; omega
  have cb := byt_b hS i
  have rd71 : ∀ s1 : Nat → Int, s1 71 = (i : Int) → s_nth (rF s1) 71 = some (vi (i : Int)) := fun s1 e => by
    show some (vi (s1 71)) = _
    rw [e]
  have rd59 : ∀ s1 : Nat → Int, s1 59 = (n : Int) → s_nth (rF s1) 59 = some (vi (n : Int)) := fun s1 e => by
    show some (vi (s1 59)) = _
    rw [e]
  have mb := mo_pos f.2.2.2.2.1 (deg_le f.2.2.2.1 (by decide))
  refine k458_0 (z5 := (i : Int)) hv.1 (wm_mono (wq_r ?_) (V_byteAt hv hS (i := i) (by omega))) (n6 := rd71 s hi2)
  refine k458_8 hv.1 (wm_mono (wq_N (fun h1 s1 A1 v1 r1 φ => ?_)) (V_closePower hv b55 i54 hn n20 he (fun w => by rcases hsu with x | x <;> rcases hle with y | y <;> rcases hte with z | z <;> omega) hte tsg (p := p) (q := q) f.1 f.2.1 (fun _ => f.2.2.1) (fun _ => f.2.2.2.1) (fun _ => mb) (fun _ w => ht1 w)))
  obtain ⟨c1, c2, c3⟩ := cpR_out φ b55 he hte f
  have h71 : s1 71 = (i : Int) := by rw [c1 71 (by decide) (by decide) (by decide), hi2]
  have h59 : s1 59 = (n : Int) := by rw [c1 59 (by decide) (by decide) (by decide), hn]
  rcases c3 with ⟨c3, _⟩ | ⟨z55, _, a1, b1, e1, f1, h88, e1b⟩
  · refine k458_13 (z5 := s1 55) v1.1 (fun w => absurd w (by rcases c3 with x | x <;> omega)) (fun _ => k458_20 ?_) (c7 := by rcases c3 with x | x <;> rw [x] <;> decide)
    exact ⟨h1, s1, A1, v1, r1, ⟨s1, A1, φ, fun _ => ⟨rfl, rfl⟩, fun w => absurd w (by rcases c3 with x | x <;> omega)⟩, rfl⟩
  refine k458_13 (z5 := s1 55) v1.1 (fun _ => ?_) (fun w => absurd (by omega) w) (c7 := by rw [z55]; decide)
  have mb1 := f1.2.2.2.2.1
  -- a sign's rows
  have set_ : ∀ (g : Nat → Int) (z : Int), (mk 21 g).set (Int.toNat (n : Int)) z = mk 21 (fun t => if t = n then z else g t) := fun g z => by rw [mk_set]; rfl
  have star : (byt s A i = 42 ∨ byt s A i = 47) → wr sw_P (d + 8) sw_c458 sw_h458 (33, [.index 1290, vi (byt s A i)], [], h1, 0, 0) (RN h (rgR s A i n e a b p q p' q')) := fun w => by
    refine k458_33 v1.1 (wm_mono (wq_N (fun h2 s2 A2 v2 r2 χ => ?_)) (V_storeTerm v1 h59 n20 f1.1 f1.2.1 f1.2.2.1 f1.2.2.2.1))
    obtain ⟨es2, o2, p1, p2⟩ := χ
    subst es2
    have v3 := Rp_hasTerm v2 (fun t => if t = n then 1 else A2 1336 t)
    have v4 := Rp_termSign v3 (fun t => if t = n then byt s A i else A2 1339 t)
    have v5 := Rp_termPlace v4 (fun t => if t = n then (i : Int) else A2 1341 t)
    have v6 := RV_fld v5 (up s2 71 ((i : Int) + 1)) (rF_71 s2 ((i : Int) + 1))
    have v7 := RV_fld v6 (up (up s2 71 ((i : Int) + 1)) 72 1) (rF_72 (up s2 71 ((i : Int) + 1)) 1)
    refine k458_37 (z7 := (n : Int)) (z20 := (n : Int)) (z33 := (n : Int)) (z35 := (i : Int)) (z46 := (i : Int)) (a10 := mk 21 (A2 1336)) (a23 := mk 21 (A2 1339)) (a38 := mk 21 (A2 1341)) v2.1 (Ra_hasTerm v2) (by rw [set_]; exact v3.1) ((hp_ne (Ra_hasTerm v2) (by decide)).trans (Ra_termSign v2)) (by rw [set_, set_]; exact v4.1) (by rw [set_]; exact (hp_ne (Ra_termSign v3) (by decide)).trans ((hp_ne (Ra_hasTerm v2) (by decide)).trans (Ra_termPlace v2))) (by rw [set_, set_, set_]; exact v5.1) (by rw [set_, set_, set_]; exact v6.1) ?_ (n8 := rd59 s2 h59) (n21 := rd59 s2 h59) (n34 := rd59 s2 h59) (n36 := rd71 s2 h71) (n47 := rd71 s2 h71) (c12 := by rw [mk_len]; omega) (c13 := by omega) (c14 := by unfold In3; omega) (c25 := by rw [mk_len]; omega) (c26 := by omega) (c27 := by unfold In3; omega) (c40 := by rw [mk_len]; omega) (c41 := by omega) (c42 := by unfold In3; omega)
    rw [set_, set_, set_]
    refine ⟨_, _, _, v7, FR_trans r1 (FR_trans r2 (FR_trans (FR_put v2 (c := 1336) (by decide) (by decide) _) (FR_trans (FR_put v3 (c := 1339) (by decide) (by decide) _) (FR_trans (FR_put v4 (c := 1341) (by decide) (by decide) _) (FR_trans (FR_fld v5 _) (FR_fld v6 _)))))), ⟨s2, A1, φ, fun w2 => absurd z55 w2, fun _ => ⟨a1, b1, e1, f1, h88, fun _ => ⟨rfl, fun x y1 y2 y3 y4 y5 => by rw [up_ne _ _ y5, up_ne _ _ y4, up_ne _ _ y3, o2 x y1 y2], ?_, ?_, ?_, ?_, ?_⟩, fun w2 => absurd w w2⟩⟩, rfl⟩
    · unfold pfn fp at *
      rw [up_ne _ _ (by decide), up_ne _ _ (by decide), up_ne _ _ (by decide)]
      exact p1
    · unfold pfn fp at *
      rw [up_ne _ _ (by decide), up_ne _ _ (by decide), up_ne _ _ (by decide)]
      exact p2
    · rw [up_ne _ _ (by decide), up_ne _ _ (by decide), up_at, o2 1336 (by decide) (by decide)]
    · rw [up_ne _ _ (by decide), up_at, o2 1339 (by decide) (by decide)]
    · rw [up_at, o2 1341 (by decide) (by decide)]
  refine k458_21 (fun w => star (.inl w)) (fun w => ?_) (c1 := by unfold In3; omega)
  refine k458_27 (fun w' => ?_) (fun w' => star (.inr (Classical.byContradiction w'))) (c1 := by unfold In3; omega)
  have ns : ¬ (byt s A i = 42 ∨ byt s A i = 47) := fun x => x.elim w w'
  have v2 := Rp_hasTerm v1 (fun t => if t = n then 0 else A1 1336 t)
  have v2' : RV (hp h1 1336 (ab 21 (fun t => if t = n then 0 else A1 1336 t))) s1 (pa A1 1336 n 0) := v2
  have keep_ : ∀ x, x ≠ 1336 → pa A1 1336 n 0 x = A1 x := fun x hx => pa_ne hx
  have k35 : pa A1 1336 n 0 1335 = A 1335 := (keep_ 1335 (by decide)).trans (c2 1335 rfl)
  have k37 : pa A1 1336 n 0 1337 = A 1337 := (keep_ 1337 (by decide)).trans (c2 1337 rfl)
  have k38 : pa A1 1336 n 0 1338 = A 1338 := (keep_ 1338 (by decide)).trans (c2 1338 rfl)
  have f1' : frc (pa A1 1336 n 0) a1 b1 := ⟨(keep_ 1302 (by decide)).trans f1.1, (keep_ 1303 (by decide)).trans f1.2.1, f1.2.2⟩
  have fpk : ∀ x, x ≠ 1336 → cpL.contains x = false → fp (pa A1 1336 n 0) x n = fp A x n := fun x y1 y2 => by
    unfold fp
    rw [keep_ x y1, c2 x y2]
  have d54 : s1 54 = s 54 := c1 54 (by decide) (by decide) (by decide)
  refine k458_86 (z7 := (n : Int)) (a10 := mk 21 (A1 1336)) v1.1 (Ra_hasTerm v1) (by rw [set_]; exact v2.1) ?_ (n8 := rd59 s1 h59) (c12 := by rw [mk_len]; omega) (c13 := by omega) (c14 := by unfold In3; omega)
  rw [set_]
  refine wm_mono (wq_N (fun h3 s3 A3 v3 r3 χ => ?_)) (V_closeTerm (p := p') (q := q') v2' z55 (by rw [d54]; exact i54) h59 n20 h88 (by rw [k37, k35]; rcases hsu with x | x <;> rcases hle with y | y <;> rcases hte with z | z <;> omega) (by rw [k37]; exact hle) (by rw [k35]; exact hsu) (by rw [k35, k38]; exact ssg) f1'.1 f1'.2.1 (fun _ => f1.2.2.1) (fun _ => f1.2.2.2.1) (fun _ => mo_pos mb1 (deg_le f1.2.2.2.1 (by decide))) (fun _ w2 => by
    rw [k35] at w2
    rw [fpk 1342 (by decide) rfl, fpk 1343 (by decide) rfl]
    exact hs1 w2))
  obtain ⟨t1, t2, _, _, t3⟩ := ctR_out χ z55 h88 (by rw [k37]; exact hle) (by rw [k35]; exact hsu) f1'
  have sj : ∀ j, j ≠ 55 → j ≠ 56 → j ≠ 88 → s3 j = s j := fun j y1 y2 y3 => (t1 j y1 y2 y3).trans (c1 j y1 y2 y3)
  have R3 : FR h h3 := FR_trans r1 (FR_trans (FR_put v1 (c := 1336) (by decide) (by decide) _) r3)
  have tell : ∀ (s' : Nat → Int) (A' : Nat → Nat → Int), (s3 55 ≠ 0 → s' = s3 ∧ A' = A3) → (s3 55 = 0 → ∃ (a2 b2 : zp_R), frc A3 a2 b2 ∧ ((byt s A i = 43 ∨ byt s A i = 45) → sgR s3 A3 i n (byt s A i) 1342 1343 1335 1338 1340 a2 b2 s' A') ∧ ((byt s A i = 41 ∧ 0 < n) → s' = up (up (up s3 59 ((n : Int) - 1)) 71 ((i : Int) + 1)) 72 2 ∧ A' = A3) ∧ ((s 54 = 3 ∧ byt s A i = 61 ∧ n = 0 ∧ s 75 = 0) → s' = up (up (up s3 75 1) 72 0) 71 ((i : Int) + 1) ∧ A' = pa (pa (pa (up (up A3 1346 (cf a2)) 1347 (cf b2)) 1335 n 0) 1336 n 0) 1337 n 0) ∧ (¬ (byt s A i = 43 ∨ byt s A i = 45) → ¬ (byt s A i = 41 ∧ 0 < n) → ¬ (s 54 = 3 ∧ byt s A i = 61 ∧ n = 0 ∧ s 75 = 0) → A' = A3 ∧ (((i : Int) < s 52 ∨ 0 < n ∨ (s 54 = 3 ∧ s 75 = 0)) → s' = fl1 s3 1 (i : Int)) ∧ (¬ ((i : Int) < s 52 ∨ 0 < n ∨ (s 54 = 3 ∧ s 75 = 0)) → s' = up s3 72 4))) → rgR s A i n e a b p q p' q' s' A' := fun s' A' x y => ⟨s1, A1, φ, fun w2 => absurd z55 w2, fun _ => ⟨a1, b1, e1, f1, h88, fun w2 => absurd w2 ns, fun _ => ⟨s3, A3, χ, x, y⟩⟩⟩
  rcases t3 with ⟨t3, _⟩ | ⟨z55', _, a2, b2, e2, f2, h88', _⟩
  · refine k458_100 (z5 := s3 55) v3.1 (fun w2 => absurd w2 (by omega)) (fun _ => k458_107 ?_) (c7 := by rw [t3]; decide)
    exact ⟨h3, s3, A3, v3, R3, tell _ _ (fun _ => ⟨rfl, rfl⟩) (fun w2 => by omega), rfl⟩
  have g71 : s3 71 = (i : Int) := (sj 71 (by decide) (by decide) (by decide)).trans hi2
  have g59 : s3 59 = (n : Int) := (sj 59 (by decide) (by decide) (by decide)).trans hn
  have g54 : s3 54 = s 54 := sj 54 (by decide) (by decide) (by decide)
  have g75 : s3 75 = s 75 := sj 75 (by decide) (by decide) (by decide)
  have g52 : s3 52 = s 52 := sj 52 (by decide) (by decide) (by decide)
  have i75 : In3 (s 75) := by rcases s75 with x | x <;> rw [x] <;> decide
  refine k458_100 (z5 := s3 55) v3.1 (fun _ => ?_) (fun w2 => absurd (by omega) w2) (c7 := by rw [z55']; decide)
  have plus : (byt s A i = 43 ∨ byt s A i = 45) → wr sw_P (d + 8) sw_c458 sw_h458 (120, [.index 1290, vi (byt s A i)], [], h3, 0, 0) (RN h (rgR s A i n e a b p q p' q')) := fun w5 => by
    refine k458_120 v3.1 (wm_mono (wq_N (fun h4 s4 A4 v4 r4 ψ => ?_)) (V_storeSum v3 g59 n20 f2.1 f2.2.1 f2.2.2.1 f2.2.2.2.1))
    obtain ⟨es4, o4, p1, p2⟩ := ψ
    subst es4
    have v5 := Rp_hasSum v4 (fun t => if t = n then 1 else A4 1335 t)
    have v6 := Rp_sumSign v5 (fun t => if t = n then byt s A i else A4 1338 t)
    have v7 := Rp_sumPlace v6 (fun t => if t = n then (i : Int) else A4 1340 t)
    have v8 := RV_fld v7 (up s4 71 ((i : Int) + 1)) (rF_71 s4 ((i : Int) + 1))
    have v9 := RV_fld v8 (up (up s4 71 ((i : Int) + 1)) 72 1) (rF_72 (up s4 71 ((i : Int) + 1)) 1)
    refine k458_124 (z7 := (n : Int)) (z20 := (n : Int)) (z33 := (n : Int)) (z35 := (i : Int)) (z46 := (i : Int)) (a10 := mk 21 (A4 1335)) (a23 := mk 21 (A4 1338)) (a38 := mk 21 (A4 1340)) v4.1 (Ra_hasSum v4) (by rw [set_]; exact v5.1) ((hp_ne (Ra_hasSum v4) (by decide)).trans (Ra_sumSign v4)) (by rw [set_, set_]; exact v6.1) (by rw [set_]; exact (hp_ne (Ra_sumSign v5) (by decide)).trans ((hp_ne (Ra_hasSum v4) (by decide)).trans (Ra_sumPlace v4))) (by rw [set_, set_, set_]; exact v7.1) (by rw [set_, set_, set_]; exact v8.1) (k458_338 ?_) (n8 := rd59 s4 g59) (n21 := rd59 s4 g59) (n34 := rd59 s4 g59) (n36 := rd71 s4 g71) (n47 := rd71 s4 g71) (c12 := by rw [mk_len]; omega) (c13 := by omega) (c14 := by unfold In3; omega) (c25 := by rw [mk_len]; omega) (c26 := by omega) (c27 := by unfold In3; omega) (c40 := by rw [mk_len]; omega) (c41 := by omega) (c42 := by unfold In3; omega)
    rw [set_, set_, set_]
    refine ⟨_, _, _, v9, FR_trans R3 (FR_trans r4 (FR_trans (FR_put v4 (c := 1335) (by decide) (by decide) _) (FR_trans (FR_put v5 (c := 1338) (by decide) (by decide) _) (FR_trans (FR_put v6 (c := 1340) (by decide) (by decide) _) (FR_trans (FR_fld v7 _) (FR_fld v8 _)))))), tell _ _ (fun w2 => absurd z55' w2) (fun _ => ⟨a2, b2, f2, fun _ => ⟨rfl, fun x y1 y2 y3 y4 y5 => by rw [up_ne _ _ y5, up_ne _ _ y4, up_ne _ _ y3, o4 x y1 y2], ?_, ?_, ?_, ?_, ?_⟩, fun w2 => ?_, fun w2 => ?_, fun w2 => absurd w5 w2⟩), rfl⟩
    · unfold pfn fp at *
      rw [up_ne _ _ (by decide), up_ne _ _ (by decide), up_ne _ _ (by decide)]
      exact p1
    · unfold pfn fp at *
      rw [up_ne _ _ (by decide), up_ne _ _ (by decide), up_ne _ _ (by decide)]
      exact p2
    · rw [up_ne _ _ (by decide), up_ne _ _ (by decide), up_at, o4 1335 (by decide) (by decide)]
    · rw [up_ne _ _ (by decide), up_at, o4 1338 (by decide) (by decide)]
    · rw [up_at, o4 1340 (by decide) (by decide)]
    · omega
    · omega
  refine k458_108 (fun w5 => plus (.inl w5)) (fun w5 => ?_) (c1 := by unfold In3; omega)
  refine k458_114 (fun w6 => ?_) (fun w6 => plus (.inr (Classical.byContradiction w6))) (c1 := by unfold In3; omega)
  have np : ¬ (byt s A i = 43 ∨ byt s A i = 45) := fun x => x.elim w5 w6
  -- neither a sign nor a bracket's end nor =
  have last : ¬ (byt s A i = 41 ∧ 0 < n) → ¬ (s 54 = 3 ∧ byt s A i = 61 ∧ n = 0 ∧ s 75 = 0) → wr sw_P (d + 8) sw_c458 sw_h458 (288, [.index 1290, vi (byt s A i)], [], h3, 0, 0) (RN h (rgR s A i n e a b p q p' q')) := fun w7 w8 => by
    have bad : ((i : Int) < s 52 ∨ 0 < n ∨ (s 54 = 3 ∧ s 75 = 0)) → wr sw_P (d + 8) sw_c458 sw_h458 (321, [.index 1290, vi (byt s A i)], [], h3, 0, 0) (RN h (rgR s A i n e a b p q p' q')) := fun w9 => by
      refine k458_321 (z5 := (i : Int)) v3.1 (wm_mono (wq_N (fun h4 s4 A4 v4 r4 ψ => k458_330 (k458_338 ?_))) (V_fail v3 (by rw [z55']; decide))) (n6 := rd71 s3 g71)
      obtain ⟨x1, x2⟩ := ψ
      rw [flS_0 z55'] at x1
      exact ⟨h4, s4, A4, v4, FR_trans R3 r4, tell _ _ (fun w2 => absurd z55' w2) (fun _ => ⟨a2, b2, f2, fun w2 => absurd w2 np, fun w2 => absurd w2 w7, fun w2 => absurd w2 w8, fun _ _ _ => ⟨x2, fun _ => x1, fun w2 => absurd w9 w2⟩⟩), rfl⟩
    have good : ¬ ((i : Int) < s 52 ∨ 0 < n ∨ (s 54 = 3 ∧ s 75 = 0)) → wr sw_P (d + 8) sw_c458 sw_h458 (333, [.index 1290, vi (byt s A i)], [], h3, 0, 0) (RN h (rgR s A i n e a b p q p' q')) := fun w9 => by
      have v4 := RV_fld v3 (up s3 72 4) (rF_72 s3 4)
      refine k458_333 v3.1 (k458_338 ?_)
      exact ⟨_, _, _, v4, FR_trans R3 (FR_fld v3 _), tell _ _ (fun w2 => absurd z55' w2) (fun _ => ⟨a2, b2, f2, fun w2 => absurd w2 np, fun w2 => absurd w2 w7, fun w2 => absurd w2 w8, fun _ _ _ => ⟨rfl, fun w2 => absurd w2 w9, fun _ => rfl⟩⟩), rfl⟩
    have s52 := hS.1
    refine k458_288 (z5 := (i : Int)) (z7 := s3 52) v3.1 (fun w9 => bad (.inl (by omega))) (fun w9 => ?_) (n6 := rd71 s3 g71) (c9 := by unfold In3; omega) (c10 := by rw [g52]; unfold In3; omega)
    refine k458_299 (z5 := (n : Int)) v3.1 (fun w10 => bad (.inr (.inl (by omega)))) (fun w10 => ?_) (n6 := rd59 s3 g59) (c7 := by unfold In3; omega)
    refine k458_306 (z5 := s3 54) v3.1 (fun w11 => good (fun x => ?_)) (fun w11 => ?_) (c7 := by rw [g54]; exact i54)
    · rcases x with x | x | ⟨x, _⟩
      · omega
      · omega
      · exact w11 (g54.trans x)
    have m54 : s 54 = 3 := by rw [← g54]; exact Classical.byContradiction w11
    refine k458_314 (z5 := s3 75) v3.1 (fun w12 => good (fun x => ?_)) (fun w12 => bad (.inr (.inr ⟨m54, by rw [← g75]; exact Classical.byContradiction w12⟩))) (c7 := by rw [g75]; exact i75)
    rcases x with x | x | ⟨_, x⟩
    · omega
    · omega
    · exact w12 (g75.trans x)
  have equals : ¬ (byt s A i = 41 ∧ 0 < n) → wr sw_P (d + 8) sw_c458 sw_h458 (216, [.index 1290, vi (byt s A i)], [], h3, 0, 0) (RN h (rgR s A i n e a b p q p' q')) := fun w7 => by
    refine k458_216 (z5 := s3 54) v3.1 (fun w8 => last w7 (fun x => w8 (g54.trans x.1))) (fun w8 => ?_) (c7 := by rw [g54]; exact i54)
    have m54 : s 54 = 3 := by rw [← g54]; exact Classical.byContradiction w8
    refine k458_224 (fun w9 => last w7 (fun x => w9 x.2.1)) (fun w9 => ?_) (c1 := by unfold In3; omega)
    have c61 : byt s A i = 61 := Classical.byContradiction w9
    refine k458_230 (z5 := (n : Int)) v3.1 (fun w10 => last w7 (fun x => w10 (by have := x.2.2.1; omega))) (fun w10 => ?_) (n6 := rd59 s3 g59) (c7 := by unfold In3; omega)
    have n0 : n = 0 := Classical.byContradiction (fun x => w10 (by omega))
    refine k458_237 (z5 := s3 75) v3.1 (fun w11 => last w7 (fun x => w11 (g75.trans x.2.2.2))) (fun w11 => ?_) (c7 := by rw [g75]; exact i75)
    have e75 : s 75 = 0 := by rw [← g75]; exact Classical.byContradiction w11
    refine k458_244 v3.1 (wm_mono (wq_Q (fun h4 v4 r4 => ?_)) (V_copy v3 (c := 1346) (e := 1302) rfl rfl (by decide)))
    rw [f2.1] at v4
    refine k458_255 v4.1 (wm_mono (wq_Q (fun h5 v5 r5 => ?_)) (V_copy v4 (c := 1347) (e := 1303) rfl rfl (by decide)))
    have i03 : up A3 1346 (cf a2) 1303 = cf b2 := by rw [up_ne _ _ (by decide)]; exact f2.2.1
    rw [i03] at v5
    have v6 := RV_fld v5 (up s3 75 1) (rF_75 s3 1)
    refine k458_266 v5.1 v6.1 (wm_mono (wq_N (fun h7 s7 A7 v7 r7 ψ => ?_)) (V_begin v6 (n := n) (by rw [up_ne _ _ (by decide)]; exact g59) n20))
    obtain ⟨x1, x2⟩ := ψ
    have v8 := RV_fld v7 (up s7 71 ((i : Int) + 1)) (rF_71 s7 ((i : Int) + 1))
    refine k458_275 (z5 := (i : Int)) v7.1 (k458_338 ?_) (n6 := rd71 s7 (by rw [x1, up_ne _ _ (by decide), up_ne _ _ (by decide)]; exact g71))
    refine ⟨_, _, _, v8, FR_trans R3 (FR_trans r4 (FR_trans r5 (FR_trans (FR_fld v5 _) (FR_trans r7 (FR_fld v7 _))))), tell _ _ (fun w2 => absurd z55' w2) (fun _ => ⟨a2, b2, f2, fun w2 => absurd w2 np, fun w2 => absurd w2 w7, fun _ => ⟨by rw [x1], x2⟩, fun _ _ w2 => absurd ⟨m54, c61, n0, e75⟩ w2⟩), rfl⟩
  refine k458_175 (fun w7 => equals (fun x => w7 x.1)) (fun w7 => ?_) (c1 := by unfold In3; omega)
  have c41' : byt s A i = 41 := Classical.byContradiction w7
  refine k458_181 (z5 := (n : Int)) v3.1 (fun w8 => equals (fun x => by have := x.2; omega)) (fun w8 => ?_) (n6 := rd59 s3 g59) (c7 := by unfold In3; omega)
  have v4 := RV_fld v3 (up s3 59 ((n : Int) - 1)) (rF_59 s3 ((n : Int) - 1))
  have v5 := RV_fld v4 (up (up s3 59 ((n : Int) - 1)) 71 ((i : Int) + 1)) (rF_71 (up s3 59 ((n : Int) - 1)) ((i : Int) + 1))
  have v6 := RV_fld v5 (up (up (up s3 59 ((n : Int) - 1)) 71 ((i : Int) + 1)) 72 2) (rF_72 (up (up s3 59 ((n : Int) - 1)) 71 ((i : Int) + 1)) 2)
  refine k458_188 (z5 := (n : Int)) (z11 := (i : Int)) v3.1 v4.1 v5.1 (k458_338 ?_) (n6 := rd59 s3 g59) (n12 := rd71 _ (by rw [up_ne _ _ (by decide)]; exact g71))
  exact ⟨_, _, _, v6, FR_trans R3 (FR_trans (FR_fld v3 _) (FR_trans (FR_fld v4 _) (FR_fld v5 _))), tell _ _ (fun w2 => absurd z55' w2) (fun _ => ⟨a2, b2, f2, fun w2 => absurd w2 np, fun _ => ⟨rfl, rfl⟩, fun w2 => by omega, fun _ w2 => absurd ⟨c41', by omega⟩ w2⟩), rfl⟩
end
