/-! the reference's reader: readPower, closePower, closeTerm -/
/-- a power is through: n brackets are open, e nodes were put down, the fraction is a over b, the term ahead of it p over q -/
def cpR (s : Nat → Int) (A : Nat → Nat → Int) (n e : Nat) (a b p q : zp_R) (s' : Nat → Int) (A' : Nat → Nat → Int) : Prop :=
  (A 1336 n = 0 → s' = s ∧ A' = A) ∧ (A 1336 n ≠ 0 → (s 54 = 1 → s' = up s 88 ((e : Int) + 1) ∧ A' = pa (pa A 1356 e (if A 1339 n = 42 then 4 else 5)) 1357 e 0) ∧ (s 54 ≠ 1 → sm A A' scr ∧ ((A 1339 n = 47 ∧ a = zp_C 0) → s' = fl1 s 4 (A 1341 n)) ∧ (¬ (A 1339 n = 47 ∧ a = zp_C 0) → ∃ N D, cn (if A 1339 n = 42 then zp_mul p a else zp_mul p b) (if A 1339 n = 42 then zp_mul q b else zp_mul q a) N D ∧ zp_deg N 176 ∧ zp_deg D 176 ∧ A' 1302 = cf N ∧ A' 1303 = cf D ∧ ((40 < hi N ∨ 40 < hi D) → s' = fl1 s 5 (A 1341 n)) ∧ (¬ (40 < hi N ∨ 40 < hi D) → s' = s))))
/-- the letters of a term's end: its sign -/
def ctR (s : Nat → Int) (A : Nat → Nat → Int) (n e : Nat) (a b p q : zp_R) (s' : Nat → Int) (A' : Nat → Nat → Int) : Prop := ∃ (s1 : Nat → Int) (A1 : Nat → Nat → Int) (e1 : Nat) (a1 : zp_R), (A 1337 n = 0 → s1 = s ∧ A1 = pa A 1337 n 0 ∧ e1 = e ∧ a1 = a) ∧ (A 1337 n ≠ 0 → s1 = up s 88 ((e : Int) + 1) ∧ e1 = e + 1 ∧ a1 = zp_mul (zp_C (nF 32002)) a ∧ A1 = pa (up (pa (pa A 1356 e 6) 1357 e 0) 1302 (cf a1)) 1337 n 0) ∧ (A 1335 n = 0 → s' = s1 ∧ A' = A1) ∧ (A 1335 n ≠ 0 → (s 54 = 1 → s' = up s1 88 ((e1 : Int) + 1) ∧ A' = pa (pa A1 1356 e1 (if A 1338 n = 43 then 2 else 3)) 1357 e1 0) ∧ (s 54 ≠ 1 → sm A1 A' scr ∧ ∃ N D, cn (zp_add (zp_mul p b) (zp_mul (zp_C (nF (if A 1338 n = 43 then 1 else -1))) (zp_mul a1 q))) (zp_mul q b) N D ∧ zp_deg N 176 ∧ zp_deg D 176 ∧ A' 1302 = cf N ∧ A' 1303 = cf D ∧ ((40 < hi N ∨ 40 < hi D) → s' = fl1 s1 5 (A 1340 n)) ∧ (¬ (40 < hi N ∨ 40 < hi D) → s' = s1)))
theorem sm_6 {A B : Nat → Nat → Int} (m : sm A B [1302, 1303, 1304, 1305, 1306, 1307]) : sm A B scr := sm_sub m rfl
section
variable {d : Nat} {h : s_H} {s : Nat → Int} {A : Nat → Nat → Int}
theorem V_readPower (hv : RV h s A) (hS : SX s A) (b55 : s 55 = 0) (m3 : In3 (s 54)) {i e : Nat} (hi2 : s 71 = (i : Int)) (i200 : i < 200) (he : s 88 = (e : Int)) (e200 : e < 200) {a b : zp_R} (ga : A 1302 = cf a) (gb : A 1303 = cf b) (db6 : zp_deg b 176) (b0 : 0 ≤ hi b) : wm sw_P (d + 5) 577 [.index 1290] h (RN h (rpR s A i e a b)) := by
  refine wm_in (cd := sw_c577) (nL := 2) (hd := sw_h577) rfl rfl ?_
  have i55 : In3 (s 55) := by rw [b55]; decide
  have rd : ∀ s1 : Nat → Int, s1 71 = (i : Int) → s_nth (rF s1) 71 = some (vi (i : Int)) := fun s1 e => by
    show some (vi (s1 71)) = _
    rw [e]
  refine k577_0 (z5 := (i : Int)) hv.1 (wm_mono (wq_A (fun v1 h1 s1 A1 w1 r1 φ => ?_)) (V_digits hv hS i55 (i := i + 1) (most := 2) (by omega) (by decide))) (n6 := rd s hi2)
  obtain ⟨eA, n, ev, dg⟩ := φ
  subst ev
  rw [eA] at w1
  obtain ⟨n3, gd', dgc⟩ := id dg
  obtain ⟨g1, g2⟩ := dg_src hS gd'
  have s1c : s1 = s ∨ (s1 = fl1 s 2 ((i + 1 + n : Nat) : Int) ∧ s1 ≠ s) := by
    rcases dgc with ⟨_, e⟩ | ⟨_, _, e⟩
    · exact .inl e
    · rw [flS_0 b55] at e
      refine .inr ⟨e, fun w => ?_⟩
      have := congrFun (w.symm.trans e) 55
      rw [b55] at this
      unfold fl1 at this
      rw [up_ne _ _ (by decide), up_at] at this
      exact absurd this (by decide)
  refine k577_11 (fun w => ?_) (fun w => ?_) (c2 := by unfold In3; omega)
  rotate_left
  · have n0 : n = 0 := Classical.byContradiction (fun w2 => w (by omega))
    subst n0
    have es : s1 = s := by
      rcases dgc with ⟨_, e⟩ | ⟨e, _⟩
      · exact e
      · exact absurd e (by decide)
    subst es
    refine k577_16 (z5 := (i : Int)) w1.1 (wm_mono (wq_N (fun h2 s2 A2 v2 r2 φ => ?_)) (V_fail w1 i55)) (n6 := rd _ hi2)
    obtain ⟨e1, e2⟩ := φ
    rw [flS_0 b55] at e1
    have p55 : s2 55 = 1 := by
      rw [e1]
      unfold fl1
      rw [up_ne _ _ (by decide), up_at]
    refine k577_27 (z5 := s2 55) v2.1 (fun w2 => absurd w2 (by omega)) (fun _ => k577_34 ?_) (c7 := by rw [p55]; decide)
    exact ⟨h2, s2, A2, v2, FR_trans r1 r2, ⟨0, s1, dg, fun _ => ⟨e1, e2⟩, fun w2 => absurd w2 (Nat.lt_irrefl 0), fun w2 => absurd w2 (Nat.lt_irrefl 0)⟩, rfl⟩
  have n0 : 0 < n := Nat.pos_of_ne_zero (fun w2 => w (by omega))
  rcases s1c with es | ⟨es, ne⟩
  rotate_left
  · have p55 : s1 55 = 2 := by
      rw [es]
      unfold fl1
      rw [up_ne _ _ (by decide), up_at]
    refine k577_27 (z5 := s1 55) w1.1 (fun w2 => absurd w2 (by omega)) (fun _ => k577_34 ?_) (c7 := by rw [p55]; decide)
    exact ⟨h1, s1, A, w1, r1, ⟨n, s1, dg, fun w2 => absurd w2 (by omega), fun _ _ => ⟨rfl, rfl⟩, fun _ w2 => absurd w2 ne⟩, rfl⟩
  subst es
  have g1' := g1 n0
  have nb := num_b (A := A) (i := i + 1) n g2
  have n100 : num A (i + 1) n < 100 := by
    have : (10 : Int) ^ n ≤ 100 := by
      rcases Nat.lt_or_ge n 2 with q2 | q2
      · rw [show n = 1 by omega]; decide
      · rw [show n = 2 by omega]; decide
    omega
  obtain ⟨p, ep⟩ : ∃ p : Nat, num A (i + 1) n = (p : Int) := ⟨(num A (i + 1) n).toNat, by omega⟩
  refine k577_27 (z5 := s1 55) w1.1 (fun _ => ?_) (fun w2 => absurd (by omega) w2) (c7 := i55)
  refine k577_35 w1.1 (wm_mono (wq_Q (fun h2 v2 r2 => ?_)) (V_copy w1 (c := 1298) (e := 1302) rfl rfl (by decide)))
  refine k577_46 v2.1 (wm_mono (wq_Q (fun h3 v3 r3 => ?_)) (V_copy v2 (c := 1299) (e := 1303) rfl rfl (by decide)))
  rw [up_ne _ _ (show (1303 : Nat) ≠ 1298 by decide)] at v3
  have src3 : ∀ k, k < n → 48 ≤ up (up A 1298 (A 1302)) 1299 (A 1303) 1334 (i + 1 + k) ∧ up (up A 1298 (A 1302)) 1299 (A 1303) 1334 (i + 1 + k) ≤ 57 := fun k hk => by
    rw [up_ne _ _ (by decide), up_ne _ _ (by decide)]
    exact g2 k hk
  have num_c : ∀ (B : Nat → Nat → Int), B 1334 = A 1334 → ∀ m, num B (i + 1) m = num A (i + 1) m := fun B e m => by
    induction m with
    | zero => rfl
    | succ m ih =>
      show 10 * num B (i + 1) m + B 1334 (i + 1 + m) - 48 = 10 * num A (i + 1) m + A 1334 (i + 1 + m) - 48
      rw [ih, e]
  refine k577_57 (z5 := (i : Int)) v3.1 (wm_mono (wq_r ?_) (V_numberAt v3 (i := i + 1) (n := n) (by omega) (by omega) src3)) (n6 := rd _ hi2)
  rw [num_c _ (by rw [up_ne _ _ (by decide), up_ne _ _ (by decide)]) n, ep]
  refine k577_71 v3.1 (wm_mono (wq_N (fun h4 s4 A4 v4 r4 φ => ?_)) (V_emit v3 he e200))
  obtain ⟨e4, eA4⟩ := φ
  have h71 : s4 71 = (i : Int) := by rw [e4, up_ne _ _ (by decide), hi2]
  have h54 : s4 54 = s1 54 := by rw [e4, up_ne _ _ (by decide)]
  have R4 : FR h h4 := FR_trans r1 (FR_trans r2 (FR_trans r3 r4))
  have src4 : A4 1334 = A 1334 := by rw [eA4, pa_ne (by decide), pa_ne (by decide), up_ne _ _ (by decide), up_ne _ _ (by decide)]
  -- the end
  have fin : ∀ (s5 : Nat → Int) (A5 : Nat → Nat → Int) (h5 : s_H), RV h5 s5 A5 → FR h h5 → s5 71 = (i : Int) → rpR s1 A i e a b (up (up s5 71 ((i : Int) + ((n : Int) + 1))) 72 3) A5 → wr sw_P (d + 4) sw_c577 sw_h577 (109, [.index 1290, vi (n : Int)], [], h5, 0, 0) (RN h (rpR s1 A i e a b)) := fun s5 A5 h5 v5 r5 e5 w5 => by
    have v6 := RV_fld v5 (up s5 71 ((i : Int) + ((n : Int) + 1))) (rF_71 s5 ((i : Int) + ((n : Int) + 1)))
    have v7 := RV_fld v6 (up (up s5 71 ((i : Int) + ((n : Int) + 1))) 72 3) (rF_72 (up s5 71 ((i : Int) + ((n : Int) + 1))) 3)
    refine k577_109 (z5 := (i : Int)) v5.1 v6.1 ?_ (n6 := rd _ e5)
    exact ⟨_, _, _, v7, FR_trans r5 (FR_trans (FR_fld v5 _) (FR_fld v6 _)), w5, rfl⟩
  have tell : ∀ (s' : Nat → Int) (A' : Nat → Nat → Int), (s1 54 = 1 → s' = up (up (up s1 88 ((e : Int) + 1)) 71 ((i : Int) + ((n : Int) + 1))) 72 3 ∧ A' = A4) → (s1 54 ≠ 1 → sm A4 A' scr ∧ ((0 < p ∧ 40 < gd a b * p) → s' = up (up (fl1 (up s1 88 ((e : Int) + 1)) 5 (i : Int)) 71 ((i : Int) + ((n : Int) + 1))) 72 3) ∧ (¬ (0 < p ∧ 40 < gd a b * p) → s' = up (up (up s1 88 ((e : Int) + 1)) 71 ((i : Int) + ((n : Int) + 1))) 72 3 ∧ A' 1302 = cf (zp_npow a p) ∧ A' 1303 = cf (zp_npow b p))) → rpR s1 A i e a b s' A' := fun s' A' x y => ⟨n, s1, dg, fun w3 => absurd w3 (by omega), fun _ w3 => absurd rfl w3, fun _ _ => ⟨p, A4, ep, by omega, eA4, x, y⟩⟩
  by_cases q : s1 54 = 1
  · refine k577_74 (z5 := s4 54) v4.1 (fun _ => ?_) (fun w2 => absurd (h54.trans q) w2) (c7 := by rw [h54]; exact m3)
    exact fin s4 A4 h4 v4 R4 h71 (tell _ _ (fun _ => ⟨by rw [e4], rfl⟩) (fun w2 => absurd q w2))
  refine k577_74 (z5 := s4 54) v4.1 (fun w2 => absurd (h54.symm.trans w2) q) (fun _ => ?_) (c7 := by rw [h54]; exact m3)
  refine k577_82 (z5 := (i : Int)) v4.1 (wm_mono (wq_r ?_) (V_numberAt v4 (i := i + 1) (n := n) (by omega) (by omega) (fun k hk => by rw [src4]; exact g2 k hk))) (n6 := rd _ h71)
  rw [num_c A4 src4 n, ep]
  have g98 : A4 1298 = cf a := by rw [eA4, pa_ne (by decide), pa_ne (by decide), up_ne _ _ (by decide), up_at, ga]
  have g99 : A4 1299 = cf b := by rw [eA4, pa_ne (by decide), pa_ne (by decide), up_at, gb]
  refine k577_94 v4.1 (wm_mono (wq_A (fun v5 h5 s5 A5 w5 r5 φ => ?_)) (V_isPower v4 (a := a) (b := b) g98 g99 b0 (n := p) (by omega)))
  obtain ⟨e5, m5, y1, y2⟩ := φ
  subst e5
  by_cases q2 : 0 < p ∧ 40 < gd a b * p
  · rw [y1 q2]
    refine k577_97 (fun w2 => absurd rfl w2) (fun _ => ?_) (c1 := by decide)
    have i55' : In3 (s5 55) := by rw [e4, up_ne _ _ (by decide)]; exact i55
    refine k577_100 (z5 := (i : Int)) w5.1 (wm_mono (wq_N (fun h6 s6 A6 v6 r6 φ => ?_)) (V_fail w5 i55')) (n6 := rd _ h71)
    obtain ⟨x1, x2⟩ := φ
    rw [flS_0 (by rw [e4, up_ne _ _ (by decide)]; exact b55)] at x1
    refine fin s6 A6 h6 v6 (FR_trans R4 (FR_trans r5 r6)) (by
      rw [x1]
      unfold fl1
      rw [up_ne _ _ (by decide), up_ne _ _ (by decide), h71]) (tell _ _ (fun w2 => absurd w2 q) (fun _ => ⟨by rw [x2]; exact m5, fun _ => by rw [x1, e4], fun w2 => absurd q2 w2⟩))
  · obtain ⟨z1, z2, z3⟩ := y2 q2
    rw [z1]
    refine k577_97 (fun _ => ?_) (fun w2 => absurd (by decide) w2) (c1 := by decide)
    exact fin s5 A5 h5 w5 (FR_trans R4 r5) h71 (tell _ _ (fun w2 => absurd w2 q) (fun _ => ⟨m5, fun w2 => absurd w2 q2, fun _ => ⟨by rw [e4], z2, z3⟩⟩))
theorem V_closePower (hv : RV h s A) (b55 : s 55 = 0) (m3 : In3 (s 54)) {n e : Nat} (hn : s 59 = (n : Int)) (n20 : n ≤ 20) (he : s 88 = (e : Int)) (e200 : A 1336 n ≠ 0 → e < 200) (ht : A 1336 n = 0 ∨ A 1336 n = 1) (hsg : A 1336 n ≠ 0 → A 1339 n = 42 ∨ A 1339 n = 47) {a b p q : zp_R} (ga : A 1302 = cf a) (gb : A 1303 = cf b) (da : s 54 ≠ 1 → zp_deg a 41) (db : s 54 ≠ 1 → zp_deg b 41) (b0 : s 54 ≠ 1 → 0 ≤ hi b) (hp : s 54 ≠ 1 → A 1336 n ≠ 0 → fp A 1344 n = cf p ∧ fp A 1345 n = cf q ∧ zp_deg p 41 ∧ zp_deg q 41 ∧ 0 ≤ hi q) : wm sw_P (d + 8) 418 [.index 1290] h (RN h (cpR s A n e a b p q)) := by
  refine wm_in (cd := sw_c418) (nL := 1) (hd := sw_h418) rfl rfl ?_
  have i55 : In3 (s 55) := by rw [b55]; decide
  have rd : ∀ s1 : Nat → Int, s1 59 = (n : Int) → s_nth (rF s1) 59 = some (vi (n : Int)) := fun s1 e => by
    show some (vi (s1 59)) = _
    rw [e]
  have e36 : gi (mk 21 (A 1336)) (n : Int) = A 1336 n := gi_mkn (by omega)
  have i36 : In3 (A 1336 n) := by rcases ht with x | x <;> rw [x] <;> decide
  refine k418_0 (z7 := (n : Int)) hv.1 (Ra_hasTerm hv) (fun w => ?_) (fun w => k418_12 ?_) (n8 := rd s hn) (c12 := by rw [mk_len]; omega) (c13 := by omega) (c14 := by unfold In3; omega) (c15 := by rw [e36]; exact i36)
  rotate_left
  · rw [e36] at w
    exact ⟨h, s, A, hv, FR_refl h, ⟨fun _ => ⟨rfl, rfl⟩, fun w2 => absurd w2 w⟩, rfl⟩
  rw [e36] at w
  have sg := hsg w
  have e39 : ∀ B : Nat → Nat → Int, B 1339 = A 1339 → gi (mk 21 (B 1339)) (n : Int) = A 1339 n := fun B e => by rw [gi_mkn (by omega), e]
  have i39 : In3 (A 1339 n) := by rcases sg with x | x <;> rw [x] <;> decide
  by_cases q4 : s 54 = 1
  · refine k418_13 (z5 := s 54) hv.1 (fun w2 => absurd q4 w2) (fun _ => ?_) (c7 := m3)
    have put : ∀ z : Int, z = (if A 1339 n = 42 then 4 else 5) → wr sw_P (d + 7) sw_c418 sw_h418 (41, [.index 1290], [vi z, .index 1290], h, 0, 0) (RN h (cpR s A n e a b p q)) := fun z ez => by
      refine k418_41 hv.1 (wm_mono (wq_N (fun h1 s1 A1 v1 r1 φ => k418_45 ?_)) (V_emit hv he (e200 w)))
      exact ⟨h1, s1, A1, v1, r1, ⟨fun w2 => absurd w2 w, fun _ => ⟨fun _ => by rw [← ez]; exact φ, fun w2 => absurd q4 w2⟩⟩, rfl⟩
    refine k418_21 (z7 := (n : Int)) hv.1 (Ra_termSign hv) (fun w2 => k418_40 (put 5 ?_)) (fun w2 => k418_36 (put 4 ?_)) (n8 := rd s hn) (c12 := by rw [mk_len]; omega) (c13 := by omega) (c14 := by unfold In3; omega) (c15 := by rw [e39 A rfl]; exact i39)
    · rw [e39 A rfl] at w2; rw [if_neg w2]
    · rw [e39 A rfl] at w2; rw [if_pos (Classical.byContradiction w2)]
  refine k418_13 (z5 := s 54) hv.1 (fun _ => ?_) (fun w2 => absurd q4 w2) (c7 := m3)
  obtain ⟨hp1, hp2, dp, dq, q0⟩ := hp q4 w
  have da' := da q4
  have db' := db q4
  refine k418_46 hv.1 (wm_mono (wq_Q (fun h1 v1 r1 => ?_)) (V_loadBoth hv hn n20 (z := 0) (.inl rfl)))
  have eZ1 : fp A (if (0 : Int) = 0 then 1344 else 1342) n = cf p := hp1
  have eZ2 : fp A (if (0 : Int) = 0 then 1345 else 1343) n = cf q := hp2
  rw [eZ1, eZ2, ga, gb] at v1
  have k98 : up (up (up (up A 1298 (cf p)) 1299 (cf q)) 1300 (cf a)) 1301 (cf b) 1298 = cf p := by rw [up_ne _ _ (by decide), up_ne _ _ (by decide), up_ne _ _ (by decide), up_at]
  have k99 : up (up (up (up A 1298 (cf p)) 1299 (cf q)) 1300 (cf a)) 1301 (cf b) 1299 = cf q := by rw [up_ne _ _ (by decide), up_ne _ _ (by decide), up_at]
  have k00 : up (up (up (up A 1298 (cf p)) 1299 (cf q)) 1300 (cf a)) 1301 (cf b) 1300 = cf a := by rw [up_ne _ _ (by decide), up_at]
  have k01 : up (up (up (up A 1298 (cf p)) 1299 (cf q)) 1300 (cf a)) 1301 (cf b) 1301 = cf b := up_at _ _ _
  have mB : sm A (up (up (up (up A 1298 (cf p)) 1299 (cf q)) 1300 (cf a)) 1301 (cf b)) scr := sm_up (sm_up (sm_up (sm_up sm_refl _ rfl) _ rfl) _ rfl) _ rfl
  generalize up (up (up (up A 1298 (cf p)) 1299 (cf q)) 1300 (cf a)) 1301 (cf b) = B at v1 k98 k99 k00 k01 mB
  have b39 : B 1339 = A 1339 := mB 1339 rfl
  have b41 : B 1341 = A 1341 := mB 1341 rfl
  have ba := hi_b a
  have g41 : ∀ C : Nat → Nat → Int, C 1341 = A 1341 → gi (mk 21 (C 1341)) (n : Int) = A 1341 n := fun C e => by rw [gi_mkn (by omega), e]
  -- the product or the quotient is there
  have great : ∀ (N D : zp_R) (s2 : Nat → Int) (A2 : Nat → Nat → Int) (h2 : s_H), ¬ (A 1339 n = 47 ∧ a = zp_C 0) → RV h2 s2 A2 → FR h h2 → s2 = s → sm A A2 scr → cn (if A 1339 n = 42 then zp_mul p a else zp_mul p b) (if A 1339 n = 42 then zp_mul q b else zp_mul q a) N D → zp_deg N 176 → zp_deg D 176 → A2 1302 = cf N → A2 1303 = cf D → wr sw_P (d + 7) sw_c418 sw_h418 (115, [.index 1290], [], h2, 0, 0) (RN h (cpR s A n e a b p q)) := fun N D s2 A2 h2 nz v2 r2 es m2 c2 dN dD gN gD => by
    subst es
    refine k418_115 v2.1 (wm_mono (wq_r ?_) (V_isGreat v2 gN gD))
    by_cases gr : 40 < hi N ∨ 40 < hi D
    · rw [if_pos gr]
      refine k418_119 (fun w2 => absurd w2 (by decide)) (fun _ => ?_) (c1 := by decide)
      refine k418_122 (z7 := (n : Int)) v2.1 (Ra_termPlace v2) (wm_mono (wq_N (fun h3 s3 A3 v3 r3 φ => k418_136 ?_)) (V_fail v2 i55)) (n8 := rd s2 hn) (c12 := by rw [mk_len]; omega) (c13 := by omega) (c14 := by unfold In3; omega)
      obtain ⟨x1, x2⟩ := φ
      rw [flS_0 b55, g41 A2 (m2 1341 rfl)] at x1
      exact ⟨h3, s3, A3, v3, FR_trans r2 r3, ⟨fun w2 => absurd w2 w, fun _ => ⟨fun w2 => absurd w2 q4, fun _ => ⟨by rw [x2]; exact m2, fun w2 => absurd w2 nz, fun _ => ⟨N, D, c2, dN, dD, by rw [x2]; exact gN, by rw [x2]; exact gD, fun _ => x1, fun w2 => absurd gr w2⟩⟩⟩⟩, rfl⟩
    · rw [if_neg gr]
      refine k418_119 (fun _ => k418_136 ?_) (fun w2 => absurd rfl w2) (c1 := by decide)
      exact ⟨h2, s2, A2, v2, r2, ⟨fun w2 => absurd w2 w, fun _ => ⟨fun w2 => absurd w2 q4, fun _ => ⟨m2, fun w2 => absurd w2 nz, fun _ => ⟨N, D, c2, dN, dD, gN, gD, fun w2 => absurd w2 gr, fun _ => rfl⟩⟩⟩⟩, rfl⟩
  have both : ¬ (A 1339 n = 47 ∧ a = zp_C 0) → wr sw_P (d + 7) sw_c418 sw_h418 (90, [.index 1290], [], h1, 0, 0) (RN h (cpR s A n e a b p q)) := fun nz => by
    refine k418_90 (z7 := (n : Int)) v1.1 (Ra_termSign v1) (fun w2 => ?_) (fun w2 => ?_) (n8 := rd s hn) (c12 := by rw [mk_len]; omega) (c13 := by omega) (c14 := by unfold In3; omega) (c15 := by rw [e39 B b39]; exact i39)
    · rw [e39 B b39] at w2
      have s47 := sg.resolve_left w2
      have a0 : a ≠ zp_C 0 := fun w3 => nz ⟨s47, w3⟩
      refine k418_111 v1.1 (wm_mono (wq_N (fun h2 s2 A2 v2 r2 φ => ?_)) (V_quotientAll v1 k98 k99 k00 k01 dp dq da' db' q0 (hi_ge (deg_le da' (by decide)) a0)))
      obtain ⟨es, ⟨N, D, c2, dN, dD, gN, gD⟩, m2⟩ := φ
      exact great N D s2 A2 h2 nz v2 (FR_trans r1 r2) es (sm_tr mB (sm_6 m2)) (by rw [if_neg w2, if_neg w2]; exact c2) dN dD gN gD
    · rw [e39 B b39] at w2
      have s42 : A 1339 n = 42 := Classical.byContradiction w2
      refine k418_104 v1.1 (wm_mono (wq_N (fun h2 s2 A2 v2 r2 φ => k418_108 ?_)) (V_productAll v1 k98 k99 k00 k01 dp dq da' db' q0 (b0 q4)))
      obtain ⟨es, ⟨N, D, c2, dN, dD, gN, gD⟩, m2⟩ := φ
      exact great N D s2 A2 h2 nz v2 (FR_trans r1 r2) es (sm_tr mB (sm_6 m2)) (by rw [if_pos s42, if_pos s42]; exact c2) dN dD gN gD
  refine k418_51 (z7 := (n : Int)) v1.1 (Ra_termSign v1) (fun w2 => ?_) (fun w2 => ?_) (n8 := rd s hn) (c12 := by rw [mk_len]; omega) (c13 := by omega) (c14 := by unfold In3; omega) (c15 := by rw [e39 B b39]; exact i39)
  · rw [e39 B b39] at w2
    exact both (fun w3 => w2 w3.1)
  · rw [e39 B b39] at w2
    have s47 : A 1339 n = 47 := Classical.byContradiction w2
    refine k418_65 v1.1 (wm_mono (wq_r ?_) (V_high v1 (c := 1300) rfl k00))
    refine k418_72 (fun w3 => both (fun w4 => zp_ne0 w3 w4.2)) (fun w3 => ?_) (c1 := by unfold In3; omega)
    have a0 : a = zp_C 0 := hi_0 (deg_le da' (by decide)) (by omega)
    refine k418_75 (z7 := (n : Int)) v1.1 (Ra_termPlace v1) (wm_mono (wq_N (fun h2 s2 A2 v2 r2 φ => k418_89 ?_)) (V_fail v1 i55)) (n8 := rd s hn) (c12 := by rw [mk_len]; omega) (c13 := by omega) (c14 := by unfold In3; omega)
    obtain ⟨x1, x2⟩ := φ
    rw [flS_0 b55, g41 B b41] at x1
    exact ⟨h2, s2, A2, v2, FR_trans r1 r2, ⟨fun w2 => absurd w2 w, fun _ => ⟨fun w2 => absurd w2 q4, fun _ => ⟨by rw [x2]; exact mB, fun _ => x1, fun w2 => absurd ⟨s47, a0⟩ w2⟩⟩⟩, rfl⟩
end
