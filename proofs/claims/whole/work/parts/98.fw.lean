/-! the reference's reader: begin, emit, takeText, readHandle, readPower -/
/-- place n of row c becomes z -/
def pa (A : Nat → Nat → Int) (c n : Nat) (z : Int) : Nat → Nat → Int := up A c (fun t => if t = n then z else A c t)
theorem pa_ne {A : Nat → Nat → Int} {c n : Nat} {z : Int} {x : Nat} (h : x ≠ c) : pa A c n z x = A x := up_ne _ _ h
theorem pa_sm {A B : Nat → Nat → Int} {L : List Nat} (m : sm A B L) {c : Nat} (n : Nat) (z : Int) (hc : L.contains c = true) : sm A (pa B c n z) L := sm_up m _ hc
/-- a fault -/
def fl1 (s : Nat → Int) (what place : Int) : Nat → Int := up (up s 55 what) 56 place
theorem flS_0 {s : Nat → Int} (h : s 55 = 0) (what place : Int) : flS s what place = fl1 s what place := if_neg (by omega)
theorem flS_1 {s : Nat → Int} (h : 0 < s 55) (what place : Int) : flS s what place = s := if_pos h
/-- a handle is read: at here a # stands -/
def rhR (s : Nat → Int) (A : Nat → Nat → Int) (T : Nat → th) (i : Nat) (s' : Nat → Int) (A' : Nat → Nat → Int) : Prop := ∃ (n : Nat) (s1 : Nat → Int), dgS s A (i + 1) 3 n s1 ∧ (n = 0 → s' = fl1 s 1 ((i : Int) + 1) ∧ A' = A) ∧ (0 < n → s1 ≠ s → s' = s1 ∧ A' = A) ∧ (0 < n → s1 = s → (¬ (num A (i + 1) n < s 1 ∧ kd (T (num A (i + 1) n).toNat) = 0) → s' = fl1 s 3 (i : Int) ∧ A' = A) ∧ (num A (i + 1) n < s 1 → ∀ a b, T (num A (i + 1) n).toNat = .inl (a, b) → s' = up (up s 71 ((i : Int) + ((n : Int) + 1))) 72 2 ∧ A' = up (up A 1302 (cf a)) 1303 (cf b)))
/-- a power is read: at here a ^ stands, e nodes were put down -/
def rpR (s : Nat → Int) (A : Nat → Nat → Int) (i e : Nat) (a b : zp_R) (s' : Nat → Int) (A' : Nat → Nat → Int) : Prop := ∃ (n : Nat) (s1 : Nat → Int), dgS s A (i + 1) 2 n s1 ∧ (n = 0 → s' = fl1 s 1 ((i : Int) + 1) ∧ A' = A) ∧ (0 < n → s1 ≠ s → s' = s1 ∧ A' = A) ∧ (0 < n → s1 = s → ∃ (p : Nat) (B : Nat → Nat → Int), num A (i + 1) n = (p : Int) ∧ p ≤ 99 ∧ B = pa (pa (up (up A 1298 (A 1302)) 1299 (A 1303)) 1356 e 7) 1357 e (p : Int) ∧ (s 54 = 1 → s' = up (up (up s 88 ((e : Int) + 1)) 71 ((i : Int) + ((n : Int) + 1))) 72 3 ∧ A' = B) ∧ (s 54 ≠ 1 → sm B A' scr ∧ ((0 < p ∧ 40 < gd a b * p) → s' = up (up (fl1 (up s 88 ((e : Int) + 1)) 5 (i : Int)) 71 ((i : Int) + ((n : Int) + 1))) 72 3) ∧ (¬ (0 < p ∧ 40 < gd a b * p) → s' = up (up (up s 88 ((e : Int) + 1)) 71 ((i : Int) + ((n : Int) + 1))) 72 3 ∧ A' 1302 = cf (zp_npow a p) ∧ A' 1303 = cf (zp_npow b p))))
theorem dg_src {s : Nat → Int} {A : Nat → Nat → Int} (hS : SX s A) {i n : Nat} (h : ∀ k, k < n → isd (byt s A (i + k))) : (0 < n → i + n ≤ 200) ∧ ∀ k, k < n → 48 ≤ A 1334 (i + k) ∧ A 1334 (i + k) ≤ 57 := by
  have lt : ∀ k, k < n → ((i + k : Nat) : Int) < s 52 := fun k hk => by
    have b := h k hk
    unfold isd at b
    exact byt_lt (i := i + k) (fun w => by
      rw [w] at b
      exact absurd b.1 (by decide))
  refine ⟨fun n0 => ?_, fun k hk => ?_⟩
  · have := lt (n - 1) (by omega)
    have := hS.1.2
    omega
  · have a := h k hk
    unfold isd byt at a
    rw [if_pos (lt k hk)] at a
    exact a
section
variable {d : Nat} {h : s_H} {s : Nat → Int} {A : Nat → Nat → Int}
theorem V_begin (hv : RV h s A) {n : Nat} (hn : s 59 = (n : Int)) (n20 : n ≤ 20) : wm sw_P (d + 1) 406 [.index 1290] h (RN h (fun s' A' => s' = up s 72 0 ∧ A' = pa (pa (pa A 1335 n 0) 1336 n 0) 1337 n 0)) := by
  refine wm_in (cd := sw_c406) (nL := 1) (hd := sw_h406) rfl rfl ?_
  have v1 := Rp_hasSum hv (fun t => if t = n then 0 else A 1335 t)
  have v2 := Rp_hasTerm v1 (fun t => if t = n then 0 else A 1336 t)
  have v3 := Rp_lessAhead v2 (fun t => if t = n then 0 else A 1337 t)
  have v4 := RV_fld v3 (up s 72 0) (rF_72 s 0)
  have eA : up (up (up A 1335 (fun t => if t = n then 0 else A 1335 t)) 1336 (fun t => if t = n then 0 else A 1336 t)) 1337 (fun t => if t = n then 0 else A 1337 t) = pa (pa (pa A 1335 n 0) 1336 n 0) 1337 n 0 := by
    unfold pa
    rw [up_ne A _ (show (1336 : Nat) ≠ 1335 by decide), up_ne _ _ (show (1337 : Nat) ≠ 1336 by decide), up_ne A _ (show (1337 : Nat) ≠ 1335 by decide)]
  have s1 : ∀ g : Nat → Int, (mk 21 g).set (Int.toNat (n : Int)) 0 = mk 21 (fun t => if t = n then 0 else g t) := fun g => by rw [mk_set]; rfl
  refine k406_0 (z7 := (n : Int)) (z20 := (n : Int)) (z33 := (n : Int)) (a10 := mk 21 (A 1335)) (a23 := mk 21 (A 1336)) (a36 := mk 21 (A 1337)) hv.1 (Ra_hasSum hv) (by rw [s1]; exact v1.1) ((hp_ne (Ra_hasSum hv) (by decide)).trans (Ra_hasTerm hv)) (by rw [s1, s1]; exact v2.1) (by rw [s1]; exact (hp_ne (Ra_hasTerm v1) (by decide)).trans ((hp_ne (Ra_hasSum hv) (by decide)).trans (Ra_lessAhead hv))) (by rw [s1, s1, s1]; exact v3.1) ?_ (n8 := by
    show some (vi (s 59)) = _
    rw [hn]) (n21 := by
    show some (vi (s 59)) = _
    rw [hn]) (n34 := by
    show some (vi (s 59)) = _
    rw [hn]) (c12 := by rw [mk_len]; omega) (c13 := by omega) (c14 := by unfold In3; omega) (c25 := by rw [mk_len]; omega) (c26 := by omega) (c27 := by unfold In3; omega) (c38 := by rw [mk_len]; omega) (c39 := by omega) (c40 := by unfold In3; omega)
  rw [s1, s1, s1]
  exact ⟨_, _, _, v4, FR_trans (FR_put hv (c := 1335) (by decide) (by decide) _) (FR_trans (FR_put v1 (c := 1336) (by decide) (by decide) _) (FR_trans (FR_put v2 (c := 1337) (by decide) (by decide) _) (FR_fld v3 _))), ⟨rfl, eA⟩, rfl⟩
theorem V_emit (hv : RV h s A) {e : Nat} (he : s 88 = (e : Int)) (e200 : e < 200) {x y : Int} : wm sw_P (d + 1) 437 [.index 1290, vi x, vi y] h (RN h (fun s' A' => s' = up s 88 ((e : Int) + 1) ∧ A' = pa (pa A 1356 e x) 1357 e y)) := by
  refine wm_in (cd := sw_c437) (nL := 3) (hd := sw_h437) rfl rfl ?_
  have v1 := Rp_emitSort hv (fun t => if t = e then x else A 1356 t)
  have v2 := Rp_emitValue v1 (fun t => if t = e then y else A 1357 t)
  have v3 := RV_fld v2 (up s 88 ((e : Int) + 1)) (rF_88 s ((e : Int) + 1))
  have s1 : ∀ (g : Nat → Int) (z : Int), (mk 200 g).set (Int.toNat (e : Int)) z = mk 200 (fun t => if t = e then z else g t) := fun g z => by rw [mk_set]; rfl
  have eA : up (up A 1356 (fun t => if t = e then x else A 1356 t)) 1357 (fun t => if t = e then y else A 1357 t) = pa (pa A 1356 e x) 1357 e y := by
    unfold pa
    rw [up_ne A _ (show (1357 : Nat) ≠ 1356 by decide)]
  refine k437_0 (z7 := (e : Int)) (z20 := (e : Int)) (z31 := (e : Int)) (a10 := mk 200 (A 1356)) (a23 := mk 200 (A 1357)) hv.1 (Ra_emitSort hv) (by rw [s1]; exact v1.1) ((hp_ne (Ra_emitSort hv) (by decide)).trans (Ra_emitValue hv)) (by rw [s1, s1]; exact v2.1) ?_ (n8 := by
    show some (vi (s 88)) = _
    rw [he]) (n21 := by
    show some (vi (s 88)) = _
    rw [he]) (n32 := by
    show some (vi (s 88)) = _
    rw [he]) (c12 := by rw [mk_len]; omega) (c13 := by omega) (c14 := by unfold In3; omega) (c25 := by rw [mk_len]; omega) (c26 := by omega) (c27 := by unfold In3; omega)
  rw [s1, s1]
  exact ⟨_, _, _, v3, FR_trans (FR_put hv (c := 1356) (by decide) (by decide) _) (FR_trans (FR_put v1 (c := 1357) (by decide) (by decide) _) (FR_fld v2 _)), ⟨rfl, eA⟩, rfl⟩
theorem V_takeText (hv : RV h s A) {n : Nat} (hn : s 50 = (n : Int)) (n200 : n ≤ 200) : wm sw_P (d + 1) 604 [.index 1290] h (RN h (fun s' A' => s' = up s 52 (n : Int) ∧ A' = up A 1334 (fun t => if t < n then A 1333 t else A 1334 t))) := by
  refine wm_in (cd := sw_c604) (nL := 2) (hd := sw_h604) rfl rfl ?_
  have v1 := RV_fld hv (up s 52 (n : Int)) (rF_52 s (n : Int))
  refine k604_0 (z5 := (n : Int)) hv.1 ?_ (n6 := by
    show some (vi (s 50)) = _
    rw [hn])
  have e5 : up s 52 (n : Int) 50 = (n : Int) := by rw [up_ne _ _ (by decide), hn]
  have loop : ∀ (l i : Nat) (B : Nat → Nat → Int) (h' : s_H), i + l = n → RV h' (up s 52 (n : Int)) B → FR h h' → (∀ x, x ≠ 1334 → B x = A x) → B 1334 = (fun t => if t < i then A 1333 t else A 1334 t) → wr sw_P d sw_c604 sw_h604 (10, [.index 1290, vi (i : Int)], [], h', 0, 0) (RN h (fun s' A' => s' = up s 52 (n : Int) ∧ A' = up A 1334 (fun t => if t < n then A 1333 t else A 1334 t))) := by
    intro l
    induction l with
    | zero =>
      intro i B h' hi2 v r o g
      have ei : i = n := by omega
      subst ei
      refine k604_10 (z5 := (i : Int)) v.1 (fun _ => k604_36 ⟨h', _, B, v, r, ⟨rfl, ?_⟩, rfl⟩) (fun w => absurd (by omega) w) (n6 := by
        show some (vi (up s 52 (i : Int) 50)) = _
        rw [e5]) (c7 := by unfold In3; omega) (c8 := by unfold In3; omega)
      funext x
      by_cases q : x = 1334
      · rw [q, up_at, g]
      · rw [up_ne _ _ q, o x q]
    | succ l ih =>
      intro i B h' hi2 v r o g
      refine k604_10 (z5 := (n : Int)) v.1 (fun w => absurd w (by omega)) (fun _ => ?_) (n6 := by
        show some (vi (up s 52 (n : Int) 50)) = _
        rw [e5]) (c7 := by unfold In3; omega) (c8 := by unfold In3; omega)
      refine k604_18 v.1 (Ra_text v) (Ra_source v) ?_ (c12 := by rw [mk_len]; omega) (c13 := by omega) (c14 := by unfold In3; omega) (c18 := by rw [mk_len]; omega)
      rw [gi_mkn (by omega), o 1333 (by decide), mk_set, g]
      have := ih (i + 1) _ _ (by omega) (Rp_source v (fun t => if t = (i : Int).toNat then A 1333 i else if t < i then A 1333 t else A 1334 t)) (FR_trans r (FR_put v (c := 1334) (by decide) (by decide) _)) (fun x hx => by rw [up_ne _ _ hx]; exact o x hx) (by
        rw [up_at]
        funext t
        by_cases q : t = i
        · rw [if_pos (by omega), if_pos (by omega), q]
        · rw [if_neg (by omega)]
          by_cases q2 : t < i
          · rw [if_pos q2, if_pos (by omega)]
          · rw [if_neg q2, if_neg (by omega)])
      exact this
  have := loop n 0 A _ (Nat.zero_add n) v1 (FR_fld hv _) (fun _ _ => rfl) (by
    funext t
    exact (if_neg (Nat.not_lt_zero t)).symm)
  exact this
theorem V_readHandle (hv : RV h s A) (hS : SX s A) {T : Nat → th} (hR : RI s A T) (b55 : s 55 = 0) {i : Nat} (hi2 : s 71 = (i : Int)) (i200 : i < 200) : wm sw_P (d + 4) 576 [.index 1290] h (RN h (rhR s A T i)) := by
  refine wm_in (cd := sw_c576) (nL := 3) (hd := sw_h576) rfl rfl ?_
  have b0 := hR.1.1
  have i55 : In3 (s 55) := by rw [b55]; decide
  have rd : ∀ s1 : Nat → Int, s1 71 = (i : Int) → s_nth (rF s1) 71 = some (vi (i : Int)) := fun s1 e => by
    show some (vi (s1 71)) = _
    rw [e]
  refine k576_0 (z5 := (i : Int)) hv.1 (wm_mono (wq_A (fun v1 h1 s1 A1 w1 r1 φ => ?_)) (V_digits hv hS i55 (i := i + 1) (most := 3) (by omega) (by decide))) (n6 := rd s hi2)
  obtain ⟨eA, n, ev, dg⟩ := φ
  subst ev
  rw [eA] at w1
  obtain ⟨n3, gd', dgc⟩ := id dg
  obtain ⟨g1, g2⟩ := dg_src hS gd'
  have s1c : s1 = s ∨ (s1 = fl1 s 2 ((i + 1 + n : Nat) : Int) ∧ s1 ≠ s) := by
    rcases dgc with ⟨_, e⟩ | ⟨_, _, e⟩
    · exact .inl e
    · rw [flS_0 b55] at e
      refine .inr ⟨e, fun w => ?_⟩
      have := congrFun (w.symm.trans e) 55
      rw [b55] at this
      unfold fl1 at this
      rw [up_ne _ _ (by decide), up_at] at this
      exact absurd this (by decide)
  refine k576_11 (fun w => ?_) (fun w => ?_) (c2 := by unfold In3; omega)
  rotate_left
  · have n0 : n = 0 := Classical.byContradiction (fun w2 => w (by omega))
    subst n0
    have es : s1 = s := by
      rcases dgc with ⟨_, e⟩ | ⟨e, _⟩
      · exact e
      · exact absurd e (by decide)
    subst es
    refine k576_16 (z5 := (i : Int)) w1.1 (wm_mono (wq_N (fun h2 s2 A2 v2 r2 φ => ?_)) (V_fail w1 i55)) (n6 := rd _ hi2)
    obtain ⟨e1, e2⟩ := φ
    rw [flS_0 b55] at e1
    have p55 : s2 55 = 1 := by
      rw [e1]
      unfold fl1
      rw [up_ne _ _ (by decide), up_at]
    refine k576_27 (z5 := s2 55) v2.1 (fun w2 => absurd w2 (by omega)) (fun _ => k576_34 ?_) (c7 := by rw [p55]; decide)
    exact ⟨h2, s2, A2, v2, FR_trans r1 r2, ⟨0, s1, dg, fun _ => ⟨e1, e2⟩, fun w2 => absurd w2 (Nat.lt_irrefl 0), fun w2 => absurd w2 (Nat.lt_irrefl 0)⟩, rfl⟩
  have n0 : 0 < n := Nat.pos_of_ne_zero (fun w2 => w (by omega))
  rcases s1c with es | ⟨es, ne⟩
  rotate_left
  · have p55 : s1 55 = 2 := by
      rw [es]
      unfold fl1
      rw [up_ne _ _ (by decide), up_at]
    refine k576_27 (z5 := s1 55) w1.1 (fun w2 => absurd w2 (by omega)) (fun _ => k576_34 ?_) (c7 := by rw [p55]; decide)
    exact ⟨h1, s1, A, w1, r1, ⟨n, s1, dg, fun w2 => absurd w2 (by omega), fun _ _ => ⟨rfl, rfl⟩, fun _ w2 => absurd w2 ne⟩, rfl⟩
  subst es
  have g1' := g1 n0
  have nb := num_b (A := A) (i := i + 1) n g2
  have n1000 : num A (i + 1) n < 1000 := by
    have : (10 : Int) ^ n ≤ 1000 := by
      rcases Nat.lt_or_ge n 1 with q | q
      · omega
      · rcases Nat.lt_or_ge n 2 with q2 | q2
        · rw [show n = 1 by omega]; decide
        · rcases Nat.lt_or_ge n 3 with q3 | q3
          · rw [show n = 2 by omega]; decide
          · rw [show n = 3 by omega]; decide
    omega
  refine k576_27 (z5 := s1 55) w1.1 (fun _ => ?_) (fun w2 => absurd (by omega) w2) (c7 := i55)
  refine k576_35 (z5 := (i : Int)) w1.1 (wm_mono (wq_r ?_) (V_numberAt w1 (i := i + 1) (n := n) (by omega) (by omega) g2)) (n6 := rd _ hi2)
  obtain ⟨f, ef⟩ : ∃ f : Nat, num A (i + 1) n = (f : Int) := ⟨(num A (i + 1) n).toNat, by omega⟩
  have efn : (num A (i + 1) n).toNat = f := by omega
  rw [ef]
  have bad : ¬ (num A (i + 1) n < s1 1 ∧ kd (T (num A (i + 1) n).toNat) = 0) → wr sw_P (d + 3) sw_c576 sw_h576 (64, [.index 1290, vi (n : Int), vi (f : Int)], [], h1, 0, 0) (RN h (rhR s1 A T i)) := fun w2 => by
    refine k576_64 (z5 := (i : Int)) w1.1 (wm_mono (wq_N (fun h2 s2 A2 v2 r2 φ => ?_)) (V_fail w1 i55)) (n6 := rd _ hi2)
    obtain ⟨e1, e2⟩ := φ
    rw [flS_0 b55] at e1
    exact k576_73 ⟨h2, s2, A2, v2, FR_trans r1 r2, ⟨n, s1, dg, fun w3 => absurd w3 (by omega), fun _ w3 => absurd rfl w3, fun _ _ => ⟨fun _ => ⟨e1, e2⟩, fun w3 a b eT => absurd ⟨w3, by rw [eT]; rfl⟩ w2⟩⟩, rfl⟩
  refine k576_46 w1.1 (wm_mono (wq_r ?_) (V_isThere w1 b0 (x := (f : Int)) (by unfold In3; omega)))
  by_cases q : 0 ≤ (f : Int) ∧ (f : Int) < s1 1
  rotate_left
  · rw [if_neg q]
    exact k576_52 (fun _ => bad (fun w2 => q ⟨by omega, by omega⟩)) (fun w2 => absurd rfl w2) (c1 := by decide)
  rw [if_pos q]
  have k3 := hR.1.2.1 f (by omega)
  have xf : (f : Int).toNat = f := by omega
  have i3 : In3 (A 1291 (f : Int).toNat) := by rw [xf]; unfold In3; omega
  have hf := hR.2.2 f (by omega)
  have ik : A 1291 (f : Int).toNat = kd (T f) := isT_kd hf
  refine k576_52 (fun w2 => absurd w2 (by decide)) (fun _ => ?_) (c1 := by decide)
  refine k576_55 w1.1 (wm_mono (wq_r ?_) (V_is w1 (x := (f : Int)) (k := 0) ⟨by omega, by omega⟩ i3 (by decide)))
  rw [ik]
  by_cases q2 : kd (T f) = 0
  rotate_left
  · rw [if_neg q2]
    exact k576_61 (fun w2 => absurd rfl w2) (fun _ => bad (fun w2 => q2 (by rw [← efn]; exact w2.2))) (c1 := by decide)
  rw [if_pos q2]
  refine k576_61 (fun _ => ?_) (fun w2 => absurd (by decide) w2) (c1 := by decide)
  refine k576_74 w1.1 (wm_mono (wq_Q (fun h2 v2 r2 => ?_)) (V_load w1 (t := 1302) (b := 1303) rfl rfl (by decide) (x := (f : Int)) ⟨by omega, by omega⟩ (RB_t hR.1) (RB_b hR.1)))
  rw [xf] at v2
  have v3 := RV_fld v2 (up s1 71 ((i : Int) + ((n : Int) + 1))) (rF_71 s1 ((i : Int) + ((n : Int) + 1)))
  have v4 := RV_fld v3 (up (up s1 71 ((i : Int) + ((n : Int) + 1))) 72 2) (rF_72 (up s1 71 ((i : Int) + ((n : Int) + 1))) 2)
  refine k576_87 (z5 := (i : Int)) v2.1 v3.1 ?_ (n6 := rd _ hi2)
  refine ⟨_, _, _, v4, FR_trans r1 (FR_trans r2 (FR_trans (FR_fld v2 _) (FR_fld v3 _))), ⟨n, s1, dg, fun w3 => absurd w3 (by omega), fun _ w3 => absurd rfl w3, fun _ _ => ⟨fun w3 => absurd ⟨by omega, by rw [efn]; exact q2⟩ w3, fun _ a b eT => ⟨rfl, ?_⟩⟩⟩, rfl⟩
  rw [efn] at eT
  rw [eT] at hf
  obtain ⟨_, p1, p2, _⟩ := hf
  rw [p1, p2]
end
