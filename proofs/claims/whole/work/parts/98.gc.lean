/-! the reference's workCell -/
theorem nmd_bit (A : Nat → Nat → Int) (c j : Nat) : ∀ k i, i < k → A 1368 (60 * c + i) = 65 + (j : Int) → j < 16 → (nmd A c k).testBit j = true
  | 0, _, hi2, _, _ => absurd hi2 (Nat.not_lt_zero _)
  | k + 1, i, hi2, e, hj => by
    unfold nmd
    rw [Nat.testBit_or]
    by_cases q : i = k
    · subst q
      rw [if_pos (by omega), e, show (65 + (j : Int) - 65).toNat = j by omega, Nat.testBit_two_pow_self, Bool.or_true]
    · rw [nmd_bit A c j k i (by omega) e hj, Bool.true_or]
def wcS (s : Nat → Int) (A : Nat → Nat → Int) (c : Nat) : Nat → Int := up (up s 110 (s 110 + 1)) 52 (A 1367 c)
def wcA (A : Nat → Nat → Int) (c : Nat) : Nat → Nat → Int := up A 1334 (fun t => if (t : Int) < A 1367 c then A 1368 (60 * c + t) else A 1334 t)
/-- a cell is worked -/
def wcR (T : Nat → th) (s : Nat → Int) (A : Nat → Nat → Int) (c : Nat) (s' : Nat → Int) (A' : Nat → Nat → Int) : Prop := ∃ s1 A1, rsR T (wcS s A c) (wcA A c) 2 s1 A1 ∧ s1 76 = -1 ∧ s' = up s1 107 (s 107 + 1) ∧ (∀ x, x ≠ 1369 → x ≠ 1370 → x ≠ 1371 → x ≠ 1372 → x ≠ 1374 → A' x = A1 x) ∧ A' 1371 = (fun k => if k = c then s1 55 else A 1371 k) ∧ A' 1372 = (fun k => if k = c then s1 56 else A 1372 k) ∧ A' 1374 = (fun k => if k = c then s 107 + 1 else A 1374 k) ∧ (s1 55 ≠ 0 → A' 1369 = A 1369 ∧ A' 1370 = A 1370) ∧ (s1 55 = 0 → ∃ a b, frc A1 a b ∧ pfn A A' 1369 c a ∧ pfn A A' 1370 c b)
theorem wc_E {s : Nat → Int} {A : Nat → Nat → Int} {T : Nat → th} {c : Nat} (hc : c < 16) (h : rdE s A T) : rdE (wcS s A c) (wcA A c) T := by
  obtain ⟨h1, h2, h3, h4, h5⟩ := h
  have o : ∀ x, x ≠ 1334 → wcA A c x = A x := fun x hx => up_ne _ _ hx
  have f : ∀ x k, x ≠ 1334 → fp (wcA A c) x k = fp A x k := fun x k hx => by
    unfold fp
    rw [o x hx]
  have b := (h2.1 c hc).1
  refine ⟨⟨?_, fun i hi2 => ?_⟩, ?_, ?_, ?_, RI_k h5 o rfl (by
    unfold wcS
    rw [up_ne _ _ (by decide), up_ne _ _ (by decide)])⟩
  · unfold wcS
    rw [up_at]
    omega
  · unfold wcA
    rw [up_at]
    split
    · exact h2.2 _ (by omega)
    · exact h1.2 i hi2
  · unfold ShB at *
    rw [o 1367 (by decide), o 1371 (by decide), o 1372 (by decide), o 1373 (by decide), o 1374 (by decide), o 1368 (by decide)]
    exact h2
  · rw [o 1369 (by decide), o 1370 (by decide)]
    exact h3
  · unfold ShF at *
    intro k hk
    rw [o 1373 (by decide), o 1374 (by decide), o 1371 (by decide), f 1369 k (by decide), f 1370 k (by decide)]
    exact h4 k hk
theorem due_w {A : Nat → Nat → Int} {c : Nat} (j : Nat) : due (wcA A c) j ↔ due A j := by
  have o : ∀ x, x ≠ 1334 → wcA A c x = A x := fun x hx => up_ne _ _ hx
  have h := hng_to (o 1367 (by decide)) (o 1368 (by decide)) j
  unfold due wkb wkd
  rw [h, o 1367 (by decide), o 1373 (by decide), o 1374 (by decide)]
/-- nothing that the cell names is due: nothing is wanted -/
theorem wc_want {T : Nat → th} {s s1 : Nat → Int} {A A1 : Nat → Nat → Int} {c : Nat} (hN : ∀ j, j < 16 → (nms A c).testBit j = true → ¬ due A j) (φ : rsR T (wcS s A c) (wcA A c) 2 s1 A1) : s1 76 = -1 ∧ (s1 55 = 0 → ∃ a b, frc A1 a b) := by
  rcases φ.2.2.2 with x | ⟨_, j, j1, j2, j3, i, j4⟩ | x
  · exact ⟨x.2.2, fun y => by omega⟩
  · refine absurd ((due_w j).mp j3) (hN j j1 ?_)
    have lt := byt_in j4 (by omega)
    have e52 : up (wcS s A c) 54 2 52 = A 1367 c := by
      rw [up_ne _ _ (by decide)]
      exact up_at _ _ _
    unfold byt at j4
    rw [if_pos lt] at j4
    rw [e52] at lt
    have e34 : wcA A c 1334 i = A 1368 (60 * c + i) := by
      unfold wcA
      rw [up_at]
      exact if_pos lt
    rw [e34] at j4
    exact nmd_bit A c j _ i (by omega) j4 j1
  · exact ⟨x.2.2.1, fun _ => x.2.2.2.2.1⟩
section
variable {d : Nat} {h : s_H} {s : Nat → Int} {A : Nat → Nat → Int}
theorem V_workCell (hv : RV h s A) {T : Nat → th} (E : rdE s A T) {c : Nat} (hc : c < 16) (hN : ∀ j, j < 16 → (nms A c).testBit j = true → ¬ due A j) : wm sw_P (d + 12) 615 [.index 1290, vi (c : Int)] h (RN h (wcR T s A c)) := by
  refine wm_in (cd := sw_c615) (nL := 3) (hd := sw_h615) rfl rfl ?_
  have bc := (E.2.1.1 c hc).1
  obtain ⟨L, eL⟩ : ∃ L : Nat, A 1367 c = L := ⟨(A 1367 c).toNat, by omega⟩
  have v1 := RV_fld hv (up s 110 (s 110 + 1)) (rF_110 s (s 110 + 1))
  have v2 := RV_fld v1 (wcS s A c) (rF_52 (up s 110 (s 110 + 1)) (A 1367 c))
  have R2 : FR h _ := FR_trans (FR_fld hv (1, 11, rF (up s 110 (s 110 + 1)))) (FR_fld v1 (1, 11, rF (wcS s A c)))
  have gl : gi (mk 16 (A 1367)) (c : Int) = A 1367 c := gi_mkn hc
  refine k615_0 (z5 := s 110) (a14 := mk 16 (A 1367)) hv.1 v1.1 (Ra_cellLength v1) ?_ (c16 := by rw [mk_len]; omega) (c17 := by omega) (c18 := by unfold In3; omega)
  rw [gl]
  have s52 : wcS s A c 52 = (L : Int) := (up_at _ _ _).trans eL
  have rd52 : s_nth (rF (wcS s A c)) 52 = some (vi (L : Int)) := by
    show some (vi (wcS s A c 52)) = _
    rw [s52]
  have loop : ∀ (l i : Nat) (B : Nat → Nat → Int) (h' : s_H), i + l = L → RV h' (wcS s A c) B → FR h h' → (∀ x, x ≠ 1334 → B x = A x) → B 1334 = (fun t => if t < i then A 1368 (60 * c + t) else A 1334 t) → (∀ (h' : s_H), RV h' (wcS s A c) (wcA A c) → FR h h' → wr sw_P (d + 11) sw_c615 sw_h615 (53, [.index 1290, vi (c : Int), vi (L : Int)], [], h', 0, 0) (RN h (wcR T s A c))) → wr sw_P (d + 11) sw_c615 sw_h615 (22, [.index 1290, vi (c : Int), vi (i : Int)], [], h', 0, 0) (RN h (wcR T s A c)) := by
    intro l
    induction l with
    | zero =>
      intro i B h' hi2 v r o g next
      have ei : i = L := by omega
      subst ei
      have eB : B = wcA A c := by
        funext x
        unfold wcA
        by_cases q : x = 1334
        · rw [q, up_at, g, eL]
          funext t
          by_cases w : t < i
          · rw [if_pos w, if_pos (by omega)]
          · rw [if_neg w, if_neg (by omega)]
        · rw [up_ne _ _ q, o x q]
      rw [eB] at v
      exact k615_22 (z5 := (i : Int)) v.1 (fun _ => next h' v r) (fun w => absurd (by omega) w) (n6 := rd52) (c7 := by unfold In3; omega) (c8 := by unfold In3; omega)
    | succ l ih =>
      intro i B h' hi2 v r o g next
      refine k615_22 (z5 := (L : Int)) v.1 (fun w => absurd w (by omega)) (fun _ => ?_) (n6 := rd52) (c7 := by unfold In3; omega) (c8 := by unfold In3; omega)
      refine k615_30 v.1 (Ra_cellText v) (Ra_source v) ?_ (c12 := by rw [mk_len]; omega) (c13 := by omega) (c14 := by unfold In3; omega) (c18 := by rw [mk_len]; omega) (c19 := by omega) (c20 := by unfold In3; omega)
      have ei : (60 * (c : Int)) + (i : Int) = ((60 * c + i : Nat) : Int) := by omega
      rw [ei, gi_mkn (by omega), o 1368 (by decide), mk_set, g]
      exact ih (i + 1) _ _ (by omega) (Rp_source v (fun t => if t = (i : Int).toNat then A 1368 (60 * c + i) else if t < i then A 1368 (60 * c + t) else A 1334 t)) (FR_trans r (FR_put v (c := 1334) (by decide) (by decide) _)) (fun x hx => by rw [up_ne _ _ hx]; exact o x hx) (by
        rw [up_at]
        funext t
        by_cases q : t = i
        · rw [if_pos (by omega), if_pos (by omega), q]
        · rw [if_neg (by omega)]
          by_cases q2 : t < i
          · rw [if_pos q2, if_pos (by omega)]
          · rw [if_neg q2, if_neg (by omega)]) next
  refine loop L 0 A _ (by omega) v2 R2 (fun _ _ => rfl) (by
    funext t
    exact (if_neg (Nat.not_lt_zero t)).symm) (fun h3 v3 r3 => ?_)
  refine k615_53 v3.1 (wm_mono (wq_N (fun h4 s4 A4 v4 r4 φ => ?_)) (V_readSource v3 (wc_E hc E) (m := 2) (by decide)))
  obtain ⟨w76, wf⟩ := wc_want hN φ
  have kk : ∀ j, rdF.contains j = false → j ≠ 54 → j ≠ 52 → j ≠ 110 → s4 j = s j := fun j y0 y1 y2 y3 => by
    rw [φ.2.1 j y0, up_ne _ _ y1]
    unfold wcS
    rw [up_ne _ _ y2, up_ne _ _ y3]
  have rr : ∀ x, rdL.contains x = false → x ≠ 1334 → A4 x = A x := fun x y0 y1 => (φ.2.2.1 x y0).trans (up_ne _ _ y1)
  have i55 : In3 (s4 55) := by
    rcases φ.2.2.2 with x | x | x
    · unfold In3; omega
    · rw [x.1.1]; decide
    · rw [x.1]; decide
  have v5 := Rp_cellFault v4 (fun t => if t = c then s4 55 else A4 1371 t)
  have v6 := Rp_cellPlace v5 (fun t => if t = c then s4 56 else A4 1372 t)
  have st16 : ∀ (g : Nat → Int) (z : Int), (mk 16 g).set (Int.toNat (c : Int)) z = mk 16 (fun t => if t = c then z else g t) := fun g z => by rw [mk_set]; rfl
  refine k615_58 (z7 := s4 55) (z20 := s4 56) (a10 := mk 16 (A4 1371)) (a23 := mk 16 (A4 1372)) v4.1 (Ra_cellFault v4) (by rw [st16]; exact v5.1) (by rw [st16]; exact (hp_ne (Ra_cellFault v4) (by decide)).trans (Ra_cellPlace v4)) ?_ (c12 := by rw [mk_len]; omega) (c13 := by omega) (c14 := by unfold In3; omega) (c25 := by rw [mk_len]; omega)
  rw [st16, st16]
  have R6 : FR h _ := FR_trans r3 (FR_trans r4 (FR_trans (FR_put v4 (c := 1371) (by decide) (by decide) (rc 1371 (fun t => if t = c then s4 55 else A4 1371 t))) (FR_put v5 (c := 1372) (by decide) (by decide) (rc 1372 (fun t => if t = c then s4 56 else A4 1372 t)))))
  obtain ⟨A6, eA6⟩ : ∃ X, up (up A4 1371 (fun t => if t = c then s4 55 else A4 1371 t)) 1372 (fun t => if t = c then s4 56 else A4 1372 t) = X := ⟨_, rfl⟩
  rw [eA6] at v6
  have o6 : ∀ x, x ≠ 1371 → x ≠ 1372 → A6 x = A4 x := fun x y1 y2 => by rw [← eA6, up_ne _ _ y2, up_ne _ _ y1]
  have e71 : A6 1371 = fun t => if t = c then s4 55 else A4 1371 t := by rw [← eA6, up_ne _ _ (by decide), up_at]
  have e72 : A6 1372 = fun t => if t = c then s4 56 else A4 1372 t := by rw [← eA6, up_at]
  have s107 : s4 107 = s 107 := kk 107 rfl (by decide) (by decide) (by decide)
  -- the end: the clock
  have last : ∀ (x2 : Int) (B : Nat → Nat → Int) (h7 : s_H), RV h7 s4 B → FR h h7 → (∀ x, x ≠ 1369 → x ≠ 1370 → B x = A6 x) → (s4 55 ≠ 0 → B 1369 = A6 1369 ∧ B 1370 = A6 1370) → (s4 55 = 0 → ∃ a b, frc A4 a b ∧ pfn A6 B 1369 c a ∧ pfn A6 B 1370 c b) → wr sw_P (d + 11) sw_c615 sw_h615 (135, [.index 1290, vi (c : Int), vi x2], [], h7, 0, 0) (RN h (wcR T s A c)) := fun x2 B h7 v r o y1 y2 => by
    have v8 := RV_fld v (up s4 107 (s4 107 + 1)) (rF_107 s4 (s4 107 + 1))
    have v9 := Rp_workedAt v8 (fun t => if t = c then s4 107 + 1 else B 1374 t)
    have pf : ∀ {a : zp_R} {x : Nat}, (x = 1369 ∨ x = 1370) → pfn A6 B x c a → pfn A (up B 1374 (fun t => if t = c then s4 107 + 1 else B 1374 t)) x c a := fun {a x} hx q => by
      have e1 : ∀ k, fp A6 x k = fp A x k := fun k => by
        unfold fp
        rw [o6 x (by omega) (by omega), rr x (by rcases hx with q | q <;> rw [q] <;> rfl) (by omega)]
      have e2 : ∀ k, fp (up B 1374 (fun t => if t = c then s4 107 + 1 else B 1374 t)) x k = fp B x k := fun k => by
        unfold fp
        rw [up_ne _ _ (by omega)]
      exact ⟨(e2 c).trans q.1, fun k hk => (e2 k).trans ((q.2 k hk).trans (e1 k))⟩
    refine k615_135 (z5 := s4 107) (z13 := s4 107 + 1) (a16 := mk 16 (B 1374)) v.1 v8.1 (Ra_workedAt v8) ?_ (n14 := by
      show some (vi (up s4 107 (s4 107 + 1) 107)) = _
      rw [up_at]) (c18 := by rw [mk_len]; omega) (c19 := by omega) (c20 := by unfold In3; omega)
    rw [st16]
    refine ⟨_, _, _, v9, FR_trans r (FR_trans (FR_fld v _) (FR_put v8 (c := 1374) (by decide) (by decide) _)), ⟨s4, A4, φ, w76, by rw [s107], fun x z1 z2 z3 z4 z5 => by rw [up_ne _ _ z5, o x z1 z2, o6 x z3 z4], ?_, ?_, ?_, fun w => ?_, fun w => ?_⟩, rfl⟩
    · rw [up_ne _ _ (by decide), o 1371 (by decide) (by decide), e71, rr 1371 rfl (by decide)]
    · rw [up_ne _ _ (by decide), o 1372 (by decide) (by decide), e72, rr 1372 rfl (by decide)]
    · rw [up_at, s107, o 1374 (by decide) (by decide), o6 1374 (by decide) (by decide), rr 1374 rfl (by decide)]
    · obtain ⟨z1, z2⟩ := y1 w
      rw [up_ne _ _ (by decide), up_ne _ _ (by decide), z1, z2, o6 1369 (by decide) (by decide), o6 1370 (by decide) (by decide), rr 1369 rfl (by decide), rr 1370 rfl (by decide)]
      exact ⟨rfl, rfl⟩
    · obtain ⟨a, b, z1, z2, z3⟩ := y2 w
      exact ⟨a, b, z1, pf (.inl rfl) z2, pf (.inr rfl) z3⟩
  by_cases w55 : s4 55 = 0
  rotate_left
  · refine k615_80 (fun w => absurd w (by decide)) (fun _ => ?_) (c1 := by decide)
    exact k615_86 (z5 := s4 55) v6.1 (fun _ => last _ A6 _ v6 R6 (fun _ _ _ => rfl) (fun _ => ⟨rfl, rfl⟩) (fun w => absurd w w55)) (fun w => absurd w55 w) (c7 := i55)
  obtain ⟨a, b, f⟩ := wf w55
  have copy : ∀ (l i : Nat) (B : Nat → Nat → Int) (h' : s_H), i + l = 41 → RV h' s4 B → FR h h' → (∀ x, x ≠ 1369 → x ≠ 1370 → B x = A6 x) → (∀ t, B 1369 t = if 41 * c ≤ t ∧ t < 41 * c + i then cf a (t - 41 * c) else A6 1369 t) → (∀ t, B 1370 t = if 41 * c ≤ t ∧ t < 41 * c + i then cf b (t - 41 * c) else A6 1370 t) → wr sw_P (d + 11) sw_c615 sw_h615 (80, [.index 1290, vi (c : Int), vi (i : Int)], [], h', 0, 0) (RN h (wcR T s A c)) := by
    intro l
    induction l with
    | zero =>
      intro i B h' hi2 v r o g1 g2
      have ei : i = 41 := by omega
      subst ei
      exact k615_80 (fun _ => last _ B h' v r o (fun w => absurd w55 w) (fun _ => ⟨a, b, f, fp_fill f.2.2.1 g1, fp_fill f.2.2.2.1 g2⟩)) (fun w => absurd (by decide) w) (c1 := by decide)
    | succ l ih =>
      intro i B h' hi2 v r o g1 g2
      refine k615_80 (fun w => absurd w (by omega)) (fun _ => ?_) (c1 := by unfold In3; omega)
      refine k615_86 (z5 := s4 55) v.1 (fun w => absurd w55 w) (fun _ => ?_) (c7 := i55)
      have ei : (41 * (c : Int)) + (i : Int) = ((41 * c + i : Nat) : Int) := by omega
      have tn : Int.toNat (((41 * c + i : Nat) : Int)) = 41 * c + i := rfl
      have ca : B 1302 = cf a := by rw [o 1302 (by decide) (by decide), o6 1302 (by decide) (by decide)]; exact f.1
      have cb : B 1303 = cf b := by rw [o 1303 (by decide) (by decide), o6 1303 (by decide) (by decide)]; exact f.2.1
      have ga : gi (mk 176 (B 1302)) (i : Int) = cf a i := by rw [gi_mkn (by omega), ca]
      have gb : gi (mk 176 (B 1303)) (i : Int) = cf b i := by rw [gi_mkn (by omega), cb]
      have v7 := Rp_cellTop v (fun t => if t = 41 * c + i then cf a i else B 1369 t)
      have v8 := Rp_cellBottom v7 (fun t => if t = 41 * c + i then cf b i else B 1370 t)
      have s1 : (mk 656 (B 1369)).set (Int.toNat ((41 * (c : Int)) + (i : Int))) (gi (mk 176 (B 1302)) (i : Int)) = mk 656 (fun t => if t = 41 * c + i then cf a i else B 1369 t) := by rw [ga, ei, mk_set, tn]
      have s2 : (mk 656 (B 1370)).set (Int.toNat ((41 * (c : Int)) + (i : Int))) (gi (mk 176 (B 1303)) (i : Int)) = mk 656 (fun t => if t = 41 * c + i then cf b i else B 1370 t) := by rw [gb, ei, mk_set, tn]
      refine k615_93 (a10 := mk 176 (B 1302)) (a16 := mk 656 (B 1369)) (a29 := mk 176 (B 1303)) (a33 := mk 656 (B 1370)) v.1 (RV_l v (c := 1302) rfl) (Ra_cellTop v) (by rw [s1]; exact v7.1) (by rw [s1]; exact (hp_ne (Ra_cellTop v) (by decide)).trans (RV_l v (c := 1303) rfl)) (by rw [s1]; exact (hp_ne (Ra_cellTop v) (by decide)).trans (Ra_cellBottom v)) ?_ (c12 := by rw [mk_len]; omega) (c13 := by omega) (c14 := by unfold In3; omega) (c18 := by rw [mk_len]; omega) (c19 := by omega) (c20 := by unfold In3; omega) (c31 := by rw [mk_len]; omega) (c35 := by rw [mk_len]; omega)
      rw [s1, s2]
      have step : ∀ (g : Nat → Int) (G : Nat → Int) (u : zp_R), (∀ t, G t = if 41 * c ≤ t ∧ t < 41 * c + i then cf u (t - 41 * c) else g t) → ∀ t, (if t = 41 * c + i then cf u i else G t) = if 41 * c ≤ t ∧ t < 41 * c + (i + 1) then cf u (t - 41 * c) else g t := fun g G u hG t => by
        by_cases q : t = 41 * c + i
        · rw [if_pos q, if_pos (by omega), show t - 41 * c = i by omega]
        · rw [if_neg q, hG t]
          by_cases q2 : 41 * c ≤ t ∧ t < 41 * c + i
          · rw [if_pos q2, if_pos (by omega)]
          · rw [if_neg q2, if_neg (by omega)]
      exact ih (i + 1) _ _ (by omega) v8 (FR_trans r (FR_trans (FR_put v (c := 1369) (by decide) (by decide) _) (FR_put v7 (c := 1370) (by decide) (by decide) _))) (fun x y1 y2 => by rw [up_ne _ _ y2, up_ne _ _ y1, o x y1 y2]) (fun t => by
        rw [up_ne _ _ (by decide), up_at]
        exact step _ _ a g1 t) (fun t => by
        rw [up_at]
        exact step _ _ b g2 t)
  refine copy 41 0 A6 _ (by decide) v6 R6 (fun _ _ _ => rfl) (fun t => ?_) (fun t => ?_)
  · rw [if_neg (by omega)]
  · rw [if_neg (by omega)]
end
