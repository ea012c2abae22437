/-! the class's series by rules -/
theorem u_min {D : Nat} {h : s_H} {x y : Int} (hx : In3 x) (hy : In3 y) : wm sw_P (D + 1) 626 [vi x, vi y] h (qr (vi (if y < x then y else x)) h) := by
  refine wm_in (cd := sw_c626) (nL := 2) (hd := sw_h626) rfl rfl ?_
  refine k626_0 (fun w => k626_9 (k626_10 ?_)) (fun w => k626_5 (k626_10 ?_)) (c1 := hx) (c2 := hy)
  · rw [if_pos w]
  · rw [if_neg w]
theorem u_max {D : Nat} {h : s_H} {x y : Int} (hx : In3 x) (hy : In3 y) : wm sw_P (D + 1) 625 [vi x, vi y] h (qr (vi (if x < y then y else x)) h) := by
  refine wm_in (cd := sw_c625) (nL := 2) (hd := sw_h625) rfl rfl ?_
  refine k625_0 (fun w => k625_9 (k625_10 ?_)) (fun w => k625_5 (k625_10 ?_)) (c1 := hx) (c2 := hy)
  · rw [if_pos w]
  · rw [if_neg w]
/-- an entry of a kept matrix -/
theorem u_entryAt {D : Nat} {h : s_H} {c r w : Nat} {M : Nat → Nat → zp_R} (K : KT h c (th_ma r w M)) {i j : Nat} (ir : i < r) (jw : j < w) : wm sw_P (D + 1) 265 [.index c, vi (i : Int), vi (j : Int)] h (fun out => ∃ q lq, kp h q ∧ PF h q lq (M i j) ∧ zp_deg (M i j) 11 ∧ qr (.index q) h out) := by
  refine wm_in (cd := sw_c265) (nL := 3) (hd := sw_h265) rfl rfl ?_
  obtain ⟨e, l, g1, g2, g3, g4, g5, g6, g7⟩ := K
  obtain ⟨q, lq, y1, y2, y3, y4⟩ := g7 i j ir jw
  have b1 : i * w ≤ 3 * 4 := Nat.mul_le_mul (by omega) (by omega)
  have ex : (i : Int) * (w : Int) + (j : Int) = ((i * w + j : Nat) : Int) := by rw [Int.natCast_add, Int.natCast_mul]
  refine k265_0 (z7 := (w : Int)) (a10 := l) (v13 := .index q) g1 g3 ⟨q, lq, y2, y3, y4, rfl⟩ (n14 := by rw [ex]; exact y1) (c16 := by rw [ex]; unfold In3; omega) (c17 := by rw [ex]; omega)
section
variable {D : Nat} {h : s_H}
theorem rsm_s (M : Nat → zp_R) (g : Nat → zp_F) (n k : Nat) : rsm M g n (k + 1) = rsm M g n k + zp_ev (nF (n : Int)) (M k) * g (n + k) := rfl
theorem tm_pa (a b c : zp_F) : Int.tmod ((a.val : Int) + ((b.val : Int) * (c.val : Int))) 32003 = ((a + b * c : zp_F).val : Int) := by
  rw [tmod_nn (Int.add_nonneg (by omega) (Int.mul_nonneg (by omega) (by omega))), ← nF_v, nF_add, nF_mul, nF_val, nF_val, nF_val]
theorem in_pa (a b c : zp_F) : In3 ((a.val : Int) + ((b.val : Int) * (c.val : Int))) := by
  have m := mm_le (x := (b.val : Int)) (y := (c.val : Int)) ⟨by omega, by have := b.isLt; omega⟩ ⟨by omega, by have := c.isLt; omega⟩
  have := a.isLt
  unfold In3
  omega
theorem u_comesTo {c w a : Nat} {M : Nat → Nat → zp_R} {f : zp_R} (K : KT h c (th_ma 1 w M)) (ha : SR h a f) {L n : Nat} (Lw : L ≤ w) (nL : n + L ≤ 25) : wm sw_P (D + 2) 232 [.index c, vi (L : Int), .index a, vi (n : Int)] h (qr (vi ((rsm (M 0) f.1 n L : zp_F).val : Int)) h) := by
  refine wm_in (cd := sw_c232) (nL := 6) (hd := sw_h232) rfl rfl ?_
  obtain ⟨_, _, gc, _⟩ := id K
  have hlen : ((mk 25 (cf f)).map vi).length = 25 := by rw [List.length_map, mk_len]
  have loop : ∀ (l k : Nat), k + l = L → wr sw_P (D + 1) sw_c232 sw_h232 (6, [.index c, vi (L : Int), .index a, vi (n : Int), vi ((rsm (M 0) f.1 n k : zp_F).val : Int), vi (k : Int)], [], h, 0, 0) (qr (vi ((rsm (M 0) f.1 n L : zp_F).val : Int)) h) := by
    intro l
    induction l with
    | zero =>
      intro k hk
      have e : k = L := by omega
      subst e
      exact k232_6 (fun _ => k232_54 rfl) (fun q => absurd (Int.le_refl _) q) (c1 := by unfold In3; omega) (c2 := by unfold In3; omega)
    | succ l ih =>
      intro k hk
      refine k232_6 (fun q => absurd q (by omega)) (fun _ => ?_) (c1 := by unfold In3; omega) (c2 := by unfold In3; omega)
      refine k232_12 (a3 := (mk 25 (cf f)).map vi) (tg5 := 0) ha.1 (fun q => absurd q (by rw [hlen]; omega)) (fun _ => ?_) (c6 := by unfold In3; omega) (c7 := by rw [hlen]; decide)
      refine k232_21 gc (wm_mono (fun out => ?_) (u_entryAt K (i := 0) (j := k) (by omega) (by omega)))
      intro ⟨q, lq, _, Pq, _, eo⟩
      refine wq_r ?_ out eo
      refine k232_30 (PF_c Pq) (wm_mono (wq_r ?_) (u_valueAt Pq (x := (n : Int)) (by omega)))
      have e1 : gi (mk 25 (cf f)) ((n : Int) + (k : Int)) = ((f.1 (n + k)).val : Int) := gi_cf' (n := n + k) (by omega) (by omega)
      refine k232_34 (a3 := mk 25 (cf f)) ha.1 ?_ (c5 := by rw [mk_len]; omega) (c6 := by omega) (c7 := by unfold In3; omega) (c8 := by rw [e1]; exact in_pa _ _ _)
      rw [e1, tm_pa, ← rsm_s, show (k : Int) + 1 = ((k + 1 : Nat) : Int) by omega]
      exact ih (k + 1) (by omega)
  exact k232_0 (loop L 0 (by omega))
/-- does a series keep to a rule -/
theorem u_obeying {c w a : Nat} {M : Nat → Nat → zp_R} {f : zp_R} (K : KT h c (th_ma 1 w M)) (ha : SR h a f) : wm sw_P (D + 3) 239 [.index c, .index a] h (fun out => ∃ v : Int, obeF (th_ma 1 w M) (th_se f) v ∧ qr (vi v) h out) := by
  refine wm_in (cd := sw_c239) (nL := 3) (hd := sw_h239) rfl rfl ?_
  obtain ⟨_, _, gc, _, _, _, _, g6, _⟩ := id K
  have loop : ∀ (l n : Nat), n + l = 26 → (∀ m : Nat, m < n → m + w - 1 < 25 → rsm (M 0) f.1 m w = 0) → wr sw_P (D + 2) sw_c239 sw_h239 (2, [.index c, .index a, vi (n : Int)], [], h, 0, 0) (fun out => ∃ v : Int, obeF (th_ma 1 w M) (th_se f) v ∧ qr (vi v) h out) := by
    intro l
    induction l with
    | zero =>
      intro n hn H
      refine k239_2 (z5 := (w : Int)) gc (fun _ => k239_34 ⟨1, ⟨fun _ => rfl, fun q => absurd (fun m hm => H m (by omega) hm) q⟩, rfl⟩) (fun q => absurd (by omega) q) (c7 := by unfold In3; omega)
    | succ l ih =>
      intro n hn H
      refine k239_2 (z5 := (w : Int)) gc (fun q => k239_34 ⟨1, ⟨fun _ => rfl, fun q2 => absurd (fun m hm => H m (by omega) hm) q2⟩, rfl⟩) (fun q => ?_) (c7 := by unfold In3; omega)
      refine k239_13 (z5 := (w : Int)) gc (wm_mono (wq_r ?_) (u_comesTo K ha (L := w) (n := n) (Nat.le_refl _) (by omega)))
      have bl := (rsm (M 0) f.1 n w : zp_F).isLt
      refine k239_23 (fun z => k239_28 ?_) (fun z => k239_26 ⟨0, ⟨fun q2 => absurd (q2 n (by omega)) (fun e => z (by rw [e]; rfl)), fun _ => rfl⟩, rfl⟩) (c1 := by unfold In3; omega)
      rw [show (n : Int) + 1 = ((n + 1 : Nat) : Int) by omega]
      refine ih (n + 1) (by omega) (fun m hm h2 => ?_)
      by_cases e : m = n
      · subst e
        exact F_ext (by rw [z]; rfl)
      · exact H m (by omega) h2
  exact k239_0 (loop 26 0 rfl (fun m hm => absurd hm (Nat.not_lt_zero m)))
theorem tm_ng {S w : zp_F} : Int.tmod (Int.tmod (32003 - (S.val : Int)) 32003 * (w.val : Int)) 32003 = ((-S * w : zp_F).val : Int) := by
  have l := S.isLt
  rw [tmod_nn (x := 32003 - (S.val : Int)) (by omega)]
  have m2 := md_lt (32003 - (S.val : Int))
  rw [tmod_nn (Int.mul_nonneg m2.1 (by omega)), ← nF_v, nF_mul, nF_val]
  congr 3
  refine F_ext ?_
  rw [nF_v]
  have e2 : (-S : zp_F) = nF (0 - (S.val : Int)) := by
    rw [nF_sub, nF_val, nF_0]
    exact ng_h _
  rw [e2, nF_v]
  omega
where ng_h : ∀ s : zp_F, -s = 0 - s := by intro s; grind
theorem in_ng {S w : zp_F} : In3 (Int.tmod (32003 - (S.val : Int)) 32003 * (w.val : Int)) := by
  have l := S.isLt
  have l2 := w.isLt
  rw [tmod_nn (x := 32003 - (S.val : Int)) (by omega)]
  have m2 := md_lt (32003 - (S.val : Int))
  have m := mm_le (x := (32003 - (S.val : Int)) % 32003) (y := (w.val : Int)) ⟨m2.1, m2.2⟩ ⟨by omega, by omega⟩
  unfold In3
  omega
/-- a series made by a rule from its first numbers -/
theorem u_unrolled (r : RM h 1) (h0 : 0 < h.1) (lo : 1376 ≤ h.1) {c w a : Nat} {M : Nat → Nat → zp_R} {f : zp_R} (K : KT h c (th_ma 1 w M)) (kc' : kt h c) (ha : SR h a f) (n0 : ∀ n : Nat, n < 25 → w - 1 ≤ n → zp_ev (nF ((n - (w - 1) : Nat) : Int)) (M 0 (w - 1)) ≠ 0) : wm sw_P (D + 3) 248 [.index c, .index a] h (SN h 1 (fun R => unrR (M 0) (w - 1) f R 25)) := by
  refine wm_in (cd := sw_c248) (nL := 6) (hd := sw_h248) rfl rfl ?_
  obtain ⟨c0, r0⟩ := r h.1 (Nat.le_refl _) (by omega)
  obtain ⟨_, _, gc, _, _, _, _, g6, _⟩ := id K
  have W0 := WA_new r0
  obtain ⟨o, eo⟩ : ∃ o, w = o + 1 := ⟨w - 1, by omega⟩
  have eo2 : w - 1 = o := by omega
  rw [eo2] at n0
  rw [eo2]
  -- from the order on
  have rest : ∀ (l n : Nat) (t5 : Term) (h' : s_H) (R : zp_R), n + o + l = 25 → WA h 1 h.1 h' R → unrR (M 0) o f R (n + o) → wr sw_P (D + 2) sw_c248 sw_h248 (45, [.index c, .index a, .index h.1, vi (o : Int), vi (n : Int), t5], [], h', 0 + 1, 0 + Int.toNat 25) (SN h 1 (fun R => unrR (M 0) o f R 25)) := by
    intro l
    induction l with
    | zero =>
      intro n t5 h' R hn W q
      have e : n + o = 25 := by omega
      rw [e] at q
      exact k248_45 (fun _ => k248_105 (SN_W W h0 q q.1 rfl rfl)) (fun q => absurd (by omega) q) (c1 := by unfold In3; omega)
    | succ l ih =>
      intro n t5 h' R hn W q
      have K' := KT_keep K kc' W.1 FX_N lo
      have gc' := (WA_old W kc'.2).trans gc
      have ne := n0 (n + o) (by omega) (by omega)
      rw [show n + o - o = n by omega] at ne
      refine k248_45 (fun q => absurd q (by omega)) (fun _ => ?_) (c1 := by unfold In3; omega)
      refine k248_54 gc' (wm_mono (fun out => ?_) (u_entryAt K' (i := 0) (j := o) (by omega) (by omega)))
      intro ⟨p, lp, _, Pp, _, eo'⟩
      refine wq_r ?_ out eo'
      refine k248_60 (PF_c Pp) (wm_mono (wq_r ?_) (u_valueAt Pp (x := (n : Int)) (by omega)))
      obtain ⟨z, ez⟩ : ∃ z : zp_F, zp_ev (nF (n : Int)) (M 0 o) = z := ⟨_, rfl⟩
      rw [ez] at ne
      rw [ez]
      have lz := z.isLt
      have z0 : z.val ≠ 0 := fun e => ne (F_ext (by rw [e]; rfl))
      refine k248_65 (r_inv2 (x := (z.val : Int)) (by omega) (fun _ => ?_))
      rw [nF_val]
      refine k248_68 (wm_mono (wq_r ?_) (u_comesTo K' (a := h.1) (f := R) ⟨W.2.2.2, h0, W.2.2.1.2⟩ (L := o) (n := n) (by omega) (by omega)))
      refine k248_86 (a4 := mk 25 (cf R)) W.2.2.2 ?_ (c1 := by have := (rsm (M 0) R.1 n o : zp_F).isLt; unfold In3; omega) (c2 := in_ng) (c6 := by rw [mk_len]; omega) (c7 := by omega) (c8 := by unfold In3; omega)
      rw [tm_ng, show (n : Int) + 1 = ((n + 1 : Nat) : Int) by omega]
      have st := unrR_b q (show o ≤ n + o by omega) (by rw [show n + o - o = n by omega, ez]; exact ne)
      rw [show n + o - o = n by omega, ez, show n + o + 1 = n + 1 + o by omega] at st
      exact ih (n + 1) _ _ _ (by omega) (WA_set W (ar_set (n := n + o) (by omega) rfl)) st
  have first : ∀ (l n : Nat) (t5 : Term) (h' : s_H) (R : zp_R), n + l = o → WA h 1 h.1 h' R → unrR (M 0) o f R n → wr sw_P (D + 2) sw_c248 sw_h248 (15, [.index c, .index a, .index h.1, vi (o : Int), vi (n : Int), t5], [], h', 0 + 1, 0 + Int.toNat 25) (SN h 1 (fun R => unrR (M 0) o f R 25)) := by
    intro l
    induction l with
    | zero =>
      intro n t5 h' R hn W q
      have e : n = o := by omega
      subst e
      refine k248_15 (fun _ => k248_42 ?_) (fun q => absurd (Int.le_refl _) q) (c1 := by unfold In3; omega) (c2 := by unfold In3; omega)
      exact rest (25 - n) 0 _ h' R (by omega) W (by rw [Nat.zero_add]; exact q)
    | succ l ih =>
      intro n t5 h' R hn W q
      refine k248_15 (fun q => absurd q (by omega)) (fun _ => k248_21 (fun q => absurd q (by omega)) (fun _ => ?_) (c1 := by unfold In3; omega)) (c1 := by unfold In3; omega) (c2 := by unfold In3; omega)
      have e1 : gi (mk 25 (cf f)) (n : Int) = ((f.1 n).val : Int) := gi_cf (by omega)
      refine k248_28 (a4 := mk 25 (cf f)) (a10 := mk 25 (cf R)) (SR_W W ha).1 W.2.2.2 ?_ (c6 := by rw [mk_len]; omega) (c7 := by omega) (c8 := by unfold In3; omega) (c12 := by rw [mk_len]; omega)
      rw [e1, show (n : Int) + 1 = ((n + 1 : Nat) : Int) by omega]
      exact ih (n + 1) _ _ _ (by omega) (WA_set W (ar_set (n := n) rfl rfl)) (unrR_a q (by omega))
  refine k248_0 (z8 := (w : Int)) r0 ((WA_old W0 kc'.2).trans gc) ?_
  rw [show (w : Int) - 1 = (o : Int) by omega]
  exact first o 0 _ _ (zp_C 0) (by omega) W0 (unrR_0 _ _ _)
theorem cut_pl (a b : zp_R) : cut (zp_add (cut a 25) (zp_mul (zp_C (nF 1)) (cut b 25))) 25 = cut (zp_add a b) 25 := zp_ext (fun i => by
  by_cases q : i < 25
  · rw [cut_at _ q, cut_at _ q]
    show (cut a 25).1 i + (zp_mul (zp_C (nF 1)) (cut b 25)).1 i = a.1 i + b.1 i
    rw [zp_C1m, cut_at _ q, cut_at _ q]
  · rw [cut_hi _ (by omega), cut_hi _ (by omega)])
/-- what a rule makes of a series by slopes -/
theorem u_madeByS (r : RM h 17) (h0 : 0 < h.1) (lo : 1376 ≤ h.1) {c w a : Nat} {M : Nat → Nat → zp_R} {f : zp_R} (K : KT h c (th_ma 1 w M)) (kc' : kt h c) (ha : SR h a f) (df : zp_deg f 25) : wm sw_P (D + 3) 237 [.index c, .index a] h (SN h (1 + 4 * w) (fun R => R = cut (srs (M 0) f w) 25)) := by
  refine wm_in (cd := sw_c237) (nL := 5) (hd := sw_h237) rfl rfl ?_
  obtain ⟨c0, r0⟩ := r h.1 (Nat.le_refl _) (by omega)
  obtain ⟨_, _, gc, _, _, _, _, g6, _⟩ := id K
  have W0 := WA_new r0
  have loop : ∀ (l k p q x y : Nat) (h' : s_H), k + l = w → CF PN h h' → h'.1 = h.1 + (1 + 4 * k) → h.1 ≤ p → SR h' p (cut (srs (M 0) f k) 25) → SR h' q (sld f k) → zp_deg (sld f k) 25 → x = 1 + 4 * k → y = 25 * (1 + 4 * k) → wr sw_P (D + 2) sw_c237 sw_h237 (10, [.index c, .index a, .index p, .index q, vi (k : Int)], [], h', x, y) (SN h (1 + 4 * w) (fun R => R = cut (srs (M 0) f w) 25)) := by
    intro l
    induction l with
    | zero =>
      intro k p q x y h' hk F e lp S1 S2 d ex ey
      have ek : k = w := by omega
      subst ek ex ey
      have gc' := (F.2 c id (.inl kc'.2)).trans gc
      exact k237_10 (z5 := (k : Int)) gc' (fun _ => k237_50 ⟨h', p, _, rfl, cut_deg _ 25, F, e, lp, S1, rfl⟩) (fun q => absurd (Int.le_refl _) q) (c7 := by unfold In3; omega) (c8 := by unfold In3; omega)
    | succ l ih =>
      intro k p q x y h' hk F e lp S1 S2 d ex ey
      have gc' := (F.2 c id (.inl kc'.2)).trans gc
      have K' := KT_keep K kc' F FX_N lo
      refine k237_10 (z5 := (w : Int)) gc' (fun q => absurd q (by omega)) (fun _ => ?_) (c7 := by unfold In3; omega) (c8 := by unfold In3; omega)
      refine k237_19 gc' (wm_mono (fun out => ?_) (u_entryAt K' (i := 0) (j := k) (by omega) (by omega)))
      intro ⟨u, lu, ku, Pu, du, eo'⟩
      refine wq_r ?_ out eo'
      have ku' : u + 1 < h'.1 := by
        rcases ku with w | w
        · omega
        · exact w.2
      refine k237_27 (wm_mono (wq_SN (fun h1 a1 f1 ef1 d1 F1 e1 l1 T1 => ?_)) (u_numbersS (RM_N r F (by omega)) (by omega) Pu ku'))
      subst ef1
      rw [cut_self (deg_le du (by decide))] at T1
      refine k237_30 (wm_mono (wq_SN (fun h2 a2 f2 ef2 d2 F2 e2 l2 T2 => ?_)) (u_productS (RM_N r (CF_trans F F1) (by omega)) (by omega) T1 (SR_N F1 S2)))
      subst ef2
      have F02 := CF_trans F1 F2
      refine k237_34 (wm_mono (wq_SN (fun h3 a3 f3 ef3 d3 F3 e3 l3 T3 => ?_)) (u_plusS (RM_N r (CF_trans F F02) (by omega)) (by omega) (SR_N F02 S1) T2 (z := 1) (by decide)))
      subst ef3
      rw [cut_pl] at T3
      have F03 := CF_trans F02 F3
      refine k237_38 (wm_mono (wq_SN (fun h4 a4 f4 ef4 d4 F4 e4 l4 T4 => k237_43 ?_)) (u_slopeS (RM_N r (CF_trans F F03) (by omega)) (by omega) (SR_N F03 S2) d))
      subst ef4
      rw [show (k : Int) + 1 = ((k + 1 : Nat) : Int) by omega]
      exact ih (k + 1) a3 a4 _ _ h4 (by omega) (CF_trans F (CF_trans F03 F4)) (by omega) (by omega) (SR_N F4 T3) T4 d4 (by omega) (by omega)
  refine k237_0 r0 (loop w 0 h.1 a _ _ _ (by omega) W0.1 rfl (Nat.le_refl _) ?_ (SR_W W0 ha) df rfl rfl)
  have z : cut (srs (M 0) f 0) 25 = zp_C 0 := cut_self (deg_le (zp_C_deg 0) (by decide))
  rw [z]
  exact ⟨W0.2.2.2, h0, W0.2.2.1.2⟩
/-- the least power of a series -/
theorem u_leastPower {a : Nat} {f : zp_R} (ha : SR h a f) : wm sw_P (D + 1) 235 [.index a] h (fun out => ∃ n : Nat, n ≤ 25 ∧ (∀ i, i < n → f.1 i = 0) ∧ (n < 25 → f.1 n ≠ 0) ∧ qr (vi (n : Int)) h out) := by
  refine wm_in (cd := sw_c235) (nL := 2) (hd := sw_h235) rfl rfl ?_
  have loop : ∀ (l n : Nat), n + l = 25 → (∀ i, i < n → f.1 i = 0) → wr sw_P D sw_c235 sw_h235 (2, [.index a, vi (n : Int)], [], h, 0, 0) (fun out => ∃ n : Nat, n ≤ 25 ∧ (∀ i, i < n → f.1 i = 0) ∧ (n < 25 → f.1 n ≠ 0) ∧ qr (vi (n : Int)) h out) := by
    intro l
    induction l with
    | zero =>
      intro n hn H
      exact k235_2 (fun _ => k235_20 ⟨n, by omega, H, fun w => absurd w (by omega), rfl⟩) (fun q => absurd (by omega) q) (c1 := by unfold In3; omega)
    | succ l ih =>
      intro n hn H
      have e1 : gi (mk 25 (cf f)) (n : Int) = ((f.1 n).val : Int) := gi_cf (by omega)
      have lf := (f.1 n).isLt
      refine k235_2 (fun q => absurd q (by omega)) (fun _ => ?_) (c1 := by unfold In3; omega)
      refine k235_8 (a3 := mk 25 (cf f)) ha.1 (fun z => k235_20 ⟨n, by omega, H, fun _ e => z (by rw [e1, e]; rfl), rfl⟩) (fun z => k235_14 ?_) (c5 := by rw [mk_len]; omega) (c6 := by omega) (c7 := by unfold In3; omega) (c8 := by rw [e1]; unfold In3; omega)
      rw [show (n : Int) + 1 = ((n + 1 : Nat) : Int) by omega]
      refine ih (n + 1) (by omega) (fun i hi2 => ?_)
      by_cases e : i = n
      · subst e
        rw [e1] at z
        exact F_ext (by rw [Classical.byContradiction z]; rfl)
      · exact H i (by omega)
  exact k235_0 (loop 25 0 rfl (fun i hi2 => absurd hi2 (Nat.not_lt_zero i)))
theorem u_areSameS {a b : Nat} {f g : zp_R} (ha : SR h a f) (hb : SR h b g) : wm sw_P (D + 1) 231 [.index a, .index b] h (fun out => ∃ v : Int, ((∀ i, i < 25 → f.1 i = g.1 i) → v = 1) ∧ (¬ (∀ i, i < 25 → f.1 i = g.1 i) → v = 0) ∧ qr (vi v) h out) := by
  refine wm_in (cd := sw_c231) (nL := 3) (hd := sw_h231) rfl rfl ?_
  have loop : ∀ (l n : Nat), n + l = 25 → (∀ i, i < n → f.1 i = g.1 i) → wr sw_P D sw_c231 sw_h231 (2, [.index a, .index b, vi (n : Int)], [], h, 0, 0) (fun out => ∃ v : Int, ((∀ i, i < 25 → f.1 i = g.1 i) → v = 1) ∧ (¬ (∀ i, i < 25 → f.1 i = g.1 i) → v = 0) ∧ qr (vi v) h out) := by
    intro l
    induction l with
    | zero =>
      intro n hn H
      exact k231_2 (fun _ => k231_25 ⟨1, fun _ => rfl, fun w => absurd (fun i hi2 => H i (by omega)) w, rfl⟩) (fun q => absurd (by omega) q) (c1 := by unfold In3; omega)
    | succ l ih =>
      intro n hn H
      have e1 : gi (mk 25 (cf f)) (n : Int) = ((f.1 n).val : Int) := gi_cf (by omega)
      have e2 : gi (mk 25 (cf g)) (n : Int) = ((g.1 n).val : Int) := gi_cf (by omega)
      have lf := (f.1 n).isLt
      have lg := (g.1 n).isLt
      refine k231_2 (fun q => absurd q (by omega)) (fun _ => ?_) (c1 := by unfold In3; omega)
      refine k231_8 (a3 := mk 25 (cf f)) (a10 := mk 25 (cf g)) ha.1 hb.1 (fun z => k231_19 ?_) (fun z => k231_17 ⟨0, fun w => absurd (by rw [e1, e2, w n (by omega)]) z, fun _ => rfl, rfl⟩) (c5 := by rw [mk_len]; omega) (c6 := by omega) (c7 := by unfold In3; omega) (c12 := by rw [mk_len]; omega) (c13 := by rw [e1]; unfold In3; omega) (c14 := by rw [e2]; unfold In3; omega)
      rw [show (n : Int) + 1 = ((n + 1 : Nat) : Int) by omega]
      refine ih (n + 1) (by omega) (fun i hi2 => ?_)
      by_cases e : i = n
      · subst e
        rw [e1, e2] at z
        exact F_ext z
      · exact H i (by omega)
  exact k231_0 (loop 25 0 rfl (fun i hi2 => absurd hi2 (Nat.not_lt_zero i)))
end
