/-! the class: matrices of kept entries; the call turned -/
/-- a new matrix at c, its list at c + 1, whose first k entries (row by row) are kept polynomials of h0 -/
def MG (h0 h : s_H) (c r w : Nat) (F : Nat → zp_R) (k : Nat) : Prop := CF PN h0 h ∧ h.1 = h0.1 + 2 ∧ c = h0.1 ∧ ∃ l, s_get h c = some (1, 8, [vi 2, .null, .null, vi (r : Int), vi (w : Int), .index (c + 1), .null, vi 0]) ∧ s_get h (c + 1) = some (0, 2, l) ∧ l.length = r * w ∧ ∀ t, t < k → ∃ q lq, s_nth l t = some (.index q) ∧ kp h0 q ∧ PF h0 q lq (F t) ∧ zp_deg (F t) 11
section
variable {D : Nat} {h h0 : s_H} {c r w : Nat} {F : Nat → zp_R} {k : Nat}
theorem MG_put (H : MG h0 h c r w F k) {l : List Term} (gl : s_get h (c + 1) = some (0, 2, l)) (k1 : k < r * w) {q lq : Nat} (kq : kp h0 q) (P : PF h0 q lq (F k)) (dk : zp_deg (F k) 11) : MG h0 (hp h (c + 1) (0, 2, l.set k (.index q))) c r w F (k + 1) := by
  obtain ⟨C, e, ec, l', g1, g2, g3, g4⟩ := H
  rw [g2] at gl
  have el : l' = l := by injection gl with gl; injection gl with _ gl; injection gl
  subst el
  refine ⟨⟨by show h0.1 ≤ h.1; omega, fun j p w => ?_⟩, e, ec, _, (hp_ne g2 (by omega)).trans g1, hp_at g2, by rw [List.length_set]; exact g3, fun t ht => ?_⟩
  · have e1 : (hp h (c + 1) (0, 2, l'.set k (.index q))).1 = h.1 := rfl
    rw [e1] at w
    exact (hp_ne g2 (by omega)).trans (C.2 j p w)
  · by_cases q2 : t = k
    · subst q2
      exact ⟨q, lq, by rw [nth_set (by omega), if_pos rfl], kq, P, dk⟩
    · obtain ⟨p, lp, y1, y2⟩ := g4 t (by omega)
      exact ⟨p, lp, by rw [nth_set (by omega), if_neg q2]; exact y1, y2⟩
theorem MG_KT (H : MG h0 h c r w F (r * w)) (lo : 1376 ≤ h0.1) (r1 : 1 ≤ r ∧ r ≤ 4) (w1 : 1 ≤ w ∧ w ≤ 4) {M : Nat → Nat → zp_R} (eF : ∀ a b, a < r → b < w → F (a * w + b) = M a b) : kt h c ∧ KT h c (th_ma r w M) ∧ ∃ fs, s_get h c = some (1, 8, fs) := by
  obtain ⟨C, e, ec, l, g1, g2, g3, g4⟩ := H
  refine ⟨⟨by omega, by omega⟩, ⟨c + 1, l, g1, ⟨by omega, by omega⟩, g2, g3, r1, w1, fun a b ha hb => ?_⟩, _, g1⟩
  have bd : a * w + b < r * w := by
    have := Nat.mul_le_mul_right w (show a + 1 ≤ r by omega)
    rw [Nat.succ_mul] at this
    omega
  obtain ⟨q, lq, y1, y2, y3, y4⟩ := g4 _ bd
  rw [eF a b ha hb] at y3 y4
  exact ⟨q, lq, y1, kp_le y2 C.1, PF_kp y3 y2 C FX_N lo, y4⟩
/-- the new matrix -/
theorem u_new (lo : 39 ≤ h.1) (rm : RM h 2) {r w : Nat} (F : Nat → zp_R) : wm sw_P (D + 1) 262 [.index h.1, vi (r : Int), vi (w : Int), .index ((hq h (1, 8, s_df 8))).1] (hq (hq h (1, 8, s_df 8)) (0, 2, List.replicate (Int.toNat ((r : Int) * (w : Int))) (.null))) (fun out => ∃ h', MG h h' h.1 r w F 0 ∧ out = (.inl none, h', 0, 0)) := by
  obtain ⟨c0, r0⟩ := rm h.1 (Nat.le_refl _) (by omega)
  obtain ⟨c1, r1'⟩ := rm (h.1 + 1) (by omega) (by omega)
  have ex : (r : Int) * (w : Int) = ((r * w : Nat) : Int) := by rw [Int.natCast_mul]
  have q1 : (hq h (1, 8, s_df 8)).1 = h.1 + 1 := rfl
  have g4 : s_get (hq h (1, 8, s_df 8)) ((hq h (1, 8, s_df 8))).1 = some c1 := by
    show s_get (hq h (1, 8, s_df 8)) (h.1 + 1) = _
    rw [hq_get r0, if_neg (by omega)]
    exact r1'
  obtain ⟨ha, eha⟩ : ∃ ha, hq (hq h (1, 8, s_df 8)) (0, 2, List.replicate (Int.toNat ((r : Int) * (w : Int))) (.null)) = ha := ⟨_, rfl⟩
  have a1 : ha.1 = h.1 + 2 := by rw [← eha]; rfl
  have an : ∀ j, j ≠ h.1 → j ≠ h.1 + 1 → s_get ha j = s_get h j := fun j j1 j2 => by
    rw [← eha, hq_get g4, q1, if_neg (show j ≠ h.1 + 1 from j2), hq_get r0, if_neg j1]
  have ac : s_get ha h.1 = some (1, 8, s_df 8) := by rw [← eha, hq_get g4, q1, if_neg (show h.1 ≠ h.1 + 1 by omega), hq_get r0, if_pos rfl]
  have al' : s_get ha (h.1 + 1) = some (0, 2, List.replicate (r * w) .null) := by
    rw [← eha, hq_get g4, q1, if_pos rfl, ex]
    rfl
  rw [eha]
  refine wm_mono (fun out => ?_) (u_initM (q := h.1) (a := h.1 + 1) (x := (r : Int)) (y := (w : Int)) (by omega) ac)
  intro ⟨hb, bc, bn, b1, eo⟩
  exact ⟨hb, ⟨⟨by omega, fun j _ hj => (bn j (by omega)).trans (an j (by omega) (by omega))⟩, by omega, rfl, List.replicate (r * w) .null, bc, (bn _ (by omega)).trans al', List.length_replicate, fun t ht => absurd ht (Nat.not_lt_zero t)⟩, eo⟩
/-- an entry -/
theorem u_entryOf {e q : Nat} {z : Int} {l : List Term} (g1 : s_get h c = some (1, 8, [vi 2, .null, .null, vi (r : Int), vi (w : Int), .index e, .null, vi z])) (g3 : s_get h e = some (0, 2, l)) {i j : Nat} (ir : i < r) (jw : j < w) (r4 : r ≤ 4) (w4 : w ≤ 4) (g4 : l.length = r * w) (y1 : s_nth l (i * w + j) = some (.index q)) : wm sw_P (D + 1) 265 [.index c, vi (i : Int), vi (j : Int)] h (qr (.index q) h) := by
  refine wm_in (cd := sw_c265) (nL := 3) (hd := sw_h265) rfl rfl ?_
  have b1 : i * w ≤ 3 * 4 := Nat.mul_le_mul (by omega) (by omega)
  have ex : (i : Int) * (w : Int) + (j : Int) = ((i * w + j : Nat) : Int) := by rw [Int.natCast_add, Int.natCast_mul]
  exact k265_0 (z7 := (w : Int)) (a10 := l) (v13 := .index q) g1 g3 rfl (n14 := by rw [ex]; exact y1) (c16 := by rw [ex]; unfold In3; omega) (c17 := by rw [ex]; omega)
/-- an entry that is kept is put down -/
theorem u_setOld (lo : 1376 ≤ h0.1) (H : MG h0 h c r w F k) {i j : Nat} (ek : i * w + j = k) (k1 : k < r * w) (b16 : r * w ≤ 16) {q lq : Nat} (kq : kp h0 q) (P : PF h0 q lq (F k)) (dk : zp_deg (F k) 11) : wm sw_P (D + 1) 271 [.index c, vi (i : Int), vi (j : Int), .index q] h (fun out => ∃ h', MG h0 h' c r w F (k + 1) ∧ out = (.inl none, h', 0, 0)) := by
  refine wm_in (cd := sw_c271) (nL := 4) (hd := sw_h271) rfl rfl ?_
  obtain ⟨C, e, ec, l, g1, g2, g3, g4⟩ := id H
  have Ph := PF_kp P kq C FX_N lo
  obtain ⟨z, gg, Pp, b, _, el, lL⟩ := id Ph
  have be := b.1
  have e10 : z ≤ 10 := Int.not_lt.mp (fun w => b.2.2 z.toNat (by omega) (dk _ (by omega)))
  have ex : (i : Int) * (w : Int) + (j : Int) = ((k : Nat) : Int) := by rw [← ek, Int.natCast_add, Int.natCast_mul]
  refine k271_0 (z5 := z) Pp.2.1 (fun _ => ?_) (fun w => absurd e10 w) (c7 := by unfold In3; omega)
  refine k271_14 (z7 := (w : Int)) (a11 := l) (tg13 := 2) g1 g2 (s_okA_at (.inl rfl) (PF_c Ph)) ?_ (c16 := by rw [ex, g3]; omega) (c17 := by rw [ex]; omega) (c18 := by rw [ex]; unfold In3; omega) (c19 := by omega)
  rw [ex, show (((k : Nat) : Int)).toNat = k by omega]
  exact ⟨_, MG_put H g2 k1 kq P dk, rfl⟩
end
section
variable {D : Nat} {h : s_H} {n : Nat} {T : Nat → th} {tx lf lp tk : Int}
/-- THE CALL turned -/
theorem u_turned (H : CA h n T tx lf lp tk) (rm : RM h 100) {x : Int} (hx : In3 x) : wm sw_P (D + 4) 95 [.index 1, vi x] h (fun out => ∃ res, unS n T (fun k => k = 2) x (turF n) res ∧ CE 100 4000 100 [3, 1, 0] h n T tx lf lp tk res out) := by
  refine wm_in (cd := sw_c95) (nL := 6) (hd := sw_h95) rfl rfl ?_
  refine k95_0 H.1.1 (r_ofKind H hx (by decide) (fun a x0 xn ka Ka k0 => ?_) (fun w => CE_x H 1 rfl (unS_1 w) (by omega) (by omega)) (fun x0 xn w => CE_x H 2 rfl (unS_2 ⟨x0, xn⟩ w) (by omega) (by omega)))
  obtain ⟨r, w, M, et⟩ := kd_cases.2.2.1 k0
  have sp : ∀ res, turF n (th_ma r w M) res → unS n T (fun k => k = 2) x (turF n) res := fun res w => unS_3 ⟨x0, xn⟩ k0 (by rw [et]; exact w)
  rw [et] at Ka
  obtain ⟨ea, la, ga, y2, y3, y4, r14, w14, y7⟩ := id Ka
  have lo := H.1.2
  have n150 := CA_n H
  have b16 : w * r ≤ 4 * 4 := Nat.mul_le_mul w14.2 r14.2
  have ex : (w : Int) * (r : Int) = ((w * r : Nat) : Int) := by rw [Int.natCast_mul]
  obtain ⟨c0, r0⟩ := rm h.1 (Nat.le_refl _) (by omega)
  obtain ⟨c1, r1⟩ := rm (h.1 + 1) (by omega) (by omega)
  have g12 : s_get (hq h (1, 8, s_df 8)) ((hq h (1, 8, s_df 8))).1 = some c1 := by
    show s_get (hq h (1, 8, s_df 8)) (h.1 + 1) = _
    rw [hq_get r0, if_neg (by omega)]
    exact r1
  have ka2 := ka.2
  have gA : s_get (hq h (1, 8, s_df 8)) a = some (1, 8, [vi 2, .null, .null, vi (r : Int), vi (w : Int), .index ea, .null, vi 0]) := by
    rw [hq_get r0, if_neg (by omega)]
    exact ga
  refine k95_6 (z7 := (w : Int)) (z9 := (r : Int)) r0 gA g12 ?_ (c13 := by rw [ex]; omega) (c14 := by rw [ex]; unfold In3; omega) (c15 := by rw [ex]; omega)
  refine wm_mono (fun out => ?_) (u_new (h := h) (by omega) (RM_le rm (by omega)) (r := w) (w := r) (fun t => M (t % r) (t / r)))
  intro ⟨h1, G1, eo⟩
  rw [eo, ex]
  refine ⟨rfl, k95_34 ?_⟩
  have ga' : ∀ {h' : s_H} {k : Nat}, MG h h' h.1 w r (fun t => M (t % r) (t / r)) k → s_get h' a = some (1, 8, [vi 2, .null, .null, vi (r : Int), vi (w : Int), .index ea, .null, vi 0]) := fun G => (kt_get ka G.1 FX_N).trans ga
  have gc' : ∀ {h' : s_H} {k : Nat}, MG h h' h.1 w r (fun t => M (t % r) (t / r)) k → ∃ fs, s_get h' h.1 = some (1, 8, fs) := fun G => by
    obtain ⟨_, _, _, l, g1, _⟩ := G
    exact ⟨_, g1⟩
  have outer : ∀ (l i : Nat) (h' : s_H) (t5 : Term), i + l = w → MG h h' h.1 w r (fun t => M (t % r) (t / r)) (i * r) → wr sw_P (D + 3) sw_c95 sw_h95 (38, [.index 1, vi x, .index a, .index h.1, vi (i : Int), t5], [], h', 2, 8 + w * r) (fun out => ∃ res, unS n T (fun k => k = 2) x (turF n) res ∧ CE 100 4000 100 [3, 1, 0] h n T tx lf lp tk res out) := by
    intro l
    induction l with
    | zero =>
      intro i h' t5 hi2 G
      have iw : i = w := by omega
      subst iw
      refine k95_38 (z5 := (i : Int)) (ga' G) (fun _ => ?_) (fun q => absurd (by omega) q) (c7 := by unfold In3; omega) (c8 := by unfold In3; omega)
      have H' := CA_G H G.1
      have e1 := G.2.1
      obtain ⟨k1, k2, fs, k3⟩ := MG_KT G lo w14 r14 (M := fun a b => M b a) (fun a b _ hb => by
        show M ((a * r + b) % r) ((a * r + b) / r) = M b a
        rw [Nat.mul_comm, Nat.mul_add_mod, Nat.mod_eq_of_lt hb, Nat.mul_add_div (by omega), Nat.div_eq_of_lt hb, Nat.add_zero])
      refine k95_87 H'.1.1 (wm_mono (fun out => ?_) (u_keep H' k1 k2 k3))
      intro q
      rcases q with ⟨n1, h2, C2, F2, e2, eo⟩ | ⟨n1, eo⟩
      · rw [eo]
        exact k95_92 ⟨.inl (th_ma i r (fun a b => M b a)), sp _ ⟨fun q => absurd q (by omega), fun _ => rfl⟩, h2, _, _, by omega, by omega, CF_trans (CF_NA G.1) F2, by omega, rfl, C2⟩
      · rw [eo]
        exact ⟨rfl, .inr 3, sp _ ⟨fun _ => rfl, fun q => absurd (by omega) q⟩, CE_t H' (CF_NA G.1) 3 rfl (by omega) (by omega) (by omega)⟩
    | succ l ih =>
      intro i h' t5 hi2 G
      refine k95_38 (z5 := (w : Int)) (ga' G) (fun q => absurd q (by omega)) (fun _ => k95_47 ?_) (c7 := by unfold In3; omega) (c8 := by unfold In3; omega)
      have inner : ∀ (p j : Nat) (h' : s_H), j + p = r → MG h h' h.1 w r (fun t => M (t % r) (t / r)) (i * r + j) → wr sw_P (D + 3) sw_c95 sw_h95 (50, [.index 1, vi x, .index a, .index h.1, vi (i : Int), vi (j : Int)], [], h', 2, 8 + w * r) (fun out => ∃ res, unS n T (fun k => k = 2) x (turF n) res ∧ CE 100 4000 100 [3, 1, 0] h n T tx lf lp tk res out) := by
        intro p
        induction p with
        | zero =>
          intro j h' hj G
          refine k95_50 (z5 := (r : Int)) (ga' G) (fun _ => k95_81 ?_) (fun q => absurd (by omega) q) (c7 := by unfold In3; omega) (c8 := by unfold In3; omega)
          exact ih (i + 1) h' _ (by omega) (by rw [Nat.succ_mul, ← show j = r by omega]; rw [show j = r by omega] at G ⊢; exact G)
        | succ p ih2 =>
          intro j h' hj G
          refine k95_50 (z5 := (r : Int)) (ga' G) (fun q => absurd q (by omega)) (fun _ => ?_) (c7 := by unfold In3; omega) (c8 := by unfold In3; omega)
          obtain ⟨q, lq, s1, s2, s3, s4⟩ := y7 j i (by omega) (by omega)
          have kk : (i * r + j) % r = j ∧ (i * r + j) / r = i := by
            have jr : j < r := by omega
            rw [Nat.mul_comm, Nat.mul_add_mod, Nat.mod_eq_of_lt jr, Nat.mul_add_div (by omega), Nat.div_eq_of_lt jr, Nat.add_zero]
            exact ⟨rfl, rfl⟩
          have bd : i * r + j < w * r := by
            have := Nat.mul_le_mul_right r (show i + 1 ≤ w by omega)
            rw [Nat.succ_mul] at this
            omega
          refine k95_59 (ga' G) (wm_mono (Q' := qr (.index q) h') (fun out w5 => wq_r ?_ out w5) (u_entryOf (ga' G) ((kt_get y2 G.1 FX_N).trans y3) (i := j) (j := i) (by omega) (by omega) r14.2 w14.2 y4 s1))
          obtain ⟨fs, gc⟩ := gc' G
          refine k95_72 gc (wm_mono (fun out => ?_) (u_setOld lo G rfl bd (by omega) s2 (by show PF h q lq (M _ _); rw [kk.1, kk.2]; exact s3) (by show zp_deg (M _ _) 11; rw [kk.1, kk.2]; exact s4)))
          intro ⟨h2, G2, eo⟩
          rw [eo]
          exact k95_75 (ih2 (j + 1) h2 (by omega) G2)
      exact inner r 0 h' (by omega) G
  exact outer w 0 h1 _ (by omega) (by rw [Nat.zero_mul]; exact G1)
end
