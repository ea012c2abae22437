/-! the class: what is taken; the calls clear, take, matrix -/
/-- m polynomials are taken -/
def TK (h : s_H) (m : Nat) (P : Nat → zp_R) : Prop := ∃ l, s_get h 4 = some (0, 2, l) ∧ l.length = 16 ∧ m ≤ 16 ∧ ∀ i, i < m → ∃ q lq, s_nth l i = some (.index q) ∧ kp h q ∧ PF h q lq (P i) ∧ zp_deg (P i) 11
theorem TK_keep {Q : Nat → Prop} {h h' : s_H} {m : Nat} {P : Nat → zp_R} (K : TK h m P) (a : CF Q h h') (x : FX Q) (lo : 1376 ≤ h.1) (e : s_get h' 4 = s_get h 4) : TK h' m P := by
  obtain ⟨l, g1, g2, g3, g4⟩ := K
  refine ⟨l, e.trans g1, g2, g3, fun i hi2 => ?_⟩
  obtain ⟨q, lq, y1, y2, y3, y4⟩ := g4 i hi2
  exact ⟨q, lq, y1, kp_le y2 a.1, PF_kp y3 y2 a x lo, y4⟩
theorem TK_A {h h' : s_H} {m : Nat} {P : Nat → zp_R} (K : TK h m P) (a : CF PA h h') (lo : 1376 ≤ h.1) : TK h' m P := TK_keep K a FX_A lo (a.2 4 (fun q => by unfold PA at q; omega) (.inl (by omega)))
/-- what take may change -/
def PK4 (j : Nat) : Prop := PA j ∨ j = 4
theorem FX_T : FX PK4 := fun j p => by unfold PK4 PA at p; omega
theorem CA_14 {h h' : s_H} {n : Nat} {T : Nat → th} {tx lf lp tk tk' : Int} (H : CA h n T tx lf lp tk) (e : ∀ j, j ≠ 1 → j ≠ 4 → s_get h' j = s_get h j) (e1 : h'.1 = h.1) (g : s_get h' 1 = some (C1 n tx lf lp tk')) : CA h' n T tx lf lp tk' := by
  obtain ⟨⟨h1, lo⟩, h2, A, h3, w, ⟨z1, o1⟩, z2, o2⟩ := H
  have a : CF PK4 h h' := ⟨by omega, fun j p _ => e j (fun q => p (by unfold PK4 PA; omega)) (fun q => p (by unfold PK4 PA; omega))⟩
  exact ⟨⟨g, by omega⟩, CT_keep h2 a FX_T lo (e 2 (by decide) (by decide)), AL_same A (fun j _ _ => e j (by omega) (by omega)), PF_same h3 (e _ (by decide) (by decide)) (e _ (by decide) (by decide)), PE_same w (e _ (by decide) (by decide)) (e _ (by decide) (by decide)), ⟨z1, OE_same o1 (fun j _ _ => e j (by omega) (by omega))⟩, z2, OE_same o2 (fun j _ _ => e j (by omega) (by omega))⟩
theorem CA_12 {h h' : s_H} {n : Nat} {T T' : Nat → th} {tx lf lp tk tx' lf' lp' tk' : Int} (H : CA h n T tx lf lp tk) (e : ∀ j, j ≠ 1 → j ≠ 2 → s_get h' j = s_get h j) (e1 : h'.1 = h.1) {tl : List Term} (g2 : s_get h' 2 = some (0, 3, tl)) (tn : tl.length = 150) (g : s_get h' 1 = some (C1 0 tx' lf' lp' tk')) : CA h' 0 T' tx' lf' lp' tk' := by
  obtain ⟨⟨h1, lo⟩, h2, A, h3, w, ⟨z1, o1⟩, z2, o2⟩ := H
  exact ⟨⟨g, by omega⟩, ⟨tl, g2, tn, by omega, fun i hi2 => absurd hi2 (Nat.not_lt_zero i)⟩, AL_same A (fun j _ _ => e j (by omega) (by omega)), PF_same h3 (e _ (by decide) (by decide)) (e _ (by decide) (by decide)), PE_same w (e _ (by decide) (by decide)) (e _ (by decide) (by decide)), ⟨z1, OE_same o1 (fun j _ _ => e j (by omega) (by omega))⟩, z2, OE_same o2 (fun j _ _ => e j (by omega) (by omega))⟩
section
variable {D : Nat} {h : s_H} {n m : Nat} {T : Nat → th} {tx lf lp tk : Int} {P : Nat → zp_R}
/-- THE CALL clear -/
theorem u_clear (H : CA h n T tx lf lp tk) {T' : Nat → th} : wm sw_P (D + 1) 9 [.index 1] h (fun out => ∃ h', CA h' 0 T' 0 lf lp 0 ∧ CF PA h h' ∧ h'.1 = h.1 ∧ out = (.inl none, h', 0, 0)) := by
  refine wm_in (cd := sw_c9) (nL := 2) (hd := sw_h9) rfl rfl ?_
  have n150 := CA_n H
  obtain ⟨tl, t1, t2, _, _⟩ := H.2.1
  refine k9_0 ?_
  have loop : ∀ (l i : Nat) (h' : s_H) (tl : List Term), i + l = n → s_get h' 2 = some (0, 3, tl) → tl.length = 150 → (∀ j, j ≠ 2 → s_get h' j = s_get h j) → h'.1 = h.1 → wr sw_P D sw_c9 sw_h9 (2, [.index 1, vi (i : Int)], [], h', 0, 0) (fun out => ∃ h', CA h' 0 T' 0 lf lp 0 ∧ CF PA h h' ∧ h'.1 = h.1 ∧ out = (.inl none, h', 0, 0)) := by
    intro l
    induction l with
    | zero =>
      intro i h' tl hi2 g2 tn e e1
      have g1 : s_get h' 1 = some (C1 n tx lf lp tk) := (e 1 (by decide)).trans H.1.1
      refine k9_2 (z5 := (n : Int)) g1 (fun _ => ?_) (fun q => absurd (by omega) q) (c7 := by unfold In3; omega) (c8 := by unfold In3; omega)
      have x1 := hp_at (cc := (1, 10, [.index 2, vi 0, .index 3, vi tx, vi lf, vi lp, .index 4, vi tk, .index 5, .index 107, .index 354, .index 390, .index 391, .index 400, .index 926, .index 1276, .index 1278, .index 1280, .index 1285])) g1
      have x2 := hp_at (cc := (1, 10, [.index 2, vi 0, .index 3, vi tx, vi lf, vi lp, .index 4, vi 0, .index 5, .index 107, .index 354, .index 390, .index 391, .index 400, .index 926, .index 1276, .index 1278, .index 1280, .index 1285])) x1
      have x3 := hp_at (cc := C1 0 0 lf lp 0) x2
      have nn : ∀ j, j ≠ 1 → j ≠ 2 → s_get (hp (hp (hp h' 1 (1, 10, [.index 2, vi 0, .index 3, vi tx, vi lf, vi lp, .index 4, vi tk, .index 5, .index 107, .index 354, .index 390, .index 391, .index 400, .index 926, .index 1276, .index 1278, .index 1280, .index 1285])) 1 (1, 10, [.index 2, vi 0, .index 3, vi tx, vi lf, vi lp, .index 4, vi 0, .index 5, .index 107, .index 354, .index 390, .index 391, .index 400, .index 926, .index 1276, .index 1278, .index 1280, .index 1285])) 1 (C1 0 0 lf lp 0)) j = s_get h j := fun j j1 j2 => (hp_ne x2 j1).trans ((hp_ne x1 j1).trans ((hp_ne g1 j1).trans (e j j2)))
      refine k9_23 g1 x1 x2 ⟨_, CA_12 H nn e1 (((hp_ne x2 (by decide)).trans ((hp_ne x1 (by decide)).trans (hp_ne g1 (by decide)))).trans g2) tn x3, ⟨Nat.le_of_eq e1.symm, fun j p _ => nn j (fun q => p (.inl q)) (fun q => p (.inr (.inl q)))⟩, e1, rfl⟩
    | succ l ih =>
      intro i h' tl hi2 g2 tn e e1
      have g1 : s_get h' 1 = some (C1 n tx lf lp tk) := (e 1 (by decide)).trans H.1.1
      refine k9_2 (z5 := (n : Int)) g1 (fun q => absurd q (by omega)) (fun _ => ?_) (c7 := by unfold In3; omega) (c8 := by unfold In3; omega)
      refine k9_10 g1 g2 rfl ?_ (c13 := by omega) (c14 := by omega) (c15 := by unfold In3; omega)
      exact ih (i + 1) _ _ (by omega) (hp_at g2) (by rw [List.length_set]; exact tn) (fun j hj => (hp_ne g2 hj).trans (e j hj)) e1
  exact loop n 0 h tl (by omega) t1 t2 (fun _ _ => rfl) rfl
theorem tkC_1 {x : Int} (w : ¬ (0 ≤ x ∧ x < (n : Int))) : tkC n T x 1 := ⟨fun _ => rfl, fun q => absurd q w⟩
theorem tkC_2 {x : Int} (w : 0 ≤ x ∧ x < (n : Int)) (no : ∀ f, T x.toNat ≠ th_fr f (zp_C 1)) : tkC n T x 2 := ⟨fun q => absurd w q, fun _ => by
  revert no
  generalize T x.toNat = t
  intro no
  rcases t with ⟨a, b⟩ | f | ⟨r, w1, M⟩ | ⟨n1, so, va⟩
  · exact ⟨fun q => absurd (by rw [q.1]) (no a), fun _ => rfl⟩
  all_goals rfl⟩
/-- THE CALL take -/
theorem u_take (H : CA h n T tx lf lp (m : Int)) (K : TK h m P) {x : Int} (hx : In3 x) : wm sw_P (D + 4) 90 [.index 1, vi x] h (fun out => ∃ c, tkC n T x c ∧ ((c ≠ 0 ∧ out = (.inr (exl [3, 1] c), h, 1, 6)) ∨ (c = 0 ∧ m = 16 ∧ out = (.inl (some (vi (-1))), h, 0, 0)) ∨ (c = 0 ∧ m < 16 ∧ ∃ (h' : s_H) (f : Nat) (a : zp_R), x = f ∧ T f = th_fr a (zp_C 1) ∧ CA h' n T tx lf lp ((m : Int) + 1) ∧ TK h' (m + 1) (up P m a) ∧ CF PK4 h h' ∧ h'.1 = h.1 ∧ out = (.inl (some (vi ((m : Int) + 1))), h', 0, 0)))) := by
  refine wm_in (cd := sw_c90) (nL := 3) (hd := sw_h90) rfl rfl ?_
  refine k90_0 H.1.1 (r_thing H hx (fun c x0 xn ka Ka => ?_) (fun w => ⟨1, tkC_1 w, .inl ⟨by decide, rfl⟩⟩))
  refine k90_5 (r_whole Ka ka (fun f ef df => ?_) (fun w => ⟨2, tkC_2 ⟨x0, xn⟩ w, .inl ⟨by decide, rfl⟩⟩))
  have lo := H.1.2
  obtain ⟨q, lq, r, lr, g, Pq, _, _, _, _, _, _, kq⟩ := KT_whole Ka ef lo
  obtain ⟨z, gg, Pp, b, _, el, lL⟩ := id Pq
  have be := b.1
  have f176 : zp_deg f 176 := deg_le df (by decide)
  have dh := deg_hi (m := 10) f176
  have sp : ∀ c : Int, (hi f ≤ 10 → c = 0) → (¬ hi f ≤ 10 → c = 2) → tkC n T x c := fun c a1 a2 => ⟨fun q => absurd ⟨x0, xn⟩ q, fun _ => by
    rw [ef]
    exact ⟨fun q => a1 q.2, fun q => a2 (fun q2 => q ⟨rfl, q2⟩)⟩⟩
  refine k90_10 (z10 := z) g Pp.2.1 (fun w => ?_) (fun w => k90_22 ⟨2, sp 2 (fun q => ?_) (fun _ => rfl), .inl ⟨by decide, rfl⟩⟩) (c12 := by unfold In3; omega)
  rotate_left
  · exfalso
    exact b.2.2 z.toNat (by omega) (dh.mpr q _ (by omega))
  have d11 : zp_deg f 11 := dgp_deg b (by omega)
  have m16 : m ≤ 16 := by
    obtain ⟨_, _, _, q, _⟩ := K
    exact q
  obtain ⟨l, g4, g5, _, g7⟩ := id K
  refine k90_30 (z5 := (m : Int)) H.1.1 (fun w2 => ?_) (fun w2 => k90_39 ⟨0, sp 0 (fun _ => rfl) (fun q => absurd (dh.mp d11) q), .inr (.inl ⟨rfl, by omega, rfl⟩)⟩) (c7 := by unfold In3; omega)
  have t1 := (hp_ne (cc := (0, 2, l.set (Int.toNat (m : Int)) (.index q))) g4 (show 1 ≠ 4 by decide)).trans H.1.1
  refine k90_41 (z7 := (m : Int)) (z27 := (m : Int)) (z33 := (m : Int) + 1) H.1.1 g g4 (s_okA_at (.inl rfl) (PF_c Pq)) t1 (hp_at t1) ?_ (c21 := by rw [g5]; omega) (c22 := by omega) (c23 := by unfold In3; omega)
  rw [show (Int.toNat (m : Int)) = m by omega] at t1 ⊢
  have nn : ∀ j, j ≠ 1 → j ≠ 4 → s_get (hp (hp h 4 (0, 2, l.set m (.index q))) 1 (1, 10, [.index 2, vi n, .index 3, vi tx, vi lf, vi lp, .index 4, vi ((m : Int) + 1), .index 5, .index 107, .index 354, .index 390, .index 391, .index 400, .index 926, .index 1276, .index 1278, .index 1280, .index 1285])) j = s_get h j := fun j j1 j2 => (hp_ne t1 j1).trans (hp_ne g4 j2)
  have cf : CF PK4 h (hp (hp h 4 (0, 2, l.set m (.index q))) 1 (1, 10, [.index 2, vi n, .index 3, vi tx, vi lf, vi lp, .index 4, vi ((m : Int) + 1), .index 5, .index 107, .index 354, .index 390, .index 391, .index 400, .index 926, .index 1276, .index 1278, .index 1280, .index 1285])) := ⟨Nat.le_refl _, fun j p _ => nn j (fun e => p (.inl (.inl e))) (fun e => p (.inr e))⟩
  refine ⟨0, sp 0 (fun _ => rfl) (fun q => absurd (dh.mp d11) q), .inr (.inr ⟨rfl, by omega, _, x.toNat, f, by omega, ef, CA_14 H nn rfl (hp_at t1), ?_, cf, rfl, rfl⟩)⟩
  refine ⟨_, (hp_ne t1 (by decide)).trans (hp_at g4), by rw [List.length_set]; exact g5, by omega, fun i hi2 => ?_⟩
  by_cases e : i = m
  · subst e
    exact ⟨q, lq, by rw [nth_set (by omega), if_pos rfl], kq, by rw [up_at]; exact PF_kp Pq kq cf FX_T lo, by rw [up_at]; exact d11⟩
  · obtain ⟨p, lp', y1, y2, y3, y4⟩ := g7 i (by omega)
    exact ⟨p, lp', by rw [nth_set (by omega), if_neg e]; exact y1, y2, by rw [up_ne _ _ e]; exact PF_kp y3 y2 cf FX_T lo, by rw [up_ne _ _ e]; exact y4⟩
/-- THE CALL matrix -/
theorem u_matrix (H : CA h n T tx lf lp (m : Int)) (K : TK h m P) (rm : RM h 100) {x y : Int} (hx : In3 x) (hy : In3 y) : wm sw_P (D + 4) 49 [.index 1, vi x, vi y] h (fun out => ∃ c res, matS n m P x y c res ∧ ((c ≠ 0 ∧ out = (.inr (exl [1, 0] c), h, 1, 6)) ∨ (c = 0 ∧ ∃ h', CA h' (n + 1) (up T n res) tx lf lp 0 ∧ CF PA h h' ∧ h'.1 = h.1 + 2 ∧ out = (.inl (some (vi (n : Int))), h', 2, 8 + m)))) := by
  refine wm_in (cd := sw_c49) (nL := 5) (hd := sw_h49) rfl rfl ?_
  have lo := H.1.2
  have n150 := CA_n H
  obtain ⟨l, g4, g5, m16, g7⟩ := id K
  have no : ¬ (((1 ≤ x ∧ x ≤ 4) ∧ 1 ≤ y ∧ y ≤ 4) ∧ (m : Int) = x * y) → ∃ c res, matS n m P x y c res ∧ ((c ≠ 0 ∧ ((.inr 1, h, 0 + 1, 0 + 6) : s_O) = (.inr (exl [1, 0] c), h, 1, 6)) ∨ (c = 0 ∧ ∃ h', CA h' (n + 1) (up T n res) tx lf lp 0 ∧ CF PA h h' ∧ h'.1 = h.1 + 2 ∧ ((.inr 1, h, 0 + 1, 0 + 6) : s_O) = (.inl (some (vi (n : Int))), h', 2, 8 + m))) := fun w => ⟨1, th_se (zp_C 0), ⟨fun _ => rfl, fun q => absurd q w⟩, .inl ⟨by decide, rfl⟩⟩
  refine k49_0 (fun w => k49_20 (no (fun q => by omega))) (fun w1 => ?_) (c1 := hx)
  refine k49_5 (fun w => k49_20 (no (fun q => by omega))) (fun w2 => ?_) (c1 := hx)
  refine k49_10 (fun w => k49_20 (no (fun q => by omega))) (fun w3 => ?_) (c1 := hy)
  refine k49_15 (fun w4 => ?_) (fun w => k49_20 (no (fun q => by omega))) (c1 := hy)
  obtain ⟨r, er⟩ : ∃ r : Nat, x = r := ⟨x.toNat, by omega⟩
  obtain ⟨w, ew⟩ : ∃ w : Nat, y = w := ⟨y.toNat, by omega⟩
  subst er ew
  have b16 : r * w ≤ 4 * 4 := Nat.mul_le_mul (by omega) (by omega)
  have ex : (r : Int) * (w : Int) = ((r * w : Nat) : Int) := by rw [Int.natCast_mul]
  refine k49_28 (z5 := (m : Int)) H.1.1 (fun w5 => ?_) (fun w5 => k49_38 (no (fun q => w5 q.2.symm))) (c7 := by rw [ex]; unfold In3; omega) (c8 := by unfold In3; omega)
  have erw : r * w = m := by rw [ex] at w5; omega
  have ok : ((1 ≤ (r : Int) ∧ (r : Int) ≤ 4) ∧ 1 ≤ (w : Int) ∧ (w : Int) ≤ 4) ∧ (m : Int) = (r : Int) * w := ⟨by omega, w5.symm⟩
  refine k49_46 H.1.1 (wm_mono (fun out => ?_) (u_needRoom rfl n150 H.1.1))
  intro q
  rcases q with ⟨n1, q⟩ | ⟨n1, q⟩
  rotate_left
  · rw [q]
    exact ⟨rfl, 2, th_se (zp_C 0), ⟨fun q => absurd ok q, fun _ => ⟨fun _ => rfl, fun q => absurd (by omega) q⟩⟩, .inl ⟨by decide, rfl⟩⟩
  refine wq_v ?_ out q
  obtain ⟨c0, r0⟩ := rm h.1 (Nat.le_refl _) (by omega)
  obtain ⟨c1, r1⟩ := rm (h.1 + 1) (by omega) (by omega)
  have g12 : s_get (hq h (1, 8, s_df 8)) ((hq h (1, 8, s_df 8))).1 = some c1 := by
    show s_get (hq h (1, 8, s_df 8)) (h.1 + 1) = _
    rw [hq_get r0, if_neg (by omega)]
    exact r1
  refine k49_50 r0 g12 ?_ (c5 := by rw [ex]; omega) (c6 := by rw [ex]; unfold In3; omega) (c7 := by rw [ex]; omega)
  refine wm_mono (fun out => ?_) (u_new (h := h) (by omega) (RM_le rm (by omega)) (r := r) (w := w) P)
  intro ⟨h1, G1, eo⟩
  rw [eo, ex, erw]
  refine ⟨rfl, k49_65 ?_⟩
  have loop : ∀ (p i : Nat) (h' : s_H), i + p = m → MG h h' h.1 r w P i → wr sw_P (D + 3) sw_c49 sw_h49 (69, [.index 1, vi (r : Int), vi (w : Int), .index h.1, vi (i : Int)], [], h', 2, 8 + m) (fun out => ∃ c res, matS n m P r w c res ∧ ((c ≠ 0 ∧ out = (.inr (exl [1, 0] c), h, 1, 6)) ∨ (c = 0 ∧ ∃ h', CA h' (n + 1) (up T n res) tx lf lp 0 ∧ CF PA h h' ∧ h'.1 = h.1 + 2 ∧ out = (.inl (some (vi (n : Int))), h', 2, 8 + m)))) := by
    intro p
    induction p with
    | zero =>
      intro i h' hi2 G
      have im : i = m := by omega
      subst im
      have H' := CA_G H G.1
      have e1 := G.2.1
      refine k49_69 (z5 := (i : Int)) H'.1.1 (fun _ => ?_) (fun q => absurd (by omega) q) (c7 := by unfold In3; omega) (c8 := by unfold In3; omega)
      have x1 := hp_at (cc := (1, 10, [.index 2, vi n, .index 3, vi tx, vi lf, vi lp, .index 4, vi 0, .index 5, .index 107, .index 354, .index 390, .index 391, .index 400, .index 926, .index 1276, .index 1278, .index 1280, .index 1285])) H'.1.1
      have nn : ∀ j, j ≠ 1 → s_get (hp h' 1 (1, 10, [.index 2, vi n, .index 3, vi tx, vi lf, vi lp, .index 4, vi 0, .index 5, .index 107, .index 354, .index 390, .index 391, .index 400, .index 926, .index 1276, .index 1278, .index 1280, .index 1285])) j = s_get h' j := fun j j1 => hp_ne H'.1.1 j1
      have F2 : CF PA h' (hp h' 1 (1, 10, [.index 2, vi n, .index 3, vi tx, vi lf, vi lp, .index 4, vi 0, .index 5, .index 107, .index 354, .index 390, .index 391, .index 400, .index 926, .index 1276, .index 1278, .index 1280, .index 1285])) := ⟨Nat.le_refl _, fun j p _ => nn j (fun e => p (.inl e))⟩
      have H2 := CA_14 H' (fun j j1 _ => nn j j1) rfl x1
      rw [← erw] at G
      obtain ⟨k1, k2, fs, k3⟩ := MG_KT G lo (by omega) (by omega) (M := fun a b => P (w * a + b)) (fun a b _ _ => by rw [Nat.mul_comm])
      have lo' := H'.1.2
      refine k49_108 H'.1.1 x1 (wm_mono (fun out => ?_) (u_keep H2 k1 (KT_keep k2 k1 F2 FX_A lo') ((nn _ (by omega)).trans k3)))
      intro q
      rcases q with ⟨_, h2, C2, F3, e2, eo⟩ | ⟨q, _⟩
      · rw [eo]
        refine k49_118 ⟨0, th_ma r w (fun a b => P (w * a + b)), ⟨fun q => absurd ok q, fun _ => ⟨fun q => absurd q (by omega), fun _ => ⟨rfl, rfl⟩⟩⟩, .inr ⟨rfl, h2, C2, CF_trans (CF_NA G.1) (CF_trans F2 F3), ?_, rfl⟩⟩
        have : (hp h' 1 (1, 10, [.index 2, vi n, .index 3, vi tx, vi lf, vi lp, .index 4, vi 0, .index 5, .index 107, .index 354, .index 390, .index 391, .index 400, .index 926, .index 1276, .index 1278, .index 1280, .index 1285])).1 = h'.1 := rfl
        omega
      · omega
    | succ p ih =>
      intro i h' hi2 G
      have H' := CA_G H G.1
      refine k49_69 (z5 := (m : Int)) H'.1.1 (fun q => absurd q (by omega)) (fun _ => ?_) (c7 := by unfold In3; omega) (c8 := by unfold In3; omega)
      obtain ⟨C, e1, _, la, a1, a2, a3, a4⟩ := id G
      refine k49_78 a1 a2 (fun q => absurd q (by omega)) (fun _ => ?_) (c11 := by unfold In3; omega) (c12 := by unfold In3; omega)
      obtain ⟨q, lq, y1, y2, y3, y4⟩ := g7 i (by omega)
      have g4' : s_get h' 4 = some (0, 2, l) := (C.2 4 id (.inl (by omega))).trans g4
      have ei : (Int.toNat (i : Int)) = i := by omega
      refine k49_88 (v17 := .index q) a1 H'.1.1 g4' a2 (s_okA_at (.inl rfl) (PF_c (PF_kp y3 y2 C FX_N lo))) ?_ (n18 := by rw [ei]; exact y1) (c20 := by unfold In3; omega) (c21 := by omega) (c28 := by omega) (c29 := by omega)
      rw [ei]
      exact ih (i + 1) _ (by omega) (MG_put G a2 (by omega) y2 y3 y4)
  exact loop m 0 h1 (by omega) G1
end
