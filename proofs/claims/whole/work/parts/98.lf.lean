/-! the class: a matrix whose entries are made in any order; the call adjoint -/
def MFP (n0 : Nat) (h : s_H) (r w : Nat) (M : Nat → Nat → zp_R) (P : Nat → Nat → Prop) (g : Nat) : Prop := h.1 = n0 + g ∧ 2 ≤ g ∧ ∃ l z, s_get h n0 = some (1, 8, [vi 2, .null, .null, vi (r : Int), vi (w : Int), .index (n0 + 1), .null, vi z]) ∧ s_get h (n0 + 1) = some (0, 2, l) ∧ l.length = r * w ∧ (∀ a b, a < r → b < w → P a b → ∃ q lq, s_nth l (a * w + b) = some (.index q) ∧ (n0 + 1 < q ∧ q + 1 < h.1) ∧ PF h q lq (M a b)) ∧ ((z = 0 ∧ ∀ a b, a < r → b < w → P a b → zp_deg (M a b) 11) ∨ (z = 5 ∧ ∃ a b, a < r ∧ b < w ∧ P a b ∧ ¬ zp_deg (M a b) 11))
theorem MFP_iff {n0 : Nat} {h : s_H} {r w : Nat} {M : Nat → Nat → zp_R} {P P' : Nat → Nat → Prop} {g : Nat} (H : MFP n0 h r w M P g) (e : ∀ a b, a < r → b < w → (P' a b ↔ P a b)) : MFP n0 h r w M P' g := by
  obtain ⟨e0, g2, l, z, h1, h2, h3, h4, h5⟩ := H
  refine ⟨e0, g2, l, z, h1, h2, h3, fun a b ha hb q => h4 a b ha hb ((e a b ha hb).mp q), ?_⟩
  rcases h5 with ⟨z0, h5⟩ | ⟨z5, a, b, ha, hb, q, ne⟩
  · exact .inl ⟨z0, fun a b ha hb q => h5 a b ha hb ((e a b ha hb).mp q)⟩
  · exact .inr ⟨z5, a, b, ha, hb, (e a b ha hb).mpr q, ne⟩
theorem MFP_F {n0 : Nat} {h h' : s_H} {r w : Nat} {M : Nat → Nat → zp_R} {P : Nat → Nat → Prop} {g g' : Nat} (H : MFP n0 h r w M P g) (lo : 1376 ≤ n0) (s : ∀ j, 1376 ≤ j → j < h.1 → s_get h' j = s_get h j) (e : h'.1 = h.1 + g') : MFP n0 h' r w M P (g + g') := by
  obtain ⟨e0, g2, l, z, h1, h2, h3, h4, h5⟩ := H
  refine ⟨by omega, by omega, l, z, (s n0 (by omega) (by omega)).trans h1, (s (n0 + 1) (by omega) (by omega)).trans h2, h3, fun a b ha hb q => ?_, h5⟩
  obtain ⟨p, lp, y1, y2, y3⟩ := h4 a b ha hb q
  exact ⟨p, lp, y1, by omega, PF_same y3 (s p (by omega) (by omega)) (s (p + 1) (by omega) (by omega))⟩
theorem MFP_0 {h h' : s_H} {r w : Nat} {M : Nat → Nat → zp_R} (H : MF h h' h.1 r w M 0 0 2) : MFP h.1 h' r w M (fun _ _ => False) 2 := by
  obtain ⟨_, e0, _, g2, l, z, h1, h2, h3, h4, h5⟩ := H
  refine ⟨e0, g2, l, z, h1, h2, h3, fun a b _ _ q => q.elim, ?_⟩
  rcases h5 with ⟨z0, h5⟩ | ⟨z5, a, b, ha, hb, q, ne⟩
  · exact .inl ⟨z0, fun a b _ _ q => q.elim⟩
  · unfold dn at q
    omega
theorem MFP_all {n0 : Nat} {h : s_H} {r w : Nat} {M : Nat → Nat → zp_R} {P : Nat → Nat → Prop} {g : Nat} (H : MFP n0 h r w M P g) (e : ∀ a b, a < r → b < w → P a b) : MF (n0, h.2) h n0 r w M r 0 g := by
  obtain ⟨e0, g2, l, z, h1, h2, h3, h4, h5⟩ := H
  refine ⟨⟨by show n0 ≤ h.1; omega, fun j _ _ => rfl⟩, e0, rfl, g2, l, z, h1, h2, h3, fun a b ha hb _ => h4 a b ha hb (e a b ha hb), ?_⟩
  rcases h5 with ⟨z0, h5⟩ | ⟨z5, a, b, ha, hb, q, ne⟩
  · exact .inl ⟨z0, fun a b ha hb _ => h5 a b ha hb (e a b ha hb)⟩
  · exact .inr ⟨z5, a, b, ha, hb, .inl ha, ne⟩
section
variable {D : Nat} {h : s_H}
theorem u_setEntryP {n0 r w : Nat} {M : Nat → Nat → zp_R} {P : Nat → Nat → Prop} {i j g q lq : Nat} (lo : 39 ≤ n0) (H : MFP n0 h r w M P g) (ir : i < r) (jw : j < w) (r4 : r ≤ 4) (w4 : w ≤ 4) (qc : n0 + 1 < q) (q1 : q + 1 < h.1) (Pq : PF h q lq (M i j)) : wm sw_P (D + 1) 271 [.index n0, vi (i : Int), vi (j : Int), .index q] h (fun out => ∃ h', MFP n0 h' r w M (fun a b => P a b ∨ (a = i ∧ b = j)) g ∧ h'.1 = h.1 ∧ (∀ x, x ≠ n0 → x ≠ n0 + 1 → s_get h' x = s_get h x) ∧ out = (.inl none, h', 0, 0)) := by
  refine wm_in (cd := sw_c271) (nL := 4) (hd := sw_h271) rfl rfl ?_
  obtain ⟨e0, g2, l, z, h1, h2, h3, h4, h5⟩ := H
  obtain ⟨e, gg, Pp, b, _, el, lL⟩ := id Pq
  have be := b.1
  have bd : i * w + j < r * w := by
    have := Nat.mul_le_mul_right w (show i + 1 ≤ r by omega)
    rw [Nat.succ_mul] at this
    omega
  have b16 : r * w ≤ 4 * 4 := Nat.mul_le_mul r4 w4
  have ex : (i : Int) * (w : Int) + (j : Int) = ((i * w + j : Nat) : Int) := by rw [Int.natCast_add, Int.natCast_mul]
  have fin : ∀ (hb : s_H) (z' : Int), hb.1 = h.1 → (∀ x, x ≠ n0 → s_get hb x = s_get h x) → s_get hb n0 = some (1, 8, [vi 2, .null, .null, vi (r : Int), vi (w : Int), .index (n0 + 1), .null, vi z']) → ((z' = z ∧ e ≤ 10) ∨ (z' = 5 ∧ ¬ e ≤ 10)) → wr sw_P D sw_c271 sw_h271 (14, [.index n0, vi (i : Int), vi (j : Int), .index q], [], hb, 0, 0) (fun out => ∃ h', MFP n0 h' r w M (fun a b => P a b ∨ (a = i ∧ b = j)) g ∧ h'.1 = h.1 ∧ (∀ x, x ≠ n0 → x ≠ n0 + 1 → s_get h' x = s_get h x) ∧ out = (.inl none, h', 0, 0)) := fun hb z' b1 bn bc hz => by
    have gl : s_get hb (n0 + 1) = some (0, 2, l) := (bn _ (by omega)).trans h2
    have Pb := PF_same Pq (bn q (by omega)) (bn (q + 1) (by omega))
    refine k271_14 (z7 := (w : Int)) (a11 := l) (tg13 := 2) bc gl (s_okA_at (.inl rfl) (PF_c Pb)) ?_ (c16 := by rw [ex, h3]; omega) (c17 := by rw [ex]; omega) (c18 := by rw [ex]; unfold In3; omega) (c19 := by omega)
    rw [ex, show (((i * w + j : Nat) : Int)).toNat = i * w + j by omega]
    have nn : ∀ x, x ≠ n0 → x ≠ n0 + 1 → s_get (hp hb (n0 + 1) (0, 2, l.set (i * w + j) (.index q))) x = s_get h x := fun x x1 x2 => (hp_ne gl x2).trans (bn x x1)
    refine ⟨_, ⟨by show hb.1 = _; omega, g2, l.set (i * w + j) (.index q), z', (hp_ne gl (by omega)).trans bc, hp_at gl, by rw [List.length_set]; exact h3, fun a b' ha hb' qd => ?_, ?_⟩, b1, nn, rfl⟩
    · by_cases same : a = i ∧ b' = j
      · obtain ⟨rfl, rfl⟩ := same
        refine ⟨q, lq, by rw [nth_set (by rw [h3]; exact bd), if_pos rfl], ⟨qc, by show q + 1 < hb.1; omega⟩, PF_same Pq (nn q (by omega) (by omega)) (nn (q + 1) (by omega) (by omega))⟩
      · obtain ⟨p, lp, y1, y2, y3⟩ := h4 a b' ha hb' (by
          rcases qd with qd | qd
          · exact qd
          · exact absurd qd same)
        refine ⟨p, lp, by rw [nth_set (by rw [h3]; exact bd), if_neg (idx_ne hb' jw same)]; exact y1, ⟨y2.1, by show p + 1 < hb.1; omega⟩, PF_same y3 (nn p (by omega) (by omega)) (nn (p + 1) (by omega) (by omega))⟩
    · rcases hz with ⟨hz, e10⟩ | ⟨hz, e10⟩
      · rcases h5 with ⟨z0, h5⟩ | ⟨z5, a, b', ha, hb', qd, ne⟩
        · refine .inl ⟨by omega, fun a b' ha hb' qd => ?_⟩
          by_cases same : a = i ∧ b' = j
          · obtain ⟨rfl, rfl⟩ := same
            exact dgp_deg b (by omega)
          · exact h5 a b' ha hb' (by
              rcases qd with qd | qd
              · exact qd
              · exact absurd qd same)
        · exact .inr ⟨by omega, a, b', ha, hb', .inl qd, ne⟩
      · refine .inr ⟨hz, i, j, ir, jw, .inr ⟨rfl, rfl⟩, fun d => ?_⟩
        exact b.2.2 e.toNat (by omega) (d _ (by omega))
  refine k271_0 (z5 := e) Pp.2.1 (fun w => fin h z rfl (fun _ _ => rfl) h1 (.inl ⟨rfl, w⟩)) (fun w => k271_9 h1 (fin _ 5 rfl (fun x hx => hp_ne h1 hx) (hp_at h1) (.inr ⟨rfl, w⟩))) (c7 := by unfold In3; omega)
theorem z_odd7 {s : Nat} (hs : s < 8) : zi 24 (s : Int) 1 = ((s % 2 : Nat) : Int) := by
  have : ∀ s : Fin 8, zi 24 (s.val : Int) 1 = ((s.val % 2 : Nat) : Int) := by decide +kernel
  exact this ⟨s, hs⟩
theorem u_adjointOf (A : AL h 0) (I : MI h) (lo : 1376 ≤ h.1) (rm : RM h 100) {a r : Nat} {M : Nat → Nat → zp_R} (K : KT h a (th_ma r r M)) (ka : kt h a) : wm sw_P (D + 6) 134 [.index 354, .index a] h (fun out => ∃ h' x y, MF (h.1, h'.2) h' h.1 r r (adjM M r) r 0 (2 + 2 * (r * r)) ∧ CF PS h h' ∧ AL h' 0 ∧ MI h' ∧ x ≤ 40 ∧ y ≤ 3400 ∧ out = (.inl (some (.index h.1)), h', x, y)) := by
  refine wm_in (cd := sw_c134) (nL := 8) (hd := sw_h134) rfl rfl ?_
  obtain ⟨r14, _⟩ := KT_rw K
  have b16 : r * r ≤ 4 * 4 := Nat.mul_le_mul r14.2 r14.2
  obtain ⟨p1, p2⟩ := pow_lt r14.2
  have dM : ∀ i j, i < r → j < r → zp_deg (M i j) 11 := fun i j h1 h2 => KT_d11 K h1 h2
  refine k134_0 I.1 A.1 (wm_mono (wq_r ?_) (u_mark A))
  refine k134_7 I.1 A.1 (r_lend (RW_0 A (by omega)) (FA_refl [] 0 h) (by omega) (fun h1 R1' E1 => ?_))
  have R1 : RW h1 0 1 [zp_C 0] := R1'
  have F1 := CF_R E1
  have e1 : h1.1 = h.1 := E1.1
  obtain ⟨_, gc⟩ := KT_ce (KT_keep K ka F1 FX_R lo)
  refine k134_15 (z6 := (r : Int)) (z9 := (r : Int)) gc (MI_FA I E1).1 (wm_mono (fun out => ?_) (u_empty (by omega) (RM_CF rm F1 (fun j p => by unfold PR at p; omega) lo (by omega)) r14 r14 (adjM M r)))
  intro ⟨h2, H2, N2, eo⟩
  rw [eo]
  have H2' := MFP_0 H2
  rw [e1] at H2' ⊢
  have e2 : h2.1 = h.1 + 2 := H2'.1
  have R2 := RW_G R1 (fun j _ _ => N2.2 j id (.inl (by omega)) : ∀ j, 5 ≤ j → j < 39 → s_get h2 j = s_get h1 j)
  have I2 : MI h2 := MI_G (MI_FA I E1) (fun j _ _ => N2.2 j id (.inl (by omega)))
  have C2 : CF PS h h2 := CF_trans (CF_RS F1) (CF_NA N2)
  rw [z_all r14.2]
  refine k134_38 ?_
  have gcF : ∀ {h' : s_H}, CF PS h h' → ∃ e, s_get h' a = some (1, 8, [vi 2, .null, .null, vi (r : Int), vi (r : Int), .index e, .null, vi 0]) := fun F => KT_ce (KT_keep K ka F FX_S lo)
  have outer : ∀ (l j t x y : Nat) (h' : s_H) (t7 : Term) (f : zp_R), j + l = r → t = j * r → MFP h.1 h' r r (adjM M r) (fun _ b => b < j) (2 + 2 * t) → CF PS h h' → RW h' 0 1 [f] → MI h' → x = 2 + 2 * t → y ≤ 24 + 194 * t → wr sw_P (D + 5) sw_c134 sw_h134 (43, [.index 354, .index a, vi 0, .index 7, vi ((2 ^ r - 1 : Nat) : Int), .index h.1, vi (j : Int), t7], [], h', x, y) (fun out => ∃ h' x y, MF (h.1, h'.2) h' h.1 r r (adjM M r) r 0 (2 + 2 * (r * r)) ∧ CF PS h h' ∧ AL h' 0 ∧ MI h' ∧ x ≤ 40 ∧ y ≤ 3400 ∧ out = (.inl (some (.index h.1)), h', x, y)) := by
    intro l
    induction l with
    | zero =>
      intro j t x y h' t7 f hj ht H F R I' ex ey
      have ej : j = r := by omega
      rw [ej] at ht H
      subst ht
      obtain ⟨_, gc'⟩ := gcF F
      refine k134_43 (z5 := (r : Int)) gc' (fun _ => ?_) (fun q => absurd (by omega) q) (c7 := by unfold In3; omega) (c8 := by unfold In3; omega)
      refine k134_134 I'.1 R.1.1 (r_release R (FA_refl [] 0 h') (fun h3 A3 o3 E3 => k134_142 ⟨h3, x, y, ?_, CF_trans F (CF_RS (CF_R E3)), A3, MI_FA I' E3, by omega, by omega, rfl⟩))
      have H3 := MFP_F H lo (h' := h3) (g' := 0) (fun j j1 _ => o3 j (by omega)) (by have := E3.1; omega)
      exact MFP_all H3 (fun _ b _ hb => hb)
    | succ l ih =>
      intro j t x y h' t7 f hj ht H F R I' ex ey
      obtain ⟨_, gc'⟩ := gcF F
      have e' := H.1
      have lo' : 1376 ≤ h'.1 := by omega
      have ka' : kt h' a := kt_le ka F.1
      have tl : t + r ≤ 16 := by
        have := Nat.mul_le_mul_right r (show j + 1 ≤ r by omega)
        rw [Nat.succ_mul] at this
        omega
      refine k134_43 (z5 := (r : Int)) gc' (fun q => absurd q (by omega)) (fun _ => ?_) (c7 := by unfold In3; omega) (c8 := by unfold In3; omega)
      have onj := all_on r14.2 (show j < r by omega)
      obtain ⟨x1, x2, x3⟩ := zxo p2 (show j < 4 by omega) onj
      refine k134_52 I'.1 ?_
      rw [x1]
      refine wm_mono (fun out => ?_) (u_find (k := 1) R.1 (by decide) I' lo' (KT_keep K ka F FX_S lo) ka' (rm := 2 ^ r - 1 - 2 ^ j) (by omega))
      intro ⟨h3, F3, A3, I3, Fd, eo⟩
      rw [eo]
      have R3 : RW h3 0 1 [f] := RW_x R F3 A3 (fun p hp => by have := MS_b p hp; omega)
      have e3 := F3.1
      have H3 := MFP_F H lo (h' := h3) (g' := 0) (fun j j1 _ => F3.2 j (MS_n (.inr (by omega))) (.inr (by omega)) (by omega)) (by omega)
      have C3 := CF_trans F (CF_S F3)
      refine k134_64 ?_
      have inner : ∀ (p i t x y : Nat) (h' : s_H) (f : zp_R), i + p = r → t = j * r + i → MFP h.1 h' r r (adjM M r) (fun a b => b < j ∨ (b = j ∧ a < i)) (2 + 2 * t) → CF PS h h' → RW h' 0 1 [f] → MI h' → MFd h' M r (2 ^ r - 1 - 2 ^ j) 16 → x = 2 + 2 * t → y ≤ 24 + 194 * t → wr sw_P (D + 5) sw_c134 sw_h134 (67, [.index 354, .index a, vi 0, .index 7, vi ((2 ^ r - 1 : Nat) : Int), .index h.1, vi (j : Int), vi (i : Int)], [], h', x, y) (fun out => ∃ h' x y, MF (h.1, h'.2) h' h.1 r r (adjM M r) r 0 (2 + 2 * (r * r)) ∧ CF PS h h' ∧ AL h' 0 ∧ MI h' ∧ x ≤ 40 ∧ y ≤ 3400 ∧ out = (.inl (some (.index h.1)), h', x, y)) := by
        intro p
        induction p with
        | zero =>
          intro i t x y h' f hi2 ht H F R I' Fd ex ey
          obtain ⟨_, gc'⟩ := gcF F
          refine k134_67 (z5 := (r : Int)) gc' (fun _ => k134_128 ?_) (fun q => absurd (by omega) q) (c7 := by unfold In3; omega) (c8 := by unfold In3; omega)
          exact ih (j + 1) t x y h' _ f (by omega) (by rw [Nat.succ_mul]; omega) (MFP_iff H (fun a b ha _ => by omega)) F R I' ex ey
        | succ p ih2 =>
          intro i t x y h' f hi2 ht H F R I' Fd ex ey
          obtain ⟨_, gc'⟩ := gcF F
          have e' := H.1
          have oni := all_on r14.2 (show i < r by omega)
          obtain ⟨y1, y2, y3⟩ := zxo p2 (show i < 4 by omega) oni
          have m16 : 2 ^ r - 1 - 2 ^ i < 16 := by omega
          have P := Fd (2 ^ r - 1 - 2 ^ i) m16 (by omega) (by omega)
          rw [show bts (2 ^ r - 1 - 2 ^ i) = bts (2 ^ r - 1 - 2 ^ j) by omega, pre_all (show 2 ^ r - 1 - 2 ^ j < 16 by omega)] at P
          have dm : zp_deg (mnq M r (2 ^ r - 1 - 2 ^ j) (2 ^ r - 1 - 2 ^ i)) 41 := mnq_deg r14.2 dM (by omega)
          refine k134_67 (z5 := (r : Int)) gc' (fun q => absurd q (by omega)) (fun _ => ?_) (c7 := by unfold In3; omega) (c8 := by unfold In3; omega)
          refine k134_76 I'.1 ?_
          rw [y1]
          refine wm_mono (wq_r ?_) (u_of I' m16)
          refine k134_88 (RW_c R 0 rfl) (r_copy R (FA_refl [] 0 h') 0 (by decide) P (by unfold apt; omega) (fD dm (by omega)) (fun h4 R4' E4 => ?_))
          have R4 : RW h4 0 1 [mnq M r (2 ^ r - 1 - 2 ^ j) (2 ^ r - 1 - 2 ^ i)] := R4'
          have go : ∀ (h5 : s_H), RW h5 0 1 [adjM M r i j] → FA [] 0 h' h5 → wr sw_P (D + 5) sw_c134 sw_h134 (109, [.index 354, .index a, vi 0, .index 7, vi ((2 ^ r - 1 : Nat) : Int), .index h.1, vi (j : Int), vi (i : Int)], [], h5, x, y) (fun out => ∃ h' x y, MF (h.1, h'.2) h' h.1 r r (adjM M r) r 0 (2 + 2 * (r * r)) ∧ CF PS h h' ∧ AL h' 0 ∧ MI h' ∧ x ≤ 40 ∧ y ≤ 3400 ∧ out = (.inl (some (.index h.1)), h', x, y)) := fun h5 R5 E5 => by
            have e5 := E5.1
            have C5 := CF_trans F (CF_RS (CF_R E5))
            refine k134_109 (RW_c R5 0 rfl) (r_kept R5 (by omega) (RM_CF rm C5 (fun j p => (FX_S j p).1) lo (by omega)) 0 rfl (fun h6 L hL P6 e6 F6 R6 => ?_))
            have s56 : ∀ j, j < h5.1 → s_get h6 j = s_get h5 j := fun j j1 => F6.2 j id (.inl j1)
            have H6 := MFP_F H lo (h' := h6) (g' := 2) (fun j j1 j2 => (s56 j (by omega)).trans (E5.2 j (fun _ q => absurd q List.not_mem_nil) (.inr (by omega)) (by omega))) (by omega)
            have I6 : MI h6 := MI_G (MI_FA I' E5) (fun j _ _ => s56 j (by omega))
            obtain ⟨_, _, _, _, gc6, _⟩ := id H6
            refine k134_119 gc6 (wm_mono (fun out => ?_) (u_setEntryP (by omega) H6 (show i < r by omega) (show j < r by omega) r14.2 r14.2 (by omega) (by omega) P6))
            intro ⟨h7, H7, e7, s7, eo⟩
            rw [eo]
            refine k134_122 ?_
            rw [show (i : Int) + 1 = ((i + 1 : Nat) : Int) by omega]
            have C7 : CF PS h h7 := ⟨by omega, fun j pj hj => (s7 j (by omega) (by omega)).trans ((F6.2 j id (by omega)).trans (C5.2 j pj (by omega)))⟩
            refine ih2 (i + 1) (t + 1) _ _ h7 _ (by omega) (by omega) ?_ C7 (RW_G R6 (fun j _ _ => s7 j (by omega) (by omega))) (MI_G I6 (fun j _ _ => s7 j (by omega) (by omega))) (fun c hc c2 cb => ?_) (by omega) (by omega)
            · have H7' := MFP_iff (P' := fun a b => b < j ∨ (b = j ∧ a < i + 1)) H7 (fun a b _ _ => by
                show _ ↔ ((b < j ∨ (b = j ∧ a < i)) ∨ (a = i ∧ b = j))
                omega)
              rw [show 2 + 2 * (t + 1) = 2 + 2 * t + 2 by omega]
              exact H7'
            · have s57 : ∀ j, 354 ≤ j → j < 390 → s_get h7 j = s_get h' j := fun j j1 j2 => (s7 j (by omega) (by omega)).trans ((s56 j (by omega)).trans (E5.2 j (fun _ q => absurd q List.not_mem_nil) (.inr (by omega)) (by omega)))
              exact PF_same (Fd c hc c2 cb) (s57 _ (by omega) (by omega)) (s57 _ (by omega) (by omega))
          have eij : (i : Int) + (j : Int) = ((i + j : Nat) : Int) := rfl
          refine k134_91 (fun q => ?_) (fun q => ?_) (c1 := by rw [eij, z_odd7 (by omega)]; unfold In3; omega)
          · rw [eij, z_odd7 (by omega)] at q
            have ea : adjM M r i j = mnq M r (2 ^ r - 1 - 2 ^ j) (2 ^ r - 1 - 2 ^ i) := if_neg (by omega)
            exact go h4 (by rw [ea]; exact R4) E4
          · rw [eij, z_odd7 (by omega)] at q
            have ea : adjM M r i j = zp_mul (zp_C (nF 32002)) (mnq M r (2 ^ r - 1 - 2 ^ j) (2 ^ r - 1 - 2 ^ i)) := if_pos (by omega)
            exact k134_102 (RW_c R4 0 rfl) (r_scale R4 E4 0 (by decide) rfl (x := 32002) (by decide) (fun h5 R5' E5 => go h5 (by rw [ea]; exact R5') E5))
      exact inner r 0 t x y h3 f (by omega) (by omega) (MFP_iff H3 (fun a b _ _ => by omega)) C3 R3 I3 Fd ex ey
  exact outer r 0 0 _ _ h2 _ (zp_C 0) (by omega) (by omega) (MFP_iff H2' (fun a b _ _ => ⟨fun q => absurd q (Nat.not_lt_zero b), fun q => q.elim⟩)) C2 R2 I2 (by omega) (by omega)
end
section
variable {D : Nat} {h : s_H} {n : Nat} {T : Nat → th} {tx lf lp tk : Int}
theorem adj_x {a x : zp_F} (h : a * a = 1) : a * (a * x) = x := by grind
theorem adj_hi {M : Nat → Nat → zp_R} {r i j : Nat} (d : zp_deg (mnq M r (2 ^ r - 1 - 2 ^ j) (2 ^ r - 1 - 2 ^ i)) 41) : zp_deg (adjM M r i j) 41 ∧ (hi (adjM M r i j) ≤ 10 ↔ hi (mnq M r (2 ^ r - 1 - 2 ^ j) (2 ^ r - 1 - 2 ^ i)) ≤ 10) := by
  by_cases q : (i + j) % 2 = 1
  · have ea : adjM M r i j = zp_mul (zp_C (nF 32002)) (mnq M r (2 ^ r - 1 - 2 ^ j) (2 ^ r - 1 - 2 ^ i)) := if_pos q
    rw [ea]
    have dd := deg_Cm (nF 32002) d
    refine ⟨dd, ?_⟩
    have e1 := deg_hi (deg_le dd (show 41 ≤ 176 by decide)) (m := 10)
    have e2 := deg_hi (deg_le d (show 41 ≤ 176 by decide)) (m := 10)
    refine e1.symm.trans (Iff.trans ⟨fun w => ?_, fun w => deg_Cm _ w⟩ e2)
    have w2 := deg_Cm (nF 32002) w
    have e : zp_mul (zp_C (nF 32002)) (zp_mul (zp_C (nF 32002)) (mnq M r (2 ^ r - 1 - 2 ^ j) (2 ^ r - 1 - 2 ^ i))) = mnq M r (2 ^ r - 1 - 2 ^ j) (2 ^ r - 1 - 2 ^ i) := zp_ext (fun k => by
      rw [zp_C_mul1, zp_C_mul1]
      exact adj_x (show nF 32002 * nF 32002 = 1 by decide +kernel))
    rw [e] at w2
    exact w2
  · have ea : adjM M r i j = mnq M r (2 ^ r - 1 - 2 ^ j) (2 ^ r - 1 - 2 ^ i) := if_neg q
    rw [ea]
    exact ⟨d, Iff.rfl⟩
/-- THE CALL adjoint -/
theorem u_adjoint (H : CA h n T tx lf lp tk) (I : MI h) (rm : RM h 100) {x : Int} (hx : In3 x) : wm sw_P (D + 7) 2 [.index 1, vi x] h (fun out => ∃ res, sqF n T x adjF res ∧ CEM 100 4000 100 [3, 1, 0] h n T tx lf lp tk res out) := by
  refine wm_in (cd := sw_c2) (nL := 3) (hd := sw_h2) rfl rfl ?_
  have lo := H.1.2
  obtain ⟨_, _, A, _⟩ := id H
  refine k2_0 H.1.1 (r_ofKind H hx (by decide) (fun a x0 xn ka Ka k0 => ?_) (fun w => CM_x H I 1 rfl ⟨1, ⟨fun _ => rfl, fun q => absurd q w⟩, fun _ => rfl, fun q => absurd q (by first | (simp [kd]; done) | decide)⟩ (by omega) (by omega)) (fun x0 xn w => CM_x H I 2 rfl (sqF_2 ⟨x0, xn⟩ (fun r M e => w (by rw [e]; rfl))) (by omega) (by omega)))
  obtain ⟨r, w, M, et⟩ := kd_cases.2.2.1 k0
  rw [et] at Ka
  refine k2_6 (r_square Ka (fun e => ?_) (fun e => CM_x H I 2 rfl (sqF_2 ⟨x0, xn⟩ (fun r' M' e' => e (by
    rw [et] at e'
    have e2 := Sum.inl.inj (Sum.inr.inj (Sum.inr.inj e'))
    rw [(Prod.mk.inj e2).1, (Prod.mk.inj (Prod.mk.inj e2).2).1]))) (by omega) (by omega)))
  subst e
  obtain ⟨r14, _⟩ := KT_rw Ka
  have b16 : r * r ≤ 4 * 4 := Nat.mul_le_mul r14.2 r14.2
  have dM : ∀ i j, i < r → j < r → zp_deg (M i j) 11 := fun i j h1 h2 => KT_d11 Ka h1 h2
  have p := pow_lt r14.2
  have dA : ∀ i j, zp_deg (mnq M r (2 ^ r - 1 - 2 ^ j) (2 ^ r - 1 - 2 ^ i)) 41 := fun i j => mnq_deg r14.2 dM (Nat.lt_of_le_of_lt (Nat.sub_le _ _) p.1)
  refine k2_11 H.1.1 I.1 (wm_mono (fun out => ?_) (u_adjointOf A I lo rm Ka ka))
  intro ⟨h1, kc, ks, MM, C1', A1, I1, b1, b2, eo⟩
  rw [eo]
  have H1 := CA_S H C1' A1
  have e1 : h1.1 = h.1 + (2 + 2 * (r * r)) := MM.2.1
  refine k2_20 H1.1.1 (wm_mono (fun out => ?_) (u_keepMF (h0 := (h.1, h1.2)) H1 MM lo r14 r14 (fun i j _ _ => deg_le (adj_hi (dA i j)).1 (by decide)) (bad := 3) (l := [3, 1, 0]) rfl))
  intro ⟨res, r1, r2⟩
  refine wq_CM (fun v h' x y q => k2_23 q) (CF_SM C1') I1 H1.1.2 (by omega) (by omega) (by omega) (fun out c => ⟨res, sqF_0 ⟨x0, xn⟩ et r1.1 (fun q => ⟨fun ⟨i, j, i1, j1, big⟩ => r1.2.1 q ⟨i, j, i1, j1, ?_⟩, fun sm => r1.2.2 q (fun ⟨i, j, i1, j1, big⟩ => ?_)⟩), c⟩) out r2
  · have := (adj_hi (dA i j)).2
    omega
  · have := (adj_hi (dA i j)).2
    have := sm i j i1 j1
    omega
end
