/-! the class: matrices on the way -/
/-- what rows lent may change -/
def PR (j : Nat) : Prop := 5 ≤ j ∧ j < 39
theorem FX_R : FX PR := fun j p => by unfold PR at p; omega
theorem CF_R {k : Nat} {h h' : s_H} (a : FA [] k h h') : CF PR h h' := CF_FA a (fun p hp => absurd hp List.not_mem_nil) (fun j j1 j2 => ⟨j1, j2⟩)
theorem CF_RB {h h' : s_H} (a : CF PR h h') : CF PB h h' := CF_sub a (fun j p => .inl p)
theorem RW_G {h h' : s_H} {k n : Nat} {l : List zp_R} (R : RW h k n l) (e : ∀ j, 5 ≤ j → j < 39 → s_get h' j = s_get h j) : RW h' k n l := by
  obtain ⟨A, kn, ln, g⟩ := R
  refine ⟨AL_same A e, kn, ln, fun i x ex => ?_⟩
  have : i < n := by
    rw [← ln]
    exact (List.getElem?_eq_some_iff.mp ex).1
  exact PF_same (g i x ex) (e _ (by omega) (by omega)) (e _ (by omega) (by omega))
/-- an entry is done -/
def dn (i j a b : Nat) : Prop := a < i ∨ (a = i ∧ b < j)
/-- a matrix at c, its list at c + 1, whose entries are made row by row: g cells are there behind h0 -/
def MF (h0 h : s_H) (c r w : Nat) (M : Nat → Nat → zp_R) (i j g : Nat) : Prop := CF PR h0 h ∧ h.1 = h0.1 + g ∧ c = h0.1 ∧ 2 ≤ g ∧ ∃ l z, s_get h c = some (1, 8, [vi 2, .null, .null, vi (r : Int), vi (w : Int), .index (c + 1), .null, vi z]) ∧ s_get h (c + 1) = some (0, 2, l) ∧ l.length = r * w ∧ (∀ a b, a < r → b < w → dn i j a b → ∃ q lq, s_nth l (a * w + b) = some (.index q) ∧ (c + 1 < q ∧ q + 1 < h.1) ∧ PF h q lq (M a b)) ∧ ((z = 0 ∧ ∀ a b, a < r → b < w → dn i j a b → zp_deg (M a b) 11) ∨ (z = 5 ∧ ∃ a b, a < r ∧ b < w ∧ dn i j a b ∧ ¬ zp_deg (M a b) 11))
theorem MF_row {h0 h : s_H} {c r w : Nat} {M : Nat → Nat → zp_R} {i g : Nat} (H : MF h0 h c r w M i w g) : MF h0 h c r w M (i + 1) 0 g := by
  obtain ⟨F, e, ec, g2, l, z, h1, h2, h3, h4, h5⟩ := H
  have d1 : ∀ {a b : Nat}, b < w → dn (i + 1) 0 a b → dn i w a b := fun {a b} hb q => by unfold dn at *; omega
  refine ⟨F, e, ec, g2, l, z, h1, h2, h3, fun a b ha hb q => h4 a b ha hb (d1 hb q), ?_⟩
  rcases h5 with ⟨z0, h5⟩ | ⟨z5, a, b, ha, hb, q, ne⟩
  · exact .inl ⟨z0, fun a b ha hb q => h5 a b ha hb (d1 hb q)⟩
  · exact .inr ⟨z5, a, b, ha, hb, by unfold dn at *; omega, ne⟩
/-- the rows lent, or new cells, have changed -/
theorem MF_F {h0 h h' : s_H} {c r w : Nat} {M : Nat → Nat → zp_R} {i j g g' : Nat} (H : MF h0 h c r w M i j g) (F : CF PR h h') (lo : 39 ≤ h0.1) (e : h'.1 = h.1 + g') : MF h0 h' c r w M i j (g + g') := by
  obtain ⟨F0, e0, ec, g2, l, z, h1, h2, h3, h4, h5⟩ := H
  have s : ∀ j, 39 ≤ j → j < h.1 → s_get h' j = s_get h j := fun j j1 j2 => F.2 j (fun p => by unfold PR at p; omega) (.inl j2)
  refine ⟨CF_trans F0 F, by omega, ec, by omega, l, z, (s c (by omega) (by omega)).trans h1, (s (c + 1) (by omega) (by omega)).trans h2, h3, fun a b ha hb q => ?_, h5⟩
  obtain ⟨p, lp, y1, y2, y3⟩ := h4 a b ha hb q
  exact ⟨p, lp, y1, by omega, PF_same y3 (s p (by omega) (by omega)) (s (p + 1) (by omega) (by omega))⟩
theorem idx_ne {w a b i j : Nat} (hb : b < w) (hj : j < w) (ne : ¬ (a = i ∧ b = j)) : a * w + b ≠ i * w + j := fun e => by
  rcases Nat.lt_trichotomy a i with q | q | q
  · have := Nat.mul_le_mul_right w (show a + 1 ≤ i by omega)
    rw [Nat.succ_mul] at this
    omega
  · subst q
    omega
  · have := Nat.mul_le_mul_right w (show i + 1 ≤ a by omega)
    rw [Nat.succ_mul] at this
    omega
section
variable {D : Nat} {h h0 : s_H}
/-- one entry is put down -/
theorem u_setEntry {c r w : Nat} {M : Nat → Nat → zp_R} {i j g q lq : Nat} (lo : 39 ≤ h0.1) (H : MF h0 h c r w M i j g) (ir : i < r) (jw : j < w) (r4 : r ≤ 4) (w4 : w ≤ 4) (qc : c + 1 < q) (q1 : q + 1 < h.1) (P : PF h q lq (M i j)) : wm sw_P (D + 1) 271 [.index c, vi (i : Int), vi (j : Int), .index q] h (fun out => ∃ h', MF h0 h' c r w M i (j + 1) g ∧ (∀ x, x < 39 → s_get h' x = s_get h x) ∧ h'.1 = h.1 ∧ (∀ x, x ≠ c → x ≠ c + 1 → s_get h' x = s_get h x) ∧ out = (.inl none, h', 0, 0)) := by
  refine wm_in (cd := sw_c271) (nL := 4) (hd := sw_h271) rfl rfl ?_
  obtain ⟨F0, e0, ec, g2, l, z, h1, h2, h3, h4, h5⟩ := H
  obtain ⟨e, gg, Pp, b, _, el, lL⟩ := id P
  have be := b.1
  have bd : i * w + j < r * w := by
    have := Nat.mul_le_mul_right w (show i + 1 ≤ r by omega)
    rw [Nat.succ_mul] at this
    omega
  have b16 : r * w ≤ 4 * 4 := Nat.mul_le_mul r4 w4
  have ex : (i : Int) * (w : Int) + (j : Int) = ((i * w + j : Nat) : Int) := by rw [Int.natCast_add, Int.natCast_mul]
  have fin : ∀ (hb : s_H) (z' : Int), hb.1 = h.1 → (∀ x, x ≠ c → s_get hb x = s_get h x) → s_get hb c = some (1, 8, [vi 2, .null, .null, vi (r : Int), vi (w : Int), .index (c + 1), .null, vi z']) → ((z' = z ∧ e ≤ 10) ∨ (z' = 5 ∧ ¬ e ≤ 10)) → wr sw_P D sw_c271 sw_h271 (14, [.index c, vi (i : Int), vi (j : Int), .index q], [], hb, 0, 0) (fun out => ∃ h', MF h0 h' c r w M i (j + 1) g ∧ (∀ x, x < 39 → s_get h' x = s_get h x) ∧ h'.1 = h.1 ∧ (∀ x, x ≠ c → x ≠ c + 1 → s_get h' x = s_get h x) ∧ out = (.inl none, h', 0, 0)) := fun hb z' b1 bn bc hz => by
    have gl : s_get hb (c + 1) = some (0, 2, l) := (bn _ (by omega)).trans h2
    have Pb := PF_same P (bn q (by omega)) (bn (q + 1) (by omega))
    refine k271_14 (z7 := (w : Int)) (a11 := l) (tg13 := 2) bc gl (s_okA_at (.inl rfl) (PF_c Pb)) ?_ (c16 := by rw [ex, h3]; omega) (c17 := by rw [ex]; omega) (c18 := by rw [ex]; unfold In3; omega) (c19 := by omega)
    rw [ex, show (((i * w + j : Nat) : Int)).toNat = i * w + j by omega]
    have nn : ∀ x, x ≠ c → x ≠ c + 1 → s_get (hp hb (c + 1) (0, 2, l.set (i * w + j) (.index q))) x = s_get h x := fun x x1 x2 => (hp_ne gl x2).trans (bn x x1)
    refine ⟨_, ⟨⟨by show h0.1 ≤ hb.1; omega, fun x p hx => ?_⟩, by show hb.1 = _; omega, ec, g2, l.set (i * w + j) (.index q), z', (hp_ne gl (by omega)).trans bc, hp_at gl, by rw [List.length_set]; exact h3, fun a b' ha hb' qd => ?_, ?_⟩, fun x hx => nn x (by omega) (by omega), b1, nn, rfl⟩
    · have eq : (hp hb (c + 1) (0, 2, l.set (i * w + j) (.index q))).1 = hb.1 := rfl
      rw [eq] at hx
      exact (nn x (by omega) (by omega)).trans (F0.2 x p (by omega))
    · by_cases same : a = i ∧ b' = j
      · obtain ⟨rfl, rfl⟩ := same
        refine ⟨q, lq, by rw [nth_set (by rw [h3]; exact bd), if_pos rfl], ⟨qc, by show q + 1 < hb.1; omega⟩, PF_same P (nn q (by omega) (by omega)) (nn (q + 1) (by omega) (by omega))⟩
      · obtain ⟨p, lp, y1, y2, y3⟩ := h4 a b' ha hb' (by unfold dn at *; omega)
        refine ⟨p, lp, by rw [nth_set (by rw [h3]; exact bd), if_neg (idx_ne hb' jw same)]; exact y1, ⟨y2.1, by show p + 1 < hb.1; omega⟩, PF_same y3 (nn p (by omega) (by omega)) (nn (p + 1) (by omega) (by omega))⟩
    · rcases hz with ⟨hz, e10⟩ | ⟨hz, e10⟩
      · rcases h5 with ⟨z0, h5⟩ | ⟨z5, a, b', ha, hb', qd, ne⟩
        · refine .inl ⟨by omega, fun a b' ha hb' qd => ?_⟩
          by_cases same : a = i ∧ b' = j
          · obtain ⟨rfl, rfl⟩ := same
            exact dgp_deg b (by omega)
          · exact h5 a b' ha hb' (by unfold dn at *; omega)
        · exact .inr ⟨by omega, a, b', ha, hb', by unfold dn at *; omega, ne⟩
      · refine .inr ⟨hz, i, j, ir, jw, by unfold dn; omega, fun d => ?_⟩
        exact b.2.2 e.toNat (by omega) (d _ (by omega))
  refine k271_0 (z5 := e) Pp.2.1 (fun w => fin h z rfl (fun _ _ => rfl) h1 (.inl ⟨rfl, w⟩)) (fun w => k271_9 h1 (fin _ 5 rfl (fun x hx => hp_ne h1 hx) (hp_at h1) (.inr ⟨rfl, w⟩))) (c7 := by unfold In3; omega)
/-- a new matrix with no entries -/
theorem u_empty (lo : 39 ≤ h.1) (rm : RM h 2) {r w : Nat} (r1 : 1 ≤ r ∧ r ≤ 4) (w1 : 1 ≤ w ∧ w ≤ 4) (M : Nat → Nat → zp_R) : wm sw_P (D + 2) 137 [.index 354, vi (r : Int), vi (w : Int)] h (fun out => ∃ h', MF h h' h.1 r w M 0 0 2 ∧ CF PN h h' ∧ out = (.inl (some (.index h.1)), h', 2, 8 + r * w)) := by
  refine wm_in (cd := sw_c137) (nL := 3) (hd := sw_h137) rfl rfl ?_
  obtain ⟨c0, r0⟩ := rm h.1 (Nat.le_refl _) (by omega)
  obtain ⟨c1, r1'⟩ := rm (h.1 + 1) (by omega) (by omega)
  have ex : (r : Int) * (w : Int) = ((r * w : Nat) : Int) := by rw [Int.natCast_mul]
  have b16 : r * w ≤ 4 * 4 := Nat.mul_le_mul r1.2 w1.2
  have q1 : (hq h (1, 8, s_df 8)).1 = h.1 + 1 := rfl
  have g4 : s_get (hq h (1, 8, s_df 8)) ((hq h (1, 8, s_df 8))).1 = some c1 := by
    show s_get (hq h (1, 8, s_df 8)) (h.1 + 1) = _
    rw [hq_get r0, if_neg (by omega)]
    exact r1'
  obtain ⟨ha, eha⟩ : ∃ ha, hq (hq h (1, 8, s_df 8)) (0, 2, List.replicate (Int.toNat ((r : Int) * (w : Int))) (.null)) = ha := ⟨_, rfl⟩
  have a1 : ha.1 = h.1 + 2 := by rw [← eha]; rfl
  have an : ∀ j, j ≠ h.1 → j ≠ h.1 + 1 → s_get ha j = s_get h j := fun j j1 j2 => by
    rw [← eha, hq_get g4, q1, if_neg (show j ≠ h.1 + 1 from j2), hq_get r0, if_neg j1]
  have ac : s_get ha h.1 = some (1, 8, s_df 8) := by rw [← eha, hq_get g4, q1, if_neg (show h.1 ≠ h.1 + 1 by omega), hq_get r0, if_pos rfl]
  have al' : s_get ha (h.1 + 1) = some (0, 2, List.replicate (r * w) .null) := by
    rw [← eha, hq_get g4, q1, if_pos rfl, ex]
    rfl
  refine k137_0 r0 g4 ?_ (c5 := by rw [ex]; omega) (c6 := by rw [ex]; unfold In3; omega) (c7 := by rw [ex]; omega)
  rw [eha]
  refine wm_mono (fun out => ?_) (u_initM (q := h.1) (a := h.1 + 1) (x := (r : Int)) (y := (w : Int)) (by omega) ac)
  intro ⟨hb, bc, bn, b1, eo⟩
  rw [eo]
  have bF : CF PN h hb := ⟨by omega, fun j _ hj => (bn j (by omega)).trans (an j (by omega) (by omega))⟩
  refine ⟨rfl, k137_15 ⟨hb, ⟨CF_NA bF, by omega, rfl, Nat.le_refl _, List.replicate (r * w) .null, 0, bc, (bn _ (by omega)).trans al', List.length_replicate, fun a b _ _ q => by unfold dn at q; omega, .inl ⟨rfl, fun a b _ _ q => by unfold dn at q; omega⟩⟩, bF, ?_⟩⟩
  have : (Int.toNat ((r : Int) * (w : Int))) = r * w := by rw [ex]; omega
  rw [this]
  show (_, _, 0 + 1 + 1 + 0, 0 + 8 + r * w + 0) = _
  simp only [Nat.zero_add, Nat.add_zero]
/-- a row kept -/
theorem r_kept {d nx kc ks k n : Nat} {cd : s_Cd} {hd : List s_Hd} {ls rest : List Term} {Q : s_O → Prop} {l : List zp_R} (R : RW h k n l) (lo : 39 ≤ h.1) (rm : RM h 2) (j : Nat) {f : zp_R} (e : l[j]? = some f) (K : ∀ h' L, L ≤ 192 → PF h' h.1 L f → h'.1 = h.1 + 2 → CF PN h h' → RW h' k n l → wr sw_P d cd hd (nx, ls, .index h.1 :: rest, h', kc + 2, ks + (2 + L)) Q) : wm sw_P (D + 2) 170 [.index (7 + 2 * (k + j))] h (wq sw_P d cd hd nx ls rest kc ks Q) := by
  have P := RW_p R j e
  obtain ⟨d', _, _, b, _, el, _⟩ := id P
  have jn : j < n := by
    rw [← R.2.2.1]
    exact (List.getElem?_eq_some_iff.mp e).1
  have kn := R.2.1
  obtain ⟨c0, r0⟩ := rm h.1 (Nat.le_refl _) (by omega)
  obtain ⟨c1, r1⟩ := rm (h.1 + 1) (by omega) (by omega)
  refine wm_mono (fun out => ?_) (u_kept P b (by omega) (by omega) r0 r1)
  intro ⟨h', P', e1, nn, eo⟩
  rw [eo]
  exact K h' _ (by split <;> omega) P' e1 ⟨by omega, fun j _ w => nn j (by omega) (by omega)⟩ (RW_G R (fun j _ _ => nn j (by omega) (by omega)))
/-- a method that answers a matrix -/
def MN (h0 : s_H) (k r w : Nat) (M : Nat → Nat → zp_R) : s_O → Prop := fun out => ∃ h' a b, MF h0 h' h0.1 r w M r 0 (2 + 2 * (r * w)) ∧ AL h' k ∧ a ≤ 40 ∧ b ≤ 3400 ∧ out = (.inl (some (.index h0.1)), h', a, b)
theorem MF_K {h0 h : s_H} {r w g : Nat} {M : Nat → Nat → zp_R} (H : MF h0 h h0.1 r w M r 0 g) (lo : 1376 ≤ h0.1) (r1 : 1 ≤ r ∧ r ≤ 4) (w1 : 1 ≤ w ∧ w ≤ 4) : ∃ z : Int, s_get h h0.1 = some (1, 8, [vi 2, .null, .null, vi (r : Int), vi (w : Int), .index (h0.1 + 1), .null, vi z]) ∧ kt h h0.1 ∧ ((z = 0 ∧ KT h h0.1 (th_ma r w M)) ∨ (z = 5 ∧ ∃ a b, a < r ∧ b < w ∧ ¬ zp_deg (M a b) 11)) := by
  obtain ⟨F, e, _, g2, l, z, h1, h2, h3, h4, h5⟩ := H
  refine ⟨z, h1, ⟨lo, by omega⟩, ?_⟩
  rcases h5 with ⟨z0, h5⟩ | ⟨z5, a, b, ha, hb, q, ne⟩
  · refine .inl ⟨z0, h0.1 + 1, l, by rw [← z0]; exact h1, ⟨by omega, by omega⟩, h2, h3, r1, w1, fun a b ha hb => ?_⟩
    obtain ⟨p, lp, y1, y2, y3⟩ := h4 a b ha hb (.inl ha)
    exact ⟨p, lp, y1, .inr ⟨by omega, y2.2⟩, y3, h5 a b ha hb (.inl ha)⟩
  · exact .inr ⟨z5, a, b, ha, hb, ne⟩
end
