/-! the reference's sheet: the cells that a text names, what a cell hangs on, whether it is due -/
/-- the sheet's numbers are small -/
def ShB (A : Nat → Nat → Int) : Prop := (∀ c, c < 16 → (0 ≤ A 1367 c ∧ A 1367 c ≤ 60) ∧ (0 ≤ A 1371 c ∧ A 1371 c ≤ 100) ∧ In3 (A 1372 c) ∧ In3 (A 1373 c) ∧ In3 (A 1374 c)) ∧ ∀ i, i < 960 → 0 ≤ A 1368 i ∧ A 1368 i ≤ 255
/-- the set of the cells that the first k letters of cell c's text name -/
def nmd (A : Nat → Nat → Int) (c : Nat) : Nat → Nat
  | 0 => 0
  | k + 1 => nmd A c k ||| (if 65 ≤ A 1368 (60 * c + k) ∧ A 1368 (60 * c + k) ≤ 80 then 2 ^ (A 1368 (60 * c + k) - 65).toNat else 0)
theorem nmd_lt (A : Nat → Nat → Int) (c : Nat) : ∀ k, nmd A c k < 2 ^ 16
  | 0 => show 0 < 2 ^ 16 by decide
  | k + 1 => by
    refine Nat.or_lt_two_pow (nmd_lt A c k) ?_
    split
    · exact Nat.pow_lt_pow_right (by decide) (by omega)
    · decide
def nms (A : Nat → Nat → Int) (c : Nat) : Nat := nmd A c (A 1367 c).toNat
theorem nms_lt (A : Nat → Nat → Int) (c : Nat) : nms A c < 2 ^ 16 := nmd_lt A c _
/-- a set, and what its first k cells name -/
def hgi (A : Nat → Nat → Int) (x : Nat) : Nat → Nat
  | 0 => x
  | k + 1 => hgi A x k ||| (if (hgi A x k).testBit k = true then nms A k else 0)
theorem hgi_lt (A : Nat → Nat → Int) {x : Nat} (hx : x < 2 ^ 16) : ∀ k, hgi A x k < 2 ^ 16
  | 0 => hx
  | k + 1 => by
    refine Nat.or_lt_two_pow (hgi_lt A hx k) ?_
    split
    · exact nms_lt A k
    · decide
def hgs (A : Nat → Nat → Int) (c : Nat) : Nat → Nat
  | 0 => nms A c
  | p + 1 => hgi A (hgs A c p) 16
theorem hgs_lt (A : Nat → Nat → Int) (c : Nat) : ∀ p, hgs A c p < 2 ^ 16
  | 0 => nms_lt A c
  | p + 1 => hgi_lt A (hgs_lt A c p) 16
/-- what cell c hangs on -/
def hng (A : Nat → Nat → Int) (c : Nat) : Nat := hgs A c 16
def wkb (A : Nat → Nat → Int) (c : Nat) : Prop := 0 < A 1367 c ∧ (hng A c).testBit c = false
def wkd (A : Nat → Nat → Int) (c : Nat) : Prop := A 1373 c < A 1374 c ∧ ∀ k, k < 16 → (hng A c).testBit k = true → A 1373 k < A 1374 c
def due (A : Nat → Nat → Int) (c : Nat) : Prop := wkb A c ∧ ¬ wkd A c
def hsf (A : Nat → Nat → Int) (c : Nat) : Prop := wkb A c ∧ A 1371 c = 0
section
variable {d : Nat} {h : s_H} {s : Nat → Int} {A : Nat → Nat → Int}
theorem V_named (hv : RV h s A) (hB : ShB A) {c : Nat} (hc : c < 16) : wm sw_P (d + 2) 535 [.index 1290, vi (c : Int)] h (qr (vi (nms A c : Int)) h) := by
  refine wm_in (cd := sw_c535) (nL := 5) (hd := sw_h535) rfl rfl ?_
  have bc := (hB.1 c hc).1
  obtain ⟨L, eL⟩ : ∃ L : Nat, A 1367 c = L := ⟨(A 1367 c).toNat, by omega⟩
  have eLn : (A 1367 c).toNat = L := by omega
  have e67 : gi (mk 16 (A 1367)) (c : Int) = (L : Int) := by rw [gi_mkn (by omega), eL]
  have loop : ∀ (l k : Nat) (t4 : Term), k + l = L → wr sw_P (d + 1) sw_c535 sw_h535 (4, [.index 1290, vi (c : Int), vi (nmd A c k : Int), vi (k : Int), t4], [], h, 0, 0) (qr (vi (nms A c : Int)) h) := by
    intro l
    induction l with
    | zero =>
      intro k t4 hk
      have ek : k = L := by omega
      subst ek
      refine k535_4 hv.1 (Ra_cellLength hv) (fun _ => k535_62 ?_) (fun w => absurd (by rw [e67]; omega) w) (c10 := by rw [mk_len]; omega) (c11 := by omega) (c12 := by unfold In3; omega) (c13 := by unfold In3; omega) (c14 := by rw [e67]; unfold In3; omega)
      unfold nms
      rw [eLn]
    | succ l ih =>
      intro k t4 hk
      have b := hB.2 (60 * c + k) (by omega)
      have e68 : gi (mk 960 (A 1368)) (60 * (c : Int) + (k : Int)) = A 1368 (60 * c + k) := by
        rw [show 60 * (c : Int) + (k : Int) = ((60 * c + k : Nat) : Int) by omega, gi_mkn (by omega)]
      have nl := nmd_lt A c k
      refine k535_4 hv.1 (Ra_cellLength hv) (fun w => absurd w (by rw [e67]; omega)) (fun _ => ?_) (c10 := by rw [mk_len]; omega) (c11 := by omega) (c12 := by unfold In3; omega) (c13 := by unfold In3; omega) (c14 := by rw [e67]; unfold In3; omega)
      refine k535_14 hv.1 (Ra_cellText hv) (wm_mono (wq_r ?_) (t_in (by rw [e68]; exact in6_of (by omega) (by omega)) (by decide) (by decide))) (c10 := by rw [mk_len]; omega) (c11 := by omega) (c12 := by unfold In3; omega) (c13 := by rw [e68]; unfold In3; omega)
      rw [e68]
      have go : ∀ y : Nat, y < 2 ^ 31 → nmd A c (k + 1) = nmd A c k ||| y → wr sw_P (d + 1) sw_c535 sw_h535 (54, [.index 1290, vi (c : Int), vi (nmd A c k : Int), vi (k : Int), vi (A 1368 (60 * c + k))], [vi (y : Int), vi (nmd A c k : Int)], h, 0, 0) (qr (vi (nms A c : Int)) h) := fun y hy e => by
        refine k535_54 ?_
        rw [zi_or (by omega) hy, ← e]
        exact ih (k + 1) _ (by omega)
      by_cases w : 65 ≤ A 1368 (60 * c + k) ∧ A 1368 (60 * c + k) ≤ 80
      · rw [if_pos w]
        refine k535_40 (fun w2 => absurd w2 (by decide)) (fun _ => k535_43 ?_) (c1 := by decide)
        obtain ⟨j, ej⟩ : ∃ j : Nat, A 1368 (60 * c + k) - 65 = (j : Int) := ⟨(A 1368 (60 * c + k) - 65).toNat, by omega⟩
        rw [ej, zi_shl (by omega)]
        have p16 : 2 ^ j < 2 ^ 16 := Nat.pow_lt_pow_right (by decide) (by omega)
        refine go (2 ^ j) (by omega) ?_
        show nmd A c k ||| (if 65 ≤ A 1368 (60 * c + k) ∧ A 1368 (60 * c + k) ≤ 80 then 2 ^ (A 1368 (60 * c + k) - 65).toNat else 0) = _
        rw [if_pos w, ej]
        rfl
      · rw [if_neg w]
        refine k535_40 (fun _ => k535_53 (go 0 (by decide) ?_)) (fun w2 => absurd rfl w2) (c1 := by decide)
        show nmd A c k ||| (if 65 ≤ A 1368 (60 * c + k) ∧ A 1368 (60 * c + k) ≤ 80 then 2 ^ (A 1368 (60 * c + k) - 65).toNat else 0) = _
        rw [if_neg w]
  exact k535_0 (loop L 0 _ (Nat.zero_add L))
theorem V_hangs (hv : RV h s A) (hB : ShB A) {c : Nat} (hc : c < 16) : wm sw_P (d + 3) 460 [.index 1290, vi (c : Int)] h (qr (vi (hng A c : Int)) h) := by
  refine wm_in (cd := sw_c460) (nL := 5) (hd := sw_h460) rfl rfl ?_
  refine k460_0 hv.1 (wm_mono (wq_r (k460_5 ?_)) (V_named hv hB hc))
  have passes : ∀ (l p : Nat) (t4 : Term), p + l = 16 → wr sw_P (d + 2) sw_c460 sw_h460 (8, [.index 1290, vi (c : Int), vi (hgs A c p : Int), vi (p : Int), t4], [], h, 0, 0) (qr (vi (hng A c : Int)) h) := by
    intro l
    induction l with
    | zero =>
      intro p t4 hp
      have ep : p = 16 := by omega
      subst ep
      exact k460_8 (fun _ => k460_59 rfl) (fun w => absurd (by decide) w) (c1 := by decide)
    | succ l ih =>
      intro p t4 hp'
      refine k460_8 (fun w => absurd w (by omega)) (fun _ => k460_14 ?_) (c1 := by unfold In3; omega)
      have cells : ∀ (l2 k : Nat), k + l2 = 16 → wr sw_P (d + 2) sw_c460 sw_h460 (17, [.index 1290, vi (c : Int), vi (hgi A (hgs A c p) k : Int), vi (p : Int), vi (k : Int)], [], h, 0, 0) (qr (vi (hng A c : Int)) h) := by
        intro l2
        induction l2 with
        | zero =>
          intro k hk
          have ek : k = 16 := by omega
          subst ek
          refine k460_17 (fun _ => k460_53 ?_) (fun w => absurd (by decide) w) (c1 := by decide)
          exact ih (p + 1) _ (by omega)
        | succ l2 ih2 =>
          intro k hk
          have lx := hgi_lt A (hgs_lt A c p) k
          have nl := nms_lt A k
          have eb := bit_in (x := hgi A (hgs A c p) k) (k := k) (by omega) (by omega)
          refine k460_17 (fun w => absurd w (by omega)) (fun _ => ?_) (c1 := by unfold In3; omega)
          have go : ∀ y : Nat, y < 2 ^ 31 → hgi A (hgs A c p) (k + 1) = hgi A (hgs A c p) k ||| y → wr sw_P (d + 2) sw_c460 sw_h460 (45, [.index 1290, vi (c : Int), vi (hgi A (hgs A c p) k : Int), vi (p : Int), vi (k : Int)], [vi (y : Int), vi (hgi A (hgs A c p) k : Int)], h, 0, 0) (qr (vi (hng A c : Int)) h) := fun y hy e => by
            refine k460_45 ?_
            rw [zi_or (by omega) hy, ← e]
            exact ih2 (k + 1) (by omega)
          by_cases w : (hgi A (hgs A c p) k).testBit k = true
          · rw [if_pos w] at eb
            refine k460_24 (fun w2 => absurd eb w2) (fun _ => ?_) (c1 := by rw [eb]; decide)
            refine k460_35 hv.1 (wm_mono (wq_r (k460_41 (go (nms A k) (by omega) ?_))) (V_named hv hB (c := k) (by omega)))
            show hgi A (hgs A c p) k ||| (if (hgi A (hgs A c p) k).testBit k = true then nms A k else 0) = _
            rw [if_pos w]
          · rw [if_neg w] at eb
            refine k460_24 (fun _ => k460_44 (go 0 (by decide) ?_)) (fun w2 => absurd (by rw [eb]; decide) w2) (c1 := by rw [eb]; decide)
            show hgi A (hgs A c p) k ||| (if (hgi A (hgs A c p) k).testBit k = true then nms A k else 0) = _
            rw [if_neg w]
      exact cells 16 0 (Nat.zero_add 16)
  exact passes 16 0 _ (Nat.zero_add 16)
theorem V_isCircle (hv : RV h s A) (hB : ShB A) {c : Nat} (hc : c < 16) : wm sw_P (d + 4) 474 [.index 1290, vi (c : Int)] h (qr (vi (if (hng A c).testBit c = true then 1 else 0)) h) := by
  refine wm_in (cd := sw_c474) (nL := 2) (hd := sw_h474) rfl rfl ?_
  have hl := hgs_lt A c 16
  have eb := bit_in (x := hng A c) (k := c) (show hng A c < 2 ^ 31 from Nat.lt_trans hl (by decide)) (by omega)
  refine k474_0 hv.1 (wm_mono (wq_r ?_) (V_hangs hv hB hc))
  by_cases w : (hng A c).testBit c = true
  · rw [if_pos w] at eb ⊢
    exact k474_5 (fun w2 => absurd eb w2) (fun _ => k474_13 (k474_18 rfl (c1 := .inr rfl))) (c1 := by rw [eb]; decide)
  · rw [if_neg w] at eb ⊢
    exact k474_5 (fun _ => k474_17 (k474_18 rfl (c1 := .inl rfl))) (fun w2 => absurd (by rw [eb]; decide) w2) (c1 := by rw [eb]; decide)
theorem V_isWorkable (hv : RV h s A) (hB : ShB A) {c : Nat} (hc : c < 16) : wm sw_P (d + 5) 493 [.index 1290, vi (c : Int)] h (fun out => ∃ z : Int, ((z = 1 ∧ wkb A c) ∨ (z = 0 ∧ ¬ wkb A c)) ∧ qr (vi z) h out) := by
  refine wm_in (cd := sw_c493) (nL := 2) (hd := sw_h493) rfl rfl ?_
  have bc := (hB.1 c hc).1
  have e67 : gi (mk 16 (A 1367)) (c : Int) = A 1367 c := gi_mkn (by omega)
  refine k493_0 hv.1 (Ra_cellLength hv) (fun w => ?_) (fun w => ?_) (c10 := by rw [mk_len]; omega) (c11 := by omega) (c12 := by unfold In3; omega) (c13 := by rw [e67]; unfold In3; omega)
  · rw [e67] at w
    exact k493_21 (k493_22 ⟨0, .inr ⟨rfl, fun w2 => by have := w2.1; omega⟩, rfl⟩ (c1 := .inl rfl))
  · rw [e67] at w
    refine k493_9 hv.1 (wm_mono (wq_r ?_) (V_isCircle hv hB hc))
    by_cases q : (hng A c).testBit c = true
    · rw [if_pos q]
      exact k493_14 (fun _ => k493_21 (k493_22 ⟨0, .inr ⟨rfl, fun w2 => by rw [w2.2] at q; exact Bool.noConfusion q⟩, rfl⟩ (c1 := .inl rfl))) (fun w2 => absurd (by decide) w2) (c1 := by decide)
    · rw [if_neg q]
      exact k493_14 (fun w2 => absurd rfl w2) (fun _ => k493_17 (k493_22 ⟨1, .inl ⟨rfl, by omega, Bool.eq_false_iff.mpr q⟩, rfl⟩ (c1 := .inr rfl))) (c1 := by decide)
theorem V_isWorked (hv : RV h s A) (hB : ShB A) {c : Nat} (hc : c < 16) : wm sw_P (d + 4) 494 [.index 1290, vi (c : Int)] h (fun out => ∃ z : Int, ((z = 1 ∧ wkd A c) ∨ (z = 0 ∧ ¬ wkd A c)) ∧ qr (vi z) h out) := by
  refine wm_in (cd := sw_c494) (nL := 5) (hd := sw_h494) rfl rfl ?_
  have hl := hgs_lt A c 16
  have e73 : ∀ k : Nat, k < 16 → gi (mk 16 (A 1373)) (k : Int) = A 1373 k := fun k hk => gi_mkn hk
  have e74 : gi (mk 16 (A 1374)) (c : Int) = A 1374 c := gi_mkn hc
  have bx : ∀ k, k < 16 → In3 (A 1373 k) ∧ In3 (A 1374 k) := fun k hk => (hB.1 k hk).2.2.2
  refine k494_0 hv.1 (wm_mono (wq_r ?_) (V_hangs hv hB hc))
  have loop : ∀ (l k : Nat) (x3 : Int), k + l = 16 → ((x3 = 1 ∧ A 1373 c < A 1374 c ∧ ∀ j, j < k → (hng A c).testBit j = true → A 1373 j < A 1374 c) ∨ (x3 = 0 ∧ ¬ wkd A c)) → wr sw_P (d + 3) sw_c494 sw_h494 (30, [.index 1290, vi (c : Int), vi (hng A c : Int), vi x3, vi (k : Int)], [], h, 0, 0) (fun out => ∃ z : Int, ((z = 1 ∧ wkd A c) ∨ (z = 0 ∧ ¬ wkd A c)) ∧ qr (vi z) h out) := by
    intro l
    induction l with
    | zero =>
      intro k x3 hk w
      have ek : k = 16 := by omega
      subst ek
      refine k494_30 (fun _ => k494_78 ⟨x3, ?_, rfl⟩ (c1 := by rcases w with ⟨w, _⟩ | ⟨w, _⟩ <;> omega)) (fun w2 => absurd (by decide) w2) (c1 := by decide)
      rcases w with ⟨w1, w2, w3⟩ | w
      · exact .inl ⟨w1, w2, w3⟩
      · exact .inr w
    | succ l ih =>
      intro k x3 hk w
      have eb := bit_in (x := hng A c) (k := k) (show hng A c < 2 ^ 31 from Nat.lt_trans hl (by decide)) (by omega)
      refine k494_30 (fun w2 => absurd w2 (by omega)) (fun _ => ?_) (c1 := by unfold In3; omega)
      rcases w with ⟨w1, w2, w3⟩ | ⟨w1, w2⟩
      · subst w1
        refine k494_37 (fun w4 => absurd w4 (by decide)) (fun _ => ?_) (c1 := by decide)
        by_cases q : (hng A c).testBit k = true
        · rw [if_pos q] at eb
          refine k494_41 (fun w4 => absurd (eb.symm.trans w4) (by decide)) (fun _ => ?_) (c1 := by rw [eb]; decide)
          refine k494_50 hv.1 (Ra_workedAt hv) (Ra_enteredAt hv) (fun w4 => k494_70 (k494_71 ?_)) (fun w4 => k494_66 (k494_71 ?_)) (c10 := by rw [mk_len]; omega) (c11 := by omega) (c12 := by unfold In3; omega) (c18 := by rw [mk_len]; omega) (c19 := by omega) (c20 := by unfold In3; omega) (c21 := by rw [e74]; exact (bx c hc).2) (c22 := by rw [e73 k (by omega)]; exact (bx k (by omega)).1)
          · rw [e74, e73 k (by omega)] at w4
            exact ih (k + 1) 0 (by omega) (.inr ⟨rfl, fun w5 => by have := w5.2 k (by omega) q; omega⟩)
          · rw [e74, e73 k (by omega)] at w4
            refine ih (k + 1) 1 (by omega) (.inl ⟨rfl, w2, fun j hj hb => ?_⟩)
            by_cases jk : j = k
            · rw [jk]; omega
            · exact w3 j (by omega) hb
        · rw [if_neg q] at eb
          refine k494_41 (fun _ => k494_66 (k494_71 ?_)) (fun w4 => absurd eb w4) (c1 := by rw [eb]; decide)
          refine ih (k + 1) 1 (by omega) (.inl ⟨rfl, w2, fun j hj hb => ?_⟩)
          by_cases jk : j = k
          · rw [jk] at hb; exact absurd hb q
          · exact w3 j (by omega) hb
      · subst w1
        refine k494_37 (fun _ => k494_70 (k494_71 ?_)) (fun w4 => absurd rfl w4) (c1 := by decide)
        exact ih (k + 1) 0 (by omega) (.inr ⟨rfl, w2⟩)
  refine k494_5 hv.1 (Ra_workedAt hv) (Ra_enteredAt hv) (fun w => ?_) (fun w => ?_) (c10 := by rw [mk_len]; omega) (c11 := by omega) (c12 := by unfold In3; omega) (c18 := by rw [mk_len]; omega) (c19 := by rw [e74]; exact (bx c hc).2) (c20 := by rw [e73 c hc]; exact (bx c hc).1)
  · rw [e74, e73 c hc] at w
    exact k494_25 (k494_26 (loop 16 0 0 (Nat.zero_add 16) (.inr ⟨rfl, fun w5 => by have := w5.1; omega⟩)))
  · rw [e74, e73 c hc] at w
    exact k494_21 (k494_26 (loop 16 0 1 (Nat.zero_add 16) (.inl ⟨rfl, by omega, fun j hj => absurd hj (Nat.not_lt_zero j)⟩)))
theorem V_isDue (hv : RV h s A) (hB : ShB A) {c : Nat} (hc : c < 16) : wm sw_P (d + 6) 476 [.index 1290, vi (c : Int)] h (fun out => ∃ z : Int, ((z = 1 ∧ due A c) ∨ (z = 0 ∧ ¬ due A c)) ∧ qr (vi z) h out) := by
  refine wm_in (cd := sw_c476) (nL := 2) (hd := sw_h476) rfl rfl ?_
  refine k476_0 hv.1 (wm_mono (fun o ⟨z, hz, ho⟩ => wq_r ?_ o ho) (V_isWorkable hv hB hc))
  rcases hz with ⟨e, w⟩ | ⟨e, w⟩
  · subst e
    refine k476_5 (fun w2 => absurd w2 (by decide)) (fun _ => ?_) (c1 := by decide)
    refine k476_8 hv.1 (wm_mono (fun o ⟨z, hz, ho⟩ => wq_r ?_ o ho) (V_isWorked hv hB hc))
    rcases hz with ⟨e, w2⟩ | ⟨e, w2⟩
    · subst e
      exact k476_13 (fun _ => k476_20 (k476_21 ⟨0, .inr ⟨rfl, fun w3 => w3.2 w2⟩, rfl⟩ (c1 := .inl rfl))) (fun w3 => absurd (by decide) w3) (c1 := by decide)
    · subst e
      exact k476_13 (fun w3 => absurd rfl w3) (fun _ => k476_16 (k476_21 ⟨1, .inl ⟨rfl, w, w2⟩, rfl⟩ (c1 := .inr rfl))) (c1 := by decide)
  · subst e
    exact k476_5 (fun _ => k476_20 (k476_21 ⟨0, .inr ⟨rfl, fun w3 => w w3.1⟩, rfl⟩ (c1 := .inl rfl))) (fun w2 => absurd rfl w2) (c1 := by decide)
theorem V_hasFraction (hv : RV h s A) (hB : ShB A) {c : Nat} (hc : c < 16) : wm sw_P (d + 6) 461 [.index 1290, vi (c : Int)] h (fun out => ∃ z : Int, ((z = 1 ∧ hsf A c) ∨ (z = 0 ∧ ¬ hsf A c)) ∧ qr (vi z) h out) := by
  refine wm_in (cd := sw_c461) (nL := 2) (hd := sw_h461) rfl rfl ?_
  have bc := (hB.1 c hc).2.1
  have e71 : gi (mk 16 (A 1371)) (c : Int) = A 1371 c := gi_mkn (by omega)
  refine k461_0 hv.1 (wm_mono (fun o ⟨z, hz, ho⟩ => wq_r ?_ o ho) (V_isWorkable hv hB hc))
  rcases hz with ⟨e, w⟩ | ⟨e, w⟩
  · subst e
    refine k461_5 (fun w2 => absurd w2 (by decide)) (fun _ => ?_) (c1 := by decide)
    refine k461_8 hv.1 (Ra_cellFault hv) (fun w2 => ?_) (fun w2 => ?_) (c10 := by rw [mk_len]; omega) (c11 := by omega) (c12 := by unfold In3; omega) (c13 := by rw [e71]; unfold In3; omega)
    · rw [e71] at w2
      exact k461_21 (k461_22 ⟨0, .inr ⟨rfl, fun w3 => w2 w3.2⟩, rfl⟩ (c1 := .inl rfl))
    · rw [e71] at w2
      exact k461_17 (k461_22 ⟨1, .inl ⟨rfl, w, Classical.byContradiction w2⟩, rfl⟩ (c1 := .inr rfl))
  · subst e
    exact k461_5 (fun _ => k461_21 (k461_22 ⟨0, .inr ⟨rfl, fun w3 => w w3.1⟩, rfl⟩ (c1 := .inl rfl))) (fun w2 => absurd rfl w2) (c1 := by decide)
end
