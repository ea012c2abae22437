/-! the class: setProduct -/
/-- as PF, but 0 may be told by any degree below 0 -/
def PW (h : s_H) (p L : Nat) (f : zp_R) : Prop := ∃ d g, PO h p L d g ∧ (dgp f d ∨ (f = zp_C 0 ∧ -1000 ≤ d ∧ d < 0)) ∧ (∀ i : Nat, (i : Int) ≤ d → g i = cf f i) ∧ d < L ∧ L ≤ 1000
theorem PF_W {h : s_H} {p L : Nat} {f : zp_R} (h1 : PF h p L f) : PW h p L f := by
  obtain ⟨d, g, a, b, c⟩ := h1
  exact ⟨d, g, a, .inl b, c⟩
theorem PW_keep {S : List Nat} {h h' : s_H} {q L : Nat} {f : zp_R} (hq : PW h q L f) (a : FU S h h') (s : ∀ p, p ∈ S → apt q p) : PW h' q L f := by
  obtain ⟨d, g, b, c⟩ := hq
  exact ⟨d, g, PO_keep b a s, c⟩
def isu (f g : zp_R) (k : Nat) : Nat → Int
  | 0 => 0
  | j + 1 => isu f g k j + cf f j * cf g (k - j)
theorem isu_b (f g : zp_R) (k : Nat) : ∀ j : Nat, 0 ≤ isu f g k j ∧ isu f g k j ≤ 1024128004 * (j : Int)
  | 0 => ⟨Int.le_refl _, Int.le_refl _⟩
  | j + 1 => by
    have a := isu_b f g k j
    have b := mm_le (cf_b f j) (cf_b g (k - j))
    unfold isu
    omega
theorem isu_F (f g : zp_R) (k : Nat) : ∀ j : Nat, nF (isu f g k j) = zp_sum (fun i => f.1 i * g.1 (k - i)) j
  | 0 => nF_0
  | j + 1 => by
    show nF (isu f g k j + cf f j * cf g (k - j)) = zp_sum (fun i => f.1 i * g.1 (k - i)) j + f.1 j * g.1 (k - j)
    rw [nF_add, isu_F f g k j, nF_mul, nF_cf, nF_cf]
theorem isu_0 {f g : zp_R} {k : Nat} : ∀ j : Nat, (∀ i, i < j → cf g (k - i) = 0) → isu f g k j = 0
  | 0, _ => rfl
  | j + 1, h => by
    unfold isu
    rw [isu_0 j (fun i hi2 => h i (by omega)), h j (by omega), Int.mul_zero]
    rfl
theorem dgp_mul {f g : zp_R} {a b : Int} (hf : dgp f a) (hg : dgp g b) (a0 : 0 ≤ a) (b0 : 0 ≤ b) : dgp (zp_mul f g) (a + b) := by
  have df : zp_deg f (a.toNat + 1) := dgp_deg hf (by omega)
  have dg : zp_deg g (b.toNat + 1) := dgp_deg hg (by omega)
  refine ⟨by omega, fun i hi2 => zp_deg_mul df dg i (by omega), fun i hi2 => ?_⟩
  have e : i = a.toNat + b.toNat := by omega
  rw [e, mul_top df dg]
  exact zp_F_mul0 (hf.2.2 a.toNat (by omega)) (hg.2.2 b.toNat (by omega))
theorem zp_mul_0 {f g : zp_R} (h : f = zp_C 0 ∨ g = zp_C 0) : zp_mul f g = zp_C 0 := by
  have h1 : ∀ {R : Type} [Lean.Grind.CommRing R] (x : R), 0 * x = 0 ∧ x * 0 = 0 := fun {R} _ x => by grind
  rcases h with e | e
  · rw [e]
    exact (@h1 zp_R zp_ring g).1
  · rw [e]
    exact (@h1 zp_R zp_ring f).2
section
variable {D : Nat} {h : s_H} {p L : Nat}
theorem u_setProduct (hE : PE h p L) (L0 : 0 < L) {a b La Lb : Nat} {f1 f2 : zp_R} (ha : PW h a La f1) (hb : PW h b Lb f2) (ap : apt a p) (bp : apt b p) (fit : ∀ e, dgp (zp_mul f1 f2) e → e < L) : wm sw_P (D + 1) 182 [.index p, .index a, .index b] h (UN [p] h (fun h' => PF h' p L (zp_mul f1 f2))) := by
  obtain ⟨⟨d, g, P, _, _⟩, lL⟩ := hE
  obtain ⟨d1, ga, PA, b1, c1, ea, la⟩ := ha
  obtain ⟨d2, gb, PB, b2, c2, eb, lb⟩ := hb
  have n1 : -1000 ≤ d1 := by
    rcases b1 with y | y
    · have := y.1; omega
    · omega
  have n2 : -1000 ≤ d2 := by
    rcases b2 with y | y
    · have := y.1; omega
    · omega
  refine wm_in (cd := sw_c182) (nL := 8) (hd := sw_h182) rfl rfl ?_
  have hlen : ((mk L g).map vi).length = L := by rw [List.length_map, mk_len]
  obtain ⟨r, er⟩ : ∃ r, zp_mul f1 f2 = r := ⟨_, rfl⟩
  have f1z : d1 < 0 → f1 = zp_C 0 := fun w => by
    rcases b1 with y | y
    · exact dgp_0 y w
    · exact y.1
  have f2z : d2 < 0 → f2 = zp_C 0 := fun w => by
    rcases b2 with y | y
    · exact dgp_0 y w
    · exact y.1
  rw [er]
  have zero : (d1 < 0 ∨ d2 < 0) → wr sw_P D sw_c182 sw_h182 (15, [.index p, .index a, .index b, .result, .result, .result, .result, .result], [.index p], h, 0, 0) (UN [p] h (fun h' => PF h' p L r)) := fun w => by
    have rz : r = zp_C 0 := by
      rw [← er]
      exact zp_mul_0 (w.elim (fun y => .inl (f1z y)) (fun y => .inr (f2z y)))
    obtain ⟨P1, F1⟩ := PO_d P (-1)
    refine k182_15 (k182_28 (z10 := -1) (a15 := (mk L g).map vi) (tg17 := 0) P.2.1 P1.2.1 P1.2.2 (fun _ => ?_) (fun y => absurd (by rw [hlen]; omega) y) (c5 := P.1) (c18 := by decide) (c19 := by rw [hlen]; unfold In3; omega))
    refine k182_48 (z5 := -1) P1.2.1 (k182_53 (fun _ => k182_153 ⟨_, ⟨-1, g, P1, ?_, fun i hi2 => absurd hi2 (by omega), by omega, lL⟩, F1, rfl⟩) (fun y => absurd (by decide) y) (c1 := by decide))
    rw [rz]
    exact dgp_C0
  refine k182_0 (z6 := d1) PA.2.1 (fun w => zero (.inl w)) (fun w1 => ?_) (c8 := by unfold In3; omega)
  refine k182_8 (z5 := d2) PB.2.1 (fun w2 => ?_) (fun w2 => zero (.inr (by omega))) (c7 := by unfold In3; omega)
  have D1 : dgp f1 d1 := b1.resolve_right (fun y => by omega)
  have D2 : dgp f2 d2 := b2.resolve_right (fun y => by omega)
  have Dr : dgp r (d1 + d2) := by
    rw [← er]
    exact dgp_mul D1 D2 (by omega) w2
  have fr : d1 + d2 < L := fit (d1 + d2) (by rw [er]; exact Dr)
  obtain ⟨P1, F1⟩ := PO_d P (d1 + d2)
  refine k182_19 (z5 := d1) (z11 := d2) PA.2.1 PB.2.1 ?_
  refine k182_28 (z10 := d1 + d2) (a15 := (mk L g).map vi) (tg17 := 0) P.2.1 P1.2.1 P1.2.2 (fun _ => ?_) (fun y => absurd (by rw [hlen]; omega) y) (c5 := P.1) (c18 := by unfold In3; omega) (c19 := by rw [hlen]; unfold In3; omega)
  refine k182_48 (z5 := d1 + d2) P1.2.1 ?_
  have rc : ∀ k, cf r k = isu f1 f2 k (k + 1) % 32003 := fun k => by
    unfold cf
    rw [← er]
    show (((zp_c f1.1 f2.1 k) : zp_F).val : Int) = _
    rw [← nF_v, isu_F]
    rfl
  have cut : ∀ (k last : Nat), (d1 : Int) ≤ last → last ≤ k → isu f1 f2 k (k + 1) = isu f1 f2 k (last + 1) := fun k last h1 h2 => by
    obtain ⟨e, ee⟩ : ∃ e, k + 1 = last + 1 + e := ⟨k - last, by omega⟩
    rw [ee]
    clear ee h2
    induction e with
    | zero => rfl
    | succ e ih =>
      show isu f1 f2 k (last + 1 + e) + cf f1 (last + 1 + e) * cf f2 (k - (last + 1 + e)) = _
      rw [ih, cf_0i (D1.2.1 (last + 1 + e) (by omega)), Int.zero_mul, Int.add_zero]
  have outer : ∀ (q : Nat) (h' : s_H) (g' : Nat → Int) (t4 t5 t6 t7 : Term), (q : Int) ≤ d1 + d2 + 1 → PO h' p L (d1 + d2) g' → FU [p] h h' → (∀ j : Nat, q ≤ j → (j : Int) ≤ d1 + d2 → g' j = cf r j) → wr sw_P D sw_c182 sw_h182 (53, [.index p, .index a, .index b, vi ((q : Int) - 1), t4, t5, t6, t7], [], h', 0, 0) (UN [p] h (fun h' => PF h' p L r)) := by
    intro q
    induction q with
    | zero =>
      intro h' g' t4 t5 t6 t7 hq P' F' G
      exact k182_53 (fun _ => k182_153 ⟨h', ⟨d1 + d2, g', P', Dr, fun i hi2 => G i (Nat.zero_le _) hi2, fr, lL⟩, F', rfl⟩) (fun y => absurd (by decide) y) (c1 := by decide)
    | succ q ih =>
      intro h' g' t4 t5 t6 t7 hq P' F' G
      have PA' := PO_keep PA F' (fun z hz => by rw [List.mem_singleton.mp hz]; exact ap)
      have PB' := PO_keep PB F' (fun z hz => by rw [List.mem_singleton.mp hz]; exact bp)
      rw [show ((q + 1 : Nat) : Int) - 1 = (q : Int) by omega]
      refine k182_53 (fun y => absurd y (by omega)) (fun _ => ?_) (c1 := by unfold In3; omega)
      -- the sum
      have inner : ∀ (last : Nat), (last = q ∨ ((last : Int) = d1 ∧ last ≤ q)) → (last : Int) ≤ d1 → ∀ (l j : Nat) (t5 : Term), j + l = last + 1 → (q : Int) - j ≤ d2 → wr sw_P D sw_c182 sw_h182 (98, [.index p, .index a, .index b, vi (q : Int), vl (isu f1 f2 q j), t5, vi (last : Int), vi (j : Int)], [], h', 0, 0) (UN [p] h (fun h' => PF h' p L r)) := by
        intro last hl hl1 l
        induction l with
        | zero =>
          intro j t5 hj _
          have ej : j = last + 1 := by omega
          subst ej
          have ib := isu_b f1 f2 q (last + 1)
          obtain ⟨P2, F2⟩ := PO_g P' (fun t => if t = q then cf r q else g' t)
          refine k182_98 (fun _ => ?_) (fun y => absurd (by omega) y) (c1 := by unfold In3; omega) (c2 := by unfold In3; omega)
          refine k182_134 (a9 := mk L g') P'.2.1 P'.2.2 ?_ (c7 := in6_of (by omega) (by omega)) (c11 := by rw [mk_len]; omega) (c12 := by omega) (c13 := by unfold In3; omega)
          have e1 : isu f1 f2 q (q + 1) = isu f1 f2 q (last + 1) := by
            rcases hl with y | y
            · rw [y]
            · exact cut q last (by omega) y.2
          have e2 : Int.tmod (isu f1 f2 q (last + 1)) 32003 = cf r q := by rw [Int.tmod_eq_emod_of_nonneg ib.1, rc, e1]
          rw [e2, mk_set, show (q : Int) + (-1) = (q : Int) - 1 by omega]
          refine ih _ _ _ _ _ _ (by omega) P2 (FU_trans F' F2) (fun i h1 h2 => ?_)
          show (if i = q then cf r q else g' i) = _
          by_cases y : i = q
          · rw [if_pos y, y]
          · rw [if_neg y]
            exact G i (by omega) h2
        | succ l ihl =>
          intro j t5 hj hd
          have g1 : gi (mk La ga) (j : Int) = cf f1 j := by rw [gi_mkn (by omega)]; exact c1 j (by omega)
          have g2 : gi (mk Lb gb) ((q : Int) - (j : Int)) = cf f2 (q - j) := by
            rw [show (q : Int) - (j : Int) = ((q - j : Nat) : Int) by omega, gi_mkn (by omega)]
            exact c2 (q - j) (by omega)
          have mm := mm_le (cf_b f1 j) (cf_b f2 (q - j))
          refine k182_98 (fun y => absurd y (by omega)) (fun _ => ?_) (c1 := by unfold In3; omega) (c2 := by unfold In3; omega)
          refine k182_105 (a8 := mk La ga) (a20 := mk Lb gb) PA'.2.1 PA'.2.2 PB'.2.1 PB'.2.2 ?_ (c10 := by rw [mk_len]; omega) (c11 := by omega) (c12 := by unfold In3; omega) (c22 := by rw [mk_len]; omega) (c23 := by omega) (c24 := by unfold In3; omega) (c25 := by rw [g1, g2]; unfold In3; omega)
          rw [g1, g2, show (j : Int) + 1 = ((j + 1 : Nat) : Int) by omega]
          exact ihl (j + 1) _ (by omega) (by omega)
      have at76 : ∀ (last : Nat) (t5 t6 t7 : Term), (last = q ∨ ((last : Int) = d1 ∧ last ≤ q)) → (last : Int) ≤ d1 → wr sw_P D sw_c182 sw_h182 (76, [.index p, .index a, .index b, vi (q : Int), vl 0, t5, t6, t7], [vi (last : Int)], h', 0, 0) (UN [p] h (fun h' => PF h' p L r)) := fun last t5 t6 t7 hl hl1 => by
        refine k182_76 (z5 := d2) PB'.2.1 (fun y => k182_95 (k182_96 ?_)) (fun y => k182_86 (z5 := d2) PB'.2.1 (k182_96 ?_)) (c7 := by unfold In3; omega) (c8 := by unfold In3; omega)
        · exact inner last hl hl1 (last + 1) 0 _ (Nat.zero_add _) (by omega)
        · obtain ⟨fr0, ef⟩ : ∃ z : Nat, (q : Int) - d2 = z := ⟨((q : Int) - d2).toNat, by omega⟩
          have z0 : isu f1 f2 q fr0 = 0 := isu_0 fr0 (fun i hi2 => cf_0i (D2.2.1 (q - i) (by omega)))
          rw [ef, ← z0]
          exact inner last hl hl1 (last + 1 - fr0) fr0 _ (by omega) (by omega)
      refine k182_57 (z5 := d1) PA'.2.1 (fun y => ?_) (fun y => k182_68 (at76 q _ _ _ (.inl rfl) (by omega))) (c7 := by unfold In3; omega) (c8 := by unfold In3; omega)
      refine k182_72 (z5 := d1) PA'.2.1 ?_
      have := at76 d1.toNat .result t6 t7 (.inr ⟨by omega, by omega⟩) (by omega)
      rw [show (d1.toNat : Int) = d1 by omega] at this
      exact this
  have := outer (d1 + d2 + 1).toNat _ g .result .result .result .result (by omega) P1 F1 (fun j h1 h2 => absurd h1 (by omega))
  rw [show (((d1 + d2 + 1).toNat : Nat) : Int) - 1 = d1 + d2 by omega] at this
  exact this
end
