/-! the reference's findFactors: parts are put down as factors, the least first -/
section
variable {d : Nat} {h : s_H} {s : Nat → Int} {A : Nat → Nat → Int}
theorem W_sort {Q : s_O → Prop} {p m : Nat} (hp : P9 p = true) (hp9 : p = 1298 ∨ p = 1299) {G : zp_R} (hG : A p = cf G) (dG : zp_deg G 176) (G0 : G ≠ zp_C 0) (m40 : m ≤ 40) {P : Nat → zp_R} (ir : ∀ j, j < m → irr (P j)) (dg : ∀ j, j < m → zp_deg (P j) 42) (dis : ∀ i j, i < j → j < m → P i ≠ P j) {x2 : Int} (K : ∀ (F : Nat → zp_R) (D O : Nat → Nat) (gb : Nat → Bool) (s2 : Nat → Int) (A2 : Nat → Nat → Int) (h2 : s_H) (x3 : Int) (t4 t5 : Term), RV h2 s2 A2 → FR h h2 → sm A A2 kfR → (∀ j, j ≠ 26 → s2 j = s j) → s2 26 = (m : Int) → cho P m m gb F → (∀ i, i < m → pt A2 1315 i = cf (F i) ∧ A2 1314 i = (D i : Int) ∧ A2 1316 i = (O i : Int) ∧ mon (F i) (D i) ∧ oft G (F i) (O i) ∧ O i ≤ 176) → wr sw_P (d + 5) sw_c450 sw_h450 (194, [.index 1290, .index p, vi x2, vi x3, t4, t5], [], h2, 0, 0) Q) : ∀ (l c : Nat) (F : Nat → zp_R) (D O : Nat → Nat) (gb : Nat → Bool) (s2 : Nat → Int) (A2 : Nat → Nat → Int) (h2 : s_H) (t4 t5 : Term), c + l = m → RV h2 s2 A2 → FR h h2 → sm A A2 kfR → (∀ j, j ≠ 26 → s2 j = s j) → s2 33 = (m : Int) → s2 26 = (c : Int) → cho P m c gb F → (∀ j, j < m → pt A2 1319 j = cf (if gb j = true then zp_C 0 else P j)) → (∀ i, i < c → pt A2 1315 i = cf (F i) ∧ A2 1314 i = (D i : Int) ∧ A2 1316 i = (O i : Int) ∧ mon (F i) (D i) ∧ oft G (F i) (O i) ∧ O i ≤ 176) → wr sw_P (d + 5) sw_c450 sw_h450 (122, [.index 1290, .index p, vi x2, vi (c : Int), t4, t5], [], h2, 0, 0) Q := by
  intro l
  induction l with
  | zero =>
    intro c F D O gb s2 A2 h2 t4 t5 hc v r a q em e26 ch g fa
    have cm : c = m := by omega
    subst cm
    refine k450_122 (z5 := (c : Int)) v.1 (fun _ => K F D O gb s2 A2 h2 _ _ _ v r a q e26 ch fa) (fun w => absurd (by omega) w) (n6 := by
      show some (vi (s2 33)) = _
      rw [em]) (c7 := by unfold In3; omega) (c8 := by unfold In3; omega)
  | succ l ih =>
    intro c F D O gb s2 A2 h2 t4 t5 hc v r a q em e26 ch g fa
    refine k450_122 (z5 := (m : Int)) v.1 (fun w => absurd w (by omega)) (fun _ => k450_130 ?_) (n6 := by
      show some (vi (s2 33)) = _
      rw [em]) (c7 := by unfold In3; omega) (c8 := by unfold In3; omega)
    have gone : ∀ j, j < m → gb j = true → pt A2 1319 j = cf (zp_C 0) := fun j hj w => by rw [g j hj, if_pos w]
    have here_ : ∀ j, j < m → gb j = false → pt A2 1319 j = cf (P j) := fun j hj w => by rw [g j hj, if_neg (by rw [w]; decide)]
    have nz : ∀ j, j < m → P j ≠ zp_C 0 := fun j hj => mo_n0 (irr_mo (ir j hj))
    have inner : ∀ (l2 j : Nat) (x4 : Int), j + l2 = m → ((x4 = -1 ∧ ∀ i, i < j → gb i = true) ∨ ∃ k : Nat, k < j ∧ x4 = (k : Int) ∧ gb k = false ∧ ∀ i, i < j → gb i = false → ¬ ahd (P i) (P k)) → wr sw_P (d + 5) sw_c450 sw_h450 (136, [.index 1290, .index p, vi x2, vi (c : Int), vi x4, vi (j : Int)], [], h2, 0, 0) Q := by
      intro l2
      induction l2 with
      | zero =>
        intro j x4 hj w
        have jm : j = m := by omega
        subst jm
        refine k450_136 (z5 := (j : Int)) v.1 (fun _ => ?_) (fun w2 => absurd (by omega) w2) (n6 := by
          show some (vi (s2 33)) = _
          rw [em]) (c7 := by unfold In3; omega) (c8 := by unfold In3; omega)
        obtain ⟨i0, i1, i2⟩ := cntb_lt (g := gb) j (by rw [ch.1]; omega)
        rcases w with ⟨_, w⟩ | ⟨k, k1, k2, k3, k4⟩
        · rw [w i0 i1] at i2; exact Bool.noConfusion i2
        · subst k2
          obtain ⟨⟨n0, n1, mn⟩, _⟩ := id (ir k k1)
          refine k450_181 v.1 (wm_mono (wq_N (fun h3 s3 A3 v3 r3 φ => ?_)) (V_keepFactor v (p := p) (k := k) (F := c) hp hp9 (by omega) e26 (by omega) (here_ k k1 k3) mn.1 mn.2 n1 ((a p (by rcases hp9 with e | e <;> rw [e] <;> rfl)).trans hG) dG G0))
          obtain ⟨es3, a3, p3, f3, ⟨d1, d2⟩, o, o1, o2, o3, o4⟩ := φ
          refine k450_188 ?_
          have := ih (c + 1) (pu F c (P k)) (fun i => if i = c then n0 else D i) (fun i => if i = c then o else O i) (setb gb k) s3 A3 h3 (vi (k : Int)) (vi (j : Int)) (by omega) v3 (FR_trans r r3) (sm_tr a a3) (fun i hi2 => by rw [es3, up_ne _ _ hi2]; exact q i hi2) (by rw [es3, up_ne _ _ (by decide)]; exact em) (by rw [es3, up_at]; omega) (cho_s ch k1 k3 k4 dis) (fun i hi2 => by
            by_cases e : i = k
            · rw [e, setb_at, if_pos rfl]; exact p3.1
            · rw [setb_ne e, p3.2 i e]; exact g i hi2) (fun i hi2 => by
            by_cases e : i = c
            · rw [e, pu_at, if_pos rfl, if_pos rfl]
              exact ⟨f3.1, d1, o3, mn, o1, o2⟩
            · rw [pu_ne e, if_neg e, if_neg e, f3.2 i e, d2 i e, o4 i e]
              exact fa i (by omega))
          exact this
      | succ l2 ih2 =>
        intro j x4 hj w
        have x4b : -1 ≤ x4 ∧ x4 < 41 := by
          rcases w with ⟨w, _⟩ | ⟨k, k1, k2, _⟩ <;> omega
        refine k450_136 (z5 := (m : Int)) v.1 (fun w2 => absurd w2 (by omega)) (fun _ => ?_) (n6 := by
          show some (vi (s2 33)) = _
          rw [em]) (c7 := by unfold In3; omega) (c8 := by unfold In3; omega)
        refine k450_145 v.1 (wm_mono (fun o ⟨z, hz, ho⟩ => wq_r ?_ o ho) (V_isGone v (k := j) (f := if gb j = true then zp_C 0 else P j) (by omega) (g j (by omega))))
        rcases Bool.eq_false_or_eq_true (gb j) with e | e
        · have z1 : z = 1 := by
            rcases hz with ⟨hz, _⟩ | ⟨_, hz⟩
            · exact hz
            · rw [if_pos e] at hz; exact absurd rfl hz
          subst z1
          refine k450_151 (fun _ => k450_175 ?_) (fun w2 => absurd (by decide) w2) (c1 := by decide)
          have := ih2 (j + 1) x4 (by omega) (by
            rcases w with ⟨w1, w2⟩ | ⟨k, k1, k2, k3, k4⟩
            · exact .inl ⟨w1, fun i hi2 => by
                by_cases ij : i = j
                · rw [ij]; exact e
                · exact w2 i (by omega)⟩
            · exact .inr ⟨k, by omega, k2, k3, fun i hi2 gi2 => by
                by_cases ij : i = j
                · rw [ij, e] at gi2; exact Bool.noConfusion gi2
                · exact k4 i (by omega) gi2⟩)
          exact this
        · have z0 : z = 0 := by
            rcases hz with ⟨_, hz⟩ | ⟨hz, _⟩
            · rw [if_neg (by rw [e]; decide)] at hz
              exact absurd hz (nz j (by omega))
            · exact hz
          subst z0
          refine k450_151 (fun w2 => absurd rfl w2) (fun _ => ?_) (c1 := by decide)
          refine k450_154 (fun w2 => ?_) (fun w2 => ?_) (c1 := by unfold In3; omega)
          · refine k450_171 (k450_175 ?_)
            have := ih2 (j + 1) (j : Int) (by omega) (by
              rcases w with ⟨w1, w3⟩ | ⟨k, k1, k2, _⟩
              · exact .inr ⟨j, by omega, rfl, e, fun i hi2 gi2 => by
                  by_cases ij : i = j
                  · rw [ij]; exact ahd_irr _
                  · rw [w3 i (by omega)] at gi2; exact Bool.noConfusion gi2⟩
              · omega)
            exact this
          · rcases w with ⟨w, _⟩ | ⟨k, k1, k2, k3, k4⟩
            · exact absurd w w2
            · subst k2
              refine k450_160 v.1 (wm_mono (fun o ⟨z, hz, ho⟩ => wq_r ?_ o ho) (V_isAhead v (i := j) (k := k) (by omega) (by omega) (here_ j (by omega) e) (here_ k (by omega) k3) (nz j (by omega)) (nz k (by omega))))
              rcases hz with ⟨z1, hz⟩ | ⟨z0, hz⟩
              · subst z1
                refine k450_168 (fun w3 => absurd w3 (by decide)) (fun _ => k450_171 (k450_175 ?_)) (c1 := by decide)
                have := ih2 (j + 1) (j : Int) (by omega) (.inr ⟨j, by omega, rfl, e, fun i hi2 gi2 w4 => by
                  by_cases ij : i = j
                  · rw [ij] at w4; exact ahd_irr _ w4
                  · exact k4 i (by omega) gi2 (ahd_tr w4 hz)⟩)
                exact this
              · subst z0
                refine k450_168 (fun _ => k450_175 ?_) (fun w3 => absurd rfl w3) (c1 := by decide)
                have := ih2 (j + 1) (k : Int) (by omega) (.inr ⟨k, by omega, rfl, k3, fun i hi2 gi2 w4 => by
                  by_cases ij : i = j
                  · rw [ij] at w4; exact hz w4
                  · exact k4 i (by omega) gi2 w4⟩)
                exact this
    exact inner m 0 (-1) (by omega) (.inl ⟨rfl, fun i hi2 => absurd hi2 (Nat.not_lt_zero i)⟩)
end
