/-! the class's minors: which of them aren't 0 -/
/-- alive: for the first n sets of rows, the sets of columns whose determinant isn't 0 -/
def AVd (g : Nat → Int) (M : Nat → Nat → zp_R) (w n : Nat) : Prop := ∀ rm, rm < n → ∃ x : Nat, g rm = (x : Int) ∧ x < 2 ^ 16 ∧ ∀ c, c < 16 → (x.testBit c = true ↔ (c < 2 ^ w ∧ bts c = bts rm ∧ mnq M w rm c ≠ zp_C 0))
theorem MI_8 {h : s_H} (I : MI h) (g : Nat → Int) : MI (hp h 356 (ai 16 g)) := by
  obtain ⟨a1, a2, ⟨g1, a3⟩, ⟨g2, a4⟩, a5⟩ := I
  have nn : ∀ j, j ≠ 356 → s_get (hp h 356 (ai 16 g)) j = s_get h j := fun j hj => hp_ne a3 hj
  exact ⟨(nn _ (by decide)).trans a1, (nn _ (by decide)).trans a2, ⟨g, hp_at a3⟩, ⟨g2, (nn _ (by decide)).trans a4⟩, fun i hi2 => PE_same (a5 i hi2) (nn _ (by omega)) (nn _ (by omega))⟩
theorem bts_4 {m : Nat} (hm : m < 16) : bts m ≤ 4 := lt16 (p := fun r => bts r ≤ 4) (by decide +kernel) m hm
def MA : List Nat := 356 :: MS
theorem FA_8 {k : Nat} {h h' : s_H} (e1 : h'.1 = h.1) (e : ∀ j, j ≠ 356 → s_get h' j = s_get h j) : FA MA k h h' := ⟨e1, fun j j1 _ _ => e j (fun q => (j1 356 (by decide)).1 q)⟩
theorem FA_SA {k : Nat} {h h' : s_H} (F : FA MS k h h') : FA MA k h h' := FA_sub F (Nat.le_refl _) (fun _ q => .inl (List.mem_cons_of_mem _ q))
theorem CF_MA {k : Nat} {h h' : s_H} (a : FA MA k h h') : CF PS h h' := CF_FA a (fun p hp => by
  rcases List.mem_cons.mp hp with q | q
  · exact ⟨.inr (by omega), .inr (by omega)⟩
  · have := MS_b p q
    exact ⟨.inr (by omega), .inr (by omega)⟩) (fun j j1 j2 => .inl ⟨j1, j2⟩)
section
variable {D : Nat} {h : s_H} {k : Nat}
theorem u_survey (A : AL h k) (hk : k + 2 < 16) (I : MI h) (lo : 1376 ≤ h.1) {a r w : Nat} {M : Nat → Nat → zp_R} (K : KT h a (th_ma r w M)) (ka : kt h a) : wm sw_P (D + 6) 149 [.index 354, .index a] h (fun out => ∃ h', FA MA k h h' ∧ AL h' k ∧ MI h' ∧ (∃ g, s_get h' 356 = some (ai 16 g) ∧ AVd g M w (2 ^ r)) ∧ out = (.inl none, h', 0, 0)) := by
  refine wm_in (cd := sw_c149) (nL := 5) (hd := sw_h149) rfl rfl ?_
  obtain ⟨r14, w14⟩ := KT_rw K
  have r2 := Nat.pow_le_pow_right (show 0 < 2 by decide) r14.2
  have w2 := Nat.pow_le_pow_right (show 0 < 2 by decide) w14.2
  have gcF : ∀ {h' : s_H}, FA MA k h h' → ∃ e, s_get h' a = some (1, 8, [vi 2, .null, .null, vi (r : Int), vi (w : Int), .index e, .null, vi 0]) := fun F => KT_ce (KT_keep K ka (CF_MA F) FX_S lo)
  have eL : (mns.length : Int) = 16 := rfl
  have eA : ∀ g, (((mk 16 g).map vi).length : Int) = 16 := fun g => by rw [List.length_map, mk_len]; rfl
  refine k149_0 ?_
  have outer : ∀ (l m : Nat) (h' : s_H) (t3 t4 : Term) (g : Nat → Int), m + l = 2 ^ r → FA MA k h h' → AL h' k → MI h' → s_get h' 356 = some (ai 16 g) → AVd g M w m → wr sw_P (D + 5) sw_c149 sw_h149 (2, [.index 354, .index a, vi (m : Int), t3, t4], [], h', 0, 0) (fun out => ∃ h', FA MA k h h' ∧ AL h' k ∧ MI h' ∧ (∃ g, s_get h' 356 = some (ai 16 g) ∧ AVd g M w (2 ^ r)) ∧ out = (.inl none, h', 0, 0)) := by
    intro l
    induction l with
    | zero =>
      intro m h' t3 t4 g hm F A' I' g6 V
      have em : m = 2 ^ r := by omega
      rw [em] at V
      obtain ⟨_, gc⟩ := gcF F
      refine k149_2 (z5 := (r : Int)) gc (fun _ => k149_114 ⟨h', F, A', I', ⟨g, g6, V⟩, rfl⟩) (fun q => absurd ?_ q) (c7 := by unfold In3; omega) (c8 := by rw [zs (by omega)]; unfold In3; omega)
      rw [zs (by omega)]
      omega
    | succ l ih =>
      intro m h' t3 t4 g hm F A' I' g6 V
      obtain ⟨_, gc⟩ := gcF F
      have m16 : m < 16 := by omega
      have lo' : 1376 ≤ h'.1 := by rw [F.1]; exact lo
      have ka' : kt h' a := kt_le ka (by rw [F.1]; exact Nat.le_refl _)
      refine k149_2 (z5 := (r : Int)) gc (fun q => absurd q ?_) (fun _ => ?_) (c7 := by unfold In3; omega) (c8 := by rw [zs (by omega)]; unfold In3; omega)
      · rw [zs (by omega)]
        omega
      have eA' := eA g
      refine k149_12 (a8 := (mk 16 g).map vi) (tg10 := 0) I'.1 g6 (fun q => absurd q (by omega)) (fun _ => ?_) (c11 := by unfold In3; omega) (c12 := by unfold In3; omega)
      refine k149_21 I'.1 (wm_mono (fun out => ?_) (u_find A' hk I' lo' (KT_keep K ka (CF_MA F) FX_S lo) ka' (rm := m) (by omega)))
      intro ⟨h1, F1, A1, I1, Fd, eo⟩
      rw [eo]
      have F1' := FA_trans F (FA_SA F1)
      have P1 : ∀ c, c < 16 → c < 2 ^ w → bts c = bts m → PF h1 (358 + 2 * c) 41 (mnq M w m c) := fun c c1 c2 cb => by
        have := Fd c c1 c2 (Nat.le_of_eq cb)
        rw [cb, pre_all m16] at this
        exact this
      have g61 : s_get h1 356 = some (ai 16 g) := (F1.2 356 (fun p hp => by have := MS_b p hp; omega) (.inr (by decide)) (by decide)).trans g6
      refine k149_27 (a8 := mk 16 g) I1.1 g61 ?_ (c10 := by rw [mk_len]; omega) (c11 := by omega) (c12 := by unfold In3; omega)
      rw [mk_set, show Int.toNat (m : Int) = m by omega]
      have inner : ∀ (p c : Nat) (h2 : s_H) (t4 : Term) (g2 : Nat → Int) (x : Nat), c + p = 2 ^ w → FA MA k h h2 → AL h2 k → MI h2 → (∀ c, c < 16 → c < 2 ^ w → bts c = bts m → PF h2 (358 + 2 * c) 41 (mnq M w m c)) → s_get h2 356 = some (ai 16 g2) → AVd g2 M w m → g2 m = (x : Int) → x < 2 ^ 16 → (∀ c', c' < 16 → (x.testBit c' = true ↔ (c' < c ∧ c' < 2 ^ w ∧ bts c' = bts m ∧ mnq M w m c' ≠ zp_C 0))) → wr sw_P (D + 5) sw_c149 sw_h149 (36, [.index 354, .index a, vi (m : Int), vi (c : Int), t4], [], h2, 0, 0) (fun out => ∃ h', FA MA k h h' ∧ AL h' k ∧ MI h' ∧ (∃ g, s_get h' 356 = some (ai 16 g) ∧ AVd g M w (2 ^ r)) ∧ out = (.inl none, h', 0, 0)) := by
        intro p
        induction p with
        | zero =>
          intro c h2 t4 g2 x hc F2 A2 I2 P2 g62 V2 gx xl xs
          have ec : c = 2 ^ w := by omega
          obtain ⟨_, gc2⟩ := gcF F2
          refine k149_36 (z5 := (w : Int)) gc2 (fun _ => k149_108 ?_) (fun q => absurd ?_ q) (c7 := by unfold In3; omega) (c8 := by rw [zs (by omega)]; unfold In3; omega)
          · refine ih (m + 1) h2 _ t4 g2 (by omega) F2 A2 I2 g62 (fun rm hrm => ?_)
            by_cases em : rm = m
            · subst em
              exact ⟨x, gx, xl, fun c' hc' => (xs c' hc').trans ⟨fun q => q.2, fun q => ⟨by rw [ec]; exact q.1, q⟩⟩⟩
            · exact V2 rm (by omega)
          · rw [zs (by omega)]
            omega
        | succ p ih2 =>
          intro c h2 t4 g2 x hc F2 A2 I2 P2 g62 V2 gx xl xs
          obtain ⟨_, gc2⟩ := gcF F2
          have c16 : c < 16 := by omega
          refine k149_36 (z5 := (w : Int)) gc2 (fun q => absurd q ?_) (fun _ => ?_) (c7 := by unfold In3; omega) (c8 := by rw [zs (by omega)]; unfold In3; omega)
          · rw [zs (by omega)]
            omega
          refine k149_46 I2.1 I2.2.1 (fun q => absurd q (by omega)) (fun _ => ?_) (c11 := by unfold In3; omega) (c12 := by unfold In3; omega)
          have b1 := bts_4 c16
          have b2 := bts_4 m16
          refine k149_55 (wm_mono (wq_r ?_) (u_bits c16))
          refine k149_59 (wm_mono (wq_r ?_) (u_bits m16))
          have skip : ∀ z4 : Int, ¬ (bts c = bts m ∧ mnq M w m c ≠ zp_C 0) → wr sw_P (D + 5) sw_c149 sw_h149 (102, [.index 354, .index a, vi (m : Int), vi (c : Int), vi z4], [], h2, 0, 0) (fun out => ∃ h', FA MA k h h' ∧ AL h' k ∧ MI h' ∧ (∃ g, s_get h' 356 = some (ai 16 g) ∧ AVd g M w (2 ^ r)) ∧ out = (.inl none, h', 0, 0)) := fun z4 no => k149_102 (ih2 (c + 1) h2 _ g2 x (by omega) F2 A2 I2 P2 g62 V2 gx xl (fun c' hc' => (xs c' hc').trans ⟨fun q => ⟨by omega, q.2⟩, fun q => ⟨by
            have : c' ≠ c := fun e => by
              subst e
              exact no q.2.2
            omega, q.2⟩⟩))
          refine k149_63 (fun q => k149_70 (k149_71 (fun _ => skip _ (fun q2 => q (by omega))) (fun q2 => absurd rfl q2))) (fun q => k149_66 (k149_71 (fun q2 => absurd q2 (by decide)) (fun _ => ?_))) (c1 := by unfold In3; omega) (c2 := by unfold In3; omega)
          have cm : bts c = bts m := by omega
          have Pc := P2 c c16 (by omega) cm
          obtain ⟨z, _, Po, b, _, el, lL⟩ := id Pc
          have be := b.1
          refine k149_78 (v11 := .index (358 + 2 * c)) (z19 := z) I2.1 I2.2.1 Po.2.1 (fun q2 => skip _ (fun q3 => q3.2 (dgp_0 b q2))) (fun q2 => ?_) (n12 := by rw [show Int.toNat (c : Int) = c by omega]; exact mns_g c16) (c14 := by unfold In3; omega) (c15 := by omega) (c21 := by unfold In3; omega)
          have ne : mnq M w m c ≠ zp_C 0 := fun q3 => by
            have := dgp_none q3 b
            omega
          refine k149_90 (a9 := mk 16 g2) I2.1 g62 ?_ (c11 := by rw [mk_len]; omega) (c12 := by omega) (c13 := by unfold In3; omega)
          have c31 : 2 ^ c < 2 ^ 16 := Nat.pow_lt_pow_right (by decide) c16
          rw [mk_set, show Int.toNat (m : Int) = m by omega, gi_mkn m16, gx, zi_shl (by omega), zi_or (by omega) (by omega)]
          have nn : ∀ j, j ≠ 356 → s_get (hp h2 356 (ai 16 (fun t => if t = m then ((x ||| 2 ^ c : Nat) : Int) else g2 t))) j = s_get h2 j := fun j hj => hp_ne g62 hj
          refine k149_102 (ih2 (c + 1) _ _ _ (x ||| 2 ^ c) (by omega) (FA_trans F2 (FA_8 rfl nn)) (AL_same A2 (fun j _ _ => nn j (by omega))) (MI_8 I2 _) (fun c c1 c2 cb => PF_same (P2 c c1 c2 cb) (nn _ (by omega)) (nn _ (by omega))) (hp_at g62) (fun rm hrm => ?_) (if_pos rfl) (Nat.or_lt_two_pow xl c31) (fun c' hc' => ?_))
          · obtain ⟨y, y1, y2⟩ := V2 rm hrm
            exact ⟨y, (if_neg (by omega)).trans y1, y2⟩
          · rw [Nat.testBit_or, Nat.testBit_two_pow, Bool.or_eq_true, xs c' hc', decide_eq_true_eq]
            constructor
            · intro q
              rcases q with q | q
              · exact ⟨by omega, q.2⟩
              · subst q
                exact ⟨by omega, by omega, cm, ne⟩
            · intro q
              by_cases e : c = c'
              · exact .inr e
              · exact .inl ⟨by omega, q.2⟩
      have nn : ∀ j, j ≠ 356 → s_get (hp h1 356 (ai 16 (fun t => if t = m then 0 else g t))) j = s_get h1 j := fun j hj => hp_ne g61 hj
      refine inner (2 ^ w) 0 _ _ _ 0 (by omega) (FA_trans F1' (FA_8 rfl nn)) (AL_same A1 (fun j _ _ => nn j (by omega))) (MI_8 I1 _) (fun c c1 c2 cb => PF_same (P1 c c1 c2 cb) (nn _ (by omega)) (nn _ (by omega))) (hp_at g61) (fun rm hrm => ?_) (if_pos rfl) (by decide) (fun c' _ => ⟨fun q => by simp at q, fun q => absurd q.1 (Nat.not_lt_zero c')⟩)
      obtain ⟨y, y1, y2⟩ := V rm hrm
      exact ⟨y, (if_neg (by omega)).trans y1, y2⟩
  obtain ⟨g, g6⟩ := I.2.2.1
  exact outer (2 ^ r) 0 h _ _ g (by omega) (FA_refl MA k h) A I g6 (fun rm q => absurd q (Nat.not_lt_zero rm))
end
