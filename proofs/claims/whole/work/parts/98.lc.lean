/-! the class's best rows; the call rank -/
abbrev sbc (c m : Nat) : Prop := ∀ j, j < 4 → bt c j ≤ bt m j
theorem z_sub {c m : Nat} (hc : c < 16) (hm : m < 16) : (zi 24 (c : Int) (zi 26 (m : Int) (-1)) = 0 ↔ sbc c m) ∧ 0 ≤ zi 24 (c : Int) (zi 26 (m : Int) (-1)) ∧ zi 24 (c : Int) (zi 26 (m : Int) (-1)) ≤ 15 := by
  have : ∀ c : Fin 16, ∀ m : Fin 16, (zi 24 (c.val : Int) (zi 26 (m.val : Int) (-1)) = 0 ↔ sbc c.val m.val) ∧ 0 ≤ zi 24 (c.val : Int) (zi 26 (m.val : Int) (-1)) ∧ zi 24 (c.val : Int) (zi 26 (m.val : Int) (-1)) ≤ 15 := by decide +kernel
  exact this ⟨c, hc⟩ ⟨m, hm⟩
/-- rows rm have a determinant of columns among cols that isn't 0 -/
def hsC (M : Nat → Nat → zp_R) (w cols rm : Nat) : Prop := ∃ c, c < 2 ^ w ∧ c < 16 ∧ sbc c cols ∧ bts c = bts rm ∧ mnq M w rm c ≠ zp_C 0
/-- the first rows, of the first n sets, that have one as great as can be -/
def bRs (M : Nat → Nat → zp_R) (R w cols n b : Nat) : Prop := b < 2 ^ R ∧ hsC M w cols b ∧ (∀ rm, rm < n → hsC M w cols rm → bts rm ≤ bts b) ∧ ∀ rm, rm < b → hsC M w cols rm → bts rm < bts b
theorem bt_0j (j : Nat) : bt 0 j = 0 := by
  unfold bt
  rw [Nat.zero_div]
theorem hsC_0 (M : Nat → Nat → zp_R) (w cols : Nat) : hsC M w cols 0 := ⟨0, Nat.pow_pos (by decide), by decide, fun j _ => by rw [bt_0j]; exact Nat.zero_le _, rfl, by rw [mnq_0]; exact C1_ne0⟩
theorem bts_R {R r : Nat} (hR : R ≤ 4) (hr : r < 2 ^ R) : bts r ≤ R := by
  have : ∀ R : Fin 5, ∀ r : Fin 16, r.val < 2 ^ R.val → bts r.val ≤ R.val := by decide +kernel
  exact this ⟨R, by omega⟩ ⟨r, pw16 hr hR⟩ hr
theorem sbc_15 {c : Nat} (hc : c < 16) : sbc c 15 := lt16 (p := fun c => sbc c 15) (by decide +kernel) c hc
theorem rk_bR {M : Nat → Nat → zp_R} {R w b : Nat} (hR : R ≤ 4) (hw : w ≤ 4) (B : bRs M R w 15 (2 ^ R) b) : rkS R w M (bts b) := by
  obtain ⟨b1, ⟨c, c1, c2, _, c4, c5⟩, b3, _⟩ := B
  refine ⟨⟨bts_R hR b1, by rw [← c4]; exact bts_R hw c1⟩, fun _ => ⟨_, ⟨b, c, b1, c1, rfl, c4, rfl⟩, c5⟩, fun k hk _ _ f ⟨r, c', q1, q2, q3, q4, q5⟩ => ?_⟩
  rw [q5]
  by_cases e : mnq M w r c' = zp_C 0
  · exact e
  · have := b3 r q1 ⟨c', q2, pw16 q2 hw, sbc_15 (pw16 q2 hw), by omega, e⟩
    omega
section
variable {D : Nat} {h : s_H} {k : Nat}
theorem u_bestRows (I : MI h) {a r w : Nat} {M : Nat → Nat → zp_R} (K : KT h a (th_ma r w M)) {g : Nat → Int} (g6 : s_get h 356 = some (ai 16 g)) (V : AVd g M w (2 ^ r)) {cols : Nat} (hc : cols < 16) : wm sw_P (D + 2) 135 [.index 354, .index a, vi (cols : Int)] h (fun out => ∃ b, bRs M r w cols (2 ^ r) b ∧ qr (vi (b : Int)) h out) := by
  refine wm_in (cd := sw_c135) (nL := 7) (hd := sw_h135) rfl rfl ?_
  obtain ⟨r14, w14⟩ := KT_rw K
  obtain ⟨_, gc⟩ := KT_ce K
  have r2 := Nat.pow_le_pow_right (show 0 < 2 by decide) r14.2
  have w2 := Nat.pow_le_pow_right (show 0 < 2 by decide) w14.2
  have eA : (((mk 16 g).map vi).length : Int) = 16 := by rw [List.length_map, mk_len]; rfl
  refine k135_0 ?_
  have outer : ∀ (l n b : Nat) (t5 t6 : Term), n + l = 2 ^ r → bRs M r w cols n b → wr sw_P (D + 1) sw_c135 sw_h135 (5, [.index 354, .index a, vi (cols : Int), vi (b : Int), vi (n : Int), t5, t6], [], h, 0, 0) (fun out => ∃ b, bRs M r w cols (2 ^ r) b ∧ qr (vi (b : Int)) h out) := by
    intro l
    induction l with
    | zero =>
      intro n b t5 t6 hn B
      have en : n = 2 ^ r := by omega
      rw [en] at B
      refine k135_5 (z5 := (r : Int)) gc (fun _ => k135_103 ⟨b, B, rfl⟩) (fun q => absurd ?_ q) (c7 := by unfold In3; omega) (c8 := by rw [zs (by omega)]; unfold In3; omega)
      rw [zs (by omega)]
      omega
    | succ l ih =>
      intro n b t5 t6 hn B
      have n16 : n < 16 := by omega
      have b16 : b < 16 := by have := B.1; omega
      have n4 := bts_4 n16
      have b4 := bts_4 b16
      refine k135_5 (z5 := (r : Int)) gc (fun q => absurd q ?_) (fun _ => ?_) (c7 := by unfold In3; omega) (c8 := by rw [zs (by omega)]; unfold In3; omega)
      · rw [zs (by omega)]
        omega
      refine k135_16 (a8 := (mk 16 g).map vi) (tg10 := 0) I.1 g6 (fun q => absurd q (by omega)) (fun _ => ?_) (c11 := by unfold In3; omega) (c12 := by unfold In3; omega)
      refine k135_26 (wm_mono (wq_r ?_) (u_bits n16))
      refine k135_31 (wm_mono (wq_r ?_) (u_bits b16))
      have done : ∀ (x y : Int) (b' : Nat), bRs M r w cols (n + 1) b' → wr sw_P (D + 1) sw_c135 sw_h135 (97, [.index 354, .index a, vi (cols : Int), vi (b' : Int), vi (n : Int), vi x, vi y], [], h, 0, 0) (fun out => ∃ b, bRs M r w cols (2 ^ r) b ∧ qr (vi (b : Int)) h out) := fun x y b' B' => k135_97 (ih (n + 1) b' _ _ (by omega) B')
      have same : (hsC M w cols n → bts n ≤ bts b) → bRs M r w cols (n + 1) b := fun q => ⟨B.1, B.2.1, fun rm hrm hs => by
        by_cases e : rm = n
        · subst e
          exact q hs
        · exact B.2.2.1 rm (by omega) hs, B.2.2.2⟩
      refine k135_35 (fun q => k135_42 (k135_43 ?_)) (fun q => k135_38 (k135_43 ?_)) (c1 := by unfold In3; omega) (c2 := by unfold In3; omega)
      · exact k135_48 (fun q => absurd q (by decide)) (fun _ => k135_55 (fun _ => done 0 0 b (same (fun _ => by omega))) (fun q => absurd rfl q) (c1 := by decide)) (c1 := by decide)
      · obtain ⟨x, gx, xl, xs⟩ := V n (by omega)
        have inner : ∀ (p c : Nat), c + p = 16 → (∀ c', c' < c → ¬ (c' < 2 ^ w ∧ sbc c' cols ∧ bts c' = bts n ∧ mnq M w n c' ≠ zp_C 0)) → wr sw_P (D + 1) sw_c135 sw_h135 (48, [.index 354, .index a, vi (cols : Int), vi (b : Int), vi (n : Int), vi 1, vi (c : Int)], [], h, 0, 0) (fun out => ∃ b, bRs M r w cols (2 ^ r) b ∧ qr (vi (b : Int)) h out) := by
          intro p
          induction p with
          | zero =>
            intro c hc2 no
            refine k135_48 (fun _ => done 1 c b (same (fun ⟨c', q1, q2, q3, q4, q5⟩ => absurd ⟨q1, q3, q4, q5⟩ (no c' (by omega))))) (fun q => absurd (by omega) q) (c1 := by unfold In3; omega)
          | succ p ih2 =>
            intro c hc2 no
            have c16 : c < 16 := by omega
            obtain ⟨s1, s2, s3⟩ := z_sub c16 hc
            have bi := bit_in (x := x) (k := c) (by omega) (by omega)
            have nxt : ¬ (c < 2 ^ w ∧ sbc c cols ∧ bts c = bts n ∧ mnq M w n c ≠ zp_C 0) → wr sw_P (D + 1) sw_c135 sw_h135 (91, [.index 354, .index a, vi (cols : Int), vi (b : Int), vi (n : Int), vi 1, vi (c : Int)], [], h, 0, 0) (fun out => ∃ b, bRs M r w cols (2 ^ r) b ∧ qr (vi (b : Int)) h out) := fun q => k135_91 (ih2 (c + 1) (by omega) (fun c' hc' => by
              by_cases e : c' = c
              · rw [e]
                exact q
              · exact no c' (by omega)))
            have gn : gi (mk 16 g) (n : Int) = (x : Int) := by rw [gi_mkn n16]; exact gx
            refine k135_48 (fun q => absurd q (by omega)) (fun _ => k135_55 (fun q => absurd q (by decide)) (fun _ => ?_) (c1 := by decide)) (c1 := by unfold In3; omega)
            refine k135_60 (fun q => nxt (fun q2 => q (s1.mpr q2.2.1))) (fun q => ?_) (c1 := by unfold In3; omega)
            have sb : sbc c cols := s1.mp (Decidable.not_not.mp q)
            refine k135_69 (a8 := mk 16 g) I.1 g6 (fun q2 => nxt (fun q3 => ?_)) (fun q2 => ?_) (c10 := by rw [mk_len]; omega) (c11 := by omega) (c12 := by unfold In3; omega) (c13 := by rw [gn, bi]; split <;> (unfold In3; omega))
            · rw [gn, bi, if_pos ((xs c c16).mpr ⟨q3.1, q3.2.2⟩)] at q2
              exact q2 rfl
            · rw [gn, bi] at q2
              have tb : x.testBit c = true := by
                by_cases e : x.testBit c = true
                · exact e
                · rw [if_neg e] at q2
                  exact absurd (by decide) q2
              obtain ⟨t1, t2, t3⟩ := (xs c c16).mp tb
              have B' : bRs M r w cols (n + 1) n := ⟨by omega, ⟨c, t1, c16, sb, t2, t3⟩, fun rm hrm hs => by
                by_cases e : rm = n
                · rw [e]
                  exact Nat.le_refl _
                · have := B.2.2.1 rm (by omega) hs
                  omega, fun rm hrm hs => by
                have := B.2.2.1 rm hrm hs
                omega⟩
              refine k135_85 (k135_91 (k135_48 (fun _ => done 0 (c + 1) n B') (fun _ => k135_55 (fun _ => done 0 (c + 1) n B') (fun q => absurd rfl q) (c1 := by decide)) (c1 := by unfold In3; omega)))
        exact inner 16 0 rfl (fun c' q => absurd q (Nat.not_lt_zero c'))
  exact outer (2 ^ r) 0 0 _ _ (by omega) ⟨Nat.pow_pos (by decide), hsC_0 M w cols, fun rm q => absurd q (Nat.not_lt_zero rm), fun rm q => absurd q (Nat.not_lt_zero rm)⟩
theorem u_rankOf (A : AL h k) (hk : k + 2 < 16) (I : MI h) (lo : 1376 ≤ h.1) {a r w : Nat} {M : Nat → Nat → zp_R} (K : KT h a (th_ma r w M)) (ka : kt h a) : wm sw_P (D + 7) 144 [.index 354, .index a] h (fun out => ∃ h' n, FA MA k h h' ∧ AL h' k ∧ MI h' ∧ rkS r w M n ∧ n ≤ 4 ∧ out = (.inl (some (vi (n : Int))), h', 0, 0)) := by
  refine wm_in (cd := sw_c144) (nL := 2) (hd := sw_h144) rfl rfl ?_
  obtain ⟨r14, w14⟩ := KT_rw K
  refine k144_0 I.1 (wm_mono (fun out => ?_) (u_survey A hk I lo K ka))
  intro ⟨h1, F1, A1, I1, ⟨g, g6, V⟩, eo⟩
  rw [eo]
  refine k144_5 I1.1 (wm_mono (fun out => ?_) (u_bestRows I1 (KT_keep K ka (CF_MA F1) FX_S lo) g6 V (cols := 15) (by decide)))
  intro ⟨b, B, eo⟩
  refine wq_r ?_ out eo
  have b16 : b < 16 := pw16 B.1 r14.2
  exact k144_12 (wm_mono (wq_r (k144_15 ⟨h1, bts b, F1, A1, I1, rk_bR r14.2 w14.2 B, bts_4 b16, rfl⟩)) (u_bits b16))
end
/-- the end of a call on determinants that answers a number -/
def CVM (a b g : Nat) (l : List Nat) (h : s_H) (n : Nat) (T : Nat → th) (tx lf lp tk : Int) (c v : Int) : s_O → Prop := fun out => ∃ h' kc ks, kc ≤ a ∧ ks ≤ b ∧ CF PM h h' ∧ h'.1 ≤ h.1 + g ∧ MI h' ∧ CA h' n T tx lf lp tk ∧ ((c = 0 ∧ out = (.inl (some (vi v)), h', kc, ks)) ∨ (c ≠ 0 ∧ out = (.inr (exl l c), h', kc, ks)))
section
variable {D : Nat} {h : s_H} {n : Nat} {T : Nat → th} {tx lf lp tk : Int}
/-- THE CALL rank -/
theorem u_rank (H : CA h n T tx lf lp tk) (I : MI h) {x : Int} (hx : In3 x) : wm sw_P (D + 8) 72 [.index 1, vi x] h (fun out => ∃ c v, rnkS n T x c v ∧ CVM 1 6 0 [3, 1] h n T tx lf lp tk c v out) := by
  refine wm_in (cd := sw_c72) (nL := 2) (hd := sw_h72) rfl rfl ?_
  have lo := H.1.2
  obtain ⟨_, _, A, _⟩ := id H
  refine k72_0 H.1.1 (r_ofKind H hx (by decide) (fun a x0 xn ka Ka k0 => ?_) (fun w => ⟨1, 0, ⟨fun _ => ⟨rfl, rfl⟩, fun q => absurd q w⟩, h, 1, 6, by omega, by omega, CF_refl _ _, by omega, I, H, .inr ⟨by decide, rfl⟩⟩) (fun x0 xn w => ⟨2, 0, ⟨fun q => absurd ⟨x0, xn⟩ q, fun _ => ?_⟩, h, 1, 6, by omega, by omega, CF_refl _ _, by omega, I, H, .inr ⟨by decide, rfl⟩⟩))
  · obtain ⟨r, w, M, et⟩ := kd_cases.2.2.1 k0
    rw [et] at Ka
    refine k72_10 I.1 (wm_mono (fun out => ?_) (u_rankOf A (by decide) I lo Ka ka))
    intro ⟨h1, m, F1, A1, I1, R1, m4, eo⟩
    rw [eo]
    refine k72_13 ⟨0, m, ⟨fun q => absurd ⟨x0, xn⟩ q, fun _ => ?_⟩, h1, _, _, by omega, by omega, CF_SM (CF_MA F1), by have := F1.1; omega, I1, CA_S H (CF_MA F1) A1, .inl ⟨rfl, rfl⟩⟩
    rw [et]
    exact ⟨rfl, m, rfl, R1⟩
  · revert w
    generalize T x.toNat = t
    intro w
    rcases t with ⟨N1, D1⟩ | f | ⟨r, w1, M⟩ | ⟨n1, so, va⟩
    · exact ⟨rfl, rfl⟩
    · exact ⟨rfl, rfl⟩
    · exact absurd rfl w
    · exact ⟨rfl, rfl⟩
end
