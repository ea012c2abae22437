/-! the reference's reader: closeTerm -/
section
variable {d : Nat} {h : s_H} {s : Nat → Int} {A : Nat → Nat → Int}
theorem V_closeTerm (hv : RV h s A) (b55 : s 55 = 0) (m3 : In3 (s 54)) {n e : Nat} (hn : s 59 = (n : Int)) (n20 : n ≤ 20) (he : s 88 = (e : Int)) (e200 : (e : Int) + A 1337 n + A 1335 n ≤ 200) (hl : A 1337 n = 0 ∨ A 1337 n = 1) (ht : A 1335 n = 0 ∨ A 1335 n = 1) (hsg : A 1335 n ≠ 0 → A 1338 n = 43 ∨ A 1338 n = 45) {a b p q : zp_R} (ga : A 1302 = cf a) (gb : A 1303 = cf b) (da : s 54 ≠ 1 → zp_deg a 41) (db : s 54 ≠ 1 → zp_deg b 41) (b0 : s 54 ≠ 1 → 0 ≤ hi b) (hpq : s 54 ≠ 1 → A 1335 n ≠ 0 → fp A 1342 n = cf p ∧ fp A 1343 n = cf q ∧ zp_deg p 41 ∧ zp_deg q 41 ∧ 0 ≤ hi q) : wm sw_P (d + 8) 419 [.index 1290] h (RN h (ctR s A n e a b p q)) := by
  refine wm_in (cd := sw_c419) (nL := 1) (hd := sw_h419) rfl rfl ?_
  have i55 : In3 (s 55) := by rw [b55]; decide
  have rd : ∀ s1 : Nat → Int, s1 59 = (n : Int) → s_nth (rF s1) 59 = some (vi (n : Int)) := fun s1 e => by
    show some (vi (s1 59)) = _
    rw [e]
  have i37 : In3 (A 1337 n) := by rcases hl with x | x <;> rw [x] <;> decide
  have i35 : In3 (A 1335 n) := by rcases ht with x | x <;> rw [x] <;> decide
  -- what comes behind the sign of the term
  have rest : ∀ (s1 : Nat → Int) (B : Nat → Nat → Int) (h1 : s_H) (e1 : Nat) (a1 : zp_R), RV h1 s1 B → FR h h1 → s1 55 = 0 → s1 54 = s 54 → s1 59 = (n : Int) → s1 88 = (e1 : Int) → (A 1335 n ≠ 0 → e1 < 200) → (∀ x, x ≠ 1302 → x ≠ 1356 → x ≠ 1357 → B x = A x) → B 1302 = cf a1 → (s 54 ≠ 1 → zp_deg a1 41) → (A 1337 n = 0 → s1 = s ∧ pa B 1337 n 0 = pa A 1337 n 0 ∧ e1 = e ∧ a1 = a) → (A 1337 n ≠ 0 → s1 = up s 88 ((e : Int) + 1) ∧ e1 = e + 1 ∧ a1 = zp_mul (zp_C (nF 32002)) a ∧ pa B 1337 n 0 = pa (up (pa (pa A 1356 e 6) 1357 e 0) 1302 (cf a1)) 1337 n 0) → wr sw_P (d + 7) sw_c419 sw_h419 (41, [.index 1290], [], h1, 0, 0) (RN h (ctR s A n e a b p q)) := by
    intro s1 B h1 e1 a1 v1 r1 z55 z54 z59 z88 e12 o gB da1 w0 w1
    have v2 := Rp_lessAhead v1 (fun t => if t = n then 0 else B 1337 t)
    have r2 := FR_trans r1 (FR_put v1 (c := 1337) (by decide) (by decide) (ab 21 (fun t => if t = n then 0 else B 1337 t)))
    have es : (mk 21 (B 1337)).set (Int.toNat (n : Int)) 0 = mk 21 (fun t => if t = n then 0 else B 1337 t) := by rw [mk_set]; rfl
    have e35 : gi (mk 21 (B 1335)) (n : Int) = A 1335 n := by rw [gi_mkn (by omega), o 1335 (by decide) (by decide) (by decide)]
    have tell : ∀ (s' : Nat → Int) (A' : Nat → Nat → Int), (A 1335 n = 0 → s' = s1 ∧ A' = pa B 1337 n 0) → (A 1335 n ≠ 0 → (s 54 = 1 → s' = up s1 88 ((e1 : Int) + 1) ∧ A' = pa (pa (pa B 1337 n 0) 1356 e1 (if A 1338 n = 43 then 2 else 3)) 1357 e1 0) ∧ (s 54 ≠ 1 → sm (pa B 1337 n 0) A' scr ∧ ∃ N D, cn (zp_add (zp_mul p b) (zp_mul (zp_C (nF (if A 1338 n = 43 then 1 else -1))) (zp_mul a1 q))) (zp_mul q b) N D ∧ zp_deg N 176 ∧ zp_deg D 176 ∧ A' 1302 = cf N ∧ A' 1303 = cf D ∧ ((40 < hi N ∨ 40 < hi D) → s' = fl1 s1 5 (A 1340 n)) ∧ (¬ (40 < hi N ∨ 40 < hi D) → s' = s1))) → ctR s A n e a b p q s' A' := fun s' A' x y => ⟨s1, pa B 1337 n 0, e1, a1, w0, w1, x, y⟩
    have v2' : RV (hp h1 1337 (ab 21 (fun t => if t = n then 0 else B 1337 t))) s1 (pa B 1337 n 0) := v2
    refine k419_41 (z7 := (n : Int)) (z20 := (n : Int)) (a10 := mk 21 (B 1337)) (a23 := mk 21 (B 1335)) v1.1 (Ra_lessAhead v1) (by rw [es]; exact v2.1) ((hp_ne (Ra_lessAhead v1) (by decide)).trans (Ra_hasSum v1)) (fun w => ?_) (fun w => ?_) (n8 := rd s1 z59) (n21 := rd s1 z59) (c12 := by rw [mk_len]; omega) (c13 := by omega) (c14 := by unfold In3; omega) (c25 := by rw [mk_len]; omega) (c26 := by omega) (c27 := by unfold In3; omega) (c28 := by rw [e35]; exact i35)
    rotate_left
    · rw [e35] at w
      rw [es]
      have h0 : A 1335 n = 0 := Classical.byContradiction w
      exact k419_63 ⟨_, s1, _, v2', r2, tell _ _ (fun _ => ⟨rfl, rfl⟩) (fun w2 => absurd h0 w2), rfl⟩
    rw [e35] at w
    rw [es]
    have sg := hsg w
    have i38 : In3 (A 1338 n) := by rcases sg with x | x <;> rw [x] <;> decide
    have p38 : pa B 1337 n 0 1338 = A 1338 := by rw [pa_ne (by decide), o 1338 (by decide) (by decide) (by decide)]
    have e38 : ∀ C : Nat → Nat → Int, C 1338 = A 1338 → gi (mk 21 (C 1338)) (n : Int) = A 1338 n := fun C e => by rw [gi_mkn (by omega), e]
    by_cases q4 : s 54 = 1
    · refine k419_64 (z5 := s1 54) v2'.1 (fun w2 => absurd (z54.trans q4) w2) (fun _ => ?_) (c7 := by rw [z54]; exact m3)
      have put : ∀ z : Int, z = (if A 1338 n = 43 then 2 else 3) → wr sw_P (d + 7) sw_c419 sw_h419 (92, [.index 1290], [vi z, .index 1290], hp h1 1337 (ab 21 (fun t => if t = n then 0 else B 1337 t)), 0, 0) (RN h (ctR s A n e a b p q)) := fun z ez => by
        refine k419_92 v2'.1 (wm_mono (wq_N (fun h3 s3 A3 v3 r3 φ => k419_96 ?_)) (V_emit v2' z88 (e12 w)))
        exact ⟨h3, s3, A3, v3, FR_trans r2 r3, tell _ _ (fun w2 => absurd w2 w) (fun _ => ⟨fun _ => by rw [← ez]; exact φ, fun w2 => absurd q4 w2⟩), rfl⟩
      refine k419_72 (z7 := (n : Int)) v2'.1 (Ra_sumSign v2') (fun w2 => k419_91 (put 3 ?_)) (fun w2 => k419_87 (put 2 ?_)) (n8 := rd s1 z59) (c12 := by rw [mk_len]; omega) (c13 := by omega) (c14 := by unfold In3; omega) (c15 := by rw [e38 _ p38]; exact i38)
      · rw [e38 _ p38] at w2; rw [if_neg w2]
      · rw [e38 _ p38] at w2; rw [if_pos (Classical.byContradiction w2)]
    refine k419_64 (z5 := s1 54) v2'.1 (fun _ => ?_) (fun w2 => absurd (fun w3 => q4 (z54.symm.trans w3)) w2) (c7 := by rw [z54]; exact m3)
    obtain ⟨hp1, hp2, dp, dq, q0⟩ := hpq q4 w
    refine k419_97 v2'.1 (wm_mono (wq_Q (fun h3 v3 r3 => ?_)) (V_loadBoth v2' z59 n20 (z := 1) (.inr rfl)))
    have fpc : ∀ c, c ≠ 1337 → c ≠ 1302 → c ≠ 1356 → c ≠ 1357 → fp (pa B 1337 n 0) c n = fp A c n := fun c y1 y2 y3 y4 => by
      unfold fp
      rw [pa_ne y1, o c y2 y3 y4]
    have eZ1 : fp (pa B 1337 n 0) (if (1 : Int) = 0 then 1344 else 1342) n = cf p := (fpc 1342 (by decide) (by decide) (by decide) (by decide)).trans hp1
    have eZ2 : fp (pa B 1337 n 0) (if (1 : Int) = 0 then 1345 else 1343) n = cf q := (fpc 1343 (by decide) (by decide) (by decide) (by decide)).trans hp2
    have x02 : pa B 1337 n 0 1302 = cf a1 := by rw [pa_ne (by decide)]; exact gB
    have x03 : pa B 1337 n 0 1303 = cf b := by rw [pa_ne (by decide), o 1303 (by decide) (by decide) (by decide)]; exact gb
    rw [eZ1, eZ2, x02, x03] at v3
    have k98 : up (up (up (up (pa B 1337 n 0) 1298 (cf p)) 1299 (cf q)) 1300 (cf a1)) 1301 (cf b) 1298 = cf p := by rw [up_ne _ _ (by decide), up_ne _ _ (by decide), up_ne _ _ (by decide), up_at]
    have k99 : up (up (up (up (pa B 1337 n 0) 1298 (cf p)) 1299 (cf q)) 1300 (cf a1)) 1301 (cf b) 1299 = cf q := by rw [up_ne _ _ (by decide), up_ne _ _ (by decide), up_at]
    have k00 : up (up (up (up (pa B 1337 n 0) 1298 (cf p)) 1299 (cf q)) 1300 (cf a1)) 1301 (cf b) 1300 = cf a1 := by rw [up_ne _ _ (by decide), up_at]
    have k01 : up (up (up (up (pa B 1337 n 0) 1298 (cf p)) 1299 (cf q)) 1300 (cf a1)) 1301 (cf b) 1301 = cf b := up_at _ _ _
    have mB : sm (pa B 1337 n 0) (up (up (up (up (pa B 1337 n 0) 1298 (cf p)) 1299 (cf q)) 1300 (cf a1)) 1301 (cf b)) scr := sm_up (sm_up (sm_up (sm_up sm_refl _ rfl) _ rfl) _ rfl) _ rfl
    generalize up (up (up (up (pa B 1337 n 0) 1298 (cf p)) 1299 (cf q)) 1300 (cf a1)) 1301 (cf b) = C at v3 k98 k99 k00 k01 mB
    have c38 : C 1338 = A 1338 := (mB 1338 rfl).trans p38
    have R3 := FR_trans r2 r3
    have sums : ∀ z : Int, In6 z → z = (if A 1338 n = 43 then 1 else -1) → wr sw_P (d + 7) sw_c419 sw_h419 (124, [.index 1290], [vl z, .index 1290], h3, 0, 0) (RN h (ctR s A n e a b p q)) := fun z iz ez => by
      refine k419_124 v3.1 (wm_mono (wq_N (fun h4 s4 A4 v4 r4 φ => ?_)) (V_sumAll v3 k98 k99 k00 k01 dp dq (da1 q4) (db q4) q0 (b0 q4) iz))
      obtain ⟨es4, ⟨N, D, c2, dN, dD, gN, gD⟩, m4⟩ := φ
      subst es4
      rw [ez] at c2
      have m4' := sm_tr mB (sm_6 m4)
      refine k419_127 v4.1 (wm_mono (wq_r ?_) (V_isGreat v4 gN gD))
      by_cases gr : 40 < hi N ∨ 40 < hi D
      · rw [if_pos gr]
        refine k419_131 (fun w2 => absurd w2 (by decide)) (fun _ => ?_) (c1 := by decide)
        have g40 : gi (mk 21 (A4 1340)) (n : Int) = A 1340 n := by rw [gi_mkn (by omega), m4' 1340 rfl, pa_ne (by decide), o 1340 (by decide) (by decide) (by decide)]
        refine k419_134 (z7 := (n : Int)) v4.1 (Ra_sumPlace v4) (wm_mono (wq_N (fun h5 s5 A5 v5 r5 φ => k419_148 ?_)) (V_fail v4 (by rw [z55]; decide))) (n8 := rd s4 z59) (c12 := by rw [mk_len]; omega) (c13 := by omega) (c14 := by unfold In3; omega)
        obtain ⟨x1, x2⟩ := φ
        rw [flS_0 z55, g40] at x1
        exact ⟨h5, s5, A5, v5, FR_trans R3 (FR_trans r4 r5), tell _ _ (fun w2 => absurd w2 w) (fun _ => ⟨fun w2 => absurd w2 q4, fun _ => ⟨by rw [x2]; exact m4', N, D, c2, dN, dD, by rw [x2]; exact gN, by rw [x2]; exact gD, fun _ => x1, fun w2 => absurd gr w2⟩⟩), rfl⟩
      · rw [if_neg gr]
        refine k419_131 (fun _ => k419_148 ?_) (fun w2 => absurd rfl w2) (c1 := by decide)
        exact ⟨h4, s4, A4, v4, FR_trans R3 r4, tell _ _ (fun w2 => absurd w2 w) (fun _ => ⟨fun w2 => absurd w2 q4, fun _ => ⟨m4', N, D, c2, dN, dD, gN, gD, fun w2 => absurd w2 gr, fun _ => rfl⟩⟩), rfl⟩
    refine k419_102 (z7 := (n : Int)) v3.1 (Ra_sumSign v3) (fun w2 => k419_121 (sums (-1) (by decide) ?_)) (fun w2 => k419_117 (sums 1 (by decide) ?_)) (n8 := rd s1 z59) (c12 := by rw [mk_len]; omega) (c13 := by omega) (c14 := by unfold In3; omega) (c15 := by rw [e38 _ c38]; exact i38)
    · rw [e38 _ c38] at w2; rw [if_neg w2]
    · rw [e38 _ c38] at w2; rw [if_pos (Classical.byContradiction w2)]
  have e37 : ∀ B : Nat → Nat → Int, B 1337 = A 1337 → gi (mk 21 (B 1337)) (n : Int) = A 1337 n := fun B e => by rw [gi_mkn (by omega), e]
  refine k419_0 (z7 := (n : Int)) hv.1 (Ra_lessAhead hv) (fun w => ?_) (fun w => ?_) (n8 := rd s hn) (c12 := by rw [mk_len]; omega) (c13 := by omega) (c14 := by unfold In3; omega) (c15 := by rw [e37 A rfl]; exact i37)
  · rw [e37 A rfl] at w
    refine k419_19 (z7 := (n : Int)) hv.1 (Ra_lessAhead hv) (fun _ => ?_) (fun w2 => absurd (by rw [e37 A rfl]; exact w) w2) (n8 := rd s hn) (c12 := by rw [mk_len]; omega) (c13 := by omega) (c14 := by unfold In3; omega) (c15 := by rw [e37 A rfl]; exact i37)
    exact rest s A h e a hv (FR_refl h) b55 rfl hn he (fun w2 => by rcases ht with x | x <;> omega) (fun _ _ _ _ => rfl) ga da (fun _ => ⟨rfl, rfl, rfl, rfl⟩) (fun w2 => absurd w w2)
  · rw [e37 A rfl] at w
    have l1 : A 1337 n = 1 := hl.resolve_left w
    refine k419_12 hv.1 (wm_mono (wq_N (fun h1 s1 A1 v1 r1 φ => ?_)) (V_emit hv he (by rcases ht with x | x <;> omega)))
    obtain ⟨e1, eA1⟩ := φ
    have h59 : s1 59 = (n : Int) := by rw [e1, up_ne _ _ (by decide), hn]
    have b37 : A1 1337 = A 1337 := by rw [eA1, pa_ne (by decide), pa_ne (by decide)]
    have b02 : A1 1302 = cf a := by rw [eA1, pa_ne (by decide), pa_ne (by decide), ga]
    refine k419_19 (z7 := (n : Int)) v1.1 (Ra_lessAhead v1) (fun w2 => absurd (by rw [e37 A1 b37] at w2; exact w2) w) (fun _ => ?_) (n8 := rd s1 h59) (c12 := by rw [mk_len]; omega) (c13 := by omega) (c14 := by unfold In3; omega) (c15 := by rw [e37 A1 b37]; exact i37)
    refine k419_31 v1.1 (wm_mono (wq_Q (fun h2 v2 r2 => ?_)) (V_scale v1 (c := 1302) rfl b02 (z := 32002) (by decide)))
    exact rest s1 _ h2 (e + 1) (zp_mul (zp_C (nF 32002)) a) v2 (FR_trans r1 r2) (by rw [e1, up_ne _ _ (by decide)]; exact b55) (by rw [e1, up_ne _ _ (by decide)]) h59 (by rw [e1, up_at]; rfl) (fun w2 => by rcases ht with x | x <;> omega) (fun x y1 y2 y3 => by rw [up_ne _ _ y1, eA1, pa_ne y3, pa_ne y2]) (up_at _ _ _) (fun w2 => deg_Cm _ (da w2)) (fun w2 => absurd w2 w) (fun _ => ⟨e1, rfl, rfl, by rw [eA1]⟩)
end
