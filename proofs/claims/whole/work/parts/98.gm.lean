/-! the reference's claim -/
theorem wcR_kf {T : Nat → th} {s s' : Nat → Int} {A A' : Nat → Nat → Int} {c : Nat} (φ : wcR T s A c s' A') : (∀ j, rdF.contains j = false → j ≠ 52 → j ≠ 54 → j ≠ 107 → j ≠ 110 → s' j = s j) ∧ (∀ x, rdL.contains x = false → x ≠ 1334 → (x < 1369 ∨ x = 1373 ∨ 1374 < x) → A' x = A x) := by
  obtain ⟨s1, A1, φ, _, es, o, _⟩ := φ
  refine ⟨fun j hj y0 y1 y2 y3 => ?_, fun x hx y0 y1 => ?_⟩
  · rw [es, up_ne _ _ y2, φ.2.1 j hj, up_ne _ _ y1]
    unfold wcS
    rw [up_ne _ _ y0, up_ne _ _ y3]
  · rw [o x (by omega) (by omega) (by omega) (by omega) (by omega), φ.2.2.1 x hx]
    exact up_ne _ _ y0
theorem wkN_kf {T : Nat → th} {s' : Nat → Int} {A' : Nat → Nat → Int} : ∀ (l : List Nat) (s : Nat → Int) (A : Nat → Nat → Int), wkN T l s A s' A' → (∀ j, rdF.contains j = false → j ≠ 52 → j ≠ 54 → j ≠ 107 → j ≠ 110 → s' j = s j) ∧ (∀ x, rdL.contains x = false → x ≠ 1334 → (x < 1369 ∨ x = 1373 ∨ 1374 < x) → A' x = A x)
  | [], s, A, h => by
    obtain ⟨e1, e2⟩ := h
    subst e1 e2
    exact ⟨fun _ _ _ _ _ _ => rfl, fun _ _ _ _ => rfl⟩
  | c :: l, s, A, h => by
    obtain ⟨s1, A1, h1, h2⟩ := h
    obtain ⟨a1, a2⟩ := wcR_kf h1
    obtain ⟨b1, b2⟩ := wkN_kf l s1 A1 h2
    exact ⟨fun j x0 x1 x2 x3 x4 => (b1 j x0 x1 x2 x3 x4).trans (a1 j x0 x1 x2 x3 x4), fun x x0 x1 x2 => (b2 x x0 x1 x2).trans (a2 x x0 x1 x2)⟩
theorem wksR_kf {T : Nat → th} {s s' : Nat → Int} {A A' : Nat → Nat → Int} {c : Nat} (φ : wksR T s A c s' A') : (∀ j, rdF.contains j = false → j ≠ 52 → j ≠ 54 → j ≠ 107 → j ≠ 110 → s' j = s j) ∧ (∀ x, rdL.contains x = false → x ≠ 1334 → (x < 1369 ∨ x = 1373 ∨ 1374 < x) → A' x = A x) := by
  by_cases du : due A c
  · obtain ⟨l, I⟩ := φ.2 du
    exact wkN_kf l s A I.1
  · obtain ⟨e1, e2⟩ := φ.1 du
    subst e1 e2
    exact ⟨fun _ _ _ _ _ _ => rfl, fun _ _ _ _ => rfl⟩
theorem due_tk {s : Nat → Int} {A : Nat → Nat → Int} (c : Nat) : due (tkA s A) c ↔ due A c := by
  have o : ∀ x, x ≠ 1334 → tkA s A x = A x := fun x hx => up_ne _ _ hx
  have h := hng_to (o 1367 (by decide)) (o 1368 (by decide)) c
  unfold due wkb wkd
  rw [h, o 1367 (by decide), o 1373 (by decide), o 1374 (by decide)]
/-- the claim is read until nothing is wanted -/
def clN (T : Nat → th) : Nat → (Nat → Int) → (Nat → Nat → Int) → (Nat → Int) → (Nat → Nat → Int) → Prop
  | 0, s, A, s', A' => rsR T (tkS s) (tkA s A) 3 s' A' ∧ s' 76 = -1
  | n + 1, s, A, s', A' => ∃ (s1 : Nat → Int) (A1 : Nat → Nat → Int) (c : Nat) (s2 : Nat → Int) (A2 : Nat → Nat → Int), rsR T (tkS s) (tkA s A) 3 s1 A1 ∧ c < 16 ∧ s1 76 = (c : Int) ∧ wksR T s1 A1 c s2 A2 ∧ clN T n s2 A2 s' A'
def claR (T : Nat → th) (s : Nat → Int) (A : Nat → Nat → Int) (v : Term) (s' : Nat → Int) (A' : Nat → Nat → Int) : Prop := ∃ n s1, clN T n (up s 0 0) A s1 A' ∧ rdE s1 A' T ∧ ckB s1 A' ∧ TX s1 A' ∧ (0 ≤ s1 107 ∧ s1 107 ≤ s 107 + 256) ∧ (s1 55 ≠ 0 → v = vi 0 ∧ s' = up (up (up (up s1 50 0) 57 (s1 55)) 58 (s1 56)) 0 1) ∧ (s1 55 = 0 → ∃ a b p q, frc A' a b ∧ (A' 1346 = cf p ∧ A' 1347 = cf q ∧ zp_deg p 41 ∧ zp_deg q 41 ∧ mo q ∧ co p q) ∧ s' = up (up (up s1 50 0) 57 (s1 55)) 58 (s1 56) ∧ v = vi (@ite _ (p = a ∧ q = b) (Classical.propDecidable _) 1 0))
section
variable {d : Nat} {h : s_H} {s : Nat → Int} {A : Nat → Nat → Int}
theorem V_claim (hv : RV h s A) {T : Nat → th} (hT : TX s A) (E : rdE s A T) (cb : ckB s A) (c0 : 0 ≤ s 107 ∧ s 107 ≤ 1800000000) : wm sw_P (d + 14) 414 [.index 1290] h (RA h (claR T s A)) := by
  refine wm_in (cd := sw_c414) (nL := 4) (hd := sw_h414) rfl rfl ?_
  have v0 := RV_fld hv (up s 0 0) (rF_0 s 0)
  have R0 : FR h _ := FR_fld hv (1, 11, rF (up s 0 0))
  have e107 : up s 0 0 107 = s 107 := up_ne _ _ (by decide)
  have loop : ∀ (l S : Nat) (st : Nat → Int) (At : Nat → Nat → Int) (h1 : s_H) (t2 t3 : Term), cbt S 16 < l → S < 2 ^ 16 → (∀ j, j < 16 → due At j → S.testBit j = true) → RV h1 st At → FR h h1 → TX st At → rdE st At T → ckB st At → (0 ≤ st 107 ∧ st 107 + 16 * (cbt S 16 : Int) ≤ s 107 + 256) → (∀ n s' A', clN T n st At s' A' → ∃ n, clN T n (up s 0 0) A s' A') → wr sw_P (d + 13) sw_c414 sw_h414 (7, [.index 1290, vi 1, t2, t3], [], h1, 0, 0) (RA h (claR T s A)) := by
    intro l
    induction l with
    | zero => exact fun _ _ _ _ _ _ w => absurd w (Nat.not_lt_zero _)
    | succ l ih =>
      intro S st At h1 t2 t3 hl hS sub v r hT E cb c1 H
      obtain ⟨n, en⟩ : ∃ n : Nat, st 50 = n := ⟨(st 50).toNat, by have := hT.1; omega⟩
      refine k414_7 (fun x => absurd x (by decide)) (fun _ => ?_) (c1 := by decide)
      refine k414_11 v.1 (wm_mono (wq_N (fun h2 s2 A2 v2 r2 φ => ?_)) (V_takeText v en (by have := hT.1; omega)))
      obtain ⟨e1, eA1⟩ := φ
      have e1' : s2 = tkS st := by rw [e1]; unfold tkS; rw [en]
      have eA1' : A2 = tkA st At := by
        rw [eA1]
        unfold tkA
        rw [en]
        congr 1
        funext t
        by_cases w : t < n
        · rw [if_pos w, if_pos (by omega)]
        · rw [if_neg w, if_neg (by omega)]
      subst e1' eA1'
      refine k414_15 v2.1 (wm_mono (wq_N (fun h3 s3 A3 v3 r3 φ => ?_)) (V_readSource v2 (tk_E hT E) (m := 3) (by decide)))
      have r03 := FR_trans r (FR_trans r2 r3)
      have E3 : rdE s3 A3 T := rdE_to (rdE_m (tk_E hT E) 3) φ.2.2.1 φ.2.1
      have f3 : ∀ j, rdF.contains j = false → j ≠ 52 → j ≠ 54 → s3 j = st j := fun j hj y1 y2 => by
        rw [φ.2.1 j hj, up_ne _ _ y2]
        exact up_ne _ _ y1
      have r3' : ∀ x, rdL.contains x = false → x ≠ 1334 → A3 x = At x := fun x hx y1 => by
        rw [φ.2.2.1 x hx]
        exact up_ne _ _ y1
      have cb3 : ckB s3 A3 := fun k hk => by
        rw [r3' 1373 rfl (by decide), f3 107 rfl (by decide) (by decide)]
        exact cb k hk
      have T3 : TX s3 A3 := by
        unfold TX
        rw [r3' 1333 rfl (by decide), f3 50 rfl (by decide) (by decide)]
        exact hT
      have t3' : s3 107 = st 107 := f3 107 rfl (by decide) (by decide)
      have i76 : In3 (s3 76) := by
        unfold In3
        rcases φ.2.2.2 with x | x | x
        · omega
        · obtain ⟨_, c, _, x2, _⟩ := x
          omega
        · have := x.2.2.1
          omega
      refine k414_20 (z5 := s3 76) v3.1 (fun w => ?_) (fun w => ?_) (c7 := i76)
      · refine k414_32 (k414_33 (fun _ => ?_) (fun x => absurd rfl x) (c2 := by decide))
        refine k414_7 (fun _ => ?_) (fun x => absurd rfl x) (c1 := by decide)
        obtain ⟨n', hcl⟩ := H 0 s3 A3 ⟨φ, w⟩
        have v4 := RV_fld v3 (up s3 50 0) (rF_50 s3 0)
        have v5 := RV_fld v4 (up (up s3 50 0) 57 (s3 55)) (rF_57 (up s3 50 0) (s3 55))
        have v6 := RV_fld v5 (up (up (up s3 50 0) 57 (s3 55)) 58 (s3 56)) (rF_58 (up (up s3 50 0) 57 (s3 55)) (s3 56))
        have i55 : In3 (s3 55) := by
          rcases φ.2.2.2 with x | x | x
          · unfold In3; omega
          · rw [x.1.1]; decide
          · rw [x.1]; decide
        have R := FR_trans r03 (FR_trans (FR_fld v3 (1, 11, rF (up s3 50 0))) (FR_trans (FR_fld v4 (1, 11, rF (up (up s3 50 0) 57 (s3 55)))) (FR_fld v5 (1, 11, rF (up (up (up s3 50 0) 57 (s3 55)) 58 (s3 56))))))
        have clk : 0 ≤ s3 107 ∧ s3 107 ≤ s 107 + 256 := by omega
        refine k414_49 (z9 := s3 55) (z14 := s3 56) (z19 := s3 55) v3.1 v4.1 v5.1 v6.1 (fun w => ?_) (fun w => ?_) (n10 := by
          show some (vi (up s3 50 0 55)) = _
          rw [up_ne _ _ (by decide)]) (n15 := by
          show some (vi (up (up s3 50 0) 57 (s3 55) 56)) = _
          rw [up_ne _ _ (by decide), up_ne _ _ (by decide)]) (n20 := by
          show some (vi (up (up (up s3 50 0) 57 (s3 55)) 58 (s3 56) 55)) = _
          rw [up_ne _ _ (by decide), up_ne _ _ (by decide), up_ne _ _ (by decide)])
        · have z55 : s3 55 = 0 := by
            rcases φ.2.2.2 with x | x | x
            · omega
            · exact x.1.1
            · exact x.1
          obtain ⟨⟨a, b, f⟩, p, q, g⟩ : (∃ a b, frc A3 a b) ∧ stc A3 := by
            rcases φ.2.2.2 with x | x | x
            · omega
            · obtain ⟨_, c, _, x2, _⟩ := x
              omega
            · exact ⟨x.2.2.2.2.1, x.2.2.2.2.2.2 rfl⟩
          have fin : ∀ (hh : s_H), RV hh (up (up (up s3 50 0) 57 (s3 55)) 58 (s3 56)) A3 → FR h hh → ∀ (m k : Nat) (y : Int), k + m = 176 → y = @ite _ (∀ j, j < k → cf p j = cf a j ∧ cf q j = cf b j) (Classical.propDecidable _) 1 0 → wr sw_P (d + 13) sw_c414 sw_h414 (88, [.index 1290, vi 0, vi y, vi (k : Int)], [], hh, 0, 0) (RA h (claR T s A)) := by
            intro hh v6 R m
            induction m with
            | zero =>
              intro k y hk ey
              have ek : k = 176 := by omega
              subst ek
              refine k414_88 (fun _ => ?_) (fun x => absurd (by decide) x) (c1 := by decide)
              have e : y = @ite _ (p = a ∧ q = b) (Classical.propDecidable _) 1 0 := by
                by_cases w : p = a ∧ q = b
                · rw [if_pos w, ey, if_pos (fun j _ => by rw [w.1, w.2]; exact ⟨rfl, rfl⟩)]
                · rw [if_neg w, ey, if_neg (fun x => w ⟨cf_inj (fun k hk => (x k (by omega)).1) g.2.2.1 f.2.2.1, cf_inj (fun k hk => (x k (by omega)).2) g.2.2.2.1 f.2.2.2.1⟩)]
              refine k414_143 ⟨_, _, _, _, v6, R, ⟨n', s3, hcl, E3, cb3, T3, clk, fun x => absurd z55 x, fun _ => ⟨a, b, p, q, f, g, rfl, by rw [e]⟩⟩, rfl⟩ (c1 := by
                rw [e]
                split
                · exact .inr rfl
                · exact .inl rfl)
            | succ m ih =>
              intro k y hk ey
              have g0 : ∀ u : Nat → Int, gi (mk 176 u) (k : Int) = u k := fun u => gi_mkn (by omega)
              have i6 : ∀ u : zp_R, In6 (cf u k) := fun u => by
                unfold cf In6
                have := (u.1 k).isLt
                omega
              have nx : ∀ z : Int, z = @ite _ (∀ j, j < k + 1 → cf p j = cf a j ∧ cf q j = cf b j) (Classical.propDecidable _) 1 0 → wr sw_P (d + 13) sw_c414 sw_h414 (136, [.index 1290, vi 0, vi y, vi (k : Int)], [vi z], hh, 0, 0) (RA h (claR T s A)) := fun z ez => k414_136 (ih (k + 1) z (by omega) ez)
              refine k414_88 (fun x => absurd x (by omega)) (fun _ => ?_) (c1 := by unfold In3; omega)
              refine k414_95 (fun x => k414_135 (nx 0 ?_)) (fun x => ?_) (c1 := by rw [ey]; split <;> decide)
              · rw [if_neg (fun z => ?_)]
                rw [x] at ey
                rw [if_pos (fun j hj => z j (by omega))] at ey
                exact absurd ey (by decide)
              have so : ∀ j, j < k → cf p j = cf a j ∧ cf q j = cf b j := Classical.byContradiction (fun z => x (by rw [ey, if_neg z]))
              have e46 := Ra_claimTop v6
              have e47 := Ra_claimBottom v6
              have e02 := Ra_rt v6
              have e03 := Ra_rb v6
              rw [g.1] at e46
              rw [g.2.1] at e47
              rw [f.1] at e02
              rw [f.2.1] at e03
              refine k414_99 (a8 := mk 176 (cf p)) (a16 := mk 176 (cf a)) v6.1 e46 e02 (fun x => k414_135 (nx 0 ?_)) (fun x => ?_) (c10 := by rw [mk_len]; omega) (c11 := by omega) (c12 := by unfold In3; omega) (c18 := by rw [mk_len]; omega) (c19 := by rw [g0]; exact i6 p) (c20 := by rw [g0]; exact i6 a)
              · rw [g0, g0] at x
                rw [if_neg (fun z => x (z k (by omega)).1)]
              rw [g0, g0] at x
              have y1 : cf p k = cf a k := Classical.byContradiction x
              refine k414_115 (a8 := mk 176 (cf q)) (a16 := mk 176 (cf b)) v6.1 e47 e03 (fun x => k414_135 (nx 0 ?_)) (fun x => k414_131 (nx 1 ?_)) (c10 := by rw [mk_len]; omega) (c11 := by omega) (c12 := by unfold In3; omega) (c18 := by rw [mk_len]; omega) (c19 := by rw [g0]; exact i6 q) (c20 := by rw [g0]; exact i6 b)
              · rw [g0, g0] at x
                rw [if_neg (fun z => x (z k (by omega)).2)]
              · rw [g0, g0] at x
                rw [if_pos (fun j hj => by
                  by_cases q : j = k
                  · rw [q]; exact ⟨y1, Classical.byContradiction x⟩
                  · exact so j (by omega))]
          exact k414_84 (fin _ v6 R 176 0 1 (by decide) (by rw [if_pos (fun j hj => absurd hj (Nat.not_lt_zero _))]))
        · have v7 := RV_fld v6 (up (up (up (up s3 50 0) 57 (s3 55)) 58 (s3 56)) 0 1) (rF_0 _ 1)
          exact k414_77 v6.1 ⟨_, _, _, _, v7, FR_trans R (FR_fld v6 _), ⟨n', s3, hcl, E3, cb3, T3, clk, fun _ => ⟨rfl, rfl⟩, fun x => absurd (by omega) w⟩, rfl⟩
      · obtain ⟨c, c16, ec, dc, _⟩ : ∃ c : Nat, c < 16 ∧ s3 76 = (c : Int) ∧ due (tkA st At) c ∧ ∃ i, byt (up (tkS st) 54 3) (tkA st At) i = 65 + (c : Int) := by
          rcases φ.2.2.2 with x | x | x
          · exact absurd x.2.2 w
          · exact x.2
          · exact absurd x.2.2.1 w
        have d3 : ∀ j, due A3 j ↔ due At j := fun j => (due_to φ.2.2.1 j).trans (due_tk j)
        have dc3 : due A3 c := (due_to φ.2.2.1 c).mpr dc
        have Sc : S.testBit c = true := sub c c16 ((d3 c).mp dc3)
        obtain ⟨S', eS, out⟩ := out_bit Sc
        have lt : cbt S' 16 < cbt S 16 := cbt_lt 16 (fun j _ x => ((out j).mp x).1) c c16 (fun x => ((out c).mp x).2 rfl) Sc
        have ub := cbt_le S 16
        refine k414_28 (k414_33 (fun x => absurd x (by decide)) (fun _ => ?_) (c2 := by decide))
        refine k414_38 (z5 := (c : Int)) v3.1 (wm_mono (wq_N (fun h4 s4 A4 v4 r4 ψ => ?_)) (V_workCells v3 E3 cb3 (by omega) c16)) (n6 := by
          show some (vi (s3 76)) = _
          rw [ec])
        obtain ⟨l2, I⟩ := ψ.2 dc3
        obtain ⟨k1, k2⟩ := wksR_kf ψ
        refine k414_46 (ih S' s4 A4 h4 t2 t3 (by omega) (Nat.lt_of_le_of_lt (by rw [← eS]; exact Nat.le_add_right _ _) hS) (fun j hj x => ?_) v4 (FR_trans r03 r4) ?_ I.2.1 I.2.2.1 ⟨I.2.2.2.1.1, ?_⟩ (fun n s' A' hcl => H (n + 1) s' A' ⟨s3, A3, c, s4, A4, φ, c16, ec, ψ, hcl⟩))
        · have x3 := (I.2.2.2.2.2.2.2.1 j).mp x
          refine (out j).mpr ⟨sub j hj ((d3 j).mp x3.1), fun q => ?_⟩
          subst q
          have := x3.2 (clo_own A3 j)
          rw [Nat.zero_testBit] at this
          exact Bool.noConfusion this
        · unfold TX
          rw [k2 1333 rfl (by decide) (by decide), k1 50 rfl (by decide) (by decide) (by decide) (by decide)]
          exact T3
        · have := I.2.2.2.1.2
          omega
  refine k414_0 hv.1 ?_
  have sub0 : ∀ j, j < 16 → due A j → (2 ^ 16 - 1 : Nat).testBit j = true := fun j hj _ => by
    rw [Nat.testBit_two_pow_sub_one]
    exact decide_eq_true hj
  have ub := cbt_le (2 ^ 16 - 1) 16
  refine loop 17 (2 ^ 16 - 1) (up s 0 0) A _ _ _ (by omega) (by decide) sub0 v0 R0 ?_ (rdE_f E (by decide) (by decide) 0) (fun k hk => by rw [e107]; exact cb k hk) (by rw [e107]; omega) (fun n s' A' x => ⟨n, x⟩)
  unfold TX
  rw [up_ne _ _ (by decide)]
  exact hT
end
