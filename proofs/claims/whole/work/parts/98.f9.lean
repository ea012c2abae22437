/-! the reference's findFactors, the whole of it -/
def ffL : List Nat := [1300, 1303, 1304, 1305, 1306, 1307, 1308, 1309, 1310, 1311, 1312, 1314, 1315, 1316, 1317, 1318, 1319, 1320]
def ffR (A : Nat → Nat → Int) (g : zp_R) (n : Nat) (F : Nat → zp_R) (D O : Nat → Nat) : Prop := facR g n F D O ∧ ∀ i, i < n → pt A 1315 i = cf (F i) ∧ A 1314 i = (D i : Int) ∧ A 1316 i = (O i : Int) ∧ O i ≤ 176
/-- the numbers that findFactors leaves -/
def ffq (s s' : Nat → Int) : Prop := ∀ j, j ≠ 26 → j ≠ 32 → j ≠ 33 → j ≠ 35 → j ≠ 37 → s' j = s j
theorem ffq_sq {s s' : Nat → Int} (h : ffq s s') : sq s s' := fun j hj => by
  have ne : ∀ k, ssc.contains k = true → j ≠ k := fun k hk e => by rw [e, hk] at hj; exact Bool.noConfusion hj
  exact h j (ne 26 rfl) (ne 32 rfl) (ne 33 rfl) (ne 35 rfl) (ne 37 rfl)
section
variable {d : Nat} {h : s_H} {s : Nat → Int} {A : Nat → Nat → Int}
theorem V_findFactors (hv : RV h s A) {p : Nat} (hp : P9 p = true) (hp9 : p = 1298 ∨ p = 1299) {g : zp_R} (hg : A p = cf g) (dg : zp_deg g 41) : wm sw_P (d + 7) 450 [.index 1290, .index p] h (RN h (fun s' A' => ffq s s' ∧ sm A A' ffL ∧ ∃ (n : Nat) (F : Nat → zp_R) (D O : Nat → Nat), n ≤ 40 ∧ s' 26 = (n : Int) ∧ ffR A' g n F D O)) := by
  refine wm_in (cd := sw_c450) (nL := 6) (hd := sw_h450) rfl rfl ?_
  have dg6 := deg_le dg (show 41 ≤ 176 by decide)
  have v1 := RV_fld hv (up s 26 0) (rF_26 s 0)
  have v2 := RV_fld v1 (up (up s 26 0) 33 0) (rF_33 (up s 26 0) 0)
  have r2 := FR_trans (FR_fld hv (1, 11, (rF s).set 26 (vi 0))) (FR_fld v1 (1, 11, (rF (up s 26 0)).set 33 (vi 0)))
  have q2 : ffq s (up (up s 26 0) 33 0) := fun j h1 _ h3 _ _ => by rw [up_ne _ _ h3, up_ne _ _ h1]
  have bg := hi_b g
  have pL : ffL.contains p = false := by rcases hp9 with e | e <;> rw [e] <;> rfl
  refine k450_0 hv.1 v1.1 (wm_mono (wq_r ?_) (V_high v2 hp hg))
  refine k450_14 (fun w => ?_) (fun w => k450_18 ⟨_, _, A, v2, r2, ⟨q2, sm_refl, 0, fun _ => zp_C 0, fun _ => 0, fun _ => 0, by decide, by
    rw [up_ne _ _ (by decide), up_at]; rfl, ⟨fun _ => rfl, fun w2 => absurd w2 w⟩, fun i hi2 => absurd hi2 (Nat.not_lt_zero i)⟩, rfl⟩) (c1 := by unfold In3; omega)
  have g0 : g ≠ zp_C 0 := zp_ne0 (by omega)
  refine k450_19 v2.1 (wm_mono (wq_Q (fun h3 v3 r3 => ?_)) (V_slope v2 (c := 1308) (e := p) rfl hp (by omega) hg dg6))
  refine k450_27 v3.1 (wm_mono (wq_N (fun h4 s4 A4 v4 r4 φ => ?_)) (V_commonOf v3 (p := p) (q := 1308) hp rfl (by omega) (by decide) (by decide) (f := g) (g := zp_D g) (by rw [up_ne _ _ (by omega)]; exact hg) (up_at _ _ _) dg6 (D_deg dg6)))
  obtain ⟨es4, ⟨G, hG, dG, eG⟩, m4⟩ := φ
  subst es4
  have mG : mo G := hG.2.2.2.resolve_left (fun z => g0 (by
    obtain ⟨q, e⟩ := hG.1
    rw [e, z, zp_h20R, zp_mul0]))
  have a4 : sm A A4 ffL := sm_tr (sm_up sm_refl _ rfl) (sm_sub m4 rfl)
  have e4 : A4 p = cf g := (a4 p pL).trans hg
  refine k450_36 v4.1 (wm_mono (wq_Q (fun h5 v5 r5 => ?_)) (V_copy v4 (c := 1300) (e := p) rfl hp (by omega)))
  rw [e4] at v5
  refine k450_44 v5.1 (wm_mono (wq_N (fun h6 s6 A6 v6 r6 φ => ?_)) (V_divideBy v5 (p := 1300) (q := 1306) rfl rfl (by decide) (by decide) (by decide) (f := g) (g := G) (up_at _ _ _) (by rw [up_ne _ _ (by decide)]; exact eG) dg6 dG (mo_pos mG dG)))
  obtain ⟨es6, Qt, Rm, e6, dRm, _, dQ6, eA6⟩ := φ
  subst es6
  obtain ⟨q, eq⟩ := hG.1
  have qQ : q = Qt := exact_div mG dG e6 dRm eq
  subst qQ
  have a6 : sm A A6 ffL := by
    rw [eA6]
    exact sm_up (sm_up (sm_up (sm_up a4 _ rfl) _ rfl) _ rfl) _ rfl
  have g6 : A6 1300 = cf q := by rw [eA6, up_at]
  refine k450_56 v6.1 (wm_mono (wq_Q (fun h7 v7 r7 => ?_)) (V_makeMonic v6 (c := 1300) rfl (f := q) g6))
  obtain ⟨n, hn, mB, n1, n40, sB, same⟩ := sqf_mk w dg hG mG eq
  have v7' : RV h7 (up (up s 26 0) 33 0) (up A6 1300 (cf (mkm q))) := v7
  have a7 : sm A (up A6 1300 (cf (mkm q))) ffL := sm_up a6 _ rfl
  generalize mkm q = B at hn mB sB same v7' a7
  refine k450_63 v7'.1 (wm_mono (wq_r ?_) (V_high v7' (c := 1300) rfl (up_at _ _ _)))
  rw [hn]
  refine k450_70 v7'.1 (wm_mono (wq_N (fun h8 s8 A8 v8 r8 φ => ?_)) (V_findFixed v7' (n := n) (W := B) (up_at _ _ _) hn n1 (by omega) (deg_le mB.2 (by omega))))
  obtain ⟨q8, m8, Bt, R, rr8, e35, ft8⟩ := φ
  have a8 : sm A A8 ffL := sm_tr a7 (sm_sub m8 rfl)
  have g8 : A8 1300 = cf B := (m8 1300 rfl).trans (up_at _ _ _)
  have s33 : s8 33 = ((0 : Nat) : Int) := by
    rw [q8 33 (by decide) (by decide) (by decide), up_at]; rfl
  have s26 : s8 26 = 0 := by
    rw [q8 26 (by decide) (by decide) (by decide), up_ne _ _ (by decide), up_at]
  refine k450_80 v8.1 (wm_mono (wq_N (fun h9 s9 A9 v9 r9 φ => ?_)) (V_push v8 (p := 1300) (n := 0) rfl s33 (by decide) g8 (deg_le mB.2 (by omega))))
  obtain ⟨es9, o9, p9, _⟩ := φ
  have a9 : sm A8 A9 ffL := fun j hj => o9 j (fun e => by rw [e] at hj; exact absurd hj (by decide))
  have rn := fcn_b R n
  have B1 : B ≠ zp_C 1 := fun e => by
    rw [e] at mB
    have := mon_one mB mon_C1
    omega
  have R9 : FR h h9 := FR_trans r2 (FR_trans r3 (FR_trans r4 (FR_trans r5 (FR_trans r6 (FR_trans r7 (FR_trans r8 r9))))))
  refine k450_88 ?_
  have ft9 : ∀ c, c < n → R c = -1 → ft A9 (fcn R c) = cf (kerq Bt R n c) := fun c h1 h2 => by
    rw [← ft8 c h1 h2]
    unfold ft
    rw [o9 1320 (by decide)]
  have e9 : s9 33 = ((1 : Nat) : Int) := by rw [es9, up_at]; rfl
  have start := W_split (d := d) (h := h) (A := A9) (s := s9) (Q := RN h (fun s' A' => ffq s s' ∧ sm A A' ffL ∧ ∃ (n : Nat) (F : Nat → zp_R) (D O : Nat → Nat), n ≤ 40 ∧ s' 26 = (n : Int) ∧ ffR A' g n F D O)) (p := p) mB n1 n40 sB rr8 ft9 (x2 := (n : Int)) (t4 := .result) (t5 := .result) ?_ (fcn R n) 0 1 (fun _ => B) s9 A9 h9 (Nat.zero_add _) v9 R9 sm_refl (pbq_rf s9) e9 (by rw [es9, up_ne _ _ (by decide)]; exact e35) ⟨fun k _ => ⟨⟨n, mB.1, mB.2⟩, B1, dv_rf B⟩, fun j k hjk hk => by omega⟩ (fun f _ fB => ⟨0, by decide, fB⟩) (fun j hj => by
    have j0 : j = 0 := by omega
    rw [j0]; exact p9) (fun c' _ _ h3 => absurd h3 (Nat.not_lt_zero _))
  · exact start
  intro m P' s10 A10 h10 x3 v10 r10 a10 q10 e10 pr10 cv10 g10 ir10
  have m40 := prts_le mB pr10
  have a10' : sm A A10 ffL := sm_tr a8 (sm_tr a9 (sm_sub a10 rfl))
  have s10_26 : s10 26 = ((0 : Nat) : Int) := by
    rw [q10 26 (by decide) (by decide) (by decide), es9, up_ne _ _ (by decide), s26]; rfl
  refine k450_120 ?_
  have fin := W_sort (d := d + 1) (h := h) (A := A10) (s := s10) (Q := RN h (fun s' A' => ffq s s' ∧ sm A A' ffL ∧ ∃ (n : Nat) (F : Nat → zp_R) (D O : Nat → Nat), n ≤ 40 ∧ s' 26 = (n : Int) ∧ ffR A' g n F D O)) (p := p) (m := m) hp hp9 (G := g) ((a10' p pL).trans hg) dg6 g0 (by omega) (P := P') ir10 (fun j hj => pt_deg (g10 j hj)) (fun i j hij hj => prts_ne pr10 hij hj) (x2 := (n : Int)) ?_ m 0 (fun _ => zp_C 0) (fun _ => 0) (fun _ => 0) (fun _ => false) s10 A10 h10 .result .result (Nat.zero_add m) v10 r10 sm_refl (fun _ _ => rfl) e10 s10_26 (cho_0 P' m) (fun j hj => by
    rw [if_neg (by decide)]; exact g10 j hj) (fun i hi2 => absurd hi2 (Nat.not_lt_zero i))
  · exact fin
  intro F D O gb s11 A11 h11 x3' t4 t5 v11 r11 a11 q11 e11 ch fa
  refine k450_194 ⟨h11, s11, A11, v11, r11, ⟨fun j n1 n2 n3 n4 n5 => ?_, sm_tr a10' (sm_sub a11 rfl), m, F, D, O, by omega, e11, ⟨fun w2 => absurd w (by omega), fun _ => facs_of ch ir10 pr10 cv10 same (fun i hi2 => ⟨(fa i hi2).2.2.2.1, (fa i hi2).2.2.2.2.1⟩)⟩, fun i hi2 => ⟨(fa i hi2).1, (fa i hi2).2.1, (fa i hi2).2.2.1, (fa i hi2).2.2.2.2.2⟩⟩, rfl⟩
  rw [q11 j n1, q10 j n2 n3 n5, es9, up_ne _ _ n3, q8 j n2 n4 n5, up_ne _ _ n3, up_ne _ _ n1]
end
