/-! the reference's cell -/
/-- what is told of a cell -/
def tol (A : Nat → Nat → Int) (c : Nat) : Int := if A 1367 c = 0 then 0 else if (hng A c).testBit c = true then 8 else A 1371 c
def celV (A : Nat → Nat → Int) (c : Nat) (what : Int) : Int := if what = 0 then (if A 1367 c = 0 then 0 else if tol A c = 0 then 1 else 2) else if what = 1 then tol A c else if tol A c = 0 then -1 else if (hng A c).testBit c = true then 0 else A 1372 c
def cellR (T : Nat → th) (s : Nat → Int) (A : Nat → Nat → Int) (c what : Int) (v : Term) (s' : Nat → Int) (A' : Nat → Nat → Int) : Prop := (¬ (0 ≤ c ∧ c ≤ 15) → v = vi 0 ∧ s' = up s 0 1 ∧ A' = A) ∧ (0 ≤ c ∧ c ≤ 15 → (¬ (0 ≤ what ∧ what ≤ 3) → v = vi 0 ∧ s' = up s 0 2 ∧ A' = A) ∧ (0 ≤ what ∧ what ≤ 3 → (what = 3 → v = vi (cbt (hng A c.toNat) 16 : Int) ∧ s' = up s 0 0 ∧ A' = A) ∧ (what ≠ 3 → wksR T (up s 0 0) A c.toNat s' A' ∧ v = vi (celV A' c.toNat what))))
section
variable {d : Nat} {h : s_H} {s : Nat → Int} {A : Nat → Nat → Int}
theorem V_cell (hv : RV h s A) {T : Nat → th} (E : rdE s A T) (cb : ckB s A) (c0 : 0 ≤ s 107 ∧ s 107 ≤ 1900000000) {c what : Int} (hc : In3 c) (hw : In3 what) : wm sw_P (d + 14) 412 [.index 1290, vi c, vi what] h (RA h (cellR T s A c what)) := by
  refine wm_in (cd := sw_c412) (nL := 5) (hd := sw_h412) rfl rfl ?_
  have code : ∀ z : Int, RV (hp h 1290 (1, 11, rF (up s 0 z))) (up s 0 z) A := fun z => RV_fld hv (up s 0 z) (rF_0 s z)
  have rd0 : ∀ z : Int, s_nth (rF (up s 0 z)) 0 = some (vi z) := fun z => by
    show some (vi (up s 0 z 0)) = _
    rw [up_at]
  refine k412_0 (wm_mono (wq_r ?_) (t_in (by unfold In6; unfold In3 at hc; omega) (by decide) (by decide))) (c2 := hc)
  by_cases w : 0 ≤ c ∧ c ≤ 15
  rotate_left
  · rw [if_neg w]
    refine k412_10 (fun x => absurd rfl x) (fun _ => k412_13 ?_) (c1 := by decide)
    refine k412_34 (z10 := 1) hv.1 (code 1).1 (fun x => absurd x (by decide)) (fun _ => ?_) (n11 := rd0 1) (c12 := by decide)
    exact k412_44 ⟨_, _, _, _, code 1, FR_fld hv _, ⟨fun _ => ⟨rfl, rfl, rfl⟩, fun x => absurd x w⟩, rfl⟩
  rw [if_pos w]
  refine k412_10 (fun _ => ?_) (fun x => absurd (by decide) x) (c1 := by decide)
  refine k412_17 (wm_mono (wq_r ?_) (t_in (by unfold In6; unfold In3 at hw; omega) (by decide) (by decide))) (c1 := hw)
  by_cases w3 : 0 ≤ what ∧ what ≤ 3
  rotate_left
  · rw [if_neg w3]
    refine k412_26 (fun x => absurd rfl x) (fun _ => k412_29 ?_) (c1 := by decide)
    refine k412_34 (z10 := 2) hv.1 (code 2).1 (fun x => absurd x (by decide)) (fun _ => ?_) (n11 := rd0 2) (c12 := by decide)
    exact k412_44 ⟨_, _, _, _, code 2, FR_fld hv _, ⟨fun x => absurd w x, fun _ => ⟨fun _ => ⟨rfl, rfl, rfl⟩, fun x => absurd x w3⟩⟩, rfl⟩
  rw [if_pos w3]
  refine k412_26 (fun _ => k412_33 ?_) (fun x => absurd (by decide) x) (c1 := by decide)
  refine k412_34 (z10 := 0) hv.1 (code 0).1 (fun _ => ?_) (fun x => absurd (by decide) x) (n11 := rd0 0) (c12 := by decide)
  have v0 := code 0
  have R0 : FR h _ := FR_fld hv (1, 11, rF (up s 0 0))
  obtain ⟨k, ek⟩ : ∃ k : Nat, c = k := ⟨c.toNat, by omega⟩
  subst ek
  have k16 : k < 16 := by omega
  have e107 : up s 0 0 107 = s 107 := up_ne _ _ (by decide)
  refine k412_46 (fun n3 => ?_) (fun n3 => ?_) (c1 := hw)
  rotate_left
  · have e3 : what = 3 := Classical.byContradiction n3
    have lh : hng A k < 2 ^ 16 := hgs_lt A k 16
    refine k412_51 v0.1 (wm_mono (wq_r (k412_56 (wm_mono (wq_r (k412_59 ?_)) (V_manyOf (x := hng A k) (Nat.lt_trans lh (by decide)))))) (V_hangs v0 E.2.1 k16))
    exact ⟨_, _, _, _, v0, R0, ⟨fun x => absurd w x, fun _ => ⟨fun x => absurd w3 x, fun _ => ⟨fun _ => ⟨rfl, rfl, rfl⟩, fun x => absurd e3 x⟩⟩⟩, rfl⟩
  refine k412_60 v0.1 (wm_mono (wq_N (fun h1 s1 A1 v1 r1 φ => ?_)) (V_workCells v0 (rdE_f E (by decide) (by decide) 0) (fun i hi2 => by rw [e107]; exact cb i hi2) (by rw [e107]; exact c0) k16))
  obtain ⟨E1, nd⟩ := wks_E (rdE_f E (by decide) (by decide) 0) φ
  refine k412_65 v1.1 (wm_mono (wq_r ?_) (V_isCircle v1 E1.2.1 k16))
  have b := E1.2.1.1 k k16
  have g67 : gi (mk 16 (A1 1367)) (k : Int) = A1 1367 k := gi_mkn k16
  have g71 : gi (mk 16 (A1 1371)) (k : Int) = A1 1371 k := gi_mkn k16
  have g72 : gi (mk 16 (A1 1372)) (k : Int) = A1 1372 k := gi_mkn k16
  have len : ∀ g : Nat → Int, (k : Int) < ((mk 16 g).length : Nat) := fun g => by rw [mk_len]; omega
  have i67 : In3 (A1 1367 k) := by unfold In3; omega
  have i71 : In3 (A1 1371 k) := by unfold In3; omega
  have tell : ∀ z, z = celV A1 k what → RA h (cellR T s A (k : Int) what) (.inl (some (vi z)), h1, 0, 0) := fun z ez => ⟨_, h1, s1, A1, v1, FR_trans R0 r1, ⟨fun x => absurd w x, fun _ => ⟨fun x => absurd w3 x, fun _ => ⟨fun x => absurd x n3, fun _ => ⟨φ, by rw [ez]; rfl⟩⟩⟩⟩, rfl⟩
  have it : In3 (tol A1 k) := by
    unfold tol
    split
    · decide
    · split
      · decide
      · exact i71
  have at99 : ∀ (y : Int) (t4 : Term), (y = if (hng A1 k).testBit k = true then 1 else 0) → wr sw_P (d + 13) sw_c412 sw_h412 (99, [.index 1290, vi (k : Int), vi what, vi y, t4], [vi (tol A1 k)], h1, 0, 0) (RA h (cellR T s A (k : Int) what)) := fun y t4 ey => by
    have iy : In3 y := by rw [ey]; split <;> decide
    refine k412_99 (fun x0 => ?_) (fun x0 => ?_) (c1 := hw)
    · refine k412_129 (fun x1 => ?_) (fun x1 => ?_) (c1 := hw)
      · have ec : celV A1 k what = if tol A1 k = 0 then -1 else if (hng A1 k).testBit k = true then 0 else A1 1372 k := (if_neg x0).trans (if_neg x1)
        refine k412_137 (fun x2 => ?_) (fun x2 => k412_142 (k412_160 (tell _ ?_))) (c1 := it)
        · refine k412_146 (fun x4 => ?_) (fun x4 => k412_150 (k412_160 (tell _ ?_))) (c1 := iy)
          · refine k412_154 (a8 := mk 16 (A1 1372)) v1.1 (Ra_cellPlace v1) (k412_160 (tell _ ?_)) (c10 := len _) (c11 := by omega) (c12 := by unfold In3; omega)
            have nc : ¬ (hng A1 k).testBit k = true := fun q => by
              rw [if_pos q] at ey
              omega
            rw [ec, if_neg x2, if_neg nc, g72]
          · have yc : (hng A1 k).testBit k = true := Classical.byContradiction (fun q => x4 (by rw [ey, if_neg q]))
            rw [ec, if_neg x2, if_pos yc]
        · rw [ec, if_pos (Classical.byContradiction x2)]
      · have e1 : what = 1 := Classical.byContradiction x1
        refine k412_134 (tell _ ?_)
        exact ((if_neg x0).trans (if_pos e1)).symm
    · have e0 : what = 0 := Classical.byContradiction x0
      have ec : celV A1 k what = if A1 1367 k = 0 then 0 else if tol A1 k = 0 then 1 else 2 := if_pos e0
      refine k412_105 (a8 := mk 16 (A1 1367)) v1.1 (Ra_cellLength v1) (fun x1 => ?_) (fun x1 => k412_114 (k412_128 (tell _ ?_))) (c10 := len _) (c11 := by omega) (c12 := by unfold In3; omega) (c13 := by rw [g67]; exact i67)
      · rw [g67] at x1
        refine k412_118 (fun x2 => k412_127 (k412_128 (tell _ ?_))) (fun x2 => k412_123 (k412_128 (tell _ ?_))) (c1 := it)
        · rw [ec, if_neg x1, if_neg x2]
        · rw [ec, if_neg x1, if_pos (Classical.byContradiction x2)]
      · rw [g67] at x1
        rw [ec, if_pos (Classical.byContradiction x1)]
  refine k412_70 (a8 := mk 16 (A1 1367)) v1.1 (Ra_cellLength v1) (fun x1 => ?_) (fun x1 => k412_80 ?_) (c10 := len _) (c11 := by omega) (c12 := by unfold In3; omega) (c13 := by rw [g67]; exact i67)
  · rw [g67] at x1
    refine k412_84 (fun x2 => ?_) (fun x2 => k412_88 ?_) (c1 := by split <;> decide)
    · have nc : ¬ (hng A1 k).testBit k = true := fun q => by
        rw [if_pos q] at x2
        exact absurd x2 (by decide)
      refine k412_93 (a8 := mk 16 (A1 1371)) v1.1 (Ra_cellFault v1) ?_ (c10 := len _) (c11 := by omega) (c12 := by unfold In3; omega)
      have et : tol A1 k = A1 1371 k := (if_neg x1).trans (if_neg nc)
      rw [g71, ← et]
      exact at99 _ _ rfl
    · have yc : (hng A1 k).testBit k = true := Classical.byContradiction (fun q => x2 (if_neg q))
      have et : tol A1 k = 8 := (if_neg x1).trans (if_pos yc)
      rw [← et]
      exact at99 _ _ rfl
  · rw [g67] at x1
    have et : tol A1 k = 0 := if_pos (Classical.byContradiction x1)
    have z := at99 _ .result rfl
    rw [et] at z
    exact z
end
