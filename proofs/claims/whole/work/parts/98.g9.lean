/-! the reference's readSource, readText, read -/
theorem pa3 (A : Nat → Nat → Int) {x : Nat} (h5 : x ≠ 1335) (h6 : x ≠ 1336) (h7 : x ≠ 1337) : bgA A x = A x := by
  unfold bgA
  rw [pa_ne h7, pa_ne h6, pa_ne h5]
theorem bgA_0 (A : Nat → Nat → Int) {x : Nat} (h : x = 1335 ∨ x = 1336 ∨ x = 1337) : bgA A x 0 = 0 := by
  unfold bgA
  rcases h with q | q | q <;> subst q
  · rw [pa_ne (by decide), pa_ne (by decide), pa_0]
  · rw [pa_ne (by decide), pa_0]
  · rw [pa_0]
theorem bg_kf (s : Nat → Int) (m : Int) : kf (up s 54 m) (bg s m) := by
  unfold bg
  exact kf_up (kf_up (kf_up (kf_up (kf_up (kf_up (kf_up (kf_up kf_0 _ rfl) _ rfl) _ rfl) _ rfl) _ rfl) _ rfl) _ rfl) _ rfl
theorem bg_sm (A : Nat → Nat → Int) : sm A (bgA A) rdL := pa_sm (pa_sm (pa_sm sm_refl _ _ rfl) _ _ rfl) _ _ rfl
theorem bg_cfg {s : Nat → Int} {A : Nat → Nat → Int} (h0 : 0 ≤ s 52) (m : Int) : cfg (bg s m) (bgA A) 0 0 0 := by
  have z5 := bgA_0 A (x := 1335) (.inl rfl)
  have z6 := bgA_0 A (x := 1336) (.inr (.inl rfl))
  have z7 := bgA_0 A (x := 1337) (.inr (.inr rfl))
  unfold bg
  refine ⟨⟨?_, ?_, ?_, .inl ?_⟩, ⟨?_, ?_⟩, ⟨?_, by decide⟩, ?_, fun k hk => ?_, ?_, fun w => ?_, .inl (.inl (up_at _ _ _))⟩
  · rw [up_ne _ _ (by decide), up_ne _ _ (by decide), up_ne _ _ (by decide), up_ne _ _ (by decide), up_ne _ _ (by decide), up_ne _ _ (by decide), up_ne _ _ (by decide), up_at]
  · rw [up_ne _ _ (by decide), up_ne _ _ (by decide), up_ne _ _ (by decide), up_ne _ _ (by decide), up_ne _ _ (by decide), up_ne _ _ (by decide), up_at]
  · rw [up_ne _ _ (by decide), up_ne _ _ (by decide), up_at]
  · rw [up_ne _ _ (by decide), up_ne _ _ (by decide), up_ne _ _ (by decide), up_at]
  · rw [up_ne _ _ (by decide), up_ne _ _ (by decide), up_ne _ _ (by decide), up_ne _ _ (by decide), up_at]; rfl
  · rw [up_ne _ _ (by decide), up_ne _ _ (by decide), up_ne _ _ (by decide), up_ne _ _ (by decide), up_ne _ _ (by decide), up_ne _ _ (by decide), up_ne _ _ (by decide), up_ne _ _ (by decide), up_ne _ _ (by decide)]; exact h0
  · rw [up_ne _ _ (by decide), up_ne _ _ (by decide), up_ne _ _ (by decide), up_ne _ _ (by decide), up_ne _ _ (by decide), up_at]; rfl
  · rw [up_ne _ _ (by decide), up_at]; rfl
  · have k0 : k = 0 := by omega
    subst k0
    unfold frk
    rw [z5, z6, z7]
    exact ⟨⟨.inl rfl, .inl rfl, .inl rfl⟩, fun w => absurd rfl w, fun w => absurd rfl w⟩
  · unfold tot frn
    rw [z5, z6, z7]
    decide
  · rw [up_ne _ _ (by decide), up_ne _ _ (by decide), up_ne _ _ (by decide), up_at] at w
    exact absurd w (by decide)
/-- the text is taken -/
def tkA (s : Nat → Int) (A : Nat → Nat → Int) : Nat → Nat → Int := up A 1334 (fun t => if (t : Int) < s 50 then A 1333 t else A 1334 t)
def tkS (s : Nat → Int) : Nat → Int := up s 52 (s 50)
theorem tk_E {s : Nat → Int} {A : Nat → Nat → Int} {T : Nat → th} (hT : TX s A) (h : rdE s A T) : rdE (tkS s) (tkA s A) T := by
  obtain ⟨h1, h2, h3, h4, h5⟩ := h
  have o : ∀ x, x ≠ 1334 → tkA s A x = A x := fun x hx => up_ne _ _ hx
  have f : ∀ x c, x ≠ 1334 → fp (tkA s A) x c = fp A x c := fun x c hx => by
    unfold fp
    rw [o x hx]
  refine ⟨⟨?_, fun i hi2 => ?_⟩, ?_, ?_, ?_, RI_k h5 o rfl (up_ne _ _ (by decide))⟩
  · unfold tkS
    rw [up_at]
    exact hT.1
  · unfold tkA
    rw [up_at]
    split
    · exact hT.2 i hi2
    · exact h1.2 i hi2
  · unfold ShB at *
    rw [o 1367 (by decide), o 1371 (by decide), o 1372 (by decide), o 1373 (by decide), o 1374 (by decide), o 1368 (by decide)]
    exact h2
  · rw [o 1369 (by decide), o 1370 (by decide)]
    exact h3
  · unfold ShF at *
    intro c hc
    rw [o 1373 (by decide), o 1374 (by decide), o 1371 (by decide), f 1369 c (by decide), f 1370 c (by decide)]
    exact h4 c hc
/-- what the reader comes to -/
def rsR (T : Nat → th) (s : Nat → Int) (A : Nat → Nat → Int) (m : Int) (s' : Nat → Int) (A' : Nat → Nat → Int) : Prop := run T (bg s m) (bgA A) s' A' ∧ runE m A s' A' (up s 54 m) A
/-- a text is read -/
def rtR (T : Nat → th) (s : Nat → Int) (A : Nat → Nat → Int) (m : Int) (s1 : Nat → Int) (s' : Nat → Int) (A' : Nat → Nat → Int) : Prop := rsR T (tkS s) (tkA s A) m s1 A' ∧ s' = up (up (up s1 50 0) 57 (s1 55)) 58 (s1 56)
theorem rdE_m {s : Nat → Int} {A : Nat → Nat → Int} {T : Nat → th} (h : rdE s A T) (m : Int) : rdE (up s 54 m) A T := by
  obtain ⟨h1, h2, h3, h4, h5⟩ := h
  refine ⟨?_, h2, h3, h4, RI_st h5 (fun _ _ => rfl) (up_ne _ _ (by decide))⟩
  unfold SX at *
  rw [up_ne _ _ (by decide)]
  exact h1
section
variable {d : Nat} {h : s_H} {s : Nat → Int} {A : Nat → Nat → Int}
theorem V_readSource (hv : RV h s A) {T : Nat → th} (E : rdE s A T) {m : Int} (m3 : 0 ≤ m ∧ m ≤ 3) : wm sw_P (d + 11) 578 [.index 1290, vi m] h (RN h (rsR T s A m)) := by
  refine wm_in (cd := sw_c578) (nL := 2) (hd := sw_h578) rfl rfl ?_
  have v1 := RV_fld hv (up s 54 m) (rF_54 s m)
  have v2 := RV_fld v1 (up (up s 54 m) 55 0) (rF_55 _ 0)
  have v3 := RV_fld v2 (up (up (up s 54 m) 55 0) 56 (-1)) (rF_56 _ (-1))
  have v4 := RV_fld v3 (up (up (up (up s 54 m) 55 0) 56 (-1)) 59 0) (rF_59 _ 0)
  have v5 := RV_fld v4 (up (up (up (up (up s 54 m) 55 0) 56 (-1)) 59 0) 71 0) (rF_71 _ 0)
  have v6 := RV_fld v5 (up (up (up (up (up (up s 54 m) 55 0) 56 (-1)) 59 0) 71 0) 75 0) (rF_75 _ 0)
  have v7 := RV_fld v6 (up (up (up (up (up (up (up s 54 m) 55 0) 56 (-1)) 59 0) 71 0) 75 0) 76 (-1)) (rF_76 _ (-1))
  have v8 := RV_fld v7 (up (up (up (up (up (up (up (up s 54 m) 55 0) 56 (-1)) 59 0) 71 0) 75 0) 76 (-1)) 88 0) (rF_88 _ 0)
  have r8 : FR h _ := FR_trans (FR_fld hv _) (FR_trans (FR_fld v1 _) (FR_trans (FR_fld v2 _) (FR_trans (FR_fld v3 _) (FR_trans (FR_fld v4 _) (FR_trans (FR_fld v5 _) (FR_trans (FR_fld v6 _) (FR_fld v7 (1, 11, rF (up (up (up (up (up (up (up (up s 54 m) 55 0) 56 (-1)) 59 0) 71 0) 75 0) 76 (-1)) 88 0)))))))))
  refine k578_0 hv.1 v1.1 v2.1 v3.1 v4.1 v5.1 v6.1 v7.1 v8.1 (wm_mono (wq_N (fun h9 s9 A9 v9 r9 φ => ?_)) (V_begin v8 (n := 0) (by rw [up_ne _ _ (by decide), up_ne _ _ (by decide), up_ne _ _ (by decide), up_ne _ _ (by decide), up_at]; rfl) (by decide)))
  obtain ⟨e9, eA9⟩ := φ
  have e9' : s9 = bg s m := e9
  have eA9' : A9 = bgA A := eA9
  subst e9' eA9'
  refine V_loop (s := up s 54 m) (A := A) m3 201 h9 _ _ _ v9 (FR_trans r8 r9) (rdE_to (rdE_m E m) (bg_sm A) (bg_kf s m)) ?_ (bg_kf s m) (bg_sm A) (fun s' A' a b => ⟨a, b⟩) (.inr (.inr (.inr ⟨0, 0, 0, by decide, bg_cfg E.1.1.1 m⟩)))
  rw [bg_kf s m 54 rfl, up_at]
theorem V_readText (hv : RV h s A) {T : Nat → th} (hT : TX s A) (E : rdE s A T) {m : Int} (m3 : 0 ≤ m ∧ m ≤ 3) : wm sw_P (d + 12) 579 [.index 1290, vi m] h (RA h (fun v s' A' => ∃ s1, rtR T s A m s1 s' A' ∧ v = vi (if s1 55 = 0 then 1 else 0))) := by
  refine wm_in (cd := sw_c579) (nL := 2) (hd := sw_h579) rfl rfl ?_
  obtain ⟨n, en⟩ : ∃ n : Nat, s 50 = n := ⟨(s 50).toNat, by have := hT.1; omega⟩
  refine k579_0 hv.1 (wm_mono (wq_N (fun h1 s1 A1 v1 r1 φ => ?_)) (V_takeText hv en (by have := hT.1; omega)))
  obtain ⟨e1, eA1⟩ := φ
  have e1' : s1 = tkS s := by rw [e1]; unfold tkS; rw [en]
  have eA1' : A1 = tkA s A := by
    rw [eA1]
    unfold tkA
    rw [en]
    congr 1
    funext t
    by_cases w : t < n
    · rw [if_pos w, if_pos (by omega)]
    · rw [if_neg w, if_neg (by omega)]
  subst e1' eA1'
  refine k579_4 v1.1 (wm_mono (wq_N (fun h2 s2 A2 v2 r2 φ => ?_)) (V_readSource v1 (tk_E hT E) m3))
  have v3 := RV_fld v2 (up s2 50 0) (rF_50 s2 0)
  have v4 := RV_fld v3 (up (up s2 50 0) 57 (s2 55)) (rF_57 (up s2 50 0) (s2 55))
  have v5 := RV_fld v4 (up (up (up s2 50 0) 57 (s2 55)) 58 (s2 56)) (rF_58 (up (up s2 50 0) 57 (s2 55)) (s2 56))
  have i55 : In3 (s2 55) := by
    rcases φ.2.2.2 with x | x | x
    · unfold In3; omega
    · rw [x.1.1]; decide
    · rw [x.1]; decide
  have R := FR_trans r1 (FR_trans r2 (FR_trans (FR_fld v2 (1, 11, rF (up s2 50 0))) (FR_trans (FR_fld v3 (1, 11, rF (up (up s2 50 0) 57 (s2 55)))) (FR_fld v4 (1, 11, rF (up (up (up s2 50 0) 57 (s2 55)) 58 (s2 56)))))))
  refine k579_9 (z9 := s2 55) (z14 := s2 56) (z19 := s2 55) v2.1 v3.1 v4.1 v5.1 (fun w => ?_) (fun w => ?_) (n10 := by
    show some (vi (up s2 50 0 55)) = _
    rw [up_ne _ _ (by decide)]) (n15 := by
    show some (vi (up (up s2 50 0) 57 (s2 55) 56)) = _
    rw [up_ne _ _ (by decide), up_ne _ _ (by decide)]) (n20 := by
    show some (vi (up (up (up s2 50 0) 57 (s2 55)) 58 (s2 56) 55)) = _
    rw [up_ne _ _ (by decide), up_ne _ _ (by decide), up_ne _ _ (by decide)])
  · refine k579_41 (k579_42 ⟨_, _, _, _, v5, R, ⟨s2, ⟨φ, rfl⟩, ?_⟩, rfl⟩)
    rw [if_neg w]
  · refine k579_37 (k579_42 ⟨_, _, _, _, v5, R, ⟨s2, ⟨φ, rfl⟩, ?_⟩, rfl⟩)
    rw [if_pos (Classical.byContradiction w)]
/-- what read comes to -/
def readR (T : Nat → th) (s : Nat → Int) (A : Nat → Nat → Int) (v : Term) (s' : Nat → Int) (A' : Nat → Nat → Int) : Prop := (s 1 = 150 → v = vi 0 ∧ s' = up s 0 1 ∧ A' = A) ∧ (s 1 ≠ 150 → ∃ s1 s2 A2, rtR T s A 0 s1 s2 A2 ∧ (s1 55 ≠ 0 → v = vi 0 ∧ s' = up s2 0 2 ∧ A' = A2) ∧ (s1 55 = 0 → ∃ a b, frc A2 a b ∧ ends s2 A2 T (.inl (th_fr a b)) v s' A'))
theorem rt_kf {T : Nat → th} {s s1 s' : Nat → Int} {A A' : Nat → Nat → Int} {m : Int} (h : rtR T s A m s1 s' A') : (∀ j, rdF.contains j = false → j ≠ 50 → j ≠ 52 → j ≠ 54 → j ≠ 57 → j ≠ 58 → s' j = s j) ∧ (∀ x, rdL.contains x = false → x ≠ 1334 → A' x = A x) := by
  obtain ⟨⟨_, h1, h2, _⟩, h3⟩ := h
  refine ⟨fun j hj y0 y1 y2 y3 y4 => ?_, fun x hx y0 => (h2 x hx).trans (up_ne _ _ y0)⟩
  rw [h3, up_ne _ _ y4, up_ne _ _ y3, up_ne _ _ y0, h1 j hj, up_ne _ _ y2]
  exact up_ne _ _ y1
theorem rt_RI {T : Nat → th} {s s1 s' : Nat → Int} {A A' : Nat → Nat → Int} {m : Int} (hR : RI s A T) (h : rtR T s A m s1 s' A') : RI s' A' T := by
  obtain ⟨k1, k2⟩ := rt_kf h
  refine RI_st hR (fun j hj => ?_) (k1 1 rfl (by decide) (by decide) (by decide) (by decide) (by decide))
  have : sto.all (fun j => !rdL.contains j && decide (j ≠ 1334)) = true := rfl
  rw [List.all_eq_true] at this
  have w := this j (List.contains_iff_mem.mp hj)
  rw [Bool.and_eq_true, Bool.not_eq_true'] at w
  exact k2 j w.1 (of_decide_eq_true w.2)
theorem V_read (hv : RV h s A) {T : Nat → th} (hT : TX s A) (E : rdE s A T) : wm sw_P (d + 13) 573 [.index 1290] h (RA h (readR T s A)) := by
  refine wm_in (cd := sw_c573) (nL := 1) (hd := sw_h573) rfl rfl ?_
  have hm := E.2.2.2.2.1.1
  refine k573_0 (z5 := s 1) hv.1 (fun w => ?_) (fun w => ?_) (c7 := by unfold In3; omega)
  rotate_left
  · have e1 : s 1 = 150 := Classical.byContradiction w
    refine k573_10 hv.1 (wm_mono (wq_A (fun v h1 s1 A1 v1 r1 φ => ?_)) (V_raise hv))
    obtain ⟨ev, φ2⟩ := φ
    subst ev
    exact k573_15 ⟨_, _, _, _, v1, r1, ⟨fun _ => ⟨rfl, φ2⟩, fun w2 => absurd e1 w2⟩, rfl⟩
  refine k573_16 hv.1 (wm_mono (wq_A (fun v h1 s1 A1 v1 r1 φ => ?_)) (V_readText hv hT E (m := 0) (by decide)))
  obtain ⟨s0, φ, ev⟩ := φ
  subst ev
  refine k573_21 (fun w2 => ?_) (fun w2 => ?_) (c1 := by split <;> decide)
  · have e55 : s0 55 = 0 := Classical.byContradiction (fun x => w2 (if_neg x))
    obtain ⟨a, b, f⟩ : ∃ a b, frc A1 a b := by
      rcases φ.1.2.2.2 with x | x | x
      · omega
      · exact absurd x.1.2.2 (by decide)
      · exact x.2.2.2.2.1
    have kf1 := (rt_kf φ).1 1 rfl (by decide) (by decide) (by decide) (by decide) (by decide)
    refine k573_30 v1.1 (wm_mono (wq_A (fun v h2 s2 A2 v2 r2 ψ => ?_)) (V_keep v1 (by rw [kf1]; exact hm) f.1 f.2.1))
    obtain ⟨res, z1, z2, z3⟩ := ends_kQ (s1 0) (rt_RI E.2.2.2.2 φ) sm_refl (deg_le f.2.2.1 (by decide)) (deg_le f.2.2.2.1 (by decide)) f.2.2.2.2.1 f.2.2.2.2.2 (s' := s2) (A' := A2) (v := v) (bad := 1) (by
      have : up s1 0 (s1 0) = s1 := by
        funext j
        by_cases hj : j = 0
        · rw [hj, up_at]
        · rw [up_ne _ _ hj]
      rw [this]
      exact ψ)
    have nf : ¬ full s1 a b := fun x => by
      rcases x with x | x | x
      · rw [kf1] at x
        exact w x
      · have := hi_lt f.2.2.1 (Nat.le_refl _); omega
      · have := hi_lt f.2.2.2.1 (Nat.le_refl _); omega
    rw [z2 nf] at z3
    obtain ⟨z4, ev, z5⟩ := z3
    subst ev
    exact k573_35 ⟨_, _, _, _, v2, FR_trans r1 r2, ⟨fun x => absurd x w, fun _ => ⟨s0, s1, A1, φ, fun x => absurd e55 x, fun _ => ⟨a, b, f, z4, rfl, z5⟩⟩⟩, rfl⟩
  · have e55 : s0 55 ≠ 0 := fun x => w2 (by rw [if_pos x]; decide)
    refine k573_24 v1.1 (wm_mono (wq_A (fun v h2 s2 A2 v2 r2 ψ => ?_)) (V_raise v1))
    obtain ⟨ev, ψ2⟩ := ψ
    subst ev
    exact k573_29 ⟨_, _, _, _, v2, FR_trans r1 r2, ⟨fun x => absurd x w, fun _ => ⟨s0, s1, A1, φ, fun _ => ⟨rfl, ψ2⟩, fun x => absurd x e55⟩⟩, rfl⟩
end
