/-! the reference's keepFactor, the whole of it -/
/-- polynomial f comes to place n of row c; nothing else in it -/
def ptn (A B : Nat → Nat → Int) (c n : Nat) (f : zp_R) : Prop := pt B c n = cf f ∧ ∀ k, k ≠ n → pt B c k = pt A c k
def kfR : List Nat := [1305, 1309, 1312, 1314, 1315, 1316, 1319]
section
variable {d : Nat} {h : s_H} {s : Nat → Int} {A : Nat → Nat → Int}
theorem pt_fill {A B : Nat → Nat → Int} {c n : Nat} {f : zp_R} (df : zp_deg f 42) (g : ∀ t, B c t = if 42 * n ≤ t ∧ t < 42 * n + 42 then cf f (t - 42 * n) else A c t) : ptn A B c n f := by
  refine ⟨?_, fun k hk => ?_⟩
  · funext x
    unfold pt
    by_cases q : x ≤ 41
    · rw [if_pos q, g, if_pos (by omega), show 42 * n + x - 42 * n = x by omega]
    · rw [if_neg q]
      unfold cf
      rw [df x (by omega)]; rfl
  · funext x
    unfold pt
    by_cases q : x ≤ 41
    · rw [if_pos q, if_pos q, g, if_neg (by omega)]
    · rw [if_neg q, if_neg q]
theorem V_keepFactor (hv : RV h s A) {p k F : Nat} (hp : P9 p = true) (hp9 : p = 1298 ∨ p = 1299) (hk : k < 41) (hF : s 26 = F) (F41 : F < 41) {f g : zp_R} {n : Nat} (hf : pt A 1319 k = cf f) (f1 : f.1 n = 1) (f2 : zp_deg f (n + 1)) (n1 : 1 ≤ n) (hg : A p = cf g) (dg : zp_deg g 176) (g0 : g ≠ zp_C 0) : wm sw_P (d + 5) 497 [.index 1290, vi (k : Int), .index p] h (RN h (fun s' A' => s' = up s 26 ((F : Int) + 1) ∧ sm A A' kfR ∧ ptn A A' 1319 k (zp_C 0) ∧ ptn A A' 1315 F f ∧ (A' 1314 F = (n : Int) ∧ ∀ j, j ≠ F → A' 1314 j = A 1314 j) ∧ ∃ o : Nat, oft g f o ∧ o ≤ 176 ∧ A' 1316 F = (o : Int) ∧ ∀ j, j ≠ F → A' 1316 j = A 1316 j)) := by
  refine wm_in (cd := sw_c497) (nL := 5) (hd := sw_h497) rfl rfl ?_
  have df := pt_deg hf
  have n41 : n ≤ 41 := Nat.le_of_not_lt (fun w => by
    have := df n (by omega)
    rw [f1] at this
    exact absurd this (by decide))
  have hif : hi f = n := hi_mo f1 f2 (deg_le df (by decide))
  have d0 : zp_deg (zp_C 0) 42 := deg_le (zp_C_deg _) (by decide)
  refine k497_0 hv.1 (wm_mono (wq_Q (fun h1 v1 r1 => ?_)) (V_loadPart hv hk))
  rw [hf] at v1
  have o1 : ∀ x, x ≠ 1312 → up A 1312 (cf f) x = A x := fun x hx => up_ne _ _ hx
  have w12 : up A 1312 (cf f) 1312 = cf f := up_at _ _ _
  obtain ⟨A1, eA1⟩ : ∃ A1, A1 = up A 1312 (cf f) := ⟨_, rfl⟩
  rw [← eA1] at v1 o1 w12
  have zl : ∀ (l i : Nat) (B : Nat → Nat → Int) (h' : s_H), i + l = 42 → RV h' s B → FR h h' → (∀ x, x ≠ 1319 → B x = A1 x) → (∀ t, B 1319 t = if 42 * k ≤ t ∧ t < 42 * k + i then cf (zp_C 0) (t - 42 * k) else A1 1319 t) → (∀ (B : Nat → Nat → Int) (h' : s_H), RV h' s B → FR h h' → (∀ x, x ≠ 1319 → B x = A1 x) → ptn A1 B 1319 k (zp_C 0) → wr sw_P (d + 4) sw_c497 sw_h497 (31, [.index 1290, vi (k : Int), .index p, vi 42, .result], [], h', 0, 0) (RN h (fun s' A' => s' = up s 26 ((F : Int) + 1) ∧ sm A A' kfR ∧ ptn A A' 1319 k (zp_C 0) ∧ ptn A A' 1315 F f ∧ (A' 1314 F = (n : Int) ∧ ∀ j, j ≠ F → A' 1314 j = A 1314 j) ∧ ∃ o : Nat, oft g f o ∧ o ≤ 176 ∧ A' 1316 F = (o : Int) ∧ ∀ j, j ≠ F → A' 1316 j = A 1316 j))) → wr sw_P (d + 4) sw_c497 sw_h497 (7, [.index 1290, vi (k : Int), .index p, vi (i : Int), .result], [], h', 0, 0) (RN h (fun s' A' => s' = up s 26 ((F : Int) + 1) ∧ sm A A' kfR ∧ ptn A A' 1319 k (zp_C 0) ∧ ptn A A' 1315 F f ∧ (A' 1314 F = (n : Int) ∧ ∀ j, j ≠ F → A' 1314 j = A 1314 j) ∧ ∃ o : Nat, oft g f o ∧ o ≤ 176 ∧ A' 1316 F = (o : Int) ∧ ∀ j, j ≠ F → A' 1316 j = A 1316 j)) := by
    intro l
    induction l with
    | zero =>
      intro i B h' hi2 v rr o g K
      have e42 : i = 42 := by omega
      subst e42
      exact k497_7 (fun _ => K B h' v rr o (pt_fill d0 g)) (fun w => absurd (by decide) w) (c1 := by decide)
    | succ l ih =>
      intro i B h' hi2 v rr o g K
      refine k497_7 (fun w => absurd w (by omega)) (fun _ => ?_) (c1 := by unfold In3; omega)
      refine k497_13 v.1 (Ra_partAt v) ?_ (c10 := by rw [mk_len]; omega) (c11 := by omega) (c12 := by unfold In3; omega)
      rw [mk_set, show (42 * (k : Int) + (i : Int)).toNat = 42 * k + i by omega]
      refine ih (i + 1) _ _ (by omega) (Rp_partAt v _) (FR_trans rr (FR_put v (c := 1319) (by decide) (by decide) _)) (fun x hx => by rw [up_ne _ _ hx]; exact o x hx) (fun t => ?_) K
      rw [up_at]
      show (if t = 42 * k + i then _ else _) = _
      by_cases q : t = 42 * k + i
      · rw [if_pos q, if_pos (by omega)]
        unfold cf
        rw [zp_C00]; rfl
      · rw [if_neg q, g]
        by_cases q2 : 42 * k ≤ t ∧ t < 42 * k + i
        · rw [if_pos q2, if_pos (by omega)]
        · rw [if_neg q2, if_neg (by omega)]
  refine k497_5 (zl 42 0 A1 h1 rfl v1 r1 (fun _ _ => rfl) (fun t => by rw [if_neg (by omega)]) (fun B h2 v2 r2 o2 z2 => ?_))
  have B12 : B 1312 = cf f := (o2 1312 (by decide)).trans w12
  refine k497_31 (z7 := s 26) v2.1 (wm_mono (wq_r ?_) (V_high v2 (c := 1312) rfl B12))
  rw [hF, hif]
  refine k497_46 (Ra_factorDegree v2) ?_ (c4 := by rw [mk_len]; omega) (c5 := by omega) (c6 := by unfold In3; omega)
  rw [mk_set, Int.toNat_natCast]
  have v3 := Rp_factorDegree v2 (fun j => if j = F then (n : Int) else B 1314 j)
  have r3 := FR_trans r2 (FR_put v2 (c := 1314) (by decide) (by decide) (ai 41 (fun j => if j = F then (n : Int) else B 1314 j)))
  obtain ⟨C, eC⟩ : ∃ C, C = up B 1314 (fun j => if j = F then (n : Int) else B 1314 j) := ⟨_, rfl⟩
  rw [← eC] at v3
  have oC : ∀ x, x ≠ 1314 → C x = B x := fun x hx => by rw [eC]; exact up_ne _ _ hx
  have eCF : ∀ j, C 1314 j = if j = F then (n : Int) else A 1314 j := fun j => by
    rw [eC, up_at, o2 1314 (by decide), o1 1314 (by decide)]
  have cl : ∀ (l i : Nat) (D : Nat → Nat → Int) (h' : s_H), i + l = 42 → RV h' s D → FR h h' → (∀ x, x ≠ 1315 → D x = C x) → (∀ t, D 1315 t = if 42 * F ≤ t ∧ t < 42 * F + i then cf f (t - 42 * F) else C 1315 t) → (∀ (D : Nat → Nat → Int) (h' : s_H), RV h' s D → FR h h' → (∀ x, x ≠ 1315 → D x = C x) → ptn C D 1315 F f → wr sw_P (d + 4) sw_c497 sw_h497 (81, [.index 1290, vi (k : Int), .index p, vi 42, .result], [], h', 0, 0) (RN h (fun s' A' => s' = up s 26 ((F : Int) + 1) ∧ sm A A' kfR ∧ ptn A A' 1319 k (zp_C 0) ∧ ptn A A' 1315 F f ∧ (A' 1314 F = (n : Int) ∧ ∀ j, j ≠ F → A' 1314 j = A 1314 j) ∧ ∃ o : Nat, oft g f o ∧ o ≤ 176 ∧ A' 1316 F = (o : Int) ∧ ∀ j, j ≠ F → A' 1316 j = A 1316 j))) → wr sw_P (d + 4) sw_c497 sw_h497 (49, [.index 1290, vi (k : Int), .index p, vi (i : Int), .result], [], h', 0, 0) (RN h (fun s' A' => s' = up s 26 ((F : Int) + 1) ∧ sm A A' kfR ∧ ptn A A' 1319 k (zp_C 0) ∧ ptn A A' 1315 F f ∧ (A' 1314 F = (n : Int) ∧ ∀ j, j ≠ F → A' 1314 j = A 1314 j) ∧ ∃ o : Nat, oft g f o ∧ o ≤ 176 ∧ A' 1316 F = (o : Int) ∧ ∀ j, j ≠ F → A' 1316 j = A 1316 j)) := by
    intro l
    induction l with
    | zero =>
      intro i D h' hi2 v rr o g K
      have e42 : i = 42 := by omega
      subst e42
      exact k497_49 (fun _ => K D h' v rr o (pt_fill df g)) (fun w => absurd (by decide) w) (c1 := by decide)
    | succ l ih =>
      intro i D h' hi2 v rr o g K
      have g1 : gi (mk 176 (D 1312)) (i : Int) = cf f i := by rw [o 1312 (by decide), oC 1312 (by decide), B12]; exact gi_mkn (by omega)
      refine k497_49 (fun w => absurd w (by omega)) (fun _ => ?_) (c1 := by unfold In3; omega)
      refine k497_55 (z7 := s 26) v.1 (Ra_w v) (Ra_factorAt v) ?_ (c14 := by rw [mk_len]; omega) (c15 := by omega) (c16 := by unfold In3; omega) (c20 := by rw [mk_len, hF]; omega) (c21 := by rw [hF]; omega) (c22 := by rw [hF]; unfold In3; omega)
      rw [g1, mk_set, hF, show (42 * (F : Int) + (i : Int)).toNat = 42 * F + i by omega]
      refine ih (i + 1) _ _ (by omega) (Rp_factorAt v _) (FR_trans rr (FR_put v (c := 1315) (by decide) (by decide) _)) (fun x hx => by rw [up_ne _ _ hx]; exact o x hx) (fun t => ?_) K
      rw [up_at]
      show (if t = 42 * F + i then _ else _) = _
      by_cases q : t = 42 * F + i
      · rw [if_pos q, if_pos (by omega), show t - 42 * F = i by omega]
      · rw [if_neg q, g]
        by_cases q2 : 42 * F ≤ t ∧ t < 42 * F + i
        · rw [if_pos q2, if_pos (by omega)]
        · rw [if_neg q2, if_neg (by omega)]
  refine cl 42 0 C _ rfl v3 r3 (fun _ _ => rfl) (fun t => by rw [if_neg (by omega)]) (fun D h4 v4 r4 o4 z4 => ?_)
  have gp : D p = cf g := by
    rw [o4 p (by omega), oC p (by omega), o2 p (by omega), o1 p (by omega)]; exact hg
  refine k497_81 v4.1 (wm_mono (wq_Q (fun h5 v5 r5 => ?_)) (V_copy v4 (c := 1309) (e := p) rfl hp (by omega)))
  rw [gp] at v5
  refine W_often v5 (FR_trans r4 r5) (f := f) (g := g) (n := n) (by rw [up_ne _ _ (by decide), o4 1312 (by decide), oC 1312 (by decide)]; exact B12) f1 f2 n1 n41 (up_at _ _ _) dg g0 (fun E h6 o v6 r6 mE ho hob => ?_)
  refine k497_150 (z7 := s 26) (z18 := s 26) v6.1 (Ra_factorOften v6) ((hp_ne (Ra_factorOften v6) (by decide)).trans v6.1) ?_ (c12 := by rw [mk_len, hF]; omega) (c13 := by rw [hF]; omega) (c14 := by rw [hF]; unfold In3; omega)
  rw [mk_set, hF, Int.toNat_natCast]
  have v7 := Rp_factorOften v6 (fun j => if j = F then (o : Int) else E 1316 j)
  have v8 := RV_fld v7 (up s 26 ((F : Int) + 1)) (rF_26 s ((F : Int) + 1))
  have eE : ∀ x, x ≠ 1305 → x ≠ 1309 → E x = D x := fun x hx hx2 => by
    rw [mE x (by
      show (x == 1305 || (x == 1309 || false)) = false
      rw [beq_false_of_ne hx, beq_false_of_ne hx2]; rfl), up_ne _ _ hx2]
  have eEA : ∀ x, x ≠ 1305 → x ≠ 1309 → x ≠ 1315 → x ≠ 1314 → x ≠ 1319 → x ≠ 1312 → E x = A x := fun x h1 h2 h3 h4 h5 h6 => by
    rw [eE x h1 h2, o4 x h3, oC x h4, o2 x h5, o1 x h6]
  refine ⟨_, _, _, v8, FR_trans r6 (FR_trans (FR_put v6 (c := 1316) (by decide) (by decide) _) (FR_fld v7 _)), ⟨rfl, fun x hx => ?_, ⟨?_, fun j hj => ?_⟩, ⟨?_, fun j hj => ?_⟩, ⟨?_, fun j hj => ?_⟩, o, ho, hob, ?_, fun j hj => ?_⟩, rfl⟩
  · have ne : ∀ c : Nat, kfR.contains c = true → x ≠ c := fun c hc w => by rw [w, hc] at hx; exact Bool.noConfusion hx
    rw [up_ne _ _ (ne 1316 rfl)]
    exact eEA x (ne 1305 rfl) (ne 1309 rfl) (ne 1315 rfl) (ne 1314 rfl) (ne 1319 rfl) (ne 1312 rfl)
  · rw [← z2.1]
    funext x
    unfold pt
    rw [up_ne _ _ (by decide), eE 1319 (by decide) (by decide), o4 1319 (by decide), oC 1319 (by decide)]
  · have := z2.2 j hj
    have e : pt A1 1319 j = pt A 1319 j := by
      funext x
      unfold pt
      rw [o1 1319 (by decide)]
    rw [← e, ← this]
    funext x
    unfold pt
    rw [up_ne _ _ (by decide), eE 1319 (by decide) (by decide), o4 1319 (by decide), oC 1319 (by decide)]
  · rw [← z4.1]
    funext x
    unfold pt
    rw [up_ne _ _ (by decide), eE 1315 (by decide) (by decide)]
  · have := z4.2 j hj
    have e : pt C 1315 j = pt A 1315 j := by
      funext x
      unfold pt
      rw [oC 1315 (by decide), o2 1315 (by decide), o1 1315 (by decide)]
    rw [← e, ← this]
    funext x
    unfold pt
    rw [up_ne _ _ (by decide), eE 1315 (by decide) (by decide)]
  · rw [up_ne _ _ (by decide), eE 1314 (by decide) (by decide), o4 1314 (by decide), eCF, if_pos rfl]
  · rw [up_ne _ _ (by decide), eE 1314 (by decide) (by decide), o4 1314 (by decide), eCF, if_neg hj]
  · rw [up_at]; exact if_pos rfl
  · rw [up_at]
    show (if j = F then _ else _) = _
    rw [if_neg hj, eEA 1316 (by decide) (by decide) (by decide) (by decide) (by decide) (by decide)]
end
