/-! the reference: products of matrices -/
theorem zp_C1m (f : zp_R) : zp_mul (zp_C (nF 1)) f = f := zp_ext (fun i => by
  rw [zp_C_mul1, nF_1]
  generalize f.1 i = y
  grind)
/-- what n terms of a product's entry come to -/
def mpr (M1 M2 : Nat → Nat → zp_R) (i j : Nat) : Nat → zp_R
  | 0 => zp_C 0
  | n + 1 => zp_add (mpr M1 M2 i j n) (zp_mul (M1 i n) (M2 n j))
theorem mpr_deg {M1 M2 : Nat → Nat → zp_R} {i j : Nat} : ∀ n : Nat, (∀ x, x < n → zp_deg (M1 i x) 11 ∧ zp_deg (M2 x j) 11) → zp_deg (mpr M1 M2 i j n) 21
  | 0, _ => fun i _ => zp_C00 i
  | n + 1, hd => deg_add (mpr_deg n (fun x hx => hd x (by omega))) (zp_deg_mul (n := 10) (m := 10) (hd n (by omega)).1 (hd n (by omega)).2)
section
variable {d : Nat} {h : s_H} {s : Nat → Int} {A : Nat → Nat → Int}
def mmQ (s : Nat → Int) (A : Nat → Nat → Int) (r c r2 c2 : Nat) (M1 M2 : Nat → Nat → zp_R) : Term → (Nat → Int) → (Nat → Nat → Int) → Prop := fun v s' A' =>
  (c ≠ r2 → v = vi 0 ∧ s' = up s 0 2 ∧ A' = A) ∧ (c = r2 → s 1 = 150 → v = vi 0 ∧ s' = up s 0 3 ∧ A' = A) ∧
  (c = r2 → s 1 ≠ 150 → (∃ i j, i < r ∧ j < c2 ∧ 10 < hi (mpr M1 M2 i j c)) → v = vi 0 ∧ s' = up s 0 3 ∧ inM A A' (s 1).toNat (fun _ _ => False) (fun i j => mpr M1 M2 i j c)) ∧
  (c = r2 → s 1 ≠ 150 → ¬ (∃ i j, i < r ∧ j < c2 ∧ 10 < hi (mpr M1 M2 i j c)) → v = vi (s 1) ∧ s' = up (up s 0 0) 1 (s 1 + 1) ∧ newM A A' (s 1).toNat r c2 (fun i j => mpr M1 M2 i j c))
theorem V_multiplyMatrices (hv : RV h s A) (hm : 0 ≤ s 1 ∧ s 1 ≤ 150) {f k : Nat} (hf : (f : Int) < s 1) (hk : (k : Int) < s 1) {r c r2 c2 : Nat} (hr : r ≤ 4) (hc : c ≤ 4) (hr2 : r2 ≤ 4) (hc2 : c2 ≤ 4) {M1 M2 : Nat → Nat → zp_R} (h1 : mat A f r c M1) (h2 : mat A k r2 c2 M2) (hb : ∀ t, t < 26400 → 0 ≤ A 1296 t ∧ A 1296 t < 32003) : wm sw_P (d + 3) 533 [.index 1290, vi (f : Int), vi (k : Int)] h (RA h (mmQ s A r c r2 c2 M1 M2)) := by
  refine wm_in (cd := sw_c533) (nL := 6) (hd := sw_h533) rfl rfl ?_
  have g1 : gi (mk 150 (A 1294)) (f : Int) = (r : Int) := by rw [gi_mkn (by omega)]; exact h1.1
  have g2 : gi (mk 150 (A 1294)) (k : Int) = (r2 : Int) := by rw [gi_mkn (by omega)]; exact h2.1
  have g3 : gi (mk 150 (A 1295)) (f : Int) = (c : Int) := by rw [gi_mkn (by omega)]; exact h1.2.1
  have g4 : gi (mk 150 (A 1295)) (k : Int) = (c2 : Int) := by rw [gi_mkn (by omega)]; exact h2.2.1
  refine k533_0 hv.1 (Ra_columns hv) (Ra_rows hv) (fun q => ?_) (fun q => ?_) (c10 := by rw [mk_len]; omega) (c12 := by unfold In3; omega) (c18 := by rw [mk_len]; omega) (c20 := by unfold In3; omega) (c21 := by rw [g3]; unfold In3; omega) (c22 := by rw [g2]; unfold In3; omega)
  rotate_left
  · rw [g3, g2] at q
    refine k533_15 hv.1 (wm_mono (wq_A (fun v h3 s3 A3 v3 r3 φ => ?_)) (V_raise hv))
    obtain ⟨e1, e2, e3⟩ := φ
    rw [e1]
    exact k533_20 ⟨vi 0, h3, s3, A3, v3, r3, ⟨fun _ => ⟨rfl, e2, e3⟩, fun w => absurd q (by omega), fun w => absurd q (by omega), fun w => absurd q (by omega)⟩, rfl⟩
  rw [g3, g2] at q
  have er : c = r2 := by omega
  refine k533_21 (z5 := s 1) hv.1 (fun q3 => ?_) (fun q3 => ?_) (c7 := by unfold In3; omega)
  rotate_left
  · refine k533_31 hv.1 (wm_mono (wq_A (fun v h3 s3 A3 v3 r3 φ => ?_)) (V_raise hv))
    obtain ⟨e1, e2, e3⟩ := φ
    rw [e1]
    exact k533_36 ⟨vi 0, h3, s3, A3, v3, r3, ⟨fun w => absurd er w, fun _ _ => ⟨rfl, e2, e3⟩, fun _ w => absurd w q3, fun _ w => absurd w q3⟩, rfl⟩
  obtain ⟨m, em⟩ : ∃ m : Nat, s 1 = m := ⟨(s 1).toNat, by omega⟩
  have rows : ∀ {B : Nat → Nat → Int} {dn : Nat → Nat → Prop} {M : Nat → Nat → zp_R}, inM A B m dn M → B 1294 = A 1294 ∧ B 1295 = A 1295 := fun a => ⟨a.1 1294 rfl, a.1 1295 rfl⟩
  have dM : ∀ i j, i < r → j < c2 → ∀ n, n ≤ c → zp_deg (mpr M1 M2 i j n) 21 := fun i j h3 h4 n hn => mpr_deg n (fun x hx => ⟨me_deg (h1.2.2 i x h3 (by omega)), me_deg (h2.2.2 x j (by omega) h4)⟩)
  have outer : ∀ (l i : Nat) (B : Nat → Nat → Int) (h' : s_H) (t4 t5 : Term), i + l = r → (∀ x y, x < i → y < c2 → ¬ 10 < hi (mpr M1 M2 x y c)) → RV h' s B → FR h h' → inM A B m (fun x y => y < c2 ∧ x < i) (fun i j => mpr M1 M2 i j c) → wr sw_P (d + 2) sw_c533 sw_h533 (39, [.index 1290, vi (f : Int), vi (k : Int), vi (i : Int), t4, t5], [], h', 0, 0) (RA h (mmQ s A r c r2 c2 M1 M2)) := by
    intro l
    induction l with
    | zero =>
      intro i B h' t4 t5 hi2 low v rr a
      obtain ⟨ra, rb⟩ := rows a
      refine k533_39 v.1 (Ra_rows v) (fun _ => ?_) (fun w => absurd w ?_) (c10 := by rw [mk_len]; omega) (c12 := by unfold In3; omega) (c14 := by rw [ra, g1]; unfold In3; omega)
      rotate_left
      · rw [ra, g1]; omega
      refine k533_180 v.1 (Ra_rows v) (Ra_columns v) (wm_mono (wq_A (fun v2 h3 s3 A3 v3 r3 φ => ?_)) (V_keepMatrix v ⟨hm.1, by omega⟩)) (c10 := by rw [mk_len]; omega) (c12 := by unfold In3; omega) (c18 := by rw [mk_len]; omega) (c20 := by unfold In3; omega)
      obtain ⟨e1, e2, e3⟩ := φ
      rw [ra, rb, g1, g4] at e3
      rw [e1]
      refine k533_196 ⟨_, h3, s3, A3, v3, FR_trans rr r3, ⟨fun w => absurd er w, fun _ w => absurd w q3, fun _ _ w => ?_, fun _ _ _ => ⟨rfl, e2, B, ?_, e3⟩⟩, rfl⟩
      · obtain ⟨x, y, w1, w2, w3⟩ := w
        exact absurd w3 (low x y (by omega) w2)
      rw [em]
      exact inM_mono a (fun x y _ _ w => ⟨w.2, by omega⟩)
    | succ l ih =>
      intro i B h' t4 t5 hi2 low v rr a
      obtain ⟨ra, rb⟩ := rows a
      refine k533_39 v.1 (Ra_rows v) (fun w => absurd w ?_) (fun _ => ?_) (c10 := by rw [mk_len]; omega) (c12 := by unfold In3; omega) (c14 := by rw [ra, g1]; unfold In3; omega)
      · rw [ra, g1]; omega
      refine k533_49 ?_
      have inner : ∀ (p j : Nat) (B : Nat → Nat → Int) (h' : s_H) (t5 : Term), j + p = c2 → (∀ y, y < j → ¬ 10 < hi (mpr M1 M2 i y c)) → RV h' s B → FR h h' → inM A B m (fun x y => y < c2 ∧ (x < i ∨ (x = i ∧ y < j))) (fun i j => mpr M1 M2 i j c) → wr sw_P (d + 2) sw_c533 sw_h533 (52, [.index 1290, vi (f : Int), vi (k : Int), vi (i : Int), vi (j : Int), t5], [], h', 0, 0) (RA h (mmQ s A r c r2 c2 M1 M2)) := by
        intro p
        induction p with
        | zero =>
          intro j B h' t5 hj low2 v rr a
          obtain ⟨ra, rb⟩ := rows a
          refine k533_52 v.1 (Ra_columns v) (fun _ => ?_) (fun w => absurd w ?_) (c10 := by rw [mk_len]; omega) (c12 := by unfold In3; omega) (c14 := by rw [rb, g4]; unfold In3; omega)
          rotate_left
          · rw [rb, g4]; omega
          refine k533_174 (ih (i + 1) B h' _ _ (by omega) (fun x y hx hy => ?_) v rr (inM_mono a (fun x y _ _ w => ⟨w.1, by omega⟩)))
          by_cases q5 : x < i
          · exact low x y q5 hy
          · rw [show x = i by omega]
            exact low2 y (by omega)
        | succ p ih2 =>
          intro j B h' t5 hj low2 v rr a
          obtain ⟨ra, rb⟩ := rows a
          refine k533_52 v.1 (Ra_columns v) (fun w => absurd w ?_) (fun _ => ?_) (c10 := by rw [mk_len]; omega) (c12 := by unfold In3; omega) (c14 := by rw [rb, g4]; unfold In3; omega)
          · rw [rb, g4]; omega
          refine k533_63 v.1 (wm_mono (wq_Q (fun h3 v3 r3 => ?_)) (V_empty v (c := 1310) rfl))
          refine k533_70 ?_
          have a3 := inM_sc a (C := up B 1310 (cf (zp_C 0))) (sm_up sm_refl _ rfl)
          -- the entry is put together
          have sumup : ∀ (u n : Nat) (B : Nat → Nat → Int) (h' : s_H), n + u = c → RV h' s B → FR h h' → inM A B m (fun x y => y < c2 ∧ (x < i ∨ (x = i ∧ y < j))) (fun i j => mpr M1 M2 i j c) → B 1310 = cf (mpr M1 M2 i j n) → wr sw_P (d + 2) sw_c533 sw_h533 (73, [.index 1290, vi (f : Int), vi (k : Int), vi (i : Int), vi (j : Int), vi (n : Int)], [], h', 0, 0) (RA h (mmQ s A r c r2 c2 M1 M2)) := by
            intro u
            induction u with
            | zero =>
              intro n B h' hn v rr a eu
              obtain ⟨ra, rb⟩ := rows a
              have nc : n = c := by omega
              rw [nc] at eu
              refine k533_73 v.1 (Ra_columns v) (fun _ => ?_) (fun w => absurd w ?_) (c10 := by rw [mk_len]; omega) (c12 := by unfold In3; omega) (c14 := by rw [rb, g3]; unfold In3; omega)
              rotate_left
              · rw [rb, g3]; omega
              have bh := hi_b (mpr M1 M2 i j c)
              refine k533_139 v.1 (wm_mono (wq_r ?_) (V_high v (c := 1310) rfl eu))
              refine k533_146 (fun q6 => ?_) (fun q6 => ?_)
              · have d11 : zp_deg (mpr M1 M2 i j c) 11 := fun x hx => hi_deg (deg_le (dM i j (by omega) (by omega) c (Nat.le_refl _)) (by decide)) x (by omega)
                refine k533_157 v.1 (wm_mono (wq_Q (fun h6 v6 r6 => ?_)) (V_keepEntry v (p := 1310) rfl (m := m) (i := i) (j := j) (by omega) em (by omega) (by omega) eu))
                refine k533_168 (ih2 (j + 1) _ _ _ (by omega) (fun y hy => ?_) v6 (FR_trans rr r6) (inM_mono (inM_step a (i := i) (j := j) (by omega) (by omega) d11) (fun x y _ _ w => by
                  by_cases q5 : x = i ∧ y = j
                  · exact .inr q5
                  · exact .inl ⟨w.1, by omega⟩)))
                by_cases q5 : y < j
                · exact low2 y q5
                · rw [show y = j by omega]
                  omega
              · refine k533_151 v.1 (wm_mono (wq_A (fun v2 h7 s7 A7 v7 r7 φ => ?_)) (V_raise v))
                obtain ⟨e1, e2, e3⟩ := φ
                rw [e1]
                refine k533_156 ⟨vi 0, h7, s7, A7, v7, FR_trans rr r7, ⟨fun w => absurd er w, fun _ w => absurd w q3, fun _ _ _ => ⟨rfl, e2, ?_⟩, fun _ _ w => absurd ⟨i, j, by omega, by omega, by omega⟩ w⟩, rfl⟩
                rw [e3, em]
                exact inM_mono a (fun _ _ _ _ w => absurd w id)
            | succ u ih3 =>
              intro n B h' hn v rr a eu
              obtain ⟨ra, rb⟩ := rows a
              refine k533_73 v.1 (Ra_columns v) (fun w => absurd w ?_) (fun _ => ?_) (c10 := by rw [mk_len]; omega) (c12 := by unfold In3; omega) (c14 := by rw [rb, g3]; unfold In3; omega)
              · rw [rb, g3]; omega
              have x1 := h1.2.2 i n (by omega) (by omega)
              have x2 := h2.2.2 n j (by omega) (by omega)
              refine k533_84 v.1 (wm_mono (wq_Q (fun h4 v4 r4 => ?_)) (V_loadEntry v (p := 1308) rfl (m := f) (i := i) (j := n) (by omega) (by omega) (by omega) (inM_b a hb)))
              rw [inM_me a (by omega) (by omega) (by omega), x1] at v4
              have a4 := inM_sc a (C := up B 1308 (cf (M1 i n))) (sm_up sm_refl _ rfl)
              refine k533_96 v4.1 (wm_mono (wq_Q (fun h5 v5 r5 => ?_)) (V_loadEntry v4 (p := 1309) rfl (m := k) (i := n) (j := j) (by omega) (by omega) (by omega) (inM_b a4 hb)))
              rw [inM_me a4 (by omega) (by omega) (by omega), x2] at v5
              refine k533_109 v5.1 (wm_mono (wq_Q (fun h6 v6 r6 => ?_)) (V_multiply v5 (p := 1308) (q := 1309) rfl rfl (by decide) (by decide) (f := M1 i n) (g := M2 n j) (by rw [up_ne _ _ (by decide), up_at]) (up_at _ _ _)))
              refine k533_121 v6.1 (wm_mono (wq_Q (fun h7 v7 r7 => ?_)) (V_more v6 (c := 1310) (e := 1304) rfl rfl (by decide) (f := mpr M1 M2 i j n) (g := zp_mul (M1 i n) (M2 n j)) (by rw [up_ne _ _ (by decide), up_ne _ _ (by decide), up_ne _ _ (by decide), eu]) (up_at _ _ _) (z := 1) (by decide)))
              rw [zp_C1m] at v7
              exact k533_133 (ih3 (n + 1) _ _ (by omega) v7 (FR_trans rr (FR_trans r4 (FR_trans r5 (FR_trans r6 r7)))) (inM_sc a (sm_up (sm_up (sm_up (sm_up sm_refl _ rfl) _ rfl) _ rfl) _ rfl)) (up_at _ _ _))
          exact sumup c 0 _ _ (by omega) v3 (FR_trans rr r3) a3 (up_at _ _ _)
      exact inner c2 0 B h' _ (by omega) (fun y hy => absurd hy (by omega)) v rr (inM_mono a (fun x y _ _ w => ⟨w.1, by omega⟩))
  exact k533_37 (outer r 0 A h _ _ (by omega) (fun x y hx => absurd hx (by omega)) hv (FR_refl h) ⟨sm_refl, fun _ _ => rfl, fun _ => .inl rfl, fun x y _ _ w => absurd w.2 (by omega)⟩)
end
