/-! the reference: sums and products of matrices -/
def mat (A : Nat → Nat → Int) (m r c : Nat) (M : Nat → Nat → zp_R) : Prop := A 1294 m = r ∧ A 1295 m = c ∧ ∀ i j, i < r → j < c → me A m i j = cf (M i j)
theorem me_deg {A : Nat → Nat → Int} {m i j : Nat} {f : zp_R} (e : me A m i j = cf f) : zp_deg f 11 := fun k hk => cf_0 (by rw [← e]; exact if_neg (by omega))
/-- entries of matrix m under way: those of dn are M's -/
def inM (A B : Nat → Nat → Int) (m : Nat) (dn : Nat → Nat → Prop) (M : Nat → Nat → zp_R) : Prop := sm A B [1296, 1304, 1308, 1309, 1310] ∧ (∀ t, ¬ (176 * m ≤ t ∧ t < 176 * m + 176) → B 1296 t = A 1296 t) ∧ (∀ t, B 1296 t = A 1296 t ∨ (0 ≤ B 1296 t ∧ B 1296 t < 32003)) ∧ ∀ i j, i < 4 → j < 4 → dn i j → me B m i j = cf (M i j)
theorem inM_mono {A B : Nat → Nat → Int} {m : Nat} {dn dn' : Nat → Nat → Prop} {M : Nat → Nat → zp_R} (a : inM A B m dn M) (hd : ∀ i j, i < 4 → j < 4 → dn' i j → dn i j) : inM A B m dn' M := ⟨a.1, a.2.1, a.2.2.1, fun i j h1 h2 h3 => a.2.2.2 i j h1 h2 (hd i j h1 h2 h3)⟩
/-- nothing but scratch rows changed -/
theorem inM_sc {A B C : Nat → Nat → Int} {m : Nat} {dn : Nat → Nat → Prop} {M : Nat → Nat → zp_R} (a : inM A B m dn M) (b : sm B C [1304, 1308, 1309, 1310]) : inM A C m dn M := by
  have e : C 1296 = B 1296 := b 1296 rfl
  refine ⟨sm_tr a.1 (sm_sub b rfl), ?_, ?_, ?_⟩
  · rw [e]; exact a.2.1
  · rw [e]; exact a.2.2.1
  · intro i j h1 h2 h3
    rw [← a.2.2.2 i j h1 h2 h3]
    unfold me
    rw [e]
theorem inM_step {A B : Nat → Nat → Int} {m i j : Nat} {dn : Nat → Nat → Prop} {M : Nat → Nat → zp_R} (a : inM A B m dn M) (hi2 : i < 4) (hj : j < 4) (hM : zp_deg (M i j) 11) : inM A (up B 1296 (erow (B 1296) (eb m i j) (cf (M i j)))) m (fun x y => dn x y ∨ (x = i ∧ y = j)) M := by
  refine ⟨sm_up a.1 _ rfl, fun t ht => ?_, fun t => ?_, fun x y hx hy hd => ?_⟩
  · rw [up_at]
    unfold erow
    rw [if_neg (by show ¬ (176 * m + 11 * (4 * i + j) ≤ t ∧ t < 176 * m + 11 * (4 * i + j) + 11); omega)]
    exact a.2.1 t ht
  · rw [up_at]
    unfold erow
    split
    · exact .inr (cf_b _ _)
    · exact a.2.2.1 t
  · unfold me
    funext k
    rw [up_at]
    unfold erow
    by_cases hk : k ≤ 10
    · rw [if_pos hk]
      by_cases q : x = i ∧ y = j
      · obtain ⟨rfl, rfl⟩ := q
        rw [if_pos (by omega), show eb m x y + k - eb m x y = k by omega]
      · rw [if_neg (by show ¬ (176 * m + 11 * (4 * i + j) ≤ 176 * m + 11 * (4 * x + y) + k ∧ 176 * m + 11 * (4 * x + y) + k < 176 * m + 11 * (4 * i + j) + 11); omega)]
        have := congrFun (a.2.2.2 x y hx hy (hd.resolve_right q)) k
        unfold me at this
        rw [if_pos hk] at this
        exact this
    · rw [if_neg hk]
      have : zp_deg (M x y) 11 := by
        by_cases q : x = i ∧ y = j
        · obtain ⟨rfl, rfl⟩ := q
          exact hM
        · exact me_deg (a.2.2.2 x y hx hy (hd.resolve_right q))
      unfold cf
      rw [this k (by omega)]; rfl
theorem inM_me {A B : Nat → Nat → Int} {m : Nat} {dn : Nat → Nat → Prop} {M : Nat → Nat → zp_R} (a : inM A B m dn M) {f i j : Nat} (hf : f < m) (hi2 : i < 4) (hj : j < 4) : me B f i j = me A f i j := by
  unfold me
  funext k
  by_cases hk : k ≤ 10
  · rw [if_pos hk, if_pos hk]
    exact a.2.1 _ (by show ¬ (176 * m ≤ 176 * f + 11 * (4 * i + j) + k ∧ _); omega)
  · rw [if_neg hk, if_neg hk]
theorem inM_b {A B : Nat → Nat → Int} {m : Nat} {dn : Nat → Nat → Prop} {M : Nat → Nat → zp_R} (a : inM A B m dn M) (hb : ∀ t, t < 26400 → 0 ≤ A 1296 t ∧ A 1296 t < 32003) (t : Nat) (ht : t < 26400) : In3 (B 1296 t) := by
  have := hb t ht
  have := a.2.2.1 t
  unfold In3; omega
section
variable {d : Nat} {h : s_H} {s : Nat → Int} {A : Nat → Nat → Int}
/-- a matrix more at m: its entries are M's -/
def newM (A A' : Nat → Nat → Int) (m r c : Nat) (M : Nat → Nat → zp_R) : Prop := ∃ B, inM A B m (fun i j => i < r ∧ j < c) M ∧ A' = keptM B m r c
def amQ (s : Nat → Int) (A : Nat → Nat → Int) (z : Int) (r c r2 c2 : Nat) (M1 M2 : Nat → Nat → zp_R) : Term → (Nat → Int) → (Nat → Nat → Int) → Prop := fun v s' A' =>
  ((r ≠ r2 ∨ c ≠ c2) → v = vi 0 ∧ s' = up s 0 2 ∧ A' = A) ∧ (r = r2 ∧ c = c2 → s 1 = 150 → v = vi 0 ∧ s' = up s 0 3 ∧ A' = A) ∧ (r = r2 ∧ c = c2 → s 1 ≠ 150 → v = vi (s 1) ∧ s' = up (up s 0 0) 1 (s 1 + 1) ∧ newM A A' (s 1).toNat r c (fun i j => zp_add (M1 i j) (zp_mul (zp_C (nF z)) (M2 i j))))
theorem V_addMatrices (hv : RV h s A) (hm : 0 ≤ s 1 ∧ s 1 ≤ 150) {f k : Nat} (hf : (f : Int) < s 1) (hk : (k : Int) < s 1) {r c r2 c2 : Nat} (hr : r ≤ 4) (hc : c ≤ 4) (hr2 : r2 ≤ 4) (hc2 : c2 ≤ 4) {M1 M2 : Nat → Nat → zp_R} (h1 : mat A f r c M1) (h2 : mat A k r2 c2 M2) (hb : ∀ t, t < 26400 → 0 ≤ A 1296 t ∧ A 1296 t < 32003) {z : Int} (hz : In6 z) : wm sw_P (d + 3) 394 [.index 1290, vi (f : Int), vi (k : Int), vl z] h (RA h (amQ s A z r c r2 c2 M1 M2)) := by
  refine wm_in (cd := sw_c394) (nL := 7) (hd := sw_h394) rfl rfl ?_
  have g1 : gi (mk 150 (A 1294)) (f : Int) = (r : Int) := by rw [gi_mkn (by omega)]; exact h1.1
  have g2 : gi (mk 150 (A 1294)) (k : Int) = (r2 : Int) := by rw [gi_mkn (by omega)]; exact h2.1
  have g3 : gi (mk 150 (A 1295)) (f : Int) = (c : Int) := by rw [gi_mkn (by omega)]; exact h1.2.1
  have g4 : gi (mk 150 (A 1295)) (k : Int) = (c2 : Int) := by rw [gi_mkn (by omega)]; exact h2.2.1
  have bad : ∀ t4 t5 t6 : Term, (r ≠ r2 ∨ c ≠ c2) → wr sw_P (d + 2) sw_c394 sw_h394 (30, [.index 1290, vi (f : Int), vi (k : Int), vl z, t4, t5, t6], [], h, 0, 0) (RA h (amQ s A z r c r2 c2 M1 M2)) := by
    intro t4 t5 t6 q
    refine k394_30 hv.1 (wm_mono (wq_A (fun v h3 s3 A3 v3 r3 φ => ?_)) (V_raise hv))
    obtain ⟨e1, e2, e3⟩ := φ
    rw [e1]
    exact k394_35 ⟨vi 0, h3, s3, A3, v3, r3, ⟨fun _ => ⟨rfl, e2, e3⟩, fun w => absurd q (by omega), fun w => absurd q (by omega)⟩, rfl⟩
  refine k394_0 hv.1 (Ra_rows hv) (fun q => ?_) (fun q => ?_) (c10 := by rw [mk_len]; omega) (c12 := by unfold In3; omega) (c13 := by rw [mk_len]; omega) (c15 := by unfold In3; omega) (c16 := by rw [g1]; unfold In3; omega) (c17 := by rw [g2]; unfold In3; omega)
  · rw [g1, g2] at q
    exact bad _ _ _ (.inl (by omega))
  rw [g1, g2] at q
  refine k394_15 hv.1 (Ra_columns hv) (fun q2 => ?_) (fun q2 => ?_) (c10 := by rw [mk_len]; omega) (c12 := by unfold In3; omega) (c13 := by rw [mk_len]; omega) (c15 := by unfold In3; omega) (c16 := by rw [g3]; unfold In3; omega) (c17 := by rw [g4]; unfold In3; omega)
  rotate_left
  · rw [g3, g4] at q2
    exact bad _ _ _ (.inr (by omega))
  rw [g3, g4] at q2
  have er : r = r2 := by omega
  have ec : c = c2 := by omega
  refine k394_36 (z5 := s 1) hv.1 (fun q3 => ?_) (fun q3 => ?_) (c7 := by unfold In3; omega)
  rotate_left
  · refine k394_46 hv.1 (wm_mono (wq_A (fun v h3 s3 A3 v3 r3 φ => ?_)) (V_raise hv))
    obtain ⟨e1, e2, e3⟩ := φ
    rw [e1]
    exact k394_51 ⟨vi 0, h3, s3, A3, v3, r3, ⟨fun w => absurd w (by omega), fun _ _ => ⟨rfl, e2, e3⟩, fun _ w => absurd w q3⟩, rfl⟩
  obtain ⟨m, em⟩ : ∃ m : Nat, s 1 = m := ⟨(s 1).toNat, by omega⟩
  have rows : ∀ {B : Nat → Nat → Int} {dn : Nat → Nat → Prop} {M : Nat → Nat → zp_R}, inM A B m dn M → B 1294 = A 1294 ∧ B 1295 = A 1295 := fun a => ⟨a.1 1294 rfl, a.1 1295 rfl⟩
  have outer : ∀ (l i : Nat) (B : Nat → Nat → Int) (h' : s_H) (t4 t6 : Term), i + l = r → RV h' s B → FR h h' → inM A B m (fun x y => y < c ∧ x < i) (fun i j => zp_add (M1 i j) (zp_mul (zp_C (nF z)) (M2 i j))) → wr sw_P (d + 2) sw_c394 sw_h394 (55, [.index 1290, vi (f : Int), vi (k : Int), vl z, t4, vi (i : Int), t6], [], h', 0, 0) (RA h (amQ s A z r c r2 c2 M1 M2)) := by
    intro l
    induction l with
    | zero =>
      intro i B h' t4 t6 hi2 v rr a
      obtain ⟨ra, rb⟩ := rows a
      refine k394_55 v.1 (Ra_rows v) (fun _ => ?_) (fun w => absurd w ?_) (c10 := by rw [mk_len]; omega) (c12 := by unfold In3; omega) (c14 := by rw [ra, g1]; unfold In3; omega)
      rotate_left
      · rw [ra, g1]; omega
      refine k394_142 v.1 (Ra_rows v) (Ra_columns v) (wm_mono (wq_A (fun v2 h3 s3 A3 v3 r3 φ => ?_)) (V_keepMatrix v ⟨hm.1, by omega⟩)) (c10 := by rw [mk_len]; omega) (c12 := by unfold In3; omega) (c18 := by rw [mk_len]; omega)
      obtain ⟨e1, e2, e3⟩ := φ
      rw [ra, rb, g1, g3] at e3
      rw [e1]
      refine k394_158 ⟨_, h3, s3, A3, v3, FR_trans rr r3, ⟨fun w => absurd w (by omega), fun _ w => absurd w q3, fun _ _ => ⟨rfl, e2, B, ?_, e3⟩⟩, rfl⟩
      rw [em]
      exact inM_mono a (fun x y _ _ w => ⟨w.2, by omega⟩)
    | succ l ih =>
      intro i B h' t4 t6 hi2 v rr a
      obtain ⟨ra, rb⟩ := rows a
      refine k394_55 v.1 (Ra_rows v) (fun w => absurd w ?_) (fun _ => ?_) (c10 := by rw [mk_len]; omega) (c12 := by unfold In3; omega) (c14 := by rw [ra, g1]; unfold In3; omega)
      · rw [ra, g1]; omega
      refine k394_66 ?_
      have inner : ∀ (p j : Nat) (B : Nat → Nat → Int) (h' : s_H), j + p = c → RV h' s B → FR h h' → inM A B m (fun x y => y < c ∧ (x < i ∨ (x = i ∧ y < j))) (fun i j => zp_add (M1 i j) (zp_mul (zp_C (nF z)) (M2 i j))) → wr sw_P (d + 2) sw_c394 sw_h394 (69, [.index 1290, vi (f : Int), vi (k : Int), vl z, t4, vi (i : Int), vi (j : Int)], [], h', 0, 0) (RA h (amQ s A z r c r2 c2 M1 M2)) := by
        intro p
        induction p with
        | zero =>
          intro j B h' hj v rr a
          obtain ⟨ra, rb⟩ := rows a
          refine k394_69 v.1 (Ra_columns v) (fun _ => ?_) (fun w => absurd w ?_) (c10 := by rw [mk_len]; omega) (c12 := by unfold In3; omega) (c14 := by rw [rb, g3]; unfold In3; omega)
          rotate_left
          · rw [rb, g3]; omega
          exact k394_136 (ih (i + 1) B h' _ _ (by omega) v rr (inM_mono a (fun x y _ _ w => ⟨w.1, by omega⟩)))
        | succ p ih2 =>
          intro j B h' hj v rr a
          obtain ⟨ra, rb⟩ := rows a
          refine k394_69 v.1 (Ra_columns v) (fun w => absurd w ?_) (fun _ => ?_) (c10 := by rw [mk_len]; omega) (c12 := by unfold In3; omega) (c14 := by rw [rb, g3]; unfold In3; omega)
          · rw [rb, g3]; omega
          have x1 := h1.2.2 i j (by omega) (by omega)
          have x2 := h2.2.2 i j (by omega) (by omega)
          refine k394_80 v.1 (wm_mono (wq_Q (fun h3 v3 r3 => ?_)) (V_loadEntry v (p := 1308) rfl (m := f) (i := i) (j := j) (by omega) (by omega) (by omega) (inM_b a hb)))
          rw [inM_me a (by omega) (by omega) (by omega), x1] at v3
          have a3 := inM_sc a (C := up B 1308 (cf (M1 i j))) (sm_up sm_refl _ rfl)
          refine k394_93 v3.1 (wm_mono (wq_Q (fun h4 v4 r4 => ?_)) (V_loadEntry v3 (p := 1309) rfl (m := k) (i := i) (j := j) (by omega) (by omega) (by omega) (inM_b a3 hb)))
          rw [inM_me a3 (by omega) (by omega) (by omega), x2] at v4
          refine k394_106 v4.1 (wm_mono (wq_Q (fun h5 v5 r5 => ?_)) (V_more v4 (c := 1308) (e := 1309) rfl rfl (by decide) (f := M1 i j) (g := M2 i j) (by rw [up_ne _ _ (by decide), up_at]) (up_at _ _ _) hz))
          have a5 := inM_sc a3 (C := up (up (up B 1308 (cf (M1 i j))) 1309 (cf (M2 i j))) 1308 (cf (zp_add (M1 i j) (zp_mul (zp_C (nF z)) (M2 i j))))) (sm_up (sm_up sm_refl _ rfl) _ rfl)
          refine k394_118 v5.1 (wm_mono (wq_Q (fun h6 v6 r6 => ?_)) (V_keepEntry v5 (p := 1308) rfl (m := m) (i := i) (j := j) (by omega) em (by omega) (by omega) (up_at _ _ _)))
          exact k394_130 (ih2 (j + 1) _ _ (by omega) v6 (FR_trans rr (FR_trans r3 (FR_trans r4 (FR_trans r5 r6)))) (inM_mono (inM_step a5 (i := i) (j := j) (by omega) (by omega) (deg_add (me_deg x1) (deg_Cm _ (me_deg x2)))) (fun x y _ _ w => by
            by_cases q5 : x = i ∧ y = j
            · exact .inr q5
            · exact .inl ⟨w.1, by omega⟩)))
      exact inner c 0 B h' (by omega) v rr (inM_mono a (fun x y _ _ w => ⟨w.1, by omega⟩))
  exact k394_52 (outer r 0 A h _ _ (by omega) hv (FR_refl h) ⟨sm_refl, fun _ _ => rfl, fun _ => .inl rfl, fun x y _ _ w => absurd w.2 (by omega)⟩)
end
