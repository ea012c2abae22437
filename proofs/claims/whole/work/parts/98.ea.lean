/-! the reference's within in the picture -/
section
variable {d : Nat} {h : s_H} {s : Nat → Int} {A : Nat → Nat → Int}
/-- what is written at the end -/
def witE (s : Nat → Int) (A : Nat → Nat → Int) (n : Nat) (Q : Nat → Nat → zp_F) : Term → (Nat → Int) → (Nat → Nat → Int) → Prop := fun v s' A' => v = vi (s 1) ∧ s' = up (up s 0 0) 1 (s 1 + 1) ∧ newM A A' (s 1).toNat n n (fun i j => zp_C (Q i j))
theorem W_write {h' : s_H} (hv : RV h' s A) (rr : FR h h') {n : Nat} (hn : n ≤ 4) {Q : Nat → Nat → zp_F} (hQ : n16 (A 1331) n Q) (b0 : 0 ≤ s 1 ∧ s 1 < 150) {x y z4 : Int} {t5 : Term} : wr sw_P (d + 3) sw_c614 sw_h614 (236, [.index 1290, vi x, vi y, vi (n : Int), vi z4, t5], [], h', 0, 0) (RA h (witE s A n Q)) := by
  obtain ⟨m, em⟩ : ∃ m : Nat, s 1 = m := ⟨(s 1).toNat, by omega⟩
  have outer : ∀ (l i : Nat) (B : Nat → Nat → Int) (h' : s_H) (t5 : Term), i + l = n → RV h' s B → FR h h' → inM A B m (fun x y => x < i ∧ y < n) (fun i j => zp_C (Q i j)) → wr sw_P (d + 3) sw_c614 sw_h614 (239, [.index 1290, vi x, vi y, vi (n : Int), vi (i : Int), t5], [], h', 0, 0) (RA h (witE s A n Q)) := by
    intro l
    induction l with
    | zero =>
      intro i B h' t5 hi2 v rr w
      refine k614_239 (fun _ => ?_) (fun w => absurd (by omega) w) (c1 := by unfold In3; omega) (c2 := by unfold In3; omega)
      refine k614_297 v.1 (wm_mono (wq_A (fun v2 h3 s3 A3 v3 r3 φ => ?_)) (V_keepMatrix v ⟨by omega, by omega⟩))
      obtain ⟨y1, y2, y3⟩ := φ
      subst y1
      exact k614_303 ⟨_, h3, s3, A3, v3, FR_trans rr r3, ⟨rfl, y2, B, by rw [show (s 1).toNat = m by omega]; exact inM_mono w (fun x y _ _ w => ⟨by omega, w.2⟩), y3⟩, rfl⟩
    | succ l ih =>
      intro i B h' t5 hi2 v rr w
      refine k614_239 (fun w => absurd w (by omega)) (fun _ => k614_245 ?_) (c1 := by unfold In3; omega) (c2 := by unfold In3; omega)
      have inner : ∀ (p j : Nat) (B : Nat → Nat → Int) (h' : s_H), j + p = n → RV h' s B → FR h h' → inM A B m (fun x y => y < n ∧ (x < i ∨ (x = i ∧ y < j))) (fun i j => zp_C (Q i j)) → wr sw_P (d + 3) sw_c614 sw_h614 (248, [.index 1290, vi x, vi y, vi (n : Int), vi (i : Int), vi (j : Int)], [], h', 0, 0) (RA h (witE s A n Q)) := by
        intro p
        induction p with
        | zero =>
          intro j B h' hj v rr w
          exact k614_248 (fun _ => k614_291 (ih (i + 1) B h' _ (by omega) v rr (inM_mono w (fun x y _ _ w => ⟨w.2, by omega⟩)))) (fun w => absurd (by omega) w) (c1 := by unfold In3; omega) (c2 := by unfold In3; omega)
        | succ p ih2 =>
          intro j B h' hj v rr w
          refine k614_248 (fun w => absurd w (by omega)) (fun _ => ?_) (c1 := by unfold In3; omega) (c2 := by unfold In3; omega)
          have e8 : gi (mk 16 (B 1331)) (4 * (i : Int) + (j : Int)) = ((Q i j).val : Int) := by
            rw [show (4 * (i : Int) + (j : Int)) = ((4 * i + j : Nat) : Int) by omega, gi_mkn (by omega), w.1 1331 rfl]
            exact hQ.2 i j (by omega) (by omega)
          have bz := F_bd (Q i j)
          refine k614_254 v.1 (Ra_answers v) ?_ (c12 := by rw [mk_len]; omega) (c13 := by omega) (c14 := by unfold In3; omega)
          rw [e8]
          refine wm_mono (wq_Q (fun h5 v5 r5 => ?_)) (V_become v (c := 1308) rfl (z := ((Q i j).val : Int)) (in6_of (by omega) (by omega)))
          rw [nF_val] at v5
          have a3 := inM_sc w (C := up B 1308 (cf (zp_C (Q i j)))) (sm_up sm_refl _ rfl)
          refine k614_273 v5.1 (wm_mono (wq_Q (fun h6 v6 r6 => ?_)) (V_keepEntry v5 (p := 1308) rfl (m := m) (i := i) (j := j) (by omega) em (by omega) (by omega) (up_at _ _ _)))
          exact k614_285 (ih2 (j + 1) _ _ (by omega) v6 (FR_trans rr (FR_trans r5 r6)) (inM_mono (inM_step a3 (i := i) (j := j) (by omega) (by omega) (deg_le (zp_C_deg _) (by decide))) (fun x y _ _ w => by
            by_cases q5 : x = i ∧ y = j
            · exact .inr q5
            · exact .inl ⟨w.1, by omega⟩)))
      exact inner n 0 B h' (by omega) v rr (inM_mono w (fun x y _ _ w => ⟨by omega, w.1⟩))
  exact k614_236 (outer n 0 A h' _ (by omega) hv rr ⟨sm_refl, fun _ _ => rfl, fun _ => .inl rfl, fun x y _ _ w => absurd w.1 (by omega)⟩)
/-- rows that are worked with there -/
def witR : List Nat := [1330, 1331, 1332]
theorem W_sum {h' : s_H} (hv : RV h' s A) (rr : FR h h') {m n : Nat} (hm : m < 150) (hn : n ≤ 4) {N : Nat → Nat → zp_F} {a : zp_R} (ha : A 1298 = cf a) (hN : ∀ i j, i < n → j < n → A 1296 (eb m i j) = ((N i j).val : Int)) (h0 : n16 (A 1330) n (npw n N 0)) (h1 : ∀ t, t < 16 → A 1331 t = 0) (b0 : 0 ≤ s 1 ∧ s 1 < 150) {x z4 : Int} {t5 : Term} : wr sw_P (d + 3) sw_c614 sw_h614 (159, [.index 1290, vi x, vi (m : Int), vi (n : Int), vi z4, t5], [], h', 0, 0) (RA h (fun v s' A' => ∃ B, sm A B witR ∧ witE s B n (fun i j => zp_sum (fun e => a.1 e * npw n N e i j) (hi a + 1).toNat) v s' A')) := by
  have ba := hi_b a
  have outer : ∀ (l e : Nat) (B : Nat → Nat → Int) (h' : s_H) (t5 : Term), e + l = (hi a + 1).toNat → RV h' s B → FR h h' → sm A B witR → n16 (B 1330) n (npw n N e) → n16 (B 1331) n (fun i j => zp_sum (fun e => a.1 e * npw n N e i j) e) → wr sw_P (d + 3) sw_c614 sw_h614 (162, [.index 1290, vi x, vi (m : Int), vi (n : Int), vi (e : Int), t5], [], h', 0, 0) (RA h (fun v s' A' => ∃ B, sm A B witR ∧ witE s B n (fun i j => zp_sum (fun e => a.1 e * npw n N e i j) (hi a + 1).toNat) v s' A')) := by
    intro l
    induction l with
    | zero =>
      intro e B h' t5 he v rr mB c1 c2
      have e8 : B 1298 = cf a := (mB 1298 rfl).trans ha
      refine k614_162 v.1 (wm_mono (wq_r ?_) (V_high v (c := 1298) rfl e8))
      refine k614_171 (fun _ => ?_) (fun w => absurd (by omega) w) (c1 := by unfold In3; omega) (c2 := by unfold In3; omega)
      refine wr_mono (fun out φ => ?_) (W_write (h := h) v rr hn c2 b0)
      obtain ⟨v2, h2, s2, A2, w2, r2, φ, eo⟩ := φ
      exact ⟨v2, h2, s2, A2, w2, r2, ⟨B, mB, by rw [show (hi a + 1).toNat = e by omega]; exact φ⟩, eo⟩
    | succ l ih =>
      intro e B h' t5 he v rr mB c1 c2
      have e8 : B 1298 = cf a := (mB 1298 rfl).trans ha
      refine k614_162 v.1 (wm_mono (wq_r ?_) (V_high v (c := 1298) rfl e8))
      refine k614_171 (fun w => absurd w (by omega)) (fun _ => k614_174 ?_) (c1 := by unfold In3; omega) (c2 := by unfold In3; omega)
      have e9 : gi (mk 176 (B 1298)) (e : Int) = ((a.1 e).val : Int) := by rw [e8]; exact gi_mkn (by omega)
      have b1 := F_bd (a.1 e)
      have inner : ∀ (p k : Nat) (C : Nat → Nat → Int) (h' : s_H), k + p = 16 → RV h' s C → FR h h' → (∀ x, x ≠ 1331 → C x = B x) → (∀ t, t < 16 → 0 ≤ C 1331 t ∧ C 1331 t < 32003) → (∀ t, k ≤ t → C 1331 t = B 1331 t) → (∀ x y, x < n → y < n → 4 * x + y < k → C 1331 (4 * x + y) = ((zp_sum (fun e => a.1 e * npw n N e x y) (e + 1)).val : Int)) → wr sw_P (d + 3) sw_c614 sw_h614 (177, [.index 1290, vi x, vi (m : Int), vi (n : Int), vi (e : Int), vi (k : Int)], [], h', 0, 0) (RA h (fun v s' A' => ∃ B, sm A B witR ∧ witE s B n (fun i j => zp_sum (fun e => a.1 e * npw n N e i j) (hi a + 1).toNat) v s' A')) := by
        intro p
        induction p with
        | zero =>
          intro k C h' hk v rr o c3 c4 c5
          refine k614_177 (fun _ => ?_) (fun w => absurd (by omega) w) (c1 := by unfold In3; omega)
          refine k614_224 v.1 (wm_mono (wq_N (fun h2 s2 D v2 r2 φ => ?_)) (V_nextPower v (m := m) (n := n) (Q := npw n N e) (N := N) hm hn (by rw [o 1330 (by decide)]; exact c1) (by rw [o 1296 (by decide), mB 1296 rfl]; exact hN)))
          obtain ⟨es, mD, c6⟩ := φ
          subst es
          have mAD : sm A D witR := sm_tr (sm_tr mB (fun j hj => o j (fun w => by rw [w] at hj; exact absurd hj (by decide)))) (sm_sub mD rfl)
          refine k614_230 (ih (e + 1) D h2 _ (by omega) v2 (FR_trans rr r2) mAD c6 ?_)
          rw [mD 1331 rfl]
          exact ⟨c3, fun x y hx hy => c5 x y hx hy (by omega)⟩
        | succ p ih2 =>
          intro k C h' hk v rr o c3 c4 c5
          refine k614_177 (fun w => absurd w (by omega)) (fun _ => ?_) (c1 := by unfold In3; omega)
          have g1 : gi (mk 16 (C 1331)) (k : Int) = B 1331 k := by rw [gi_mkn (by omega), c4 k (Nat.le_refl k)]
          have g2 : gi (mk 16 (C 1330)) (k : Int) = B 1330 k := by rw [gi_mkn (by omega), o 1330 (by decide)]
          have g3 : gi (mk 176 (C 1298)) (e : Int) = ((a.1 e).val : Int) := by rw [o 1298 (by decide)]; exact e9
          have b2 := c1.1 k (by omega)
          have b3 := c2.1 k (by omega)
          have b4 := Int.mul_nonneg b1.1 b2.1
          have b5 : ((a.1 e).val : Int) * B 1330 k ≤ 32003 * 32003 := Int.mul_le_mul (by omega) (by omega) b2.1 (by omega)
          refine k614_184 v.1 (Ra_answers v) (Ra_at v) (Ra_powers v) ?_ (c10 := by rw [mk_len]; omega) (c11 := by omega) (c12 := by unfold In3; omega) (c18 := by rw [mk_len]; omega) (c19 := by omega) (c20 := by unfold In3; omega) (c26 := by rw [mk_len]; omega) (c27 := by rw [g1, g2, g3]; unfold In6; omega)
          rw [g1, g2, g3, mk_set, Int.toNat_natCast]
          refine ih2 (k + 1) _ _ (by omega) (Rp_answers v _) (FR_trans rr (FR_put v (c := 1331) (by decide) (by decide) _)) (fun x hx => by rw [up_ne _ _ hx]; exact o x hx) (fun t ht => ?_) (fun t ht => ?_) (fun x y hx hy hxy => ?_)
          · rw [up_at]
            show 0 ≤ (if t = k then _ else _) ∧ (if t = k then _ else _) < (32003 : Int)
            by_cases q5 : t = k
            · rw [if_pos q5, tmod_nn (by omega)]; omega
            · rw [if_neg q5]; exact c3 t ht
          · rw [up_at]
            show (if t = k then _ else _) = _
            rw [if_neg (by omega)]; exact c4 t (by omega)
          · rw [up_at]
            show (if 4 * x + y = k then _ else _) = _
            by_cases q5 : 4 * x + y = k
            · rw [if_pos q5, ← q5, c1.2 x y hx hy, c2.2 x y hx hy, tm_ab]; rfl
            · rw [if_neg q5]; exact c5 x y hx hy (by omega)
      exact inner 16 0 B h' rfl v rr (fun _ _ => rfl) c2.1 (fun _ _ => rfl) (fun x y _ _ w => absurd w (by omega))
  exact k614_159 (outer _ 0 A h' _ (Nat.zero_add _) hv rr sm_refl h0 ⟨fun t ht => by rw [h1 t ht]; decide, fun i j hi2 hj => by rw [h1 _ (by omega)]; rfl⟩)
end
