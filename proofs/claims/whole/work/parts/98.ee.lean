/-! the reference's findMinors -/
/-- the determinants are kept, of R rows and C columns -/
def mins (A : Nat → Nat → Int) (R C : Nat) (M : Nat → Nat → zp_R) : Prop := ∀ r c, r < 2 ^ R → c < 2 ^ C → bts r = bts c → mi A r c = cf (mnq M C r c)
def minR : List Nat := [1304, 1308, 1309, 1310, 1329]
theorem pw16 {r R : Nat} (hr : r < 2 ^ R) (hR : R ≤ 4) : r < 16 := Nat.lt_of_lt_of_le hr (Nat.pow_le_pow_right (by decide) hR)
theorem bt_01 (r j : Nat) : bt r j = 0 ∨ bt r j = 1 := by unfold bt; omega
theorem bt_on {c j : Nat} (hc : c < 16) (hj : j < 4) (h : bt c j = 1) : bts (c - 2 ^ j) + 1 = bts c ∧ 2 ^ j ≤ c := by
  have : ∀ j : Fin 4, ∀ c : Fin 16, bt c.val j.val = 1 → bts (c.val - 2 ^ j.val) + 1 = bts c.val ∧ 2 ^ j.val ≤ c.val := by decide +kernel
  exact this ⟨j, hj⟩ ⟨c, hc⟩ h
theorem fst_0 {r : Nat} (hr : r < 16) (h0 : r ≠ 0) : bt r (fst0 r) = 1 ∧ ∀ j, j < fst0 r → bt r j = 0 := by
  have f := fst_b hr h0
  have : ∀ r : Fin 16, r.val ≠ 0 → bt r.val (fst0 r.val) = 1 ∧ ∀ j : Fin 4, j.val < fst0 r.val → bt r.val j.val = 0 := by decide +kernel
  have q := this ⟨r, hr⟩ h0
  exact ⟨q.1, fun j hj => q.2 ⟨j, by omega⟩ hj⟩
section
variable {d : Nat} {h : s_H} {s : Nat → Int} {A : Nat → Nat → Int}
theorem V_bits {r : Nat} (hr : r < 16) : wm sw_P (d + 1) 408 [vi (r : Int)] h (qr (vi (bts r : Int)) h) := by
  refine wm_in (cd := sw_c408) (nL := 1) (hd := sw_h408) rfl rfl ?_
  refine k408_0 ?_
  rw [zbts hr]
theorem W_store {Q : s_O → Prop} {h' : s_H} (hv : RV h' s A) (rr : FR h h') {f r c : Nat} (hr : r < 16) (hc : c < 16) {U : zp_R} (hU : A 1310 = cf U) (dU : zp_deg U 41) {x4 x5 x7 : Int} {t6 : Term} (k : ∀ (D : Nat → Nat → Int) (h2 : s_H) (t6' : Term) (x7' : Int), RV h2 s D → FR h h2 → (∀ x, x ≠ 1329 → D x = A x) → mi D r c = cf U → (∀ r' c', c' < 16 → (r' ≠ r ∨ c' ≠ c) → mi D r' c' = mi A r' c') → wr sw_P (d + 2) sw_c453 sw_h453 (224, [.index 1290, vi (f : Int), vi (r : Int), vi (c : Int), vi x4, vl x5, t6', vi x7'], [], h2, 0, 0) Q) : wr sw_P (d + 2) sw_c453 sw_h453 (184, [.index 1290, vi (f : Int), vi (r : Int), vi (c : Int), vi x4, vl x5, t6, vi x7], [], h', 0, 0) Q := by
  have loop : ∀ (l i : Nat) (B : Nat → Nat → Int) (h' : s_H) (t6 : Term), i + l = 41 → RV h' s B → FR h h' → (∀ x, x ≠ 1329 → B x = A x) → (∀ t, B 1329 t = if 41 * (16 * r + c) ≤ t ∧ t < 41 * (16 * r + c) + i then cf U (t - 41 * (16 * r + c)) else A 1329 t) → wr sw_P (d + 2) sw_c453 sw_h453 (187, [.index 1290, vi (f : Int), vi (r : Int), vi (c : Int), vi x4, vl x5, t6, vi (i : Int)], [], h', 0, 0) Q := by
    intro l
    induction l with
    | zero =>
      intro i B h' t6 hi2 v rr o g
      have e41 : i = 41 := by omega
      subst e41
      refine k453_187 (fun _ => k B h' t6 _ v rr o ?_ (fun r' c' hc' hn => ?_)) (fun w => absurd (by omega) w) (c1 := by unfold In3; omega)
      · funext x
        unfold mi
        by_cases q : x ≤ 40
        · rw [if_pos q, g, if_pos (by omega), show 41 * (16 * r + c) + x - 41 * (16 * r + c) = x by omega]
        · rw [if_neg q]
          unfold cf
          rw [dU x (by omega)]; rfl
      · funext x
        unfold mi
        by_cases q : x ≤ 40
        · rw [if_pos q, if_pos q, g, if_neg (by omega)]
        · rw [if_neg q, if_neg q]
    | succ l ih =>
      intro i B h' t6 hi2 v rr o g
      have g1 : gi (mk 176 (B 1310)) (i : Int) = cf U i := by rw [o 1310 (by decide), hU]; exact gi_mkn (by omega)
      refine k453_187 (fun w => absurd w (by omega)) (fun _ => ?_) (c1 := by unfold In3; omega)
      refine k453_194 v.1 (Ra_u v) (Ra_minors v) ?_ (c12 := by rw [mk_len]; omega) (c13 := by omega) (c14 := by unfold In3; omega) (c18 := by rw [mk_len]; omega) (c19 := by omega) (c20 := by unfold In3; omega)
      rw [g1, mk_set, show ((41 * ((16 * (r : Int)) + (c : Int))) + (i : Int)).toNat = 41 * (16 * r + c) + i by omega]
      refine ih (i + 1) _ _ _ (by omega) (Rp_minors v _) (FR_trans rr (FR_put v (c := 1329) (by decide) (by decide) _)) (fun x hx => by rw [up_ne _ _ hx]; exact o x hx) (fun t => ?_)
      rw [up_at]
      show (if t = 41 * (16 * r + c) + i then _ else _) = _
      by_cases q : t = 41 * (16 * r + c) + i
      · rw [if_pos q, if_pos (by omega), show t - 41 * (16 * r + c) = i by omega]
      · rw [if_neg q, g]
        by_cases q2 : 41 * (16 * r + c) ≤ t ∧ t < 41 * (16 * r + c) + i
        · rw [if_pos q2, if_pos (by omega)]
        · rw [if_neg q2, if_neg (by omega)]
  exact k453_184 (loop 41 0 A h' _ rfl hv rr (fun _ _ => rfl) (fun t => by rw [if_neg (by omega)]))
theorem W_lap {Q : s_O → Prop} {h' : s_H} (hv : RV h' s A) (rr : FR h h') {f R C : Nat} {M : Nat → Nat → zp_R} (hf : f < 150) (hR : R ≤ 4) (hC : C ≤ 4) (hM : mat A f R C M) (hb : ∀ t, t < 26400 → 0 ≤ A 1296 t ∧ A 1296 t < 32003) {r c : Nat} (hr : r < 2 ^ R) (hc : c < 2 ^ C) (hrc : bts r = bts c) (r0 : r ≠ 0) (hmn : ∀ r' c', r' < r → c' < 2 ^ C → bts r' = bts c' → mi A r' c' = cf (mnq M C r' c')) (hu : A 1310 = cf (zp_C 0)) {t5 t6 t7 : Term} (k : ∀ (D : Nat → Nat → Int) (h2 : s_H) (t6' : Term) (x5 x7 : Int), RV h2 s D → FR h h2 → sm A D [1304, 1308, 1309, 1310] → D 1310 = cf (mnq M C r c) → wr sw_P (d + 2) sw_c453 sw_h453 (184, [.index 1290, vi (f : Int), vi (r : Int), vi (c : Int), vi (fst0 r : Int), vl x5, t6', vi x7], [], h2, 0, 0) Q) : wr sw_P (d + 2) sw_c453 sw_h453 (82, [.index 1290, vi (f : Int), vi (r : Int), vi (c : Int), vi (fst0 r : Int), t5, t6, t7], [], h', 0, 0) Q := by
  have r16 := pw16 hr hR
  have c16 := pw16 hc hC
  have fb := fst_b r16 r0
  have fl := fst_lt hr hR r0
  obtain ⟨p3, p4, p5⟩ := hM
  have loop : ∀ (l j : Nat) (B : Nat → Nat → Int) (h' : s_H) (t6 : Term), j + l = C → RV h' s B → FR h h' → sm A B [1304, 1308, 1309, 1310] → B 1310 = cf (lpp (M (fst0 r)) (mnq M C (r - 2 ^ fst0 r)) c j) → wr sw_P (d + 2) sw_c453 sw_h453 (88, [.index 1290, vi (f : Int), vi (r : Int), vi (c : Int), vi (fst0 r : Int), vl (sgc c j), t6, vi (j : Int)], [], h', 0, 0) Q := by
    intro l
    induction l with
    | zero =>
      intro j B h' t6 hj v rr mB e
      have ej : j = C := by omega
      subst ej
      have g3 : gi (mk 150 (B 1295)) (f : Int) = (j : Int) := by rw [mB 1295 rfl, gi_mkn (by omega)]; exact p4
      exact k453_88 v.1 (Ra_columns v) (fun _ => k B h' _ _ _ v rr mB (by rw [e, mnq_s M j r16 r0])) (fun w => absurd (by rw [g3]; omega) w) (c10 := by rw [mk_len]; omega) (c11 := by omega) (c12 := by unfold In3; omega) (c13 := by unfold In3; omega) (c14 := by rw [g3]; unfold In3; omega)
    | succ l ih =>
      intro j B h' t6 hj v rr mB e
      have g3 : gi (mk 150 (B 1295)) (f : Int) = (C : Int) := by rw [mB 1295 rfl, gi_mkn (by omega)]; exact p4
      refine k453_88 v.1 (Ra_columns v) (fun w => absurd w (by rw [g3]; omega)) (fun _ => ?_) (c10 := by rw [mk_len]; omega) (c11 := by omega) (c12 := by unfold In3; omega) (c13 := by unfold In3; omega) (c14 := by rw [g3]; unfold In3; omega)
      refine k453_99 (fun w => absurd w (by omega)) (fun _ => ?_) (c1 := by unfold In3; omega)
      have zz := zb c16 (show j < 4 by omega)
      have b01 := bt_01 c j
      have sgb := sgc_b c j
      refine k453_103 (fun w => ?_) (fun w => ?_) (c1 := by rw [zz]; unfold In3; omega)
      · rw [zz] at w
        have on : bt c j = 1 := by omega
        have bo := bt_on c16 (show j < 4 by omega) on
        have x1 := p5 (fst0 r) j fl (by omega)
        refine k453_115 v.1 (wm_mono (wq_Q (fun h3 v3 r3 => ?_)) (V_loadEntry v (p := 1308) rfl (m := f) (i := fst0 r) (j := j) hf (by omega) (by omega) (fun t ht => by rw [mB 1296 rfl]; have := hb t ht; unfold In3; omega)))
        have eB : me B f (fst0 r) j = cf (M (fst0 r) j) := by
          rw [← x1]
          unfold me
          rw [mB 1296 rfl]
        rw [eB] at v3
        have w1 : ((r : Int) - zi 27 1 (fst0 r : Int)) = ((r - 2 ^ fst0 r : Nat) : Int) := by rw [zs (by omega)]; omega
        have w2 : ((c : Int) - zi 27 1 (j : Int)) = ((c - 2 ^ j : Nat) : Int) := by rw [zs (by omega)]; omega
        have r'lt : r - 2 ^ fst0 r < r := Nat.sub_lt (by omega) (Nat.two_pow_pos _)
        have c'le : c - 2 ^ j ≤ c := Nat.sub_le _ _
        have eM : mi (up B 1308 (cf (M (fst0 r) j))) (r - 2 ^ fst0 r) (c - 2 ^ j) = cf (mnq M C (r - 2 ^ fst0 r) (c - 2 ^ j)) := by
          rw [← hmn (r - 2 ^ fst0 r) (c - 2 ^ j) r'lt (by omega) (by omega)]
          unfold mi
          rw [up_ne _ _ (by decide), mB 1329 rfl]
        refine k453_128 v3.1 ?_
        rw [w1, w2]
        refine wm_mono (wq_Q (fun h4 v4 r4 => ?_)) (V_loadMinor v3 (p := 1309) rfl (r := r - 2 ^ fst0 r) (c := c - 2 ^ j) (by omega) (by omega))
        rw [eM] at v4
        refine k453_148 v4.1 (wm_mono (wq_Q (fun h5 v5 r5 => ?_)) (V_multiply v4 (p := 1308) (q := 1309) rfl rfl (by decide) (by decide) (f := M (fst0 r) j) (g := mnq M C (r - 2 ^ fst0 r) (c - 2 ^ j)) (by rw [up_ne _ _ (by decide), up_at]) (up_at _ _ _)))
        refine k453_160 v5.1 (wm_mono (wq_Q (fun h6 v6 r6 => ?_)) (V_more v5 (c := 1310) (e := 1304) rfl rfl (by decide) (f := lpp (M (fst0 r)) (mnq M C (r - 2 ^ fst0 r)) c j) (by rw [up_ne _ _ (by decide), up_ne _ _ (by decide), up_ne _ _ (by decide)]; exact e) (up_at _ _ _) (z := sgc c j) (in6_of (by omega) (by omega))))
        have es : sgc c (j + 1) = -sgc c j := if_neg (by omega)
        have el : lpp (M (fst0 r)) (mnq M C (r - 2 ^ fst0 r)) c (j + 1) = zp_add (lpp (M (fst0 r)) (mnq M C (r - 2 ^ fst0 r)) c j) (zp_mul (zp_C (nF (sgc c j))) (zp_mul (M (fst0 r) j) (mnq M C (r - 2 ^ fst0 r) (c - 2 ^ j)))) := if_neg (by omega)
        refine k453_173 (k453_178 ?_)
        have ih2 := fun t => ih (j + 1) _ h6 t (by omega) v6 (FR_trans rr (FR_trans r3 (FR_trans r4 (FR_trans r5 r6)))) (sm_up (sm_up (sm_up (sm_up mB _ rfl) _ rfl) _ rfl) _ rfl) (by rw [up_at, el])
        rw [es] at ih2
        exact ih2 _
      · rw [zz] at w
        have off : bt c j = 0 := by omega
        have es : sgc c (j + 1) = sgc c j := if_pos off
        have el : lpp (M (fst0 r)) (mnq M C (r - 2 ^ fst0 r)) c (j + 1) = lpp (M (fst0 r)) (mnq M C (r - 2 ^ fst0 r)) c j := if_pos off
        refine k453_112 (k453_178 ?_)
        have ih2 := fun t => ih (j + 1) B h' t (by omega) v rr mB (by rw [el]; exact e)
        rw [es] at ih2
        exact ih2 _
  exact k453_82 (loop C 0 A h' _ (by omega) hv rr sm_refl hu)
end
