/-! the reference's least polynomials -/
/-- whole ones of which the least polynomial is told: what it comes to -/
def leaF (cnt : Int) (t u : th) (res : Sum th Int) : Prop := match t, u with
  | .inl (a, _), .inl (p, _) => (hi p < 1 → res = .inr 2) ∧ (1 ≤ hi p → ∃ L dd, isL p a L dd ∧ zp_deg L 42 ∧ keeps cnt L 3 res)
  | _, _ => True
def leaS (cnt : Int) (T : Nat → th) (x y : Int) (res : Sum th Int) : Prop := ∃ c, wS cnt T x y c ∧ (c ≠ 0 → res = .inr c) ∧ (c = 0 → leaF cnt (T x.toNat) (T y.toNat) res)
theorem cmo_shift {W V V' L : zp_R} (h : cg W V V') (N : Nat) : cg W (cmo L V N) (cmo L V' N) := sum_cg (fun k _ => cg_mul (cg_refl W _) (cg_pow h k))
theorem isL_cg {W V V' L : zp_R} {d : Nat} (h : cg W V V') (a : isL W V L d) : isL W V' L d :=
  ⟨a.1, a.2.1, cg_tr (cg_symm (cmo_shift h _)) a.2.2.1, fun L' d' h' => a.2.2.2 L' d' (cg_tr (cmo_shift h _) h')⟩
/-- the two numbers that clearing a table leaves -/
def clq (s s' : Nat → Int) : Prop := ∃ a b, s' = up (up s 32 a) 37 b
theorem sq_cl {s s' : Nat → Int} (h : clq s s') : sq s s' := by
  obtain ⟨a, b, e⟩ := h
  rw [e]
  exact sq_up (sq_up (sq_refl s) _ rfl) _ rfl
section
variable {d : Nat} {h : s_H} {s : Nat → Int} {A : Nat → Nat → Int}
theorem V_findLeast (hv : RV h s A) {W V : zp_R} (hW : A 1312 = cf W) (hV : A 1311 = cf V) (dW : zp_deg W 42) (h0 : 0 ≤ hi W) (dV : zp_deg V 88) : wm sw_P (d + 5) 452 [.index 1290] h (RA h (fun v s' A' => ∃ (dd : Nat) (L : zp_R), v = vi (dd : Int) ∧ isL W V L dd ∧ dd ≤ (hi W).toNat ∧ A' 1303 = cf L ∧ clq s s' ∧ sm A A' [1303, 1304, 1305, 1308, 1317, 1318])) := by
  refine wm_in (cd := sw_c452) (nL := 4) (hd := sw_h452) rfl rfl ?_
  have bW := hi_lt dW (Nat.le_refl _)
  have dW6 := deg_le dW (show 42 ≤ 176 by decide)
  obtain ⟨n, en⟩ : ∃ n : Nat, hi W = n := ⟨(hi W).toNat, by omega⟩
  have en2 : (hi W).toNat = n := by omega
  refine k452_0 hv.1 (wm_mono (wq_r ?_) (V_high hv (c := 1312) rfl hW))
  rw [show vi (hi W) = vi (n : Int) by rw [en]]
  refine k452_7 hv.1 (wm_mono (wq_Q (fun h1 v1 r1 => ?_)) (V_emptyTable hv))
  refine k452_12 v1.1 (wm_mono (wq_Q (fun h2 v2 r2 => ?_)) (V_become v1 (c := 1308) rfl (z := 1) (by decide)))
  rw [nF_1] at v2
  refine k452_20 ?_
  have s0 : sm A (up (up A 1317 (fl (fun _ _ => 0))) 1308 (cf (zp_C 1))) [1303, 1304, 1305, 1308, 1317, 1318] := sm_up (sm_up sm_refl _ rfl) _ rfl
  -- when the table is full
  have fin : ∀ (B : Nat → Nat → Int) (h' : s_H) (t3 : Term) (x2 : Int), RV h' s B → FR h h' → sm A B [1303, 1304, 1305, 1308, 1317, 1318] → B 1317 = fl (tc (fun c => md W (zp_npow V c)) n (n + 1) 0) → wr sw_P (d + 4) sw_c452 sw_h452 (75, [.index 1290, vi (n : Int), vi x2, t3], [], h', 0, 0) (RA h (fun v s' A' => ∃ (dd : Nat) (L : zp_R), v = vi (dd : Int) ∧ isL W V L dd ∧ dd ≤ (hi W).toNat ∧ A' 1303 = cf L ∧ clq s s' ∧ sm A A' [1303, 1304, 1305, 1308, 1317, 1318])) := by
    intro B h' t3 x2 v r m g
    refine k452_75 v.1 (wm_mono (wq_N (fun h3 s3 B3 v3 r3 φ => ?_)) (V_clearTable v g (H := n) (w := n + 1) (by omega) (by omega)))
    obtain ⟨C, es3, m3, g3, a3⟩ := φ
    have q3 : clq s s3 := ⟨_, _, es3⟩
    have mm3 := sm_tr m (sm_sub (M := [1303, 1304, 1305, 1308, 1317, 1318]) m3 rfl)
    have cellb : ∀ j, j < n + 1 → -1 ≤ B3 1318 j ∧ B3 1318 j ≤ 48 := fun j hj => by
      have := pc_b (B3 1318) j
      rcases a3.2 j hj with ⟨z1, _⟩ | ⟨z1, _⟩ <;> omega
    refine k452_83 ?_
    have find : ∀ (l j : Nat), j + l = n + 1 → (∀ i, i < j → B3 1318 i ≠ -1) → (∀ dd, dd ≤ n → B3 1318 dd = -1 → (∀ i, i < dd → B3 1318 i ≠ -1) → wr sw_P (d + 4) sw_c452 sw_h452 (101, [.index 1290, vi (n : Int), vi (dd : Int), t3], [], h3, 0, 0) (RA h (fun v s' A' => ∃ (dd : Nat) (L : zp_R), v = vi (dd : Int) ∧ isL W V L dd ∧ dd ≤ (hi W).toNat ∧ A' 1303 = cf L ∧ clq s s' ∧ sm A A' [1303, 1304, 1305, 1308, 1317, 1318]))) → wr sw_P (d + 4) sw_c452 sw_h452 (85, [.index 1290, vi (n : Int), vi (j : Int), t3], [], h3, 0, 0) (RA h (fun v s' A' => ∃ (dd : Nat) (L : zp_R), v = vi (dd : Int) ∧ isL W V L dd ∧ dd ≤ (hi W).toNat ∧ A' 1303 = cf L ∧ clq s s' ∧ sm A A' [1303, 1304, 1305, 1308, 1317, 1318])) := by
      intro l
      induction l with
      | zero =>
        intro j hj ne K
        have jn : j = n + 1 := by omega
        subst jn
        have p1 := pc_all (R := B3 1318) (j := n) (fun i hi2 => ne i (by omega))
        rcases a3.2 n (by omega) with ⟨z1, _⟩ | ⟨_, z2, _⟩
        · exact absurd z1 (ne n (by omega))
        · omega
      | succ l ih =>
        intro j hj ne K
        have e1 : gi (mk 48 (B3 1318)) (j : Int) = B3 1318 j := gi_mkn (by omega)
        have cb := cellb j (by omega)
        refine k452_85 v3.1 (Ra_row v3) (fun w => ?_) (fun w => ?_) (c10 := by rw [mk_len]; omega) (c11 := by omega) (c12 := by unfold In3; omega) (c13 := by rw [e1]; unfold In3; omega)
        · rw [e1] at w
          exact K j (by omega) w ne
        · rw [e1] at w
          refine k452_95 (ih (j + 1) (by omega) (fun i hi2 => ?_) K)
          by_cases q : i = j
          · rw [q]; exact w
          · exact ne i (by omega)
    refine find (n + 1) 0 (by omega) (fun i hi2 => absurd hi2 (Nat.not_lt_zero i)) (fun dd ddn ed ne => ?_)
    have hL := isL_rr (V := V) h0 dW en2 a3 (by omega) ed ne
    refine k452_101 v3.1 (wm_mono (wq_Q (fun h4 v4 r4 => ?_)) (V_empty v3 (c := 1303) rfl))
    refine k452_108 v4.1 (RV_l v4 (c := 1303) rfl) ?_ (c10 := by rw [mk_len]; omega) (c11 := by omega) (c12 := by unfold In3; omega)
    rw [mk_set]
    have o4 : ∀ x, x ≠ 1303 → up B3 1303 (cf (zp_C 0)) x = B3 x := fun x hx => up_ne _ _ hx
    have last : ∀ (l k : Nat) (B : Nat → Nat → Int) (h' : s_H), k + l = dd → RV h' s3 B → FR h h' → (∀ x, x ≠ 1303 → B x = B3 x) → (∀ x, x < 176 → B 1303 x = if x = dd then 1 else if x < k then cf (lst C dd) x else 0) → wr sw_P (d + 4) sw_c452 sw_h452 (117, [.index 1290, vi (n : Int), vi (dd : Int), vi (k : Int)], [], h', 0, 0) (RA h (fun v s' A' => ∃ (dd : Nat) (L : zp_R), v = vi (dd : Int) ∧ isL W V L dd ∧ dd ≤ (hi W).toNat ∧ A' 1303 = cf L ∧ clq s s' ∧ sm A A' [1303, 1304, 1305, 1308, 1317, 1318])) := by
      intro l
      induction l with
      | zero =>
        intro k B h' hk v r o g
        have kd' : k = dd := by omega
        subst kd'
        refine k452_117 (fun _ => ?_) (fun w => absurd w (by omega)) (c1 := by unfold In3; omega) (c2 := by unfold In3; omega)
        have v5 := RV_c v (c := 1303) rfl (g := cf (lst C k)) (fun x hx => by
          rw [g x hx]
          show _ = ((if x = k then (1 : zp_F) else if x < k then -(C x k) else 0 : zp_F).val : Int)
          by_cases q : x = k
          · rw [if_pos q, if_pos q]; rfl
          · rw [if_neg q, if_neg q]
            by_cases q2 : x < k
            · rw [if_pos q2, if_pos q2]
              show ((if x = k then (1 : zp_F) else if x < k then -(C x k) else 0 : zp_F).val : Int) = _
              rw [if_neg q, if_pos q2]
            · rw [if_neg q2, if_neg q2]; rfl)
        refine k452_154 ⟨vi (k : Int), h', s3, _, v5, r, ⟨k, _, rfl, hL, by omega, up_at _ _ _, q3, ?_⟩, rfl⟩
        exact sm_tr mm3 (fun j hj => by
          have hj3 : j ≠ 1303 := fun e => by rw [e] at hj; exact absurd hj (by decide)
          rw [up_ne _ _ hj3, o j hj3])
      | succ l ih =>
        intro k B h' hk v r o g
        refine k452_117 (fun w => absurd w (by omega)) (fun _ => ?_) (c1 := by unfold In3; omega) (c2 := by unfold In3; omega)
        have e1 : gi (mk 48 (B 1318)) (k : Int) = k := by
          rw [gi_mkn (by omega), o 1318 (by decide)]
          rcases a3.2 k (by omega) with ⟨z1, _⟩ | ⟨z1, _⟩
          · exact absurd z1 (ne k (by omega))
          · rw [z1, pc_all (fun i hi2 => ne i (by omega))]
        have e2 := gi_fl ((o 1317 (by decide)).trans g3) (n := k) (i := dd) (by omega) (by omega) (x := 48 * (k : Int) + dd) rfl
        have bz := (C k dd).isLt
        refine k452_122 v.1 (Ra_row v) (Ra_table v) (wm_mono (wq_r ?_) (t_modulo (by rw [e1, e2]; exact in6_of (by omega) (by omega)))) (c14 := by rw [mk_len]; omega) (c15 := by omega) (c16 := by unfold In3; omega) (c20 := by rw [e1, mk_len]; omega) (c21 := by rw [e1]; omega) (c22 := by rw [e1]; unfold In3; omega)
        rw [e1, e2, md_neg]
        refine k452_147 (RV_l v (c := 1303) rfl) ?_ (c4 := by rw [mk_len]; omega) (c5 := by omega) (c6 := by unfold In3; omega)
        rw [mk_set]
        refine ih (k + 1) _ _ (by omega) (RV_w v (c := 1303) rfl _) (FR_trans r (FR_w v (c := 1303) rfl _)) (fun x hx => by rw [up_ne _ _ hx, o x hx]) (fun x hx => ?_)
        rw [up_at]
        show (if x = (k : Int).toNat then ((-C k dd : zp_F).val : Int) else B 1303 x) = _
        by_cases q : x = k
        · rw [if_pos (by omega), if_neg (show ¬ x = dd by omega), if_pos (show x < k + 1 by omega), q]
          show _ = ((if k = dd then (1 : zp_F) else if k < dd then -(C k dd) else 0 : zp_F).val : Int)
          rw [if_neg (by omega), if_pos (by omega)]
        · rw [if_neg (by omega), g x hx]
          by_cases q3 : x = dd
          · rw [if_pos q3, if_pos q3]
          · rw [if_neg q3, if_neg q3]
            by_cases q2 : x < k
            · rw [if_pos q2, if_pos (show x < k + 1 by omega)]
            · rw [if_neg q2, if_neg (show ¬ x < k + 1 by omega)]
    refine last dd 0 _ _ (by omega) (RV_w v4 (c := 1303) rfl _) (FR_trans r (FR_trans r3 (FR_trans r4 (FR_w v4 (c := 1303) rfl _)))) (fun x hx => by rw [up_ne _ _ hx, o4 x hx]) (fun x hx => ?_)
    rw [up_at]
    show (if x = (dd : Int).toNat then 1 else up B3 1303 (cf (zp_C 0)) 1303 x) = _
    rw [up_at]
    by_cases q : x = dd
    · rw [if_pos (by omega), if_pos q]
    · rw [if_neg (by omega), if_neg q, if_neg (Nat.not_lt_zero x)]
      show ((zp_C 0).1 x : zp_F).val = (0 : Int)
      rw [zp_C00]; rfl
  -- the table
  have tab : ∀ (l k : Nat) (B : Nat → Nat → Int) (h' : s_H) (t3 : Term), k + l = n + 1 → RV h' s B → FR h h' → sm A B [1303, 1304, 1305, 1308, 1317, 1318] → B 1317 = fl (tc (fun c => md W (zp_npow V c)) n k 0) → (k < n + 1 → ∃ S, B 1308 = cf S ∧ (1 ≤ k → S = md W (zp_npow V k)) ∧ (k = 0 → S = zp_C 1)) → wr sw_P (d + 4) sw_c452 sw_h452 (22, [.index 1290, vi (n : Int), vi (k : Int), t3], [], h', 0, 0) (RA h (fun v s' A' => ∃ (dd : Nat) (L : zp_R), v = vi (dd : Int) ∧ isL W V L dd ∧ dd ≤ (hi W).toNat ∧ A' 1303 = cf L ∧ clq s s' ∧ sm A A' [1303, 1304, 1305, 1308, 1317, 1318])) := by
    intro l
    induction l with
    | zero =>
      intro k B h' t3 hk v r m g _
      have kn : k = n + 1 := by omega
      subst kn
      exact k452_22 (fun _ => fin B h' t3 _ v r m g) (fun w => absurd w (by omega)) (c1 := by unfold In3; omega) (c2 := by unfold In3; omega)
    | succ l ih =>
      intro k B h' t3 hk v r m g hS
      obtain ⟨S, gS, hS1, hS0⟩ := hS (by omega)
      refine k452_22 (fun w => absurd w (by omega)) (fun _ => k452_27 ?_) (c1 := by unfold In3; omega) (c2 := by unfold In3; omega)
      have eS : ∀ e, e < n → S.1 e = (md W (zp_npow V k)).1 e := fun e he => by
        by_cases q : k = 0
        · rw [hS0 q, q]
          have : md W (zp_npow V 0) = zp_C 1 := md_cg h0 dW6 (cg_refl W _) (deg_le (zp_C_deg 1) (by omega))
          rw [this]
        · rw [hS1 (by omega)]
      have dS : zp_deg S 42 := by
        by_cases q : k = 0
        · rw [hS0 q]; exact deg_le (zp_C_deg 1) (by decide)
        · rw [hS1 (by omega)]; exact deg_le (md_deg h0 dW6 _) (by omega)
      have cS : cg W S (zp_npow V k) := by
        by_cases q : k = 0
        · rw [hS0 q, q]; exact cg_refl W _
        · rw [hS1 (by omega)]; exact cg_symm (md_c h0 dW6 _)
      have inner : ∀ (l2 e : Nat) (C : Nat → Nat → Int) (h2 : s_H), e + l2 = n → RV h2 s C → FR h h2 → (∀ x, x ≠ 1317 → C x = B x) → C 1317 = fl (tc (fun c => md W (zp_npow V c)) n k e) → wr sw_P (d + 4) sw_c452 sw_h452 (29, [.index 1290, vi (n : Int), vi (k : Int), vi (e : Int)], [], h2, 0, 0) (RA h (fun v s' A' => ∃ (dd : Nat) (L : zp_R), v = vi (dd : Int) ∧ isL W V L dd ∧ dd ≤ (hi W).toNat ∧ A' 1303 = cf L ∧ clq s s' ∧ sm A A' [1303, 1304, 1305, 1308, 1317, 1318])) := by
        intro l2
        induction l2 with
        | zero =>
          intro e C h2 he v2 r2 o2 g2
          have en' : e = n := by omega
          subst en'
          have mC : sm A C [1303, 1304, 1305, 1308, 1317, 1318] := sm_tr m (fun j hj => o2 j (fun w => by rw [w] at hj; exact absurd hj (by decide)))
          refine k452_29 (fun _ => ?_) (fun w => absurd w (by omega)) (c1 := by unfold In3; omega) (c2 := by unfold In3; omega)
          have dP : zp_deg (zp_mul S V) 176 := deg_le (zp_deg_mul (n := 41) (m := 87) dS dV) (by decide)
          refine k452_57 v2.1 (wm_mono (wq_N (fun h3 s3 B3 v3 r3 φ => ?_)) (V_mulMod v2 (q := 1311) (p := 1312) rfl rfl (by decide) (by decide) (by decide) (by decide) (S := S) (g := V) (W := W) (by rw [o2 1308 (by decide), gS]) (by rw [mC 1311 rfl, hV]) (by rw [mC 1312 rfl, hW]) dP dW6 h0))
          obtain ⟨es3, m3, g3⟩ := φ
          rw [es3] at v3
          refine k452_69 ?_
          refine ih (k + 1) B3 h3 _ (by omega) v3 (FR_trans r2 r3) (sm_tr mC (sm_sub m3 rfl)) (by rw [m3 1317 rfl, g2, tc_s]) (fun _ => ⟨_, g3, fun _ => ?_, fun w => absurd w (by omega)⟩)
          exact md_eq h0 dW6 (cg_mul cS (cg_refl W V))
        | succ l2 ih2 =>
          intro e C h2 he v2 r2 o2 g2
          refine k452_29 (fun w => absurd w (by omega)) (fun _ => ?_) (c1 := by unfold In3; omega) (c2 := by unfold In3; omega)
          have g8 : C 1308 = cf S := by rw [o2 1308 (by decide), gS]
          refine k452_34 v2.1 (RV_l v2 (c := 1308) rfl) (Ra_table v2) ?_ (c12 := by rw [mk_len]; omega) (c13 := by omega) (c14 := by unfold In3; omega) (c18 := by rw [mk_len]; omega) (c19 := by omega) (c20 := by unfold In3; omega)
          have e5 := fl_put (tc (fun c => md W (zp_npow V c)) n k e) (n := e) (i := k) (by omega) ((md W (zp_npow V k)).1 e) (t0 := (48 * (e : Int) + k).toNat) (by omega) (x := gi (mk 176 (C 1308)) (e : Int)) (by rw [g8, gi_mkn (by omega), ← eS e (by omega)]; rfl)
          rw [mk_set, g2, e5, tc_put (S := fun c => md W (zp_npow V c)) (show e < n by omega)]
          exact ih2 (e + 1) _ _ (by omega) (RV_t v2 rfl) (FR_trans r2 (FR_t v2 _)) (fun x hx => by rw [up_ne _ _ hx, o2 x hx]) (up_at _ _ _)
      exact inner n 0 B h' (by omega) v r (fun _ _ => rfl) g
  refine tab (n + 1) 0 _ h2 _ (by omega) v2 (FR_trans r1 r2) s0 ?_ (fun _ => ⟨zp_C 1, up_at _ _ _, fun w => absurd w (by omega), fun _ => rfl⟩)
  rw [up_ne _ _ (by decide), up_at, tc_0]
theorem V_least (hv : RV h s A) {T : Nat → th} (hR : RI s A T) {x y : Int} (hx : In3 x) (hy : In3 y) : wm sw_P (d + 6) 502 [.index 1290, vi x, vi y] h (RA h (fun v s' A' => ∃ res, leaS (s 1) T x y res ∧ endz s A T res v s' A')) := by
  refine wm_in (cd := sw_c502) (nL := 4) (hd := sw_h502) rfl rfl ?_
  have b0 := hR.1.1
  refine k502_0 hv.1 (wm_mono (wq_A (fun v1 h1 s1 A1 w1 r1 φ => ?_)) (V_areWhole hv hR hx hy))
  obtain ⟨m1, c, hc, e1, q⟩ := φ
  have q1 : sq s s1 := by rw [e1]; exact sq_up (sq_refl s) _ rfl
  rcases q with ⟨c0, ev⟩ | ⟨c0, ev, f, k, a, p, ef, ek, lf, lk, tf, tk, g98, g00, da, dp⟩
  · rw [ev]
    refine k502_6 (fun w => absurd rfl w) (fun _ => k502_9 ⟨vi 0, h1, s1, A1, w1, r1, ⟨.inr c, ⟨c, hc, fun _ => rfl, fun w => absurd w c0⟩, ?_⟩, rfl⟩)
    exact endz_of (s1 := s) (B := A) (by rw [e1]; exact ⟨sm_sub m1 rfl, rfl, rfl, RI_sc hR m1 rfl⟩) (sq_refl s) sm_refl
  · rw [ev]
    subst ef
    subst ek
    have xf : (f : Int).toNat = f := by omega
    have yk : (k : Int).toNat = k := by omega
    have sp : ∀ res : Sum th Int, (hi p < 1 → res = .inr 2) ∧ (1 ≤ hi p → ∃ L dd, isL p a L dd ∧ zp_deg L 42 ∧ keeps (s 1) L 3 res) → leaS (s 1) T f k res := fun res w => ⟨c, hc, fun w2 => absurd c0 w2, fun _ => by rw [xf, yk, tf, tk]; exact w⟩
    have da6 := deg_le da (show 41 ≤ 176 by decide)
    have dp6 := deg_le dp (show 41 ≤ 176 by decide)
    have bp := hi_b p
    have lp := hi_lt dp (Nat.le_refl _)
    refine k502_6 (fun _ => ?_) (fun w => absurd (by decide) w)
    refine k502_11 w1.1 (wm_mono (wq_r ?_) (V_high w1 (c := 1300) rfl g00))
    refine k502_18 (fun q2 => ?_) (fun q2 => ?_)
    · refine k502_28 w1.1 (wm_mono (wq_Q (fun h2 w2 r2 => ?_)) (V_copy w1 (c := 1312) (e := 1300) rfl rfl (by decide)))
      refine k502_39 w2.1 (wm_mono (wq_Q (fun h3 w3 r3 => ?_)) (V_copy w2 (c := 1311) (e := 1298) rfl rfl (by decide)))
      have f12 : up (up A1 1312 (A1 1300)) 1311 (up A1 1312 (A1 1300) 1298) 1312 = cf p := by rw [up_ne _ _ (by decide), up_at, g00]
      have f11 : up (up A1 1312 (A1 1300)) 1311 (up A1 1312 (A1 1300) 1298) 1311 = cf a := by rw [up_at, up_ne _ _ (by decide), g98]
      refine k502_50 w3.1 (wm_mono (wq_N (fun h4 s4 A4 w4 r4 φ => ?_)) (V_divide w3 (p := 1311) (q := 1312) rfl rfl (by decide) (by decide) (by decide) f11 f12 da6 dp6 (by omega)))
      obtain ⟨es4, Q, R, e, dR, dR6, _, eA4⟩ := φ
      rw [es4] at w4
      have m4 : sm A A4 scrA := by rw [eA4]; exact sm_up (sm_up (sm_up (sm_up (scr_A m1) _ rfl) _ rfl) _ rfl) _ rfl
      refine k502_62 w4.1 (wm_mono (wq_A (fun v5 h5 s5 A5 w5 r5 φ => ?_)) (V_findLeast w4 (W := p) (V := R) (by rw [eA4, up_ne _ _ (by decide), up_ne _ _ (by decide), f12]) (by rw [eA4, up_at]) (deg_le dp (by decide)) (by omega) (deg_le dR (by omega))))
      obtain ⟨dd, L, ev5, hL, dL, g5, q5, m5⟩ := φ
      subst ev5
      have m5' : sm A A5 scrA := sm_tr m4 (sm_sub m5 rfl)
      have q5' := sq_tr q1 (sq_cl q5)
      have dL42 : zp_deg L 42 := deg_le hL.2.1 (by omega)
      refine k502_66 w5.1 (wm_mono (wq_Q (fun h6 w6 r6 => ?_)) (V_copy w5 (c := 1302) (e := 1303) rfl rfl (by decide)))
      refine k502_78 w6.1 (wm_mono (wq_Q (fun h7 w7 r7 => ?_)) (V_become w6 (c := 1303) rfl (z := 1) (by decide)))
      rw [nF_1] at w7
      refine k502_86 w7.1 (wm_mono (wq_A (fun v8 h8 s8 A8 w8 r8 φ => ?_)) (V_keep w7 (by rw [sq_1 q5']; exact b0) (N := L) (D := zp_C 1) (by rw [up_ne _ _ (by decide), up_at, g5]) (up_at _ _ _)))
      obtain ⟨res, z1, z3⟩ := endz_keeps hR q5' (sm_up (sm_up m5' _ rfl) _ rfl) (deg_le dL42 (by decide)) φ
      obtain ⟨u, eu⟩ := endz_vi z3
      subst eu
      exact k502_91 ⟨_, h8, s8, A8, w8, FR_trans r1 (FR_trans r2 (FR_trans r3 (FR_trans r4 (FR_trans r5 (FR_trans r6 (FR_trans r7 r8)))))), ⟨res, sp res ⟨fun w => by omega, fun _ => ⟨L, dd, isL_cg (cg_symm (cg_dv e)) hL, dL42, z1⟩⟩, z3⟩, rfl⟩
    · refine k502_22 w1.1 (wm_mono (wq_A (fun v3 h3 s3 A3 w3 r3 φ => ?_)) (V_raise w1))
      obtain ⟨y1, y2, y3⟩ := φ
      subst y1
      exact k502_27 ⟨_, h3, s3, A3, w3, FR_trans r1 r3, ⟨.inr 2, sp _ ⟨fun _ => rfl, fun w => by omega⟩, endz_bad hR q1 (scr_A m1) rfl y2 y3⟩, rfl⟩
end
