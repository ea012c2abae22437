/-! the reference's unroll and obeys in the picture -/
/-- what a rule makes of the places from n on -/
noncomputable def rsm (M : Nat → zp_R) (g : Nat → zp_F) (n : Nat) (L : Nat) : zp_F := zp_sum (fun i => zp_ev (nF (n : Int)) (M i) * g (n + i)) L
def unrR (M : Nat → zp_R) (r : Nat) (f R : zp_R) (N : Nat) : Prop := zp_deg R N ∧ ∀ n, n < N → (n < r → R.1 n = f.1 n) ∧ (r ≤ n → zp_ev (nF ((n - r : Nat) : Int)) (M r) ≠ 0 ∧ R.1 n = -(rsm M R.1 (n - r) r) * zp_ev (nF ((n - r : Nat) : Int)) (M r) ^ 32001)
def unrF (cnt : Int) (t u : th) (res : Sum th Int) : Prop := match t, u with
  | .inr (.inr (.inl (_, L, M))), .inr (.inl f) => ((∃ n : Nat, n < 25 ∧ L - 1 ≤ n ∧ zp_ev (nF ((n - (L - 1) : Nat) : Int)) (M 0 (L - 1)) = 0) → res = .inr 3) ∧ ((∀ n : Nat, n < 25 → L - 1 ≤ n → zp_ev (nF ((n - (L - 1) : Nat) : Int)) (M 0 (L - 1)) ≠ 0) → ∃ R, unrR (M 0) (L - 1) f R 25 ∧ (cnt = 150 → res = .inr 4) ∧ (cnt ≠ 150 → res = .inl (th_se R)))
  | _, _ => True
/-- a rule and a thing of a kind -/
def rkO (k : Int) (t u : th) : Prop := rulP t ∧ kd u = k
def unrS (cnt : Int) (T : Nat → th) (x y : Int) (res : Sum th Int) : Prop := (¬ (0 ≤ x ∧ x < cnt ∧ 0 ≤ y ∧ y < cnt) → res = .inr 1) ∧ ((0 ≤ x ∧ x < cnt ∧ 0 ≤ y ∧ y < cnt) → (¬ rkO 1 (T x.toNat) (T y.toNat) → res = .inr 2) ∧ (rkO 1 (T x.toNat) (T y.toNat) → unrF cnt (T x.toNat) (T y.toNat) res))
def obeF (t u : th) (v : Int) : Prop := match t, u with
  | .inr (.inr (.inl (_, L, M))), .inr (.inl f) => ((∀ n : Nat, n + L - 1 < 25 → rsm (M 0) f.1 n L = 0) → v = 1) ∧ (¬ (∀ n : Nat, n + L - 1 < 25 → rsm (M 0) f.1 n L = 0) → v = 0)
  | _, _ => True
def obeS (cnt : Int) (T : Nat → th) (x y c v : Int) : Prop := (¬ (0 ≤ x ∧ x < cnt ∧ 0 ≤ y ∧ y < cnt) → c = 1 ∧ v = 0) ∧ ((0 ≤ x ∧ x < cnt ∧ 0 ≤ y ∧ y < cnt) → (¬ rkO 1 (T x.toNat) (T y.toNat) → c = 2 ∧ v = 0) ∧ (rkO 1 (T x.toNat) (T y.toNat) → c = 0 ∧ obeF (T x.toNat) (T y.toNat) v))
theorem unrR_0 (M : Nat → zp_R) (r : Nat) (f : zp_R) : unrR M r f (zp_C 0) 0 := ⟨fun i _ => zp_C00 i, fun n hn => absurd hn (Nat.not_lt_zero n)⟩
theorem unrR_a {M : Nat → zp_R} {r n : Nat} {f R : zp_R} (h : unrR M r f R n) (hn : n < r) : unrR M r f (pst R n (f.1 n)) (n + 1) := by
  refine ⟨pst_deg _ (deg_le h.1 (by omega)) (by omega), fun m hm => ⟨fun h1 => ?_, fun h1 => by omega⟩⟩
  by_cases q : m = n
  · rw [q, pst_at]
  · rw [pst_ne R _ q]; exact (h.2 m (by omega)).1 h1
theorem unrR_b {M : Nat → zp_R} {r n : Nat} {f R : zp_R} (h : unrR M r f R n) (hn : r ≤ n) (n0 : zp_ev (nF ((n - r : Nat) : Int)) (M r) ≠ 0) : unrR M r f (pst R n (-(rsm M R.1 (n - r) r) * zp_ev (nF ((n - r : Nat) : Int)) (M r) ^ 32001)) (n + 1) := by
  refine ⟨pst_deg _ (deg_le h.1 (by omega)) (by omega), fun m hm => ⟨fun h1 => ?_, fun h1 => ?_⟩⟩
  · rw [pst_ne R _ (by omega)]; exact (h.2 m (by omega)).1 h1
  · have e : ∀ z, rsm M (pst R n z).1 (m - r) r = rsm M R.1 (m - r) r := fun z => zp_sum_congr (fun i hi2 => by rw [pst_ne R z (by omega)])
    rw [e]
    by_cases q : m = n
    · subst q
      exact ⟨n0, pst_at R m _⟩
    · rw [pst_ne R _ q]
      exact (h.2 m (by omega)).2 h1
section
variable {d : Nat} {h : s_H} {s : Nat → Int} {A : Nat → Nat → Int}
theorem V_ruleAt (hv : RV h s A) {f L : Nat} {M : Nat → zp_R} (hf : f < 150) (hL : 1 ≤ L ∧ L ≤ 4) (h0 : row0 A f L M) {i : Nat} (hi2 : i < L) {n : Nat} (hn : n < 32003) : wm sw_P (d + 3) 590 [.index 1290, vi (f : Int), vi (i : Int), vi (n : Int)] h (RA h (fun v s' A' => s' = s ∧ sm A A' [1308] ∧ v = vl ((zp_ev (nF (n : Int)) (M i)).val : Int))) := by
  refine wm_in (cd := sw_c590) (nL := 4) (hd := sw_h590) rfl rfl ?_
  refine k590_0 hv.1 (wm_mono (wq_Q (fun h1 v1 r1 => ?_)) (V_loadEntry hv (p := 1308) rfl (m := f) (i := 0) (j := i) hf (by omega) (by omega) h0.2.2))
  have e := h0.2.1 i hi2
  rw [e] at v1
  refine k590_11 v1.1 (wm_mono (wq_r ?_) (t_valueAt (f := M i) (RV_q v1 (c := 1308) rfl (up_at _ _ _)) (deg_le (me_deg e) (by decide)) (z := (n : Int)) ⟨by omega, by omega⟩)) (c7 := by unfold In3; omega)
  exact k590_20 ⟨_, h1, s, _, v1, r1, ⟨rfl, sm_up sm_refl _ rfl, rfl⟩, rfl⟩
theorem V_unroll (hv : RV h s A) {T : Nat → th} (hR : RI s A T) {x y : Int} (hx : In3 x) (hy : In3 y) : wm sw_P (d + 4) 611 [.index 1290, vi x, vi y] h (RA h (fun v s' A' => ∃ res, unrS (s 1) T x y res ∧ endz s A T res v s' A')) := by
  refine wm_in (cd := sw_c611) (nL := 10) (hd := sw_h611) rfl rfl ?_
  have b0 := hR.1.1
  have bad : ∀ (z : Int) (B : Nat → Nat → Int) (h' : s_H), 0 < z → z < 4 → unrS (s 1) T x y (.inr z) → RV h' s B → FR h h' → sm A B scr → wr sw_P (d + 3) sw_c611 sw_h611 (43, [.index 1290, vi x, vi y, .result, .result, .result, .result, .result, .result, .result], [vi z, .index 1290], h', 0, 0) (RA h (fun v s' A' => ∃ res, unrS (s 1) T x y res ∧ endz s A T res v s' A')) := by
    intro z B h' hz2 hz3 hs v r m
    refine k611_43 (z10 := z) v.1 (hp_at v.1) (fun w => absurd w (by omega)) (fun _ => k611_53 ?_) (c12 := by unfold In3; omega)
    exact ⟨_, _, _, _, RV_fld v (up s 0 z) (rF_0 s z), FR_trans r (FR_fld v _), ⟨.inr z, hs, endz_bad hR (sq_refl s) (scr_A m) rfl rfl rfl⟩, rfl⟩
  refine k611_0 hv.1 (wm_mono (wq_r ?_) (V_isThere hv b0 hx))
  by_cases qx : 0 ≤ x ∧ x < s 1
  case neg =>
    rw [if_neg qx]
    exact k611_6 (fun _ => k611_17 (bad 1 A h (by decide) (by decide) ⟨fun _ => rfl, fun w => absurd ⟨w.1, w.2.1⟩ qx⟩ hv (FR_refl h) sm_refl)) (fun w => absurd rfl w)
  rw [if_pos qx]
  refine k611_6 (fun w => absurd w (by decide)) (fun _ => ?_)
  refine k611_9 hv.1 (wm_mono (wq_r ?_) (V_isThere hv b0 hy))
  by_cases qy : 0 ≤ y ∧ y < s 1
  case neg =>
    rw [if_neg qy]
    exact k611_14 (fun w => absurd rfl w) (fun _ => k611_17 (bad 1 A h (by decide) (by decide) ⟨fun _ => rfl, fun w => absurd w.2.2 qy⟩ hv (FR_refl h) sm_refl))
  rw [if_pos qy]
  refine k611_14 (fun _ => ?_) (fun w => absurd (by decide) w)
  obtain ⟨f, ef⟩ : ∃ f : Nat, x = f := ⟨x.toNat, by omega⟩
  obtain ⟨k, ek⟩ : ∃ k : Nat, y = k := ⟨y.toNat, by omega⟩
  subst ef
  subst ek
  have xf : (f : Int).toNat = f := by omega
  have yk : (k : Int).toNat = k := by omega
  refine k611_21 hv.1 (wm_mono (wq_A (fun v1 h1 s1 A1 w1 r1 φ => ?_)) (V_isRule hv hR (f := f) (by omega)))
  obtain ⟨e1, m1, y1, y2⟩ := φ
  subst e1
  have m1' : sm A A1 scr := sm_sub m1 rfl
  have R1 : RI s1 A1 T := RI_sc hR m1' rfl
  have hin : 0 ≤ (f : Int) ∧ (f : Int) < s1 1 ∧ 0 ≤ (k : Int) ∧ (k : Int) < s1 1 := ⟨qx.1, qx.2, qy⟩
  have two2 : ¬ rkO 1 (T f) (T k) → wr sw_P (d + 3) sw_c611 sw_h611 (38, [.index 1290, vi (f : Int), vi (k : Int), .result, .result, .result, .result, .result, .result, .result], [.index 1290], h1, 0, 0) (RA h (fun v s' A' => ∃ res, unrS (s1 1) T f k res ∧ endz s1 A T res v s' A')) := fun q => k611_38 (bad 2 A1 h1 (by decide) (by decide) ⟨fun w => absurd hin w, fun _ => ⟨fun _ => rfl, fun w => absurd (by rw [xf, yk] at w; exact w) q⟩⟩ w1 r1 m1')
  have hk := R1.2.2 k qy.2
  have ik : A1 1291 (k : Int).toNat = kd (T k) := isT_kd hk
  have kb := kd_b (T k)
  have i3 : In3 (A1 1291 (k : Int).toNat) := by rw [ik]; unfold In3; omega
  by_cases q1 : rulP (T f)
  case neg =>
    rw [y2 q1]
    exact k611_26 (fun _ => two2 (fun w => q1 w.1)) (fun w => absurd rfl w)
  rw [y1 q1]
  refine k611_26 (fun w => absurd w (by decide)) (fun _ => ?_)
  refine k611_29 w1.1 (wm_mono (wq_r ?_) (V_is w1 (x := (k : Int)) (k := 1) ⟨by omega, by omega⟩ i3 (by decide)))
  rw [ik]
  by_cases q4 : kd (T k) = 1
  case neg =>
    rw [if_neg q4]
    exact k611_35 (fun w => absurd rfl w) (fun _ => two2 (fun w => q4 w.2))
  rw [if_pos q4]
  refine k611_35 (fun _ => k611_42 ?_) (fun w => absurd (by decide) w)
  have ok : rkO 1 (T f) (T k) := ⟨q1, q4⟩
  have sp : ∀ res : Sum th Int, unrF (s1 1) (T f) (T k) res → unrS (s1 1) T f k res := fun ro y => ⟨fun w => absurd hin w, fun _ => ⟨fun w => absurd (by rw [xf, yk]; exact ok) w, fun _ => by rw [xf, yk]; exact y⟩⟩
  refine k611_43 (z10 := 0) w1.1 (hp_at w1.1) (fun _ => ?_) (fun w => absurd (by decide) w)
  have w2 := RV_fld w1 (up s1 0 0) (rF_0 s1 0)
  have r2 : FR h (hp h1 1290 (1, 11, (rF s1).set 0 (vi 0))) := FR_trans r1 (FR_fld w1 _)
  have sq2 : sq s1 (up s1 0 0) := sq_up (sq_refl s1) _ rfl
  obtain ⟨L, M, tf⟩ := rul_ma q1
  have R2 : RI (up s1 0 0) A1 T := RI_sc hR m1' rfl
  have hf2 := R2.2.2 f qx.2
  rw [tf] at hf2
  obtain ⟨q0, hL⟩ := row0_T hf2 (RI_me R2)
  have g1 : gi (mk 150 (A1 1295)) (f : Int) = (L : Int) := by rw [gi_mkn (by omega)]; exact q0.1
  obtain ⟨r, er⟩ : ∃ r, L = r + 1 := ⟨L - 1, by omega⟩
  subst er
  refine k611_55 w2.1 (Ra_columns w2) (wm_mono (wq_Q (fun h3 w3 r3 => ?_)) (V_load w2 (t := 1298) (b := 1299) rfl rfl (by decide) (x := (k : Int)) ⟨by omega, by omega⟩ (RB_t R1.1) (RB_b R1.1))) (c10 := by rw [mk_len]; omega) (c11 := by omega) (c12 := by unfold In3; omega)
  rw [yk] at w3
  rw [g1, show ((r + 1 : Nat) : Int) - 1 = (r : Int) by omega]
  have m3 : sm A (up (up A1 1298 (fp A1 1292 k)) 1299 (fp A1 1293 k)) scr := sm_up (sm_up m1' _ rfl) _ rfl
  have q03 := row0_sm q0 (B := up (up A1 1298 (fp A1 1292 k)) 1299 (fp A1 1293 k)) (sm_up (sm_up sm_refl _ rfl) _ rfl)
  rcases ek1 : T k with ⟨a, b⟩ | a | ⟨r', c, M'⟩ | ⟨n, so, va⟩
  · rw [ek1] at q4; exact (kdn q4 rfl).elim
  · rw [ek1] at hk
    obtain ⟨_, p1, p2, p3⟩ := hk
    have h98 : up (up A1 1298 (fp A1 1292 k)) 1299 (fp A1 1293 k) 1298 = cf a := by rw [up_ne _ _ (by decide), up_at, p1]
    have mF : ∀ res : Sum th Int, ((∃ n : Nat, n < 25 ∧ r ≤ n ∧ zp_ev (nF ((n - r : Nat) : Int)) (M 0 r) = 0) → res = .inr 3) → ((∀ n : Nat, n < 25 → r ≤ n → zp_ev (nF ((n - r : Nat) : Int)) (M 0 r) ≠ 0) → ∃ R, unrR (M 0) r a R 25 ∧ (s1 1 = 150 → res = .inr 4) ∧ (s1 1 ≠ 150 → res = .inl (th_se R))) → unrF (s1 1) (T f) (T k) res := fun res y1 y2 => by rw [tf, ek1]; exact ⟨y1, y2⟩
    refine k611_77 w3.1 (wm_mono (wq_Q (fun h4 w4 r4 => ?_)) (V_empty w3 (c := 1302) rfl))
    refine k611_84 ?_
    have loop : ∀ (l n : Nat) (B : Nat → Nat → Int) (R : zp_R) (h' : s_H) (t5 t6 t7 t8 t9 : Term), n + l = 25 → RV h' (up s1 0 0) B → FR h h' → sm (up (up A1 1298 (fp A1 1292 k)) 1299 (fp A1 1293 k)) B scr → B 1298 = cf a → B 1302 = cf R → unrR (M 0) r a R n → wr sw_P (d + 3) sw_c611 sw_h611 (87, [.index 1290, vi (f : Int), vi (k : Int), vi (r : Int), vi (n : Int), t5, t6, t7, t8, t9], [], h', 0, 0) (RA h (fun v s' A' => ∃ res, unrS (s1 1) T f k res ∧ endz s1 A T res v s' A')) := by
      intro l
      induction l with
      | zero =>
        intro n B R h' t5 t6 t7 t8 t9 hn v rr m ga gr hU
        have n25 : n = 25 := by omega
        subst n25
        refine k611_87 (fun _ => ?_) (fun w => absurd w (by omega))
        refine k611_222 v.1 (wm_mono (wq_A (fun v6 h6 s6 A6 w6 r6 φ => ?_)) (V_keepSeries v b0 (f := R) gr))
        obtain ⟨res, z1, z2, z3⟩ := endz_ksQ hR sq2 (scr_A (sm_tr m3 m)) hU.1 (c25_cf hU.1) φ
        obtain ⟨u, eu⟩ := endz_vi z3
        subst eu
        exact k611_227 ⟨_, h6, s6, A6, w6, FR_trans rr r6, ⟨res, sp res (mF res (fun ⟨n, n1, n2, n3⟩ => absurd n3 ((hU.2 n n1).2 n2).1) (fun _ => ⟨R, hU, z1, z2⟩)), z3⟩, rfl⟩
      | succ l ih =>
        intro n B R h' t5 t6 t7 t8 t9 hn v rr m ga gr hU
        refine k611_87 (fun w => absurd w (by omega)) (fun _ => ?_)
        refine k611_94 (fun q5 => ?_) (fun q5 => ?_) (c1 := by unfold In3; omega) (c2 := by unfold In3; omega)
        · have q0' := row0_sm q03 m
          refine k611_117 v.1 ?_
          rw [show (n : Int) - r = ((n - r : Nat) : Int) by omega]
          refine wm_mono (wq_A (fun v5 h5 s5 A5 w5 r5 φ => ?_)) (V_ruleAt v (f := f) (by omega) hL q0' (i := r) (by omega) (n := n - r) (by omega))
          obtain ⟨e5, m5, ev5⟩ := φ
          subst e5
          subst ev5
          have bz := (zp_ev (nF ((n - r : Nat) : Int)) (M 0 r)).isLt
          refine k611_127 (fun q6 => ?_) (fun q6 => ?_) (c1 := in6_of (by omega) (by omega))
          · have n0 : zp_ev (nF ((n - r : Nat) : Int)) (M 0 r) ≠ 0 := fun w => q6 (by rw [w]; rfl)
            refine k611_142 ?_
            have inner : ∀ (l2 i : Nat) (C : Nat → Nat → Int) (h2 : s_H) (t6 t8 : Term), i + l2 = r → RV h2 (up s1 0 0) C → FR h h2 → sm B C [1308] → wr sw_P (d + 3) sw_c611 sw_h611 (148, [.index 1290, vi (f : Int), vi (k : Int), vi (r : Int), vi (n : Int), vl ((zp_ev (nF ((n - r : Nat) : Int)) (M 0 r)).val : Int), t6, vl ((zp_sum (fun i => zp_ev (nF ((n - r : Nat) : Int)) (M 0 i) * R.1 (n - r + i)) i).val : Int), t8, vi (i : Int)], [], h2, 0, 0) (RA h (fun v s' A' => ∃ res, unrS (s1 1) T f k res ∧ endz s1 A T res v s' A')) := by
              intro l2
              induction l2 with
              | zero =>
                intro i C h2 t6 t8 hi2 v' r' m'
                have ir : i = r := by omega
                subst ir
                have bs := (zp_sum (fun j => zp_ev (nF ((n - i : Nat) : Int)) (M 0 j) * R.1 (n - i + j)) i).isLt
                refine k611_148 (fun _ => ?_) (fun w => absurd w (by omega)) (c1 := by unfold In3; omega) (c2 := by unfold In3; omega)
                refine k611_193 v'.1 (wm_mono (wq_r ?_) (t_modulo (in6_of (by omega) (by omega))))
                rw [md_neg]
                refine k611_205 (wm_mono (wq_r ?_) (t_inverse (in6_of (by omega) (by omega))))
                rw [nF_val]
                refine k611_210 (RV_l v' (c := 1302) rfl) ?_ (c1 := in_mul _ _) (c5 := by rw [mk_len]; omega) (c6 := by omega) (c7 := by unfold In3; omega)
                have gC : C 1302 = cf R := (m' 1302 rfl).trans gr
                rw [tm_mul, mk_set, gC, cf_pst R (n := n) (by omega) rfl]
                refine k611_216 ?_
                exact ih (n + 1) _ _ _ _ _ _ _ _ (by omega) (RV_w v' (c := 1302) rfl _) (FR_trans r' (FR_w v' (c := 1302) rfl _)) (sm_up (sm_tr m (sm_sub m' rfl)) _ rfl) (by rw [up_ne _ _ (by decide), m' 1298 rfl, ga]) (up_at _ _ _) (unrR_b hU (by omega) n0)
              | succ l2 ih2 =>
                intro i C h2 t6 t8 hi2 v' r' m'
                have q0'' := row0_sm q0' (sm_sub (M := scr) m' rfl)
                refine k611_148 (fun w => absurd w (by omega)) (fun _ => ?_) (c1 := by unfold In3; omega) (c2 := by unfold In3; omega)
                refine k611_154 v'.1 ?_
                rw [show (n : Int) - r = ((n - r : Nat) : Int) by omega]
                refine wm_mono (wq_A (fun v5 h5 s5 A5 w5 r5 φ => ?_)) (V_ruleAt v' (f := f) (by omega) hL q0'' (i := i) (by omega) (n := n - r) (by omega))
                obtain ⟨e5, m5, ev5⟩ := φ
                subst e5
                subst ev5
                have gC : A5 1302 = cf R := (m5 1302 rfl).trans ((m' 1302 rfl).trans gr)
                have gn : gi (mk 176 (A5 1302)) ((n : Int) - r + i) = ((R.1 (n - r + i)).val : Int) := by rw [gC, show (n : Int) - r + i = ((n - r + i : Nat) : Int) by omega]; exact gi_mkn (by omega)
                refine k611_167 w5.1 (Ra_rt w5) ?_ (c10 := by rw [mk_len]; omega) (c11 := by omega) (c12 := by unfold In3; omega) (c13 := by rw [gn]; exact in_acc _ _ _)
                rw [gn, tm_ab]
                exact ih2 (i + 1) _ _ _ _ (by omega) w5 (FR_trans r' r5) (sm_tr m' m5)
            exact inner r 0 A5 h5 _ _ (by omega) w5 (FR_trans rr r5) m5
          · have z0 : zp_ev (nF ((n - r : Nat) : Int)) (M 0 r) = 0 := F_ext (by show ((zp_ev (nF ((n - r : Nat) : Int)) (M 0 r)).val : Int) = 0; omega)
            refine k611_136 w5.1 (wm_mono (wq_A (fun v6 h6 s6 A6 w6 r6 φ => ?_)) (V_raise w5))
            obtain ⟨z1, z2, z3⟩ := φ
            subst z1
            refine k611_141 ⟨_, h6, s6, A6, w6, FR_trans rr (FR_trans r5 r6), ⟨.inr 3, sp _ (mF _ (fun _ => rfl) (fun w => absurd z0 (w n (by omega) (by omega)))), endz_bad hR sq2 (scr_A (sm_tr m3 (sm_tr m (sm_sub m5 rfl)))) rfl z2 z3⟩, rfl⟩
        · have gn : gi (mk 176 (B 1298)) (n : Int) = ((a.1 n).val : Int) := by rw [ga]; exact gi_mkn (by omega)
          refine k611_100 v.1 (Ra_at v) (Ra_rt v) ?_ (c12 := by rw [mk_len]; omega) (c13 := by omega) (c14 := by unfold In3; omega) (c18 := by rw [mk_len]; omega)
          rw [gn, mk_set, gr, cf_pst R (n := n) (by omega) rfl]
          refine k611_216 ?_
          exact ih (n + 1) _ _ _ _ _ _ _ _ (by omega) (RV_w v (c := 1302) rfl _) (FR_trans rr (FR_w v (c := 1302) rfl _)) (sm_up m _ rfl) (by rw [up_ne _ _ (by decide), ga]) (up_at _ _ _) (unrR_a hU (by omega))
    exact loop 25 0 _ (zp_C 0) h4 _ _ _ _ _ rfl w4 (FR_trans r2 (FR_trans r3 r4)) (sm_up sm_refl _ rfl) (by rw [up_ne _ _ (by decide), h98]) (up_at _ _ _) (unrR_0 _ _ _)
  · rw [ek1] at q4; exact (kdn q4 rfl).elim
  · rw [ek1] at q4; exact (kdn q4 rfl).elim
end
