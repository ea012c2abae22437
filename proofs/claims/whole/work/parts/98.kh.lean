/-! the class's series: slopes, integrals, rows of polynomials, one put into another, exponentials, roots -/
theorem SR_set {h0 h : s_H} {a : Nat} {f f' : zp_R} (F : CF PN h0 h) (lo : h0.1 ≤ a) (S : SR h a f) {cc : s_C} (e : cc = ai 25 (cf f')) : CF PN h0 (hp h a cc) ∧ SR (hp h a cc) a f' := by
  subst e
  exact ⟨⟨F.1, fun j p w => (hp_ne S.1 (by have := S.2.2; have e2 : (hp h a (ai 25 (cf f'))).1 = h.1 := rfl; omega)).trans (F.2 j p w)⟩, hp_at S.1, S.2.1, S.2.2⟩
theorem tm_prk (a : zp_F) (k : Nat) : Int.tmod ((a.val : Int) * (k : Int)) 32003 = ((nF k * a : zp_F).val : Int) := by
  rw [Int.mul_comm]
  exact tm_km k a
theorem in_prk {k : Nat} (hk : k ≤ 200) (a : zp_F) : In3 ((a.val : Int) * (k : Int)) := by
  have h2 := a.isLt
  have h3 : a.val * k ≤ 32003 * 200 := Nat.mul_le_mul (by omega) hk
  have h4 : (a.val : Int) * k = ((a.val * k : Nat) : Int) := rfl
  rw [h4]
  unfold In3
  omega
section
variable {D d nx kc ks : Nat} {cd : s_Cd} {hd : List s_Hd} {ls rest : List Term} {Q : s_O → Prop} {h : s_H}
/-- the inverse of a small number -/
theorem r_inv2 {x : Int} (hx : 1 ≤ x ∧ x ≤ 32002) (K : nF x ≠ 0 → wr sw_P d cd hd (nx, ls, vi ((nF x ^ 32001 : zp_F).val : Int) :: rest, h, kc, ks) Q) : wm sw_P (D + 1) 168 [vi x] h (wq sw_P d cd hd nx ls rest kc ks Q) := by
  have e := cf_nF (x := x) (by omega)
  have ne : nF x ≠ 0 := fun w => by
    have := (nF_is0 (x := x) (by omega)).mp w
    omega
  have l := (nF x).isLt
  rw [← e]
  refine wm_mono (wq_r ?_) (u_inverseOf (v := (nF x).val) l)
  rw [nF_val]
  exact K ne
end
section
variable {D : Nat} {h : s_H}
theorem u_slopeS (r : RM h 1) (h0 : 0 < h.1) {a : Nat} {f : zp_R} (ha : SR h a f) (df : zp_deg f 25) : wm sw_P (D + 1) 247 [.index a] h (SN h 1 (fun R => R = zp_D f)) := by
  refine wm_in (cd := sw_c247) (nL := 3) (hd := sw_h247) rfl rfl ?_
  obtain ⟨c0, r0⟩ := r h.1 (Nat.le_refl _) (by omega)
  have dD : zp_deg (zp_D f) 24 := fun i hi2 => by
    show zp_nat (i + 1) * f.1 (i + 1) = 0
    rw [df (i + 1) (by omega)]
    exact zp_h15 _
  have loop : ∀ (l m : Nat) (h' : s_H), m + l = 24 → WA h 1 h.1 h' (cut (zp_D f) m) → wr sw_P D sw_c247 sw_h247 (7, [.index a, .index h.1, vi ((m : Int) + 1)], [], h', 0 + 1, 0 + Int.toNat 25) (SN h 1 (fun R => R = zp_D f)) := by
    intro l
    induction l with
    | zero =>
      intro m h' hm W
      have e : m = 24 := by omega
      subst e
      rw [cut_self dD] at W
      exact k247_7 (fun _ => k247_33 (SN_E W h0 (deg_le dD (by omega)) rfl rfl)) (fun q => absurd (by omega) q) (c1 := by unfold In3; omega)
    | succ l ih =>
      intro m h' hm W
      refine k247_7 (fun q => absurd q (by omega)) (fun _ => ?_) (c1 := by unfold In3; omega)
      have e1 : gi (mk 25 (cf f)) ((m : Int) + 1) = ((f.1 (m + 1)).val : Int) := gi_cf' (n := m + 1) (by omega) (by omega)
      refine k247_13 (a4 := mk 25 (cf f)) (a11 := mk 25 (cf (cut (zp_D f) m))) (SR_W W ha).1 W.2.2.2 ?_ (c6 := by rw [mk_len]; omega) (c7 := by omega) (c8 := by unfold In3; omega) (c9 := by rw [e1, show (m : Int) + 1 = ((m + 1 : Nat) : Int) by omega]; exact in_prk (by omega) _) (c13 := by rw [mk_len]; omega) (c14 := by omega) (c15 := by unfold In3; omega)
      rw [e1, show (m : Int) + 1 + 1 = ((m + 1 : Nat) : Int) + 1 by omega]
      refine ih (m + 1) _ (by omega) (WA_set W (R' := cut (zp_D f) (m + 1)) ?_)
      rw [← cut_s]
      refine ar_set (n := m) (by omega) ?_
      rw [show (m : Int) + 1 = ((m + 1 : Nat) : Int) by omega, tm_prk, ← zp_nat_nF]
      rfl
  refine k247_0 r0 (loop 24 0 _ rfl ?_)
  rw [cut_0]
  exact WA_new r0
theorem u_integralS (r : RM h 1) (h0 : 0 < h.1) {a : Nat} {f : zp_R} (ha : SR h a f) : wm sw_P (D + 2) 234 [.index a] h (SN h 1 (fun R => R = itg f 24)) := by
  refine wm_in (cd := sw_c234) (nL := 3) (hd := sw_h234) rfl rfl ?_
  obtain ⟨c0, r0⟩ := r h.1 (Nat.le_refl _) (by omega)
  have loop : ∀ (l m : Nat) (h' : s_H), m + l = 24 → WA h 1 h.1 h' (itg f m) → wr sw_P (D + 1) sw_c234 sw_h234 (7, [.index a, .index h.1, vi ((m : Int) + 1)], [], h', 0 + 1, 0 + Int.toNat 25) (SN h 1 (fun R => R = itg f 24)) := by
    intro l
    induction l with
    | zero =>
      intro m h' hm W
      have e : m = 24 := by omega
      subst e
      exact k234_7 (fun _ => k234_36 (SN_E W h0 (itg_deg f 24) rfl rfl)) (fun q => absurd (by omega) q) (c1 := by unfold In3; omega)
    | succ l ih =>
      intro m h' hm W
      refine k234_7 (fun q => absurd q (by omega)) (fun _ => ?_) (c1 := by unfold In3; omega)
      have e1 : gi (mk 25 (cf f)) ((m : Int) + 1 - 1) = ((f.1 m).val : Int) := gi_cf' (n := m) (by omega) (by omega)
      refine k234_13 (a4 := mk 25 (cf f)) (SR_W W ha).1 (r_inv2 (x := (m : Int) + 1) (by omega) (fun _ => ?_)) (c6 := by rw [mk_len]; omega) (c7 := by omega) (c8 := by unfold In3; omega)
      rw [e1]
      refine k234_24 (a3 := mk 25 (cf (itg f m))) W.2.2.2 ?_ (c1 := pr_In3 _ _) (c5 := by rw [mk_len]; omega) (c6 := by omega) (c7 := by unfold In3; omega)
      rw [tm_pr, show (m : Int) + 1 + 1 = ((m + 1 : Nat) : Int) + 1 by omega]
      refine ih (m + 1) _ (by omega) (WA_set W (R' := itg f (m + 1)) ?_)
      rw [← itg_s]
      exact ar_set (n := m + 1) (by omega) rfl
  refine k234_0 r0 (loop 24 0 _ rfl ?_)
  rw [itg_0]
  exact WA_new r0
theorem u_numbersS (r : RM h 1) (h0 : 0 < h.1) {p L : Nat} {f : zp_R} (hf : PF h p L f) (hp1 : p + 1 < h.1) : wm sw_P (D + 2) 238 [.index p] h (SN h 1 (fun R => R = cut f 25)) := by
  refine wm_in (cd := sw_c238) (nL := 3) (hd := sw_h238) rfl rfl ?_
  obtain ⟨c0, r0⟩ := r h.1 (Nat.le_refl _) (by omega)
  have loop : ∀ (l n : Nat) (h' : s_H), n + l = 25 → WA h 1 h.1 h' (cut f n) → wr sw_P (D + 1) sw_c238 sw_h238 (7, [.index p, .index h.1, vi (n : Int)], [], h', 0 + 1, 0 + Int.toNat 25) (SN h 1 (fun R => R = cut f 25)) := by
    intro l
    induction l with
    | zero =>
      intro n h' hn W
      have e : n = 25 := by omega
      subst e
      exact k238_7 (fun _ => k238_27 (SN_E W h0 (cut_deg f 25) rfl rfl)) (fun q => absurd (by omega) q) (c1 := by unfold In3; omega)
    | succ l ih =>
      intro n h' hn W
      refine k238_7 (fun q => absurd q (by omega)) (fun _ => ?_) (c1 := by unfold In3; omega)
      have hf' := WA_PF W hf hp1
      refine k238_13 (PF_c hf') (r_coef hf' (i := n) (by omega) ?_)
      refine k238_20 (a2 := mk 25 (cf (cut f n))) W.2.2.2 ?_ (c4 := by rw [mk_len]; omega) (c5 := by omega) (c6 := by unfold In3; omega)
      rw [show (n : Int) + 1 = ((n + 1 : Nat) : Int) by omega]
      refine ih (n + 1) _ (by omega) (WA_set W (R' := cut f (n + 1)) ?_)
      rw [← cut_s]
      exact ar_set (n := n) rfl rfl
  refine k238_0 r0 (loop 25 0 _ rfl ?_)
  rw [cut_0]
  exact WA_new r0
theorem qs_cut {f g R : zp_R} (h : qs (cut f 25) (cut g 25) R 25) : qs f g R 25 := by
  refine ⟨h.1, fun m hm => ?_⟩
  have := h.2 m hm
  rw [cut_at f hm] at this
  rw [← this]
  exact zp_c_congr (fun i hi2 => (cut_at g (by omega)).symm) (fun _ _ => rfl)
theorem RM_N {h h' : s_H} {m m' : Nat} (r : RM h m) (a : CF PN h h') (hm : h'.1 + m' ≤ h.1 + m) : RM h' m' := fun j j1 j2 => by
  rw [a.2 j id (.inr j1)]
  exact r j (by have := a.1; omega) (by omega)
theorem u_ofFractionS (r : RM h 3) (h0 : 0 < h.1) {t q lq p lp : Nat} {z : Int} {N Dn : zp_R} (gt : s_get h t = some (1, 8, [vi 0, .index q, .index p, vi 0, vi 0, .null, .null, vi z])) (t1 : t < h.1) (hq : PF h q lq N) (hp : PF h p lp Dn) (q1 : q + 1 < h.1) (p1 : p + 1 < h.1) (D0 : Dn.1 0 ≠ 0) : wm sw_P (D + 3) 240 [.index t] h (SN h 3 (fun R => qs N Dn R 25)) := by
  refine wm_in (cd := sw_c240) (nL := 1) (hd := sw_h240) rfl rfl ?_
  refine k240_0 gt (wm_mono (wq_SN (fun h1 a f ef df F1 g1 a1 S1 => ?_)) (u_numbersS (RM_le r (by omega)) h0 hq q1))
  subst ef
  refine k240_7 ((F1.2 t id (.inl t1)).trans gt) (wm_mono (wq_SN (fun h2 b f ef df' F2 g2 b1 S2 => ?_)) (u_numbersS (RM_N r F1 (by omega)) (by omega) (PF_same hp (F1.2 _ id (.inl (by omega))) (F1.2 _ id (.inl p1))) (by omega)))
  subst ef
  refine k240_14 (wm_mono (wq_SN (fun h3 c f ef df2 F3 g3 c1 S3 => k240_17 ⟨h3, c, f, qs_cut ef, df2, CF_trans F1 (CF_trans F2 F3), by omega, by omega, S3, rfl⟩)) (u_quotientS (RM_N r (CF_trans F1 F2) (by omega)) (by omega) (SR_N F2 S1) S2 (by rw [cut_at Dn (by decide)]; exact D0)))
/-- one put into another -/
theorem u_insertedS (r : RM h 26) (h0 : 0 < h.1) {a b : Nat} {f g : zp_R} (ha : SR h a f) (hb : SR h b g) (g0 : g.1 0 = 0) : wm sw_P (D + 2) 233 [.index a, .index b] h (SN h 26 (fun R => R = psr f g 25)) := by
  refine wm_in (cd := sw_c233) (nL := 4) (hd := sw_h233) rfl rfl ?_
  obtain ⟨c0, r0⟩ := r h.1 (Nat.le_refl _) (by omega)
  have loop : ∀ (l m c x y : Nat) (h' : s_H), m + l = 25 → CF PN h h' → h'.1 = h.1 + 1 + m → h.1 ≤ c → SR h' c (psr f g m) → x = 1 + m → y = 25 + 25 * m → zp_deg (psr f g m) 25 → wr sw_P (D + 1) sw_c233 sw_h233 (8, [.index a, .index b, .index c, vi ((l : Int) - 1)], [], h', x, y) (SN h 26 (fun R => R = psr f g 25)) := by
    intro l
    induction l with
    | zero =>
      intro m c x y h' hm F e lc S ex ey dp
      have em : m = 25 := by omega
      subst em ex ey
      exact k233_8 (fun _ => k233_30 ⟨h', c, _, rfl, dp, F, by omega, lc, S, rfl⟩) (fun q => absurd (by omega) q) (c1 := by unfold In3; omega)
    | succ l ih =>
      intro m c x y h' hm F e lc S ex ey dp
      rw [show ((l + 1 : Nat) : Int) - 1 = (l : Int) by omega]
      refine k233_8 (fun q => absurd q (by omega)) (fun _ => ?_) (c1 := by unfold In3; omega)
      refine k233_12 (wm_mono (wq_SN (fun h1 c1 R eR dR F1 e1 l1 S1 => ?_)) (u_productS (RM_N r F (by omega)) (by omega) S (SR_N F hb)))
      subst eR
      have e2 : gi (mk 25 (cf f)) (l : Int) = ((f.1 l).val : Int) := gi_cf (by omega)
      refine k233_17 (a5 := mk 25 (cf f)) (a11 := mk 25 (cf (cut (zp_mul (psr f g m) g) 25))) (SR_N (CF_trans F F1) ha).1 S1.1 ?_ (c7 := by rw [mk_len]; omega) (c8 := by omega) (c9 := by unfold In3; omega) (c13 := by rw [mk_len]; omega)
      rw [e2, show (l : Int) + (-1) = (l : Int) - 1 by omega]
      have ep : pst (cut (zp_mul (psr f g m) g) 25) 0 (f.1 l) = psr f g (m + 1) := zp_ext (fun i => by
        show (if i = 0 then f.1 l else (cut (zp_mul (psr f g m) g) 25).1 i) = (cut (zp_mul (psr f g m) g) 25).1 i + (if i = 0 then f.1 (24 - m) else 0)
        by_cases q : i = 0
        · subst q
          have z : (cut (zp_mul (psr f g m) g) 25).1 0 = 0 := by
            rw [cut_at _ (by decide)]
            show zp_c _ _ 0 = 0
            rw [zp_c_zero, g0]
            exact zp_h15 _
          rw [if_pos rfl, if_pos rfl, z, show 24 - m = l by omega]
          exact qs_pst.qp_h _
        · rw [if_neg q, if_neg q]
          exact qs_pst.qp_h2 _)
      obtain ⟨F2, S2⟩ := SR_set (f' := psr f g (m + 1)) (cc := (0, 0, ((mk 25 (cf (cut (zp_mul (psr f g m) g) 25))).set (Int.toNat 0) ((f.1 l).val : Int)).map vi)) (CF_trans F F1) (show h.1 ≤ c1 by omega) S1 (by
        rw [← ep]
        exact ar_set (n := 0) rfl rfl)
      refine ih (m + 1) c1 _ _ _ (by omega) F2 (by show h1.1 = _; omega) (by omega) S2 (by omega) (by omega) ?_
      rw [← ep]
      exact pst_deg _ (cut_deg _ 25) (by omega)
  have W := WA_new r0
  refine k233_0 r0 (loop 25 0 h.1 _ _ _ rfl W.1 rfl (Nat.le_refl _) ⟨W.2.2.2, by omega, by have e : (hq h (0, 0, List.replicate (Int.toNat 25) (.int 0))).1 = h.1 + 1 := rfl; omega⟩ rfl rfl (fun i _ => zp_C00 i))
/-- e to a series -/
theorem u_raisedS (r : RM h 1) (h0 : 0 < h.1) {a : Nat} {f : zp_R} (ha : SR h a f) : wm sw_P (D + 2) 244 [.index a] h (SN h 1 (fun R => expR f R 25)) := by
  refine wm_in (cd := sw_c244) (nL := 6) (hd := sw_h244) rfl rfl ?_
  obtain ⟨c0, r0⟩ := r h.1 (Nat.le_refl _) (by omega)
  have W0 := WA_new r0
  have loop : ∀ (l n : Nat) (t3 t4 t5 : Term) (h' : s_H) (R : zp_R), n + l = 25 → 1 ≤ n → WA h 1 h.1 h' R → expR f R n → wr sw_P (D + 1) sw_c244 sw_h244 (11, [.index a, .index h.1, vi (n : Int), t3, t4, t5], [], h', 0 + 1, 0 + Int.toNat 25) (SN h 1 (fun R => expR f R 25)) := by
    intro l
    induction l with
    | zero =>
      intro n t3 t4 t5 h' R hn n1 W q
      have e : n = 25 := by omega
      subst e
      exact k244_11 (fun _ => k244_80 (SN_W W h0 q q.1 rfl rfl)) (fun q => absurd (by omega) q) (c1 := by unfold In3; omega)
    | succ l ih =>
      intro n t3 t4 t5 h' R hn n1 W q
      refine k244_11 (fun q => absurd q (by omega)) (fun _ => k244_17 ?_) (c1 := by unfold In3; omega)
      have inner : ∀ (m j : Nat) (x : Int), j + m = n → acc x j (zp_sum (fun i => nF ((i + 1 : Nat) : Int) * f.1 (i + 1) * R.1 (n - (i + 1))) j) → wr sw_P (D + 1) sw_c244 sw_h244 (22, [.index a, .index h.1, vi (n : Int), vl x, .result, vi ((j : Int) + 1)], [], h', 0 + 1, 0 + Int.toNat 25) (SN h 1 (fun R => expR f R 25)) := by
        intro m
        induction m with
        | zero =>
          intro j x hj A
          have e : j = n := by omega
          subst e
          have A2 := A.2
          refine k244_22 (fun _ => ?_) (fun q => absurd (by omega) q) (c1 := by unfold In3; omega) (c2 := by unfold In3; omega)
          refine k244_56 (r_inv2 (x := (j : Int)) (by omega) (fun _ => ?_)) (c2 := in6_of (by omega) (by omega))
          rw [acc_t A]
          refine k244_68 (a3 := mk 25 (cf R)) W.2.2.2 ?_ (c1 := pr_In3 _ _) (c5 := by rw [mk_len]; omega) (c6 := by omega) (c7 := by unfold In3; omega)
          rw [tm_pr, show (j : Int) + 1 = ((j + 1 : Nat) : Int) by omega]
          exact ih (j + 1) _ _ _ _ _ (by omega) (by omega) (WA_set W (ar_set (n := j) rfl rfl)) (expR_s n1 q)
        | succ m ih2 =>
          intro j x hj A
          refine k244_22 (fun q => absurd q (by omega)) (fun _ => ?_) (c1 := by unfold In3; omega) (c2 := by unfold In3; omega)
          have e1 : gi (mk 25 (cf f)) ((j : Int) + 1) = ((f.1 (j + 1)).val : Int) := gi_cf' (n := j + 1) (by omega) (by omega)
          have e2 : gi (mk 25 (cf R)) ((n : Int) - ((j : Int) + 1)) = ((R.1 (n - (j + 1))).val : Int) := gi_cf' (n := n - (j + 1)) (by omega) (by omega)
          have e3 : Int.tmod (((f.1 (j + 1)).val : Int) * ((j : Int) + 1)) 32003 = ((nF ((j + 1 : Nat) : Int) * f.1 (j + 1) : zp_F).val : Int) := by
            rw [show (j : Int) + 1 = ((j + 1 : Nat) : Int) by omega]
            exact tm_prk _ _
          refine k244_28 (a3 := mk 25 (cf f)) (a11 := mk 25 (cf R)) (SR_W W ha).1 W.2.2.2 ?_ (c5 := by rw [mk_len]; omega) (c6 := by omega) (c7 := by unfold In3; omega) (c8 := by rw [e1, show (j : Int) + 1 = ((j + 1 : Nat) : Int) by omega]; exact in_prk (by omega) _) (c13 := by rw [mk_len]; omega) (c14 := by omega) (c15 := by unfold In3; omega) (c16 := by rw [e1, e2, e3]; exact pr_In3 _ _)
          rw [e1, e2, e3, show (j : Int) + 1 + 1 = ((j + 1 : Nat) : Int) + 1 by omega]
          exact ih2 (j + 1) _ (by omega) (acc_s A)
      exact inner n 0 0 (by omega) acc_0
  refine k244_0 r0 (a4 := mk 25 (cf (zp_C 0))) W0.2.2.2 (loop 24 1 _ _ _ _ (pst (zp_C 0) 0 1) rfl (Nat.le_refl _) (WA_set W0 (ar_set (n := 0) rfl rfl)) ⟨pst_deg _ (fun i _ => zp_C00 i) (by decide), pst_at _ _ _, fun m h1 h2 => absurd h2 (by omega)⟩) (c6 := by rw [mk_len]; omega) (c7 := h0)
/-- the root whose first number is given -/
theorem u_rootS (r : RM h 1) (h0 : 0 < h.1) {a : Nat} {f : zp_R} (ha : SR h a f) {v : Nat} (v1 : 1 ≤ v ∧ v ≤ 16001) : wm sw_P (D + 2) 246 [.index a, vi (v : Int)] h (SN h 1 (fun R => rootR f v R 25)) := by
  refine wm_in (cd := sw_c246) (nL := 8) (hd := sw_h246) rfl rfl ?_
  obtain ⟨c0, r0⟩ := r h.1 (Nat.le_refl _) (by omega)
  have W0 := WA_new r0
  have e0 : Int.tmod (2 * (v : Int)) 32003 = 2 * (v : Int) := by rw [tmod_nn (by omega)]; omega
  refine k246_0 r0 (a3 := mk 25 (cf (zp_C 0))) W0.2.2.2 ?_ (c5 := by rw [mk_len]; omega) (c6 := h0) (c7 := by unfold In3; omega)
  rw [e0]
  refine r_inv2 (x := 2 * (v : Int)) (by omega) (fun _ => k246_19 ?_)
  obtain ⟨w, ew⟩ : ∃ w : zp_F, nF (2 * (v : Int)) ^ 32001 = w := ⟨_, rfl⟩
  rw [ew]
  have lw := w.isLt
  have loop : ∀ (l n : Nat) (t5 t6 t7 : Term) (h' : s_H) (R : zp_R), n + l = 25 → 1 ≤ n → WA h 1 h.1 h' R → rootR f v R n → wr sw_P (D + 1) sw_c246 sw_h246 (23, [.index a, vi (v : Int), .index h.1, vi (w.val : Int), vi (n : Int), t5, t6, t7], [], h', 0 + 1, 0 + Int.toNat 25) (SN h 1 (fun R => rootR f v R 25)) := by
    intro l
    induction l with
    | zero =>
      intro n t5 t6 t7 h' R hn n1 W q
      have e : n = 25 := by omega
      subst e
      exact k246_23 (fun _ => k246_103 (SN_W W h0 q q.1 rfl rfl)) (fun q => absurd (by omega) q) (c1 := by unfold In3; omega)
    | succ l ih =>
      intro n t5 t6 t7 h' R hn n1 W q
      refine k246_23 (fun q => absurd q (by omega)) (fun _ => k246_30 ?_) (c1 := by unfold In3; omega)
      have inner : ∀ (m j : Nat) (x : Int), j + m = n - 1 → acc x j (zp_sum (fun i => R.1 (i + 1) * R.1 (n - (i + 1))) j) → wr sw_P (D + 1) sw_c246 sw_h246 (36, [.index a, vi (v : Int), .index h.1, vi (w.val : Int), vi (n : Int), vl x, .result, vi ((j : Int) + 1)], [], h', 0 + 1, 0 + Int.toNat 25) (SN h 1 (fun R => rootR f v R 25)) := by
        intro m
        induction m with
        | zero =>
          intro j x hj A
          have e : j = n - 1 := by omega
          subst e
          have f1 := (f.1 n).isLt
          have md := md_lt x
          have A2 := A.2
          have tx := tmod_nn A2.1
          have ef : gi (mk 25 (cf f)) (n : Int) = ((f.1 n).val : Int) := gi_cf (by omega)
          have md2 := md_lt ((f.1 n).val + 32003 - x % 32003)
          have ml := mm_le (x := ((f.1 n).val + 32003 - x % 32003) % 32003) (y := (w.val : Int)) ⟨md2.1, md2.2⟩ ⟨by omega, by omega⟩
          refine k246_36 (fun _ => ?_) (fun q => absurd (by omega) q) (c1 := by unfold In3; omega) (c2 := by unfold In3; omega)
          refine k246_67 (a4 := mk 25 (cf f)) (a13 := mk 25 (cf R)) (SR_W W ha).1 W.2.2.2 ?_ (c6 := by rw [mk_len]; omega) (c7 := by omega) (c8 := by unfold In3; omega) (c9 := in6_of (by omega) (by omega)) (c10 := by rw [ef, tx]; unfold In3; omega) (c11 := by rw [ef, tx, tmod_nn (by omega)]; unfold In3; omega) (c15 := by rw [mk_len]; omega)
          rw [show (n : Int) + 1 = ((n + 1 : Nat) : Int) by omega]
          refine ih (n + 1) _ _ _ _ _ (by omega) (by omega) (WA_set W (ar_set (n := n) rfl ?_)) (rootR_s n1 q)
          rw [ef, ew]
          exact tm_q A.1 A2.1 (nF_val w) ⟨by omega, by omega⟩
        | succ m ih2 =>
          intro j x hj A
          refine k246_36 (fun q => absurd q (by omega)) (fun _ => ?_) (c1 := by unfold In3; omega) (c2 := by unfold In3; omega)
          have e1 : gi (mk 25 (cf R)) ((j : Int) + 1) = ((R.1 (j + 1)).val : Int) := gi_cf' (n := j + 1) (by omega) (by omega)
          have e2 : gi (mk 25 (cf R)) ((n : Int) - ((j : Int) + 1)) = ((R.1 (n - (j + 1))).val : Int) := gi_cf' (n := n - (j + 1)) (by omega) (by omega)
          refine k246_43 (a3 := mk 25 (cf R)) W.2.2.2 ?_ (c5 := by rw [mk_len]; omega) (c6 := by omega) (c7 := by unfold In3; omega) (c8 := by rw [mk_len]; omega) (c9 := by omega) (c10 := by unfold In3; omega) (c11 := by rw [e1, e2]; exact pr_In3 _ _)
          rw [e1, e2, show (j : Int) + 1 + 1 = ((j + 1 : Nat) : Int) + 1 by omega]
          exact ih2 (j + 1) _ (by omega) (acc_s A)
      exact inner (n - 1) 0 0 (by omega) acc_0
  refine loop 24 1 _ _ _ _ (pst (zp_C 0) 0 (nF (v : Int))) rfl (Nat.le_refl _) (WA_set W0 (ar_set (n := 0) rfl ?_)) ⟨pst_deg _ (fun i _ => zp_C00 i) (by decide), pst_at _ _ _, fun m h1 h2 => absurd h2 (by omega)⟩
  exact (cf_nF (by omega)).symm
end
