/-! the class's series: rows of 25 numbers, made anew -/
theorem cut_at (f : zp_R) {n i : Nat} (h : i < n) : (cut f n).1 i = f.1 i := if_pos h
theorem cut_hi (f : zp_R) {n i : Nat} (h : n ≤ i) : (cut f n).1 i = 0 := if_neg (by omega)
theorem cut_s (f : zp_R) (n : Nat) : pst (cut f n) n (f.1 n) = cut f (n + 1) := zp_ext (fun i => by
  by_cases q : i = n
  · subst q
    rw [pst_at, cut_at f (by omega)]
  · rw [pst_ne _ _ q]
    by_cases q2 : i < n
    · rw [cut_at f q2, cut_at f (by omega)]
    · rw [cut_hi f (by omega), cut_hi f (by omega)])
theorem cut_0 (f : zp_R) : cut f 0 = zp_C 0 := zp_ext (fun i => by rw [cut_hi f (by omega), zp_C00])
theorem ar_set {R : zp_R} {n : Nat} {z : zp_F} {x v : Int} (hx : x = (n : Int)) (hv : v = (z.val : Int)) : ((0, 0, ((mk 25 (cf R)).set (Int.toNat x) v).map vi) : s_C) = ai 25 (cf (pst R n z)) := by
  rw [mk_set, cf_pst R (t0 := Int.toNat x) (n := n) (z := z) (by rw [hx]; rfl) hv]
/-- a row that is made: at q, among the g cells behind h -/
def WA (h : s_H) (g q : Nat) (h' : s_H) (R : zp_R) : Prop := CF PN h h' ∧ h'.1 = h.1 + g ∧ (h.1 ≤ q ∧ q < h'.1) ∧ s_get h' q = some (ai 25 (cf R))
theorem WA_set {h h' : s_H} {g q : Nat} {R R' : zp_R} (H : WA h g q h' R) {cc : s_C} (e : cc = ai 25 (cf R')) : WA h g q (hp h' q cc) R' := by
  subst e
  obtain ⟨F, e, b, c⟩ := H
  exact ⟨⟨F.1, fun j p w => (hp_ne c (by have e2 : (hp h' q (ai 25 (cf R'))).1 = h'.1 := rfl; omega)).trans (F.2 j p w)⟩, e, b, hp_at c⟩
theorem WA_new {h : s_H} {c0 : s_C} (r0 : s_get h h.1 = some c0) : WA h 1 h.1 (hq h (0, 0, List.replicate (Int.toNat 25) (.int 0))) (zp_C 0) := by
  refine ⟨CF_q r0, rfl, ⟨Nat.le_refl _, Nat.lt_succ_self _⟩, ?_⟩
  rw [hq_get r0, if_pos rfl]
  have : List.replicate (Int.toNat 25) (Term.int 0) = (mk 25 (cf (zp_C 0))).map vi := by
    refine (rep_mk 25).trans ?_
    rw [mk_congr (g := fun _ => 0) (g' := cf (zp_C 0)) (fun i _ => by unfold cf; rw [zp_C00]; rfl)]
  rw [this]
/-- what is left as it was -/
theorem WA_old {h h' : s_H} {g q j : Nat} {R : zp_R} (H : WA h g q h' R) (hj : j < h.1) : s_get h' j = s_get h j := H.1.2 j id (.inl hj)
theorem WA_PF {h h' : s_H} {g q p L : Nat} {R f : zp_R} (H : WA h g q h' R) (hf : PF h p L f) (hj : p + 1 < h.1) : PF h' p L f := PF_same hf (WA_old H (by omega)) (WA_old H hj)
/-- a row of numbers to read -/
def SR (h : s_H) (a : Nat) (f : zp_R) : Prop := s_get h a = some (ai 25 (cf f)) ∧ 0 < a ∧ a < h.1
theorem SR_W {h h' : s_H} {g q a : Nat} {R f : zp_R} (H : WA h g q h' R) (S : SR h a f) : SR h' a f := ⟨(WA_old H S.2.2).trans S.1, S.2.1, Nat.lt_of_lt_of_le S.2.2 H.1.1⟩
theorem SR_N {h h' : s_H} {a : Nat} {f : zp_R} (F : CF PN h h') (S : SR h a f) : SR h' a f := ⟨(F.2 a id (.inl S.2.2)).trans S.1, S.2.1, Nat.lt_of_lt_of_le S.2.2 F.1⟩
/-- a method that answers a new row -/
def SN (h : s_H) (g : Nat) (φ : zp_R → Prop) : s_O → Prop := fun out => ∃ h' a f, φ f ∧ zp_deg f 25 ∧ CF PN h h' ∧ h'.1 = h.1 + g ∧ h.1 ≤ a ∧ SR h' a f ∧ out = (.inl (some (.index a)), h', g, 25 * g)
theorem SN_W {h h' : s_H} {g q : Nat} {R : zp_R} {φ : zp_R → Prop} (H : WA h g q h' R) (h0 : 0 < h.1) (f : φ R) (d : zp_deg R 25) {x y : Nat} (ex : x = g) (ey : y = 25 * g) : SN h g φ (.inl (some (.index q)), h', x, y) := by
  subst ex ey
  exact ⟨h', q, R, f, d, H.1, H.2.1, H.2.2.1.1, ⟨H.2.2.2, by have := H.2.2.1.1; omega, H.2.2.1.2⟩, rfl⟩
theorem SN_E {h h' : s_H} {g q : Nat} {R : zp_R} (H : WA h g q h' R) (h0 : 0 < h.1) (d : zp_deg R 25) {x y : Nat} (ex : x = g) (ey : y = 25 * g) : SN h g (fun X => X = R) (.inl (some (.index q)), h', x, y) := SN_W (φ := fun X => X = R) H h0 rfl d ex ey
theorem wq_SN {P : s_P} {d : Nat} {cd : s_Cd} {hd : List s_Hd} {nx : Nat} {ls rest : List Term} {kc ks : Nat} {Q : s_O → Prop} {h0 : s_H} {g : Nat} {φ : zp_R → Prop} (k : ∀ h' a f, φ f → zp_deg f 25 → CF PN h0 h' → h'.1 = h0.1 + g → h0.1 ≤ a → SR h' a f → wr P d cd hd (nx, ls, .index a :: rest, h', kc + g, ks + 25 * g) Q) : ∀ out, SN h0 g φ out → wq P d cd hd nx ls rest kc ks Q out := by
  intro out ⟨h', a, f, x1, x2, x3, x4, x5, x6, eo⟩
  rw [eo]
  exact k h' a f x1 x2 x3 x4 x5 x6
theorem gi_cf {R : zp_R} {n : Nat} (h : n < 25) : gi (mk 25 (cf R)) (n : Int) = ((R.1 n).val : Int) := gi_mkn h
theorem gi_cf' {R : zp_R} {x : Int} {n : Nat} (e : x = (n : Int)) (h : n < 25) : gi (mk 25 (cf R)) x = ((R.1 n).val : Int) := by rw [e]; exact gi_mkn h
/-- a sum of products of numbers on the way, as the machine holds it -/
def acc (x : Int) (j : Nat) (S : zp_F) : Prop := nF x = S ∧ 0 ≤ x ∧ x ≤ 1024128004 * (j : Int)
theorem acc_0 : acc 0 0 0 := ⟨nF_0, by decide, by decide⟩
theorem acc_s {x : Int} {j : Nat} {S a b : zp_F} (H : acc x j S) : acc (x + (a.val : Int) * (b.val : Int)) (j + 1) (S + a * b) := by
  obtain ⟨e, l, u⟩ := H
  have m := mm_le (x := (a.val : Int)) (y := (b.val : Int)) ⟨by omega, by have := a.isLt; omega⟩ ⟨by omega, by have := b.isLt; omega⟩
  refine ⟨by rw [nF_add, nF_mul, nF_val, nF_val, e], by omega, by omega⟩
theorem acc_t {x : Int} {j : Nat} {S : zp_F} (H : acc x j S) : Int.tmod x 32003 = (S.val : Int) := by
  rw [tmod_nn H.2.1, ← nF_v, H.1]
theorem pr_In3 (a b : zp_F) : In3 ((a.val : Int) * (b.val : Int)) := by
  have m := mm_le (x := (a.val : Int)) (y := (b.val : Int)) ⟨by omega, by have := a.isLt; omega⟩ ⟨by omega, by have := b.isLt; omega⟩
  unfold In3
  omega
theorem tm_pr (a b : zp_F) : Int.tmod ((a.val : Int) * (b.val : Int)) 32003 = ((a * b : zp_F).val : Int) := by
  rw [tmod_nn (Int.mul_nonneg (by omega) (by omega)), ← nF_v, nF_mul, nF_val, nF_val]
theorem mul_at (f g : zp_R) (n : Nat) : (zp_mul f g).1 n = zp_sum (fun i => f.1 i * g.1 (n - i)) (n + 1) := rfl
section
variable {D : Nat} {h : s_H}
/-- a + z b -/
theorem u_plusS (r : RM h 1) (h0 : 0 < h.1) {a b : Nat} {f g : zp_R} (ha : SR h a f) (hb : SR h b g) {z : Int} (hz : 0 ≤ z ∧ z ≤ 32003) : wm sw_P (D + 1) 241 [.index a, .index b, vi z] h (SN h 1 (fun R => R = cut (zp_add f (zp_mul (zp_C (nF z)) g)) 25)) := by
  refine wm_in (cd := sw_c241) (nL := 5) (hd := sw_h241) rfl rfl ?_
  obtain ⟨c0, r0⟩ := r h.1 (Nat.le_refl _) (by omega)
  obtain ⟨S, eS⟩ : ∃ S, zp_add f (zp_mul (zp_C (nF z)) g) = S := ⟨_, rfl⟩
  rw [eS]
  have Sn : ∀ n, S.1 n = f.1 n + nF z * g.1 n := fun n => by
    rw [← eS]
    show f.1 n + (zp_mul (zp_C (nF z)) g).1 n = _
    rw [zp_C_mul1]
  have loop : ∀ (l n : Nat) (h' : s_H), n + l = 25 → WA h 1 h.1 h' (cut S n) → wr sw_P D sw_c241 sw_h241 (8, [.index a, .index b, vi z, .index h.1, vi (n : Int)], [], h', 0 + 1, 0 + Int.toNat 25) (SN h 1 (fun R => R = cut S 25)) := by
    intro l
    induction l with
    | zero =>
      intro n h' hn W
      have e : n = 25 := by omega
      subst e
      exact k241_8 (fun _ => k241_40 (SN_E W h0 (cut_deg S 25) rfl rfl)) (fun q => absurd (by omega) q) (c1 := by unfold In3; omega)
    | succ l ih =>
      intro n h' hn W
      have m := mm_le (x := z) (y := ((g.1 n).val : Int))
      have g1 := (g.1 n).isLt
      have f1 := (f.1 n).isLt
      have zz : 0 ≤ z * ((g.1 n).val : Int) ∧ z * ((g.1 n).val : Int) ≤ 32003 * 32003 := ⟨Int.mul_nonneg hz.1 (by omega), Int.mul_le_mul hz.2 (by omega) (by omega) (by decide)⟩
      refine k241_8 (fun q => absurd q (by omega)) (fun _ => ?_) (c1 := by unfold In3; omega)
      refine k241_15 (a4 := mk 25 (cf f)) (a11 := mk 25 (cf g)) (a16 := mk 25 (cf (cut S n))) (SR_W W ha).1 (SR_W W hb).1 W.2.2.2 ?_ (c6 := by rw [mk_len]; omega) (c7 := by omega) (c8 := by unfold In3; omega) (c13 := by rw [mk_len]; omega) (c14 := by rw [gi_cf (by omega), gi_cf (by omega)]; unfold In3; omega) (c18 := by rw [mk_len]; omega)
      rw [show (n : Int) + 1 = ((n + 1 : Nat) : Int) by omega]
      refine ih (n + 1) _ (by omega) (WA_set W (R' := cut S (n + 1)) ?_)
      rw [← cut_s]
      refine ar_set (n := n) rfl ?_
      rw [gi_cf (by omega), gi_cf (by omega), tmod_nn (by omega), ← nF_v, nF_add, nF_mul, nF_val, nF_val, Sn]
  refine k241_0 r0 (loop 25 0 _ rfl ?_)
  rw [cut_0]
  exact WA_new r0
theorem u_productS (r : RM h 1) (h0 : 0 < h.1) {a b : Nat} {f g : zp_R} (ha : SR h a f) (hb : SR h b g) : wm sw_P (D + 1) 242 [.index a, .index b] h (SN h 1 (fun R => R = cut (zp_mul f g) 25)) := by
  refine wm_in (cd := sw_c242) (nL := 7) (hd := sw_h242) rfl rfl ?_
  obtain ⟨c0, r0⟩ := r h.1 (Nat.le_refl _) (by omega)
  have loop : ∀ (l n : Nat) (t4 t5 t6 : Term) (h' : s_H), n + l = 25 → WA h 1 h.1 h' (cut (zp_mul f g) n) → wr sw_P D sw_c242 sw_h242 (7, [.index a, .index b, .index h.1, vi (n : Int), t4, t5, t6], [], h', 0 + 1, 0 + Int.toNat 25) (SN h 1 (fun R => R = cut (zp_mul f g) 25)) := by
    intro l
    induction l with
    | zero =>
      intro n t4 t5 t6 h' hn W
      have e : n = 25 := by omega
      subst e
      exact k242_7 (fun _ => k242_64 (SN_E W h0 (cut_deg _ 25) rfl rfl)) (fun q => absurd (by omega) q) (c1 := by unfold In3; omega)
    | succ l ih =>
      intro n t4 t5 t6 h' hn W
      refine k242_7 (fun q => absurd q (by omega)) (fun _ => k242_13 ?_) (c1 := by unfold In3; omega)
      have inner : ∀ (m j : Nat) (x : Int), j + m = n + 1 → acc x j (zp_sum (fun i => f.1 i * g.1 (n - i)) j) → wr sw_P D sw_c242 sw_h242 (19, [.index a, .index b, .index h.1, vi (n : Int), vl x, .result, vi (j : Int)], [], h', 0 + 1, 0 + Int.toNat 25) (SN h 1 (fun R => R = cut (zp_mul f g) 25)) := by
        intro m
        induction m with
        | zero =>
          intro j x hj A
          have e : j = n + 1 := by omega
          subst e
          refine k242_19 (fun _ => ?_) (fun q => absurd (by omega) q) (c1 := by unfold In3; omega) (c2 := by unfold In3; omega)
          refine k242_48 (a4 := mk 25 (cf (cut (zp_mul f g) n))) W.2.2.2 ?_ (c2 := by have := A.2; exact in6_of (by omega) (by omega)) (c6 := by rw [mk_len]; omega) (c7 := by omega) (c8 := by unfold In3; omega)
          rw [show (n : Int) + 1 = ((n + 1 : Nat) : Int) by omega]
          refine ih (n + 1) _ _ _ _ (by omega) (WA_set W (R' := cut (zp_mul f g) (n + 1)) ?_)
          rw [← cut_s]
          exact ar_set (n := n) rfl (acc_t A)
        | succ m ih2 =>
          intro j x hj A
          refine k242_19 (fun q => absurd q (by omega)) (fun _ => ?_) (c1 := by unfold In3; omega) (c2 := by unfold In3; omega)
          have e1 : gi (mk 25 (cf f)) (j : Int) = ((f.1 j).val : Int) := gi_cf (by omega)
          have e2 : gi (mk 25 (cf g)) ((n : Int) - (j : Int)) = ((g.1 (n - j)).val : Int) := gi_cf' (n := n - j) (by omega) (by omega)
          refine k242_25 (a3 := mk 25 (cf f)) (a10 := mk 25 (cf g)) (SR_W W ha).1 (SR_W W hb).1 ?_ (c5 := by rw [mk_len]; omega) (c6 := by omega) (c7 := by unfold In3; omega) (c12 := by rw [mk_len]; omega) (c13 := by omega) (c14 := by unfold In3; omega) (c15 := by rw [e1, e2]; exact pr_In3 _ _)
          rw [e1, e2, show (j : Int) + 1 = ((j + 1 : Nat) : Int) by omega]
          exact ih2 (j + 1) _ (by omega) (acc_s A)
      exact inner (n + 1) 0 0 (by omega) acc_0
  refine k242_0 r0 (loop 25 0 _ _ _ _ rfl ?_)
  rw [cut_0]
  exact WA_new r0
theorem qs_pst {f g R : zp_R} {n : Nat} (hq : qs f g R n) (hb : g.1 0 ≠ 0) : qs f g (pst R n ((f.1 n - zp_sum (fun j => g.1 (j + 1) * R.1 (n - (j + 1))) n) * g.1 0 ^ 32001)) (n + 1) := by
  have e : pst R n ((f.1 n - zp_sum (fun j => g.1 (j + 1) * R.1 (n - (j + 1))) n) * g.1 0 ^ 32001) = zp_add R (zp_T ((f.1 n - zp_sum (fun j => g.1 (j + 1) * R.1 (n - (j + 1))) n) * g.1 0 ^ 32001) n) := zp_ext (fun i => by
    generalize ec : (f.1 n - zp_sum (fun j => g.1 (j + 1) * R.1 (n - (j + 1))) n) * g.1 0 ^ 32001 = c
    show (if i = n then c else R.1 i) = R.1 i + (if i = n then c else 0)
    by_cases q : i = n
    · rw [if_pos q, if_pos q, q, hq.1 n (Nat.le_refl _)]
      exact qp_h _
    · rw [if_neg q, if_neg q]
      exact qp_h2 _)
  rw [e]
  exact qs_step hq hb
where
  qp_h : ∀ c : zp_F, c = 0 + c := by intro c; grind
  qp_h2 : ∀ c : zp_F, c = c + 0 := by intro c; grind
theorem tm_q {a S : zp_F} {x : Int} (e : nF x = S) (x0 : 0 ≤ x) {v : Int} {w : zp_F} (ev : nF v = w) (v0 : 0 ≤ v ∧ v ≤ 32002) : Int.tmod ((Int.tmod (((a.val : Int) + 32003) - (Int.tmod x 32003)) 32003) * v) 32003 = (((a - S) * w : zp_F).val : Int) := by
  have l := a.isLt
  have m := md_lt x
  rw [tmod_nn x0, tmod_nn (x := (a.val : Int) + 32003 - x % 32003) (by omega)]
  have m2 := md_lt ((a.val : Int) + 32003 - x % 32003)
  rw [tmod_nn (Int.mul_nonneg m2.1 v0.1), ← nF_v, nF_mul, ev]
  congr 3
  refine F_ext ?_
  rw [nF_v]
  have e2 : (a - S : zp_F) = nF ((a.val : Int) - x) := by rw [nF_sub, nF_val, e]
  rw [e2, nF_v]
  omega
theorem u_quotientS (r : RM h 1) (h0 : 0 < h.1) {a b : Nat} {f g : zp_R} (ha : SR h a f) (hb : SR h b g) (g0 : g.1 0 ≠ 0) : wm sw_P (D + 2) 243 [.index a, .index b] h (SN h 1 (fun R => qs f g R 25)) := by
  refine wm_in (cd := sw_c243) (nL := 8) (hd := sw_h243) rfl rfl ?_
  obtain ⟨c0, r0⟩ := r h.1 (Nat.le_refl _) (by omega)
  have W0 := WA_new r0
  have e0 : gi (mk 25 (cf g)) 0 = ((g.1 0).val : Int) := gi_cf' (n := 0) rfl (by decide)
  refine k243_0 r0 (a5 := mk 25 (cf g)) (SR_W W0 hb).1 ?_ (c7 := by rw [mk_len]; omega)
  rw [e0]
  refine r_inv (g.1 0) g0 (fun v v0 _ ev => k243_11 ?_)
  have loop : ∀ (l n : Nat) (t5 t6 t7 : Term) (h' : s_H) (R : zp_R), n + l = 25 → WA h 1 h.1 h' R → qs f g R n → wr sw_P (D + 1) sw_c243 sw_h243 (15, [.index a, .index b, .index h.1, vi v, vi (n : Int), t5, t6, t7], [], h', 0 + 1, 0 + Int.toNat 25) (SN h 1 (fun R => qs f g R 25)) := by
    intro l
    induction l with
    | zero =>
      intro n t5 t6 t7 h' R hn W q
      have e : n = 25 := by omega
      subst e
      exact k243_15 (fun _ => k243_95 (SN_W W h0 q q.1 rfl rfl)) (fun q => absurd (by omega) q) (c1 := by unfold In3; omega)
    | succ l ih =>
      intro n t5 t6 t7 h' R hn W q
      refine k243_15 (fun q => absurd q (by omega)) (fun _ => k243_22 ?_) (c1 := by unfold In3; omega)
      have inner : ∀ (m j : Nat) (x : Int), j + m = n → acc x j (zp_sum (fun i => g.1 (i + 1) * R.1 (n - (i + 1))) j) → wr sw_P (D + 1) sw_c243 sw_h243 (28, [.index a, .index b, .index h.1, vi v, vi (n : Int), vl x, .result, vi ((j : Int) + 1)], [], h', 0 + 1, 0 + Int.toNat 25) (SN h 1 (fun R => qs f g R 25)) := by
        intro m
        induction m with
        | zero =>
          intro j x hj A
          have e : j = n := by omega
          subst e
          have f1 := (f.1 j).isLt
          have md := md_lt x
          have A2 := A.2
          have tx := tmod_nn A2.1
          have ef : gi (mk 25 (cf f)) (j : Int) = ((f.1 j).val : Int) := gi_cf (by omega)
          have md2 := md_lt ((f.1 j).val + 32003 - x % 32003)
          have ml := mm_le (x := ((f.1 j).val + 32003 - x % 32003) % 32003) (y := v) ⟨md2.1, md2.2⟩ ⟨v0.1, by omega⟩
          refine k243_28 (fun _ => ?_) (fun q => absurd (by omega) q) (c1 := by unfold In3; omega) (c2 := by unfold In3; omega)
          refine k243_59 (a4 := mk 25 (cf f)) (a13 := mk 25 (cf R)) (SR_W W ha).1 W.2.2.2 ?_ (c6 := by rw [mk_len]; omega) (c7 := by omega) (c8 := by unfold In3; omega) (c9 := in6_of (by omega) (by omega)) (c10 := by rw [ef, tx]; unfold In3; omega) (c11 := by rw [ef, tx, tmod_nn (by omega)]; unfold In3; omega) (c15 := by rw [mk_len]; omega)
          rw [show (j : Int) + 1 = ((j + 1 : Nat) : Int) by omega]
          refine ih (j + 1) _ _ _ _ _ (by omega) (WA_set W (R' := pst R j ((f.1 j - zp_sum (fun i => g.1 (i + 1) * R.1 (j - (i + 1))) j) * g.1 0 ^ 32001)) ?_) (qs_pst q g0)
          refine ar_set (n := j) rfl ?_
          rw [ef]
          exact tm_q A.1 A2.1 ev v0
        | succ m ih2 =>
          intro j x hj A
          refine k243_28 (fun q => absurd q (by omega)) (fun _ => ?_) (c1 := by unfold In3; omega) (c2 := by unfold In3; omega)
          have e1 : gi (mk 25 (cf g)) ((j : Int) + 1) = ((g.1 (j + 1)).val : Int) := gi_cf' (n := j + 1) (by omega) (by omega)
          have e2 : gi (mk 25 (cf R)) ((n : Int) - ((j : Int) + 1)) = ((R.1 (n - (j + 1))).val : Int) := gi_cf' (n := n - (j + 1)) (by omega) (by omega)
          refine k243_35 (a3 := mk 25 (cf g)) (a10 := mk 25 (cf R)) (SR_W W hb).1 W.2.2.2 ?_ (c5 := by rw [mk_len]; omega) (c6 := by omega) (c7 := by unfold In3; omega) (c12 := by rw [mk_len]; omega) (c13 := by omega) (c14 := by unfold In3; omega) (c15 := by rw [e1, e2]; exact pr_In3 _ _)
          rw [e1, e2, show (j : Int) + 1 + 1 = ((j + 1 : Nat) : Int) + 1 by omega]
          exact ih2 (j + 1) _ (by omega) (acc_s A)
      exact inner n 0 0 (by omega) acc_0
  exact loop 25 0 _ _ _ _ (zp_C 0) rfl W0 ⟨fun i _ => zp_C00 i, fun m hm => absurd hm (Nat.not_lt_zero m)⟩
end
