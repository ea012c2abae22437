/-! the reference's reverse and root in the picture -/
theorem cut_self {f : zp_R} {n : Nat} (h : zp_deg f n) : cut f n = f := zp_ext (fun i => by
  show (if i < n then f.1 i else 0) = f.1 i
  by_cases q : i < n
  · rw [if_pos q]
  · rw [if_neg q, h i (by omega)])
theorem cut_pst (f : zp_R) {n m : Nat} (z : zp_F) (h : m ≤ n) : cut (pst f n z) m = cut f m := zp_ext (fun i => by
  show (if i < m then (pst f n z).1 i else 0) = if i < m then f.1 i else 0
  by_cases q : i < m
  · rw [if_pos q, if_pos q, pst_ne f z (by omega)]
  · rw [if_neg q, if_neg q])
/-- what put into a comes to the letter, number by number -/
def revR (a S : zp_R) (N : Nat) : Prop := zp_deg S N ∧ S.1 0 = 0 ∧ S.1 1 = a.1 1 ^ 32001 ∧ ∀ n, 2 ≤ n → n < N → S.1 n = -(psr a (cut S n) 25).1 n * a.1 1 ^ 32001
theorem revR_s {a S : zp_R} {n : Nat} (hn : 2 ≤ n) (h : revR a S n) : revR a (pst S n (-(psr a S 25).1 n * a.1 1 ^ 32001)) (n + 1) := by
  refine ⟨pst_deg _ (deg_le h.1 (by omega)) (by omega), by rw [pst_ne S _ (by omega)]; exact h.2.1, by rw [pst_ne S _ (by omega)]; exact h.2.2.1, fun m h1 h2 => ?_⟩
  rw [cut_pst S _ (by omega)]
  by_cases q : m = n
  · subst q
    rw [pst_at, cut_self h.1]
  · rw [pst_ne S _ q]
    exact h.2.2.2 m h1 (by omega)
def revF (cnt : Int) (t : th) (res : Sum th Int) : Prop := match t with
  | .inr (.inl f) => ((f.1 0 ≠ 0 ∨ f.1 1 = 0) → res = .inr 2) ∧ (¬ (f.1 0 ≠ 0 ∨ f.1 1 = 0) → ∃ R, revR f R 25 ∧ (cnt = 150 → res = .inr 3) ∧ (cnt ≠ 150 → res = .inl (th_se R)))
  | _ => True
/-- the root whose number at power 0 is r -/
def rootR (a : zp_R) (r : Nat) (R : zp_R) (N : Nat) : Prop := zp_deg R N ∧ R.1 0 = nF (r : Int) ∧ ∀ n, 1 ≤ n → n < N → R.1 n = (a.1 n - zp_sum (fun i => R.1 (i + 1) * R.1 (n - (i + 1))) (n - 1)) * nF (2 * (r : Int)) ^ 32001
theorem rootR_s {a R : zp_R} {r n : Nat} (hn : 1 ≤ n) (h : rootR a r R n) : rootR a r (pst R n ((a.1 n - zp_sum (fun i => R.1 (i + 1) * R.1 (n - (i + 1))) (n - 1)) * nF (2 * (r : Int)) ^ 32001)) (n + 1) := by
  refine ⟨pst_deg _ (deg_le h.1 (by omega)) (by omega), by rw [pst_ne R _ (by omega)]; exact h.2.1, fun m h1 h2 => ?_⟩
  have e : ∀ z, zp_sum (fun i => (pst R n z).1 (i + 1) * (pst R n z).1 (m - (i + 1))) (m - 1) = zp_sum (fun i => R.1 (i + 1) * R.1 (m - (i + 1))) (m - 1) := fun z => zp_sum_congr (fun i hi2 => by rw [pst_ne R z (by omega), pst_ne R z (by omega)])
  rw [e]
  by_cases q : m = n
  · subst q
    exact pst_at R m _
  · rw [pst_ne R _ q]
    exact h.2.2 m h1 (by omega)
def rooF (cnt : Int) (t : th) (res : Sum th Int) : Prop := match t with
  | .inr (.inl f) => ((∀ n : Nat, 1 ≤ n → n ≤ 16001 → nF (n : Int) * nF (n : Int) ≠ f.1 0) → res = .inr 2) ∧ (∀ r : Nat, 1 ≤ r → r ≤ 16001 → nF (r : Int) * nF (r : Int) = f.1 0 → (∀ n : Nat, 1 ≤ n → n < r → nF (n : Int) * nF (n : Int) ≠ f.1 0) → ∃ R, rootR f r R 25 ∧ (cnt = 150 → res = .inr 3) ∧ (cnt ≠ 150 → res = .inl (th_se R)))
  | _ => True
theorem tm_sq {n : Nat} (a : zp_F) : Int.tmod ((n : Int) * (n : Int)) 32003 = (a.val : Int) ↔ nF (n : Int) * nF (n : Int) = a := by
  rw [tmod_nn (Int.mul_nonneg (by omega) (by omega)), ← nF_v, nF_mul]
  exact ⟨fun w => F_ext w, fun w => by rw [w]⟩
section
variable {d : Nat} {h : s_H} {s : Nat → Int} {A : Nat → Nat → Int}
theorem V_reverse (hv : RV h s A) {T : Nat → th} (hR : RI s A T) {x : Int} (hx : In3 x) : wm sw_P (d + 5) 584 [.index 1290, vi x] h (RA h (fun v s' A' => ∃ res, unS (s 1) T (fun n => n = 1) x (revF (s 1)) res ∧ ends s A T res v s' A')) := by
  refine wm_in (cd := sw_c584) (nL := 5) (hd := sw_h584) rfl rfl ?_
  have b0 := hR.1.1
  refine k584_0 hv.1 (wm_mono (wq_A (fun v1 h1 s1 A1 w1 r1 φ => ?_)) (V_isOf hv hR hx (k := 1) (by decide)))
  rcases φ with ⟨ev, e1, q, eA⟩ | ⟨ev, e1, q, f, ef, lf, kf, m1, g, _⟩
  · rw [ev]
    refine k584_6 (fun w => absurd rfl w) (fun _ => k584_9 ⟨vi 0, h1, s1, A1, w1, r1, ⟨.inr (one s T x 1), one_un q, ?_⟩, rfl⟩)
    rw [e1, eA]
    exact ⟨sm_refl, rfl, rfl, RI_sc hR sm_refl rfl⟩
  · rw [ev]
    subst ef
    have xf : (f : Int).toNat = f := by omega
    obtain ⟨g98, g99⟩ := g (by decide)
    have hf := hR.2.2 f lf
    have s11 : s1 1 = s 1 := by rw [e1]; rfl
    have sp : ∀ res : Sum th Int, revF (s 1) (T f) res → unS (s 1) T (fun n => n = 1) f (revF (s 1)) res := fun res w => ⟨fun w2 => absurd ⟨by omega, lf⟩ w2, fun _ w2 => (w2 (by rw [xf]; exact kf)).elim, fun _ _ => by rw [xf]; exact w⟩
    refine k584_6 (fun _ => ?_) (fun w => absurd (by decide) w)
    rcases ef1 : T f with ⟨a, b⟩ | a | ⟨r, c, M⟩ | ⟨n, so, va⟩
    · rw [ef1] at kf; exact (kdn kf rfl).elim
    · rw [ef1] at hf sp
      obtain ⟨_, p1, p2, p3⟩ := hf
      have h98 := g98.trans p1
      have e4 : gi (mk 176 (A1 1298)) 0 = cf a 0 := by rw [h98]; exact gi_mkn (k := 0) (by decide)
      have e5 : gi (mk 176 (A1 1298)) 1 = cf a 1 := by rw [h98]; exact gi_mkn (k := 1) (by decide)
      have b4 := cf_b a 0
      have b5 := cf_b a 1
      have bad : (a.1 0 ≠ 0 ∨ a.1 1 = 0) → wr sw_P (d + 4) sw_c584 sw_h584 (33, [.index 1290, vi (f : Int), .result, .result, .result], [], h1, 0, 0) (RA h (fun v s' A' => ∃ res, unS (s 1) T (fun n => n = 1) f (revF (s 1)) res ∧ ends s A T res v s' A')) := fun hb => by
        refine k584_33 w1.1 (wm_mono (wq_A (fun v3 h3 s3 A3 w3 r3 φ => ?_)) (V_raise w1))
        obtain ⟨y1, y2, y3⟩ := φ
        rw [e1] at y2
        subst y1
        exact k584_38 ⟨_, h3, s3, A3, w3, FR_trans r1 r3, ⟨.inr 2, sp _ ⟨fun _ => rfl, fun w => absurd hb w⟩, ends_bad hR m1 rfl y2 y3⟩, rfl⟩
      refine k584_11 w1.1 (Ra_at w1) (fun q0 => ?_) (fun q0 => ?_) (c10 := by rw [mk_len]; decide) (c11 := by rw [e4]; exact in6_of (by omega) (by omega))
      · rw [e4] at q0
        exact bad (.inl (fun w => q0 (by unfold cf; rw [w]; rfl)))
      · rw [e4] at q0
        have a0 : a.1 0 = 0 := cf_0 (by omega)
        refine k584_22 w1.1 (Ra_at w1) (fun q1 => ?_) (fun q1 => ?_) (c10 := by rw [mk_len]; decide) (c11 := by rw [e5]; exact in6_of (by omega) (by omega))
        · rw [e5] at q1
          have a1 : a.1 1 ≠ 0 := fun w => q1 (by unfold cf; rw [w]; rfl)
          have ok : ¬ (a.1 0 ≠ 0 ∨ a.1 1 = 0) := fun w => by
            rcases w with w | w
            · exact w a0
            · exact a1 w
          refine k584_39 w1.1 (Ra_at w1) (wm_mono (wq_r ?_) (t_inverse (by rw [e5]; exact in6_of (by omega) (by omega)))) (c10 := by rw [mk_len]; decide)
          rw [e5, nF_cf]
          refine k584_48 w1.1 (wm_mono (wq_Q (fun h2 w2 r2 => ?_)) (V_empty w1 (c := 1308) rfl))
          refine k584_56 w2.1 (RV_l w2 (c := 1308) rfl) ?_ (c10 := by rw [mk_len]; decide)
          rw [mk_set, up_at, cf_pst (zp_C 0) (n := 1) (t0 := Int.toNat 1) rfl rfl]
          have loop : ∀ (l n : Nat) (B : Nat → Nat → Int) (S : zp_R) (h' : s_H) (t3 : Term), n + l = 25 → 2 ≤ n → RV h' s1 B → FR h h' → sm A B scr → B 1298 = cf a → B 1308 = cf S → revR a S n → wr sw_P (d + 4) sw_c584 sw_h584 (66, [.index 1290, vi (f : Int), vl ((a.1 1 ^ 32001 : zp_F).val : Int), t3, vi (n : Int)], [], h', 0, 0) (RA h (fun v s' A' => ∃ res, unS (s 1) T (fun n => n = 1) f (revF (s 1)) res ∧ ends s A T res v s' A')) := by
            intro l
            induction l with
            | zero =>
              intro n B S h' t3 hn n2 v r m ga gs hE
              have n25 : n = 25 := by omega
              subst n25
              refine k584_66 (fun _ => ?_) (fun w => absurd w (by omega))
              refine k584_115 v.1 (wm_mono (wq_Q (fun h3 w3 r3 => ?_)) (V_copy v (c := 1302) (e := 1308) rfl rfl (by decide)))
              refine k584_126 w3.1 (wm_mono (wq_A (fun v3 h4 s4 A4 w4 r4 φ => ?_)) (V_keepSeries w3 (by rw [s11]; exact b0) (f := S) (by rw [up_at, gs])))
              rw [e1] at φ
              obtain ⟨res, z1, z2, z3⟩ := ends_ksQ 0 hR (sm_up m _ rfl) hE.1 (c25_cf hE.1) φ
              obtain ⟨u, eu⟩ := ends_vi z3
              subst eu
              exact k584_131 ⟨_, h4, s4, A4, w4, FR_trans r (FR_trans r3 r4), ⟨res, sp res ⟨fun w => absurd w ok, fun _ => ⟨S, hE, z1, z2⟩⟩, z3⟩, rfl⟩
            | succ l ih =>
              intro n B S h' t3 hn n2 v r m ga gs hE
              refine k584_66 (fun w => absurd w (by omega)) (fun _ => ?_)
              refine k584_73 v.1 (wm_mono (wq_N (fun h3 s3 A3 w3 r3 φ => ?_)) (V_putSeries v (r := 1298) (t := 1308) rfl rfl (by decide) (by decide) (by decide) (by decide) ga gs))
              obtain ⟨es3, m3, x3⟩ := φ
              rw [es3] at w3
              have g8 : A3 1308 = cf S := by rw [m3 1308 rfl, gs]
              have gn : gi (mk 176 (A3 1302)) (n : Int) = (((psr a S 25).1 n).val : Int) := by rw [x3]; exact gi_mkn (by omega)
              have bz := ((psr a S 25).1 n).isLt
              refine k584_85 w3.1 (Ra_rt w3) (wm_mono (wq_r ?_) (t_modulo (by rw [gn]; exact in6_of (by omega) (by omega)))) (c12 := by rw [mk_len]; omega) (c13 := by omega) (c14 := by unfold In3; omega)
              rw [gn, md_neg]
              refine k584_102 (RV_l w3 (c := 1308) rfl) ?_ (c1 := in_mul _ _) (c5 := by rw [mk_len]; omega) (c6 := by omega) (c7 := by unfold In3; omega)
              rw [tm_mul, mk_set, g8, cf_pst S (n := n) (by omega) rfl]
              exact ih (n + 1) _ _ _ _ (by omega) (by omega) (RV_w w3 (c := 1308) rfl _) (FR_trans r (FR_trans r3 (FR_w w3 (c := 1308) rfl _))) (sm_up (sm_tr m (sm_sub m3 rfl)) _ rfl) (by rw [up_ne _ _ (by decide), m3 1298 rfl, ga]) (up_at _ _ _) (revR_s n2 hE)
          have w3 := RV_w w2 (c := 1308) rfl (cf (pst (zp_C 0) 1 (a.1 1 ^ 32001)))
          refine loop 23 2 _ (pst (zp_C 0) 1 (a.1 1 ^ 32001)) _ _ rfl (Nat.le_refl _) w3 (FR_trans r1 (FR_trans r2 (FR_w w2 (c := 1308) rfl _))) (sm_up (sm_up m1 _ rfl) _ rfl) (by rw [up_ne _ _ (by decide), up_ne _ _ (by decide), h98]) (up_at _ _ _) ⟨pst_deg _ (deg_le (zp_C_deg 0) (by decide)) (by decide), ?_, pst_at _ _ _, fun n h1 h2 => absurd h1 (by omega)⟩
          rw [pst_ne _ _ (by decide), zp_C00]
        · rw [e5] at q1
          exact bad (.inr (cf_0 (Decidable.byContradiction q1)))
    · rw [ef1] at kf; exact (kdn kf rfl).elim
    · rw [ef1] at kf; exact (kdn kf rfl).elim
theorem V_root (hv : RV h s A) {T : Nat → th} (hR : RI s A T) {x : Int} (hx : In3 x) : wm sw_P (d + 4) 585 [.index 1290, vi x] h (RA h (fun v s' A' => ∃ res, unS (s 1) T (fun n => n = 1) x (rooF (s 1)) res ∧ ends s A T res v s' A')) := by
  refine wm_in (cd := sw_c585) (nL := 10) (hd := sw_h585) rfl rfl ?_
  have b0 := hR.1.1
  refine k585_0 hv.1 (wm_mono (wq_A (fun v1 h1 s1 A1 w1 r1 φ => ?_)) (V_isOf hv hR hx (k := 1) (by decide)))
  rcases φ with ⟨ev, e1, q, eA⟩ | ⟨ev, e1, q, f, ef, lf, kf, m1, g, _⟩
  · rw [ev]
    refine k585_6 (fun w => absurd rfl w) (fun _ => k585_9 ⟨vi 0, h1, s1, A1, w1, r1, ⟨.inr (one s T x 1), one_un q, ?_⟩, rfl⟩)
    rw [e1, eA]
    exact ⟨sm_refl, rfl, rfl, RI_sc hR sm_refl rfl⟩
  · rw [ev]
    subst ef
    have xf : (f : Int).toNat = f := by omega
    obtain ⟨g98, g99⟩ := g (by decide)
    have hf := hR.2.2 f lf
    have s11 : s1 1 = s 1 := by rw [e1]; rfl
    have sp : ∀ res : Sum th Int, rooF (s 1) (T f) res → unS (s 1) T (fun n => n = 1) f (rooF (s 1)) res := fun res w => ⟨fun w2 => absurd ⟨by omega, lf⟩ w2, fun _ w2 => (w2 (by rw [xf]; exact kf)).elim, fun _ _ => by rw [xf]; exact w⟩
    refine k585_6 (fun _ => ?_) (fun w => absurd (by decide) w)
    rcases ef1 : T f with ⟨a, b⟩ | a | ⟨r, c, M⟩ | ⟨n, so, va⟩
    · rw [ef1] at kf; exact (kdn kf rfl).elim
    · rw [ef1] at hf sp
      obtain ⟨_, p1, p2, p3⟩ := hf
      have h98 := g98.trans p1
      have e4 : gi (mk 176 (A1 1298)) 0 = ((a.1 0).val : Int) := by rw [h98]; exact gi_mkn (k := 0) (by decide)
      have b4 := cf_b a 0
      have big : ∀ n : Nat, n ≤ 16002 → ((n : Int) * (n : Int) = ((n * n : Nat) : Int) ∧ n * n ≤ 16002 * 16002) := fun n hn => ⟨rfl, Nat.mul_le_mul hn hn⟩
      -- a root is found
      have fnd : ∀ (r : Nat) (t3 t5 t6 t7 t8 t9 : Term) (x4 : Int), 1 ≤ r → r ≤ 16001 → nF (r : Int) * nF (r : Int) = a.1 0 → (∀ n : Nat, 1 ≤ n → n < r → nF (n : Int) * nF (n : Int) ≠ a.1 0) → wr sw_P (d + 3) sw_c585 sw_h585 (62, [.index 1290, vi (f : Int), vl (r : Int), t3, vl x4, t5, t6, t7, t8, t9], [], h1, 0, 0) (RA h (fun v s' A' => ∃ res, unS (s 1) T (fun n => n = 1) f (rooF (s 1)) res ∧ ends s A T res v s' A')) := by
        intro r t3 t5 t6 t7 t8 t9 x4 hr1 hr2 hrs hrl
        have only : ∀ r' : Nat, 1 ≤ r' → nF (r' : Int) * nF (r' : Int) = a.1 0 → (∀ n : Nat, 1 ≤ n → n < r' → nF (n : Int) * nF (n : Int) ≠ a.1 0) → r' = r := fun r' h1 h2 h3 => by
          refine Decidable.byContradiction (fun w => ?_)
          by_cases l : r' < r
          · exact hrl r' h1 l h2
          · exact h3 r hr1 (by omega) hrs
        refine k585_62 (fun _ => ?_) (fun w => absurd w (by omega)) (c1 := in6_of (by omega) (by omega))
        refine k585_74 (wm_mono (wq_r ?_) (t_inverse (z := 2 * (r : Int)) (in6_of (by omega) (by omega))))
        refine k585_82 w1.1 (wm_mono (wq_Q (fun h2 w2 r2 => ?_)) (V_become w1 (c := 1302) rfl (z := (r : Int)) (in6_of (by omega) (by omega))))
        refine k585_92 ?_
        have loop : ∀ (l n : Nat) (B : Nat → Nat → Int) (R : zp_R) (h' : s_H) (t3 t5 t7 t8 t9 : Term), n + l = 25 → 1 ≤ n → RV h' s1 B → FR h h' → sm A B scr → B 1298 = cf a → B 1302 = cf R → rootR a r R n → wr sw_P (d + 3) sw_c585 sw_h585 (95, [.index 1290, vi (f : Int), vl (r : Int), t3, vl ((nF (2 * (r : Int)) ^ 32001 : zp_F).val : Int), t5, vi (n : Int), t7, t8, t9], [], h', 0, 0) (RA h (fun v s' A' => ∃ res, unS (s 1) T (fun n => n = 1) f (rooF (s 1)) res ∧ ends s A T res v s' A')) := by
          intro l
          induction l with
          | zero =>
            intro n B R h' t3 t5 t7 t8 t9 hn n1 v r' m ga gr hE
            have n25 : n = 25 := by omega
            subst n25
            refine k585_95 (fun _ => ?_) (fun w => absurd w (by omega))
            refine k585_175 v.1 (wm_mono (wq_A (fun v3 h4 s4 A4 w4 r4 φ => ?_)) (V_keepSeries v (by rw [s11]; exact b0) (f := R) gr))
            rw [e1] at φ
            obtain ⟨res, z1, z2, z3⟩ := ends_ksQ 0 hR m hE.1 (c25_cf hE.1) φ
            obtain ⟨u, eu⟩ := ends_vi z3
            subst eu
            exact k585_180 ⟨_, h4, s4, A4, w4, FR_trans r' r4, ⟨res, sp res ⟨fun w => absurd hrs (w r hr1 hr2), fun r2 y1 _ y3 y4 => by rw [only r2 y1 y3 y4]; exact ⟨R, hE, z1, z2⟩⟩, z3⟩, rfl⟩
          | succ l ih =>
            intro n B R h' t3 t5 t7 t8 t9 hn n1 v r' m ga gr hE
            have gn : gi (mk 176 (B 1298)) (n : Int) = ((a.1 n).val : Int) := by rw [ga]; exact gi_mkn (by omega)
            refine k585_95 (fun w => absurd w (by omega)) (fun _ => ?_)
            refine k585_102 v.1 (Ra_at v) ?_ (c10 := by rw [mk_len]; omega) (c11 := by omega) (c12 := by unfold In3; omega)
            rw [gn]
            have inner : ∀ (l2 k : Nat) (z : zp_F) (t8 : Term), k + l2 = n - 1 → z = a.1 n - zp_sum (fun i => R.1 (i + 1) * R.1 (n - (i + 1))) k → wr sw_P (d + 3) sw_c585 sw_h585 (114, [.index 1290, vi (f : Int), vl (r : Int), t3, vl ((nF (2 * (r : Int)) ^ 32001 : zp_F).val : Int), t5, vi (n : Int), vl (z.val : Int), t8, vi ((k : Int) + 1)], [], h', 0, 0) (RA h (fun v s' A' => ∃ res, unS (s 1) T (fun n => n = 1) f (rooF (s 1)) res ∧ ends s A T res v s' A')) := by
              intro l2
              induction l2 with
              | zero =>
                intro k z t8 hk ez
                have kn : k = n - 1 := by omega
                refine k585_114 (fun _ => ?_) (fun w => absurd w (by omega)) (c1 := by unfold In3; omega) (c2 := by unfold In3; omega)
                refine k585_153 v.1 (Ra_rt v) ?_ (c7 := in_mul _ _) (c11 := by rw [mk_len]; omega) (c12 := by omega) (c13 := by unfold In3; omega)
                rw [tm_mul, mk_set, gr, cf_pst R (n := n) (by omega) rfl, ez, kn]
                exact ih (n + 1) _ _ _ _ _ _ _ _ (by omega) (by omega) (RV_w v (c := 1302) rfl _) (FR_trans r' (FR_w v (c := 1302) rfl _)) (sm_up m _ rfl) (by rw [up_ne _ _ (by decide), ga]) (up_at _ _ _) (rootR_s n1 hE)
              | succ l2 ih2 =>
                intro k z t8 hk ez
                refine k585_114 (fun w => absurd w (by omega)) (fun _ => ?_) (c1 := by unfold In3; omega) (c2 := by unfold In3; omega)
                have g1 : gi (mk 176 (B 1302)) ((k : Int) + 1) = ((R.1 (k + 1)).val : Int) := by rw [gr, gi_mk (by omega) (by omega), show ((k : Int) + 1).toNat = k + 1 by omega]; rfl
                have g2 : gi (mk 176 (B 1302)) ((n : Int) - ((k : Int) + 1)) = ((R.1 (n - (k + 1))).val : Int) := by rw [gr, gi_mk (by omega) (by omega), show ((n : Int) - ((k : Int) + 1)).toNat = n - (k + 1) by omega]; rfl
                refine k585_121 v.1 (Ra_rt v) (wm_mono (wq_r ?_) (t_modulo (by rw [g1, g2]; exact in_dif _ _ _))) (c10 := by rw [mk_len]; omega) (c11 := by omega) (c12 := by unfold In3; omega) (c13 := by rw [mk_len]; omega) (c14 := by omega) (c15 := by unfold In3; omega)
                rw [g1, g2, md_dif]
                refine k585_145 ?_
                refine ih2 (k + 1) _ _ (by omega) ?_
                rw [ez]
                exact @V_logarithm.lg_h zp_F _ _ _ _
            refine inner (n - 1) 0 _ _ (by omega) ?_
            exact (@V_logarithm.pv_z zp_F _ _).symm
        exact loop 24 1 _ (zp_C (nF (r : Int))) h2 _ _ _ _ _ rfl (Nat.le_refl _) w2 (FR_trans r1 r2) (sm_up m1 _ rfl) (by rw [up_ne _ _ (by decide), h98]) (up_at _ _ _) ⟨zp_C_deg _, rfl, fun n h1 h2 => absurd h1 (by omega)⟩
      have srch : ∀ (l n : Nat) (t3 t5 : Term), n + l = 16002 → 1 ≤ n → (∀ k : Nat, 1 ≤ k → k < n → nF (k : Int) * nF (k : Int) ≠ a.1 0) → wr sw_P (d + 3) sw_c585 sw_h585 (16, [.index 1290, vi (f : Int), vl 0, t3, vl (n : Int), t5, .result, .result, .result, .result], [], h1, 0, 0) (RA h (fun v s' A' => ∃ res, unS (s 1) T (fun n => n = 1) f (rooF (s 1)) res ∧ ends s A T res v s' A')) := by
        intro l
        induction l with
        | zero =>
          intro n t3 t5 hn n1 hne
          have bad : ∀ k : Nat, 1 ≤ k → k ≤ 16001 → nF (k : Int) * nF (k : Int) ≠ a.1 0 := fun k h1 h2 => hne k h1 (by omega)
          refine k585_16 (fun _ => ?_) (fun w => absurd w (by omega)) (c1 := in6_of (by omega) (by omega))
          refine k585_62 (fun w => absurd rfl w) (fun _ => ?_)
          refine k585_68 w1.1 (wm_mono (wq_A (fun v3 h3 s3 A3 w3 r3 φ => ?_)) (V_raise w1))
          obtain ⟨y1, y2, y3⟩ := φ
          rw [e1] at y2
          subst y1
          exact k585_73 ⟨_, h3, s3, A3, w3, FR_trans r1 r3, ⟨.inr 2, sp _ ⟨fun _ => rfl, fun r y1 y2 y3 _ => absurd y3 (bad r y1 y2)⟩, ends_bad hR m1 rfl y2 y3⟩, rfl⟩
        | succ l ih =>
          intro n t3 t5 hn n1 hne
          obtain ⟨b1, b2⟩ := big n (by omega)
          have b3 : Int.tmod ((n : Int) * n) 32003 = ((n : Int) * n) % 32003 := tmod_nn (Int.mul_nonneg (by omega) (by omega))
          refine k585_16 (fun w => absurd w (by omega)) (fun _ => ?_) (c1 := in6_of (by omega) (by omega))
          refine k585_25 (fun w => absurd rfl w) (fun _ => ?_)
          refine k585_31 w1.1 (Ra_at w1) (fun w => ?_) (fun w => ?_) (c1 := by rw [b1]; exact in6_of (by omega) (by omega)) (c11 := by rw [mk_len]; decide) (c12 := by rw [b3]; exact in6_of (by omega) (by omega)) (c13 := by rw [e4]; exact in6_of (by omega) (by omega))
          · rw [e4] at w
            have ne : nF (n : Int) * nF (n : Int) ≠ a.1 0 := fun q => w ((tm_sq (n := n) (a.1 0)).mpr q)
            refine k585_53 ?_
            have := ih (n + 1) (s_uu t3) .result (by omega) (by omega) (fun k h1 h2 => by
              by_cases q : k = n
              · rw [q]; exact ne
              · exact hne k h1 (by omega))
            exact this
          · rw [e4] at w
            have eq : nF (n : Int) * nF (n : Int) = a.1 0 := (tm_sq (n := n) (a.1 0)).mp (Decidable.byContradiction w)
            refine k585_50 (k585_53 ?_)
            by_cases q : n = 16001
            · refine k585_16 (fun _ => ?_) (fun w => absurd w (by omega)) (c1 := in6_of (by omega) (by omega))
              exact fnd n _ _ _ _ _ _ _ n1 (by omega) eq hne
            · refine k585_16 (fun w => absurd w (by omega)) (fun _ => ?_) (c1 := in6_of (by omega) (by omega))
              refine k585_25 (fun _ => ?_) (fun w => absurd w (by omega)) (c1 := in6_of (by omega) (by omega))
              exact fnd n _ _ _ _ _ _ _ n1 (by omega) eq hne
      refine k585_11 ?_
      exact srch 16001 1 _ _ rfl (Nat.le_refl _) (fun k h1 h2 => absurd h1 (by omega))
    · rw [ef1] at kf; exact (kdn kf rfl).elim
    · rw [ef1] at kf; exact (kdn kf rfl).elim
end
