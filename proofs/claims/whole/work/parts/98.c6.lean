/-! the reference's exponential and logarithm in the picture -/
theorem pst_fin (f : zp_R) (n : Nat) (z : zp_F) : zp_fin (fun i => if i = n then z else f.1 i) := by
  obtain ⟨m, hm⟩ := f.2
  refine ⟨m + n + 1, fun i hi2 => ?_⟩
  show (if i = n then z else f.1 i) = 0
  rw [if_neg (by omega), hm i (by omega)]
/-- f with z at place n -/
def pst (f : zp_R) (n : Nat) (z : zp_F) : zp_R := ⟨fun i => if i = n then z else f.1 i, pst_fin f n z⟩
theorem pst_at (f : zp_R) (n : Nat) (z : zp_F) : (pst f n z).1 n = z := if_pos rfl
theorem pst_ne (f : zp_R) {n i : Nat} (z : zp_F) (h : i ≠ n) : (pst f n z).1 i = f.1 i := if_neg h
theorem pst_deg {f : zp_R} {n m : Nat} (z : zp_F) (h : zp_deg f m) (hn : n < m) : zp_deg (pst f n z) m := fun i hi2 => by
  rw [pst_ne f z (by omega)]; exact h i hi2
theorem cf_pst (f : zp_R) {n : Nat} {z : zp_F} {t0 : Nat} (ht : t0 = n) {x : Int} (hx : x = (z.val : Int)) : (fun i => if i = t0 then x else cf f i) = cf (pst f n z) := by
  subst ht
  subst hx
  funext i
  show _ = ((if i = t0 then z else f.1 i : zp_F).val : Int)
  by_cases h : i = t0
  · rw [if_pos h, if_pos h]
  · rw [if_neg h, if_neg h]; rfl
theorem nn_mul (a : Nat) (b : zp_F) : 0 ≤ (a : Int) * (b.val : Int) := Int.mul_nonneg (by omega) (by omega)
theorem tm_km (k : Nat) (a : zp_F) : Int.tmod ((k : Int) * (a.val : Int)) 32003 = ((nF k * a : zp_F).val : Int) := by
  rw [tmod_nn (nn_mul k a), ← nF_v, nF_mul, nF_val]
theorem tm_acc (k : Nat) (c a b : zp_F) : Int.tmod ((c.val : Int) + (((nF k * a : zp_F).val : Int) * (b.val : Int))) 32003 = ((c + nF k * a * b : zp_F).val : Int) := by
  rw [tmod_nn (Int.add_nonneg (by omega) (Int.mul_nonneg (by omega) (by omega))), ← nF_v, nF_add, nF_mul, nF_val, nF_val, nF_val]
theorem in_km {k : Nat} (hk : k ≤ 200) (a : zp_F) : In6 ((k : Int) * (a.val : Int)) := by
  have h2 := a.isLt
  have h3 : k * a.val ≤ 200 * 32003 := Nat.mul_le_mul hk (by omega)
  have h4 : (k : Int) * a.val = ((k * a.val : Nat) : Int) := rfl
  rw [h4]
  exact in6_of (by omega) (by omega)
theorem in_acc (a b c : zp_F) : In6 ((a.val : Int) + (b.val : Int) * c.val) := by
  have h0 := a.isLt
  have h1 := b.isLt
  have h2 := c.isLt
  have h3 : b.val * c.val ≤ 32003 * 32003 := Nat.mul_le_mul (by omega) (by omega)
  have h4 : (b.val : Int) * c.val = ((b.val * c.val : Nat) : Int) := rfl
  rw [h4]
  exact in6_of (by omega) (by omega)
/-- a power series' exponential -/
def expR (f R : zp_R) (N : Nat) : Prop := zp_deg R N ∧ R.1 0 = 1 ∧ ∀ n, 1 ≤ n → n < N → R.1 n = zp_sum (fun i => nF ((i + 1 : Nat) : Int) * f.1 (i + 1) * R.1 (n - (i + 1))) n * nF (n : Int) ^ 32001
def logR (f R : zp_R) (N : Nat) : Prop := zp_deg R N ∧ R.1 0 = 0 ∧ ∀ n, 1 ≤ n → n < N → R.1 n = (nF (n : Int) * f.1 n - zp_sum (fun i => nF ((i + 1 : Nat) : Int) * R.1 (i + 1) * f.1 (n - (i + 1))) (n - 1)) * nF (n : Int) ^ 32001
theorem expR_s {f R : zp_R} {n : Nat} (hn : 1 ≤ n) (h : expR f R n) : expR f (pst R n (zp_sum (fun i => nF ((i + 1 : Nat) : Int) * f.1 (i + 1) * R.1 (n - (i + 1))) n * nF (n : Int) ^ 32001)) (n + 1) := by
  refine ⟨pst_deg _ (deg_le h.1 (by omega)) (by omega), by rw [pst_ne R _ (by omega)]; exact h.2.1, fun m h1 h2 => ?_⟩
  have e : ∀ z, zp_sum (fun i => nF ((i + 1 : Nat) : Int) * f.1 (i + 1) * (pst R n z).1 (m - (i + 1))) m = zp_sum (fun i => nF ((i + 1 : Nat) : Int) * f.1 (i + 1) * R.1 (m - (i + 1))) m := fun z => zp_sum_congr (fun i hi2 => by rw [pst_ne R z (by omega)])
  rw [e]
  by_cases q : m = n
  · subst q
    exact pst_at R m _
  · rw [pst_ne R _ q]
    exact h.2.2 m h1 (by omega)
theorem logR_s {f R : zp_R} {n : Nat} (hn : 1 ≤ n) (h : logR f R n) : logR f (pst R n ((nF (n : Int) * f.1 n - zp_sum (fun i => nF ((i + 1 : Nat) : Int) * R.1 (i + 1) * f.1 (n - (i + 1))) (n - 1)) * nF (n : Int) ^ 32001)) (n + 1) := by
  refine ⟨pst_deg _ (deg_le h.1 (by omega)) (by omega), by rw [pst_ne R _ (by omega)]; exact h.2.1, fun m h1 h2 => ?_⟩
  have e : ∀ z, zp_sum (fun i => nF ((i + 1 : Nat) : Int) * (pst R n z).1 (i + 1) * f.1 (m - (i + 1))) (m - 1) = zp_sum (fun i => nF ((i + 1 : Nat) : Int) * R.1 (i + 1) * f.1 (m - (i + 1))) (m - 1) := fun z => zp_sum_congr (fun i hi2 => by rw [pst_ne R z (by omega)])
  rw [e]
  by_cases q : m = n
  · subst q
    exact pst_at R m _
  · rw [pst_ne R _ q]
    exact h.2.2 m h1 (by omega)
def expF (cnt : Int) (t : th) (res : Sum th Int) : Prop := match t with
  | .inr (.inl f) => (f.1 0 ≠ 0 → res = .inr 2) ∧ (f.1 0 = 0 → ∃ R, expR f R 25 ∧ (cnt = 150 → res = .inr 3) ∧ (cnt ≠ 150 → res = .inl (th_se R)))
  | _ => True
def logF (cnt : Int) (t : th) (res : Sum th Int) : Prop := match t with
  | .inr (.inl f) => (f.1 0 ≠ 1 → res = .inr 2) ∧ (f.1 0 = 1 → ∃ R, logR f R 25 ∧ (cnt = 150 → res = .inr 3) ∧ (cnt ≠ 150 → res = .inl (th_se R)))
  | _ => True
section
variable {d : Nat} {h : s_H} {s : Nat → Int} {A : Nat → Nat → Int}
theorem V_exponential (hv : RV h s A) {T : Nat → th} (hR : RI s A T) {x : Int} (hx : In3 x) : wm sw_P (d + 4) 442 [.index 1290, vi x] h (RA h (fun v s' A' => ∃ res, unS (s 1) T (fun n => n = 1) x (expF (s 1)) res ∧ ends s A T res v s' A')) := by
  refine wm_in (cd := sw_c442) (nL := 6) (hd := sw_h442) rfl rfl ?_
  have b0 := hR.1.1
  refine k442_0 hv.1 (wm_mono (wq_A (fun v1 h1 s1 A1 w1 r1 φ => ?_)) (V_isOf hv hR hx (k := 1) (by decide)))
  rcases φ with ⟨ev, e1, q, eA⟩ | ⟨ev, e1, q, f, ef, lf, kf, m1, g, _⟩
  · rw [ev]
    refine k442_6 (fun w => absurd rfl w) (fun _ => k442_9 ⟨vi 0, h1, s1, A1, w1, r1, ⟨.inr (one s T x 1), one_un q, ?_⟩, rfl⟩)
    rw [e1, eA]
    exact ⟨sm_refl, rfl, rfl, RI_sc hR sm_refl rfl⟩
  · rw [ev]
    subst ef
    have xf : (f : Int).toNat = f := by omega
    obtain ⟨g98, g99⟩ := g (by decide)
    have hf := hR.2.2 f lf
    have s11 : s1 1 = s 1 := by rw [e1]; rfl
    have sp : ∀ res : Sum th Int, expF (s 1) (T f) res → unS (s 1) T (fun n => n = 1) f (expF (s 1)) res := fun res w => ⟨fun w2 => absurd ⟨by omega, lf⟩ w2, fun _ w2 => (w2 (by rw [xf]; exact kf)).elim, fun _ _ => by rw [xf]; exact w⟩
    refine k442_6 (fun _ => ?_) (fun w => absurd (by decide) w)
    rcases ef1 : T f with ⟨a, b⟩ | a | ⟨r, c, M⟩ | ⟨n, so, va⟩
    · rw [ef1] at kf; exact (kdn kf rfl).elim
    · rw [ef1] at hf sp
      obtain ⟨_, p1, p2, p3⟩ := hf
      have h98 := g98.trans p1
      have e4 : gi (mk 176 (A1 1298)) 0 = cf a 0 := by rw [h98]; exact gi_mkn (k := 0) (by decide)
      have b4 := cf_b a 0
      refine k442_11 w1.1 (Ra_at w1) (fun q0 => ?_) (fun q0 => ?_) (c10 := by rw [mk_len]; decide) (c11 := by rw [e4]; exact in6_of (by omega) (by omega))
      · rw [e4] at q0
        have a0 : a.1 0 = 0 := cf_0 (by omega)
        refine k442_28 w1.1 (wm_mono (wq_Q (fun h2 w2 r2 => ?_)) (V_become w1 (c := 1302) rfl (z := 1) (by decide)))
        rw [nF_1] at w2
        refine k442_36 ?_
        have loop : ∀ (l n : Nat) (B : Nat → Nat → Int) (R : zp_R) (h' : s_H) (t3 t4 t5 : Term), n + l = 25 → 1 ≤ n → RV h' s1 B → FR h h' → sm A B scr → B 1298 = cf a → B 1302 = cf R → expR a R n → wr sw_P (d + 3) sw_c442 sw_h442 (38, [.index 1290, vi (f : Int), vi (n : Int), t3, t4, t5], [], h', 0, 0) (RA h (fun v s' A' => ∃ res, unS (s 1) T (fun n => n = 1) f (expF (s 1)) res ∧ ends s A T res v s' A')) := by
          intro l
          induction l with
          | zero =>
            intro n B R h' t3 t4 t5 hn n1 v r m ga gr hE
            have n25 : n = 25 := by omega
            subst n25
            refine k442_38 (fun _ => ?_) (fun w => absurd w (by omega))
            refine k442_116 v.1 (wm_mono (wq_A (fun v3 h4 s4 A4 w4 r4 φ => ?_)) (V_keepSeries v (by rw [s11]; exact b0) (f := R) gr))
            rw [e1] at φ
            obtain ⟨res, z1, z2, z3⟩ := ends_ksQ 0 hR m hE.1 (c25_cf hE.1) φ
            obtain ⟨u, eu⟩ := ends_vi z3
            subst eu
            exact k442_121 ⟨_, h4, s4, A4, w4, FR_trans r r4, ⟨res, sp res ⟨fun w => absurd a0 w, fun _ => ⟨R, hE, z1, z2⟩⟩, z3⟩, rfl⟩
          | succ l ih =>
            intro n B R h' t3 t4 t5 hn n1 v r m ga gr hE
            refine k442_38 (fun w => absurd w (by omega)) (fun _ => k442_44 ?_)
            have inner : ∀ (l2 k : Nat) (t4 : Term), k + l2 = n → wr sw_P (d + 3) sw_c442 sw_h442 (49, [.index 1290, vi (f : Int), vi (n : Int), vl ((zp_sum (fun i => nF ((i + 1 : Nat) : Int) * a.1 (i + 1) * R.1 (n - (i + 1))) k).val : Int), t4, vi ((k : Int) + 1)], [], h', 0, 0) (RA h (fun v s' A' => ∃ res, unS (s 1) T (fun n => n = 1) f (expF (s 1)) res ∧ ends s A T res v s' A')) := by
              intro l2
              induction l2 with
              | zero =>
                intro k t4 hk
                have kn : k = n := by omega
                subst kn
                refine k442_49 (fun _ => ?_) (fun w => absurd w (by omega)) (c1 := by unfold In3; omega) (c2 := by unfold In3; omega)
                refine k442_93 v.1 (wm_mono (wq_r ?_) (t_inverse (z := (k : Int)) (in6_of (by omega) (by omega)))) (c7 := by unfold In3; omega)
                refine k442_104 (RV_l v (c := 1302) rfl) ?_ (c1 := in_mul _ _) (c5 := by rw [mk_len]; omega) (c6 := by omega) (c7 := by unfold In3; omega)
                rw [tm_mul, mk_set, gr, cf_pst R (n := k) (by omega) rfl]
                exact ih (k + 1) _ _ _ _ _ _ (by omega) (by omega) (RV_w v (c := 1302) rfl _) (FR_trans r (FR_w v (c := 1302) rfl _)) (sm_up m _ rfl) (by rw [up_ne _ _ (by decide), ga]) (up_at _ _ _) (expR_s n1 hE)
              | succ l2 ih2 =>
                intro k t4 hk
                refine k442_49 (fun w => absurd w (by omega)) (fun _ => ?_) (c1 := by unfold In3; omega) (c2 := by unfold In3; omega)
                have g1 : gi (mk 176 (B 1298)) ((k : Int) + 1) = ((a.1 (k + 1)).val : Int) := by rw [ga, gi_mk (by omega) (by omega), show ((k : Int) + 1).toNat = k + 1 by omega]; rfl
                have g2 : gi (mk 176 (B 1302)) ((n : Int) - ((k : Int) + 1)) = ((R.1 (n - (k + 1))).val : Int) := by rw [gr, gi_mk (by omega) (by omega), show ((n : Int) - ((k : Int) + 1)).toNat = n - (k + 1) by omega]; rfl
                have ek : ((k : Int) + 1) = ((k + 1 : Nat) : Int) := by omega
                refine k442_55 v.1 (Ra_at v) (Ra_rt v) ?_ (c1 := by unfold In3; omega) (c11 := by rw [mk_len]; omega) (c12 := by omega) (c13 := by rw [g1, ek]; exact in_km (by omega) _) (c19 := by rw [mk_len]; omega) (c20 := by omega) (c21 := by unfold In3; omega) (c22 := by rw [g1, g2, ek, tm_km]; exact in_acc _ _ _)
                rw [g1, g2, ek, tm_km, tm_acc]
                exact ih2 (k + 1) _ (by omega)
            exact inner n 0 _ (by omega)
        exact loop 24 1 _ (zp_C 1) h2 _ _ _ rfl (Nat.le_refl _) w2 (FR_trans r1 r2) (sm_up m1 _ rfl) (by rw [up_ne _ _ (by decide), h98]) (up_at _ _ _) ⟨zp_C_deg 1, rfl, fun n h1 h2 => absurd h1 (by omega)⟩
      · rw [e4] at q0
        have a0 : a.1 0 ≠ 0 := fun w => q0 (by unfold cf; rw [w]; rfl)
        refine k442_22 w1.1 (wm_mono (wq_A (fun v3 h3 s3 A3 w3 r3 φ => ?_)) (V_raise w1))
        obtain ⟨y1, y2, y3⟩ := φ
        rw [e1] at y2
        subst y1
        exact k442_27 ⟨_, h3, s3, A3, w3, FR_trans r1 r3, ⟨.inr 2, sp _ ⟨fun _ => rfl, fun w => absurd w a0⟩, ends_bad hR m1 rfl y2 y3⟩, rfl⟩
    · rw [ef1] at kf; exact (kdn kf rfl).elim
    · rw [ef1] at kf; exact (kdn kf rfl).elim
theorem V_logarithm (hv : RV h s A) {T : Nat → th} (hR : RI s A T) {x : Int} (hx : In3 x) : wm sw_P (d + 4) 515 [.index 1290, vi x] h (RA h (fun v s' A' => ∃ res, unS (s 1) T (fun n => n = 1) x (logF (s 1)) res ∧ ends s A T res v s' A')) := by
  refine wm_in (cd := sw_c515) (nL := 6) (hd := sw_h515) rfl rfl ?_
  have b0 := hR.1.1
  refine k515_0 hv.1 (wm_mono (wq_A (fun v1 h1 s1 A1 w1 r1 φ => ?_)) (V_isOf hv hR hx (k := 1) (by decide)))
  rcases φ with ⟨ev, e1, q, eA⟩ | ⟨ev, e1, q, f, ef, lf, kf, m1, g, _⟩
  · rw [ev]
    refine k515_6 (fun w => absurd rfl w) (fun _ => k515_9 ⟨vi 0, h1, s1, A1, w1, r1, ⟨.inr (one s T x 1), one_un q, ?_⟩, rfl⟩)
    rw [e1, eA]
    exact ⟨sm_refl, rfl, rfl, RI_sc hR sm_refl rfl⟩
  · rw [ev]
    subst ef
    have xf : (f : Int).toNat = f := by omega
    obtain ⟨g98, g99⟩ := g (by decide)
    have hf := hR.2.2 f lf
    have s11 : s1 1 = s 1 := by rw [e1]; rfl
    have sp : ∀ res : Sum th Int, logF (s 1) (T f) res → unS (s 1) T (fun n => n = 1) f (logF (s 1)) res := fun res w => ⟨fun w2 => absurd ⟨by omega, lf⟩ w2, fun _ w2 => (w2 (by rw [xf]; exact kf)).elim, fun _ _ => by rw [xf]; exact w⟩
    refine k515_6 (fun _ => ?_) (fun w => absurd (by decide) w)
    rcases ef1 : T f with ⟨a, b⟩ | a | ⟨r, c, M⟩ | ⟨n, so, va⟩
    · rw [ef1] at kf; exact (kdn kf rfl).elim
    · rw [ef1] at hf sp
      obtain ⟨_, p1, p2, p3⟩ := hf
      have h98 := g98.trans p1
      have e4 : gi (mk 176 (A1 1298)) 0 = cf a 0 := by rw [h98]; exact gi_mkn (k := 0) (by decide)
      have b4 := cf_b a 0
      refine k515_11 w1.1 (Ra_at w1) (fun q0 => ?_) (fun q0 => ?_) (c10 := by rw [mk_len]; decide) (c11 := by rw [e4]; exact in6_of (by omega) (by omega))
      · rw [e4] at q0
        have a0 : a.1 0 = 1 := F_ext q0
        refine k515_28 w1.1 (wm_mono (wq_Q (fun h2 w2 r2 => ?_)) (V_empty w1 (c := 1302) rfl))
        refine k515_35 ?_
        have loop : ∀ (l n : Nat) (B : Nat → Nat → Int) (R : zp_R) (h' : s_H) (t3 t4 t5 : Term), n + l = 25 → 1 ≤ n → RV h' s1 B → FR h h' → sm A B scr → B 1298 = cf a → B 1302 = cf R → logR a R n → wr sw_P (d + 3) sw_c515 sw_h515 (37, [.index 1290, vi (f : Int), vi (n : Int), t3, t4, t5], [], h', 0, 0) (RA h (fun v s' A' => ∃ res, unS (s 1) T (fun n => n = 1) f (logF (s 1)) res ∧ ends s A T res v s' A')) := by
          intro l
          induction l with
          | zero =>
            intro n B R h' t3 t4 t5 hn n1 v r m ga gr hE
            have n25 : n = 25 := by omega
            subst n25
            refine k515_37 (fun _ => ?_) (fun w => absurd w (by omega))
            refine k515_126 v.1 (wm_mono (wq_A (fun v3 h4 s4 A4 w4 r4 φ => ?_)) (V_keepSeries v (by rw [s11]; exact b0) (f := R) gr))
            rw [e1] at φ
            obtain ⟨res, z1, z2, z3⟩ := ends_ksQ 0 hR m hE.1 (c25_cf hE.1) φ
            obtain ⟨u, eu⟩ := ends_vi z3
            subst eu
            exact k515_131 ⟨_, h4, s4, A4, w4, FR_trans r r4, ⟨res, sp res ⟨fun w => absurd a0 w, fun _ => ⟨R, hE, z1, z2⟩⟩, z3⟩, rfl⟩
          | succ l ih =>
            intro n B R h' t3 t4 t5 hn n1 v r m ga gr hE
            have gn : gi (mk 176 (B 1298)) (n : Int) = ((a.1 n).val : Int) := by rw [ga]; exact gi_mkn (by omega)
            refine k515_37 (fun w => absurd w (by omega)) (fun _ => ?_)
            refine k515_43 v.1 (Ra_at v) ?_ (c1 := by unfold In3; omega) (c11 := by rw [mk_len]; omega) (c12 := by omega) (c13 := by rw [gn]; exact in_km (by omega) _)
            rw [gn, tm_km]
            have inner : ∀ (l2 k : Nat) (z : zp_F) (t4 : Term), k + l2 = n - 1 → z = nF (n : Int) * a.1 n - zp_sum (fun i => nF ((i + 1 : Nat) : Int) * R.1 (i + 1) * a.1 (n - (i + 1))) k → wr sw_P (d + 3) sw_c515 sw_h515 (60, [.index 1290, vi (f : Int), vi (n : Int), vl (z.val : Int), t4, vi ((k : Int) + 1)], [], h', 0, 0) (RA h (fun v s' A' => ∃ res, unS (s 1) T (fun n => n = 1) f (logF (s 1)) res ∧ ends s A T res v s' A')) := by
              intro l2
              induction l2 with
              | zero =>
                intro k z t4 hk ez
                have kn : k = n - 1 := by omega
                refine k515_60 (fun _ => ?_) (fun w => absurd w (by omega)) (c1 := by unfold In3; omega) (c2 := by unfold In3; omega)
                refine k515_103 v.1 (wm_mono (wq_r ?_) (t_inverse (z := (n : Int)) (in6_of (by omega) (by omega)))) (c7 := by unfold In3; omega)
                refine k515_114 (RV_l v (c := 1302) rfl) ?_ (c1 := in_mul _ _) (c5 := by rw [mk_len]; omega) (c6 := by omega) (c7 := by unfold In3; omega)
                rw [tm_mul, mk_set, gr, cf_pst R (n := n) (by omega) rfl, ez, kn]
                exact ih (n + 1) _ _ _ _ _ _ (by omega) (by omega) (RV_w v (c := 1302) rfl _) (FR_trans r (FR_w v (c := 1302) rfl _)) (sm_up m _ rfl) (by rw [up_ne _ _ (by decide), ga]) (up_at _ _ _) (logR_s n1 hE)
              | succ l2 ih2 =>
                intro k z t4 hk ez
                refine k515_60 (fun w => absurd w (by omega)) (fun _ => ?_) (c1 := by unfold In3; omega) (c2 := by unfold In3; omega)
                have g1 : gi (mk 176 (B 1302)) ((k : Int) + 1) = ((R.1 (k + 1)).val : Int) := by rw [gr, gi_mk (by omega) (by omega), show ((k : Int) + 1).toNat = k + 1 by omega]; rfl
                have g2 : gi (mk 176 (B 1298)) ((n : Int) - ((k : Int) + 1)) = ((a.1 (n - (k + 1))).val : Int) := by rw [ga, gi_mk (by omega) (by omega), show ((n : Int) - ((k : Int) + 1)).toNat = n - (k + 1) by omega]; rfl
                have ek : ((k : Int) + 1) = ((k + 1 : Nat) : Int) := by omega
                refine k515_66 v.1 (Ra_rt v) (Ra_at v) (wm_mono (wq_r ?_) (t_modulo (by rw [g1, g2, ek, tm_km]; exact in_dif _ _ _))) (c1 := by unfold In3; omega) (c11 := by rw [mk_len]; omega) (c12 := by omega) (c13 := by rw [g1, ek]; exact in_km (by omega) _) (c19 := by rw [mk_len]; omega) (c20 := by omega) (c21 := by unfold In3; omega)
                rw [g1, g2, ek, tm_km, md_dif]
                refine k515_96 ?_
                refine ih2 (k + 1) _ _ (by omega) ?_
                rw [ez]
                exact @lg_h zp_F _ _ _ _
            refine inner (n - 1) 0 _ _ (by omega) ?_
            exact (@pv_z zp_F _ _).symm
        exact loop 24 1 _ (zp_C 0) h2 _ _ _ rfl (Nat.le_refl _) w2 (FR_trans r1 r2) (sm_up m1 _ rfl) (by rw [up_ne _ _ (by decide), h98]) (up_at _ _ _) ⟨zp_C_deg 0, rfl, fun n h1 h2 => absurd h1 (by omega)⟩
      · rw [e4] at q0
        have a0 : a.1 0 ≠ 1 := fun w => q0 (by unfold cf; rw [w]; rfl)
        refine k515_22 w1.1 (wm_mono (wq_A (fun v3 h3 s3 A3 w3 r3 φ => ?_)) (V_raise w1))
        obtain ⟨y1, y2, y3⟩ := φ
        rw [e1] at y2
        subst y1
        exact k515_27 ⟨_, h3, s3, A3, w3, FR_trans r1 r3, ⟨.inr 2, sp _ ⟨fun _ => rfl, fun w => absurd w a0⟩, ends_bad hR m1 rfl y2 y3⟩, rfl⟩
    · rw [ef1] at kf; exact (kdn kf rfl).elim
    · rw [ef1] at kf; exact (kdn kf rfl).elim
where
  lg_h : ∀ {R : Type} [Lean.Grind.CommRing R] (a b c : R), a - b - c = a - (b + c) := by intro R _ a b c; grind
  pv_z : ∀ {R : Type} [Lean.Grind.CommRing R] (a : R), a - 0 = a := by intro R _ a; grind
end
