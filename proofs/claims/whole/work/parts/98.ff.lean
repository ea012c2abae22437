/-! the reference's part in the picture -/
/-- part of factor k to the power j of the bottom -/
def prtF (cnt k j : Int) (t : th) (res : Sum th Int) : Prop := match t with
  | .inl (a, b) => ∃ n F G O, (b = zp_C 1 → n = 0) ∧ (b ≠ zp_C 1 → facs b n F G O) ∧ (¬ ((0 ≤ k ∧ k < (n : Int)) ∧ 1 ≤ j ∧ j ≤ (O k.toNat : Int)) → res = .inr 1) ∧ (((0 ≤ k ∧ k < (n : Int)) ∧ 1 ≤ j ∧ j ≤ (O k.toNat : Int)) → ∃ (Q R : zp_R) (U Y : Nat → Nat → zp_R), a = zp_add (zp_mul b Q) R ∧ zp_deg R (hi b).toNat ∧ pfs b n F O U ∧ (∀ i, i < n → ∀ m, m < O i → zp_deg (Y i m) (G i)) ∧ @zp_sum zp_R zp_ring (fun i => @zp_sum zp_R zp_ring (fun m => zp_mul (Y i m) (U i m)) (O i)) n = R ∧ keeps cnt (Y k.toNat (j.toNat - 1)) 3 res)
  | _ => True
theorem yps_s (y : Nat → zp_F) (k c : Nat) : pst (yps y k c) c (y (k + c)) = yps y k (c + 1) := zp_ext (fun x => by
  show (if x = c then y (k + c) else if x < c then y (k + x) else 0) = if x < c + 1 then y (k + x) else 0
  by_cases q : x = c
  · rw [if_pos q, if_pos (by omega), q]
  · rw [if_neg q]
    by_cases q2 : x < c
    · rw [if_pos q2, if_pos (by omega)]
    · rw [if_neg q2, if_neg (by omega)])
theorem yps_0 (y : Nat → zp_F) (k : Nat) : yps y k 0 = zp_C 0 := zp_zero_of (yps_deg y k 0)
section
variable {d : Nat} {h : s_H} {s : Nat → Int} {A : Nat → Nat → Int}
/-- column 47 is put in, the table cleared, the answer read -/
theorem W_read {Q : s_O → Prop} {H n : Nat} {S : Nat → zp_R} {E : zp_R} {G : Nat → Nat} {k : Nat} (H1 : 1 ≤ H) (H40 : H ≤ 40) (k40 : k < 41) (hS : ∀ c, c < H → zp_deg (S c) H) (dE : zp_deg E H) (hE : A 1298 = cf E) (ind : ∀ y : Nat → zp_F, (∀ c, H ≤ c → y c = 0) → @zp_sum zp_R zp_ring (fun c => zp_mul (zp_C (y c)) (S c)) H = zp_C 0 → ∀ c, c < H → y c = 0) (hG : A 1314 k = (G k : Int)) {x1 x3 x5 : Int} {jk : Nat} (hjk : jk + G k ≤ H) (N : ∀ (y : Nat → zp_F) (s2 : Nat → Int) (D : Nat → Nat → Int) (h2 : s_H) (x7 : Int) (t8 t9 t10 : Term), RV h2 s2 D → FR h h2 → clq s s2 → sm A D [1302, 1317, 1318] → @zp_sum zp_R zp_ring (fun c => zp_mul (zp_C (y c)) (S c)) H = E → D 1302 = cf (yps y jk (G k)) → wr sw_P (d + 4) sw_c545 sw_h545 (348, [.index 1290, vi x1, vi (k : Int), vi x3, vi (H : Int), vi x5, vi (jk : Int), vi x7, t8, t9, t10], [], h2, 0, 0) Q) (hT : A 1317 = fl (tc S H H 0)) {h' : s_H} (hv : RV h' s A) (rr0 : FR h h') {x7 : Int} {t8 t9 t10 : Term} : wr sw_P (d + 4) sw_c545 sw_h545 (249, [.index 1290, vi x1, vi (k : Int), vi x3, vi (H : Int), vi x5, vi (jk : Int), vi x7, t8, t9, t10], [], h', 0, 0) Q := by
  have last : ∀ (l e : Nat) (B : Nat → Nat → Int) (h' : s_H), e + l = H → RV h' s B → FR h h' → (∀ x, x ≠ 1317 → B x = A x) → B 1317 = fl (t47 (tc S H H 0) E e) → wr sw_P (d + 4) sw_c545 sw_h545 (252, [.index 1290, vi x1, vi (k : Int), vi x3, vi (H : Int), vi x5, vi (jk : Int), vi (e : Int), t8, t9, t10], [], h', 0, 0) Q := by
    intro l
    induction l with
    | zero =>
      intro e B h' he v r o g
      have eH : e = H := by omega
      subst eH
      refine k545_252 (fun _ => ?_) (fun w => absurd (by omega) w) (c1 := by unfold In3; omega) (c2 := by unfold In3; omega)
      refine k545_285 v.1 (wm_mono (wq_N (fun h3 s3 B3 v3 r3 φ => ?_)) (V_clearTable v g (H := e) (w := e) (by omega) (by omega)))
      obtain ⟨C, es3, m3, g3, a3⟩ := φ
      obtain ⟨own, sum⟩ := rr_sys (by omega) hS dE a3 ind
      have q3 : clq s s3 := ⟨_, _, es3⟩
      have m3' : sm A B3 [1302, 1317, 1318] := sm_tr (fun x hx => o x (fun w => by rw [w] at hx; exact absurd hx (by decide))) (sm_sub m3 rfl)
      refine k545_293 v3.1 (wm_mono (wq_Q (fun h4 v4 r4 => k545_300 ?_)) (V_empty v3 (c := 1302) rfl))
      have gather : ∀ (l c : Nat) (D : Nat → Nat → Int) (h5 : s_H), c + l = G k → RV h5 s3 D → FR h h5 → (∀ x, x ≠ 1302 → D x = B3 x) → D 1302 = cf (yps (fun i => C i 47) jk c) → wr sw_P (d + 4) sw_c545 sw_h545 (303, [.index 1290, vi x1, vi (k : Int), vi x3, vi (e : Int), vi x5, vi (jk : Int), vi (c : Int), t8, t9, t10], [], h5, 0, 0) Q := by
        intro l
        induction l with
        | zero =>
          intro c D h5 hc v5 r5 o5 g5
          have gG : gi (mk 41 (D 1314)) (k : Int) = (G k : Int) := by rw [gi_mkn (by omega), o5 1314 (by decide), m3' 1314 rfl, hG]
          have ec : c = G k := by omega
          refine k545_303 v5.1 (Ra_factorDegree v5) (fun _ => ?_) (fun w => absurd (by rw [gG]; omega) w) (c10 := by rw [mk_len]; omega) (c11 := by omega) (c12 := by unfold In3; omega) (c13 := by unfold In3; omega) (c14 := by rw [gG]; unfold In3; omega)
          exact N _ s3 D h5 _ _ _ _ v5 r5 q3 (sm_tr m3' (fun x hx => o5 x (fun w => by rw [w] at hx; exact absurd hx (by decide)))) sum (by rw [g5, ec])
        | succ l ih =>
          intro c D h5 hc v5 r5 o5 g5
          have gG : gi (mk 41 (D 1314)) (k : Int) = (G k : Int) := by rw [gi_mkn (by omega), o5 1314 (by decide), m3' 1314 rfl, hG]
          have gR : gi (mk 48 (D 1318)) ((jk : Int) + (c : Int)) = ((jk + c : Nat) : Int) := by
            rw [show (jk : Int) + (c : Int) = ((jk + c : Nat) : Int) by omega, gi_mkn (by omega), o5 1318 (by decide)]
            exact own (jk + c) (by omega)
          have gT := gi_fl ((o5 1317 (by decide)).trans g3) (n := jk + c) (i := 47) (by omega) (by omega) (x := 48 * ((jk + c : Nat) : Int) + 47) rfl
          refine k545_303 v5.1 (Ra_factorDegree v5) (fun w => absurd w (by rw [gG]; omega)) (fun _ => ?_) (c10 := by rw [mk_len]; omega) (c11 := by omega) (c12 := by unfold In3; omega) (c13 := by unfold In3; omega) (c14 := by rw [gG]; unfold In3; omega)
          refine k545_314 v5.1 (Ra_row v5) (Ra_table v5) (RV_l v5 (c := 1302) rfl) ?_ (c14 := by rw [mk_len]; omega) (c15 := by omega) (c16 := by unfold In3; omega) (c20 := by rw [gR, mk_len]; omega) (c21 := by rw [gR]; omega) (c22 := by rw [gR]; unfold In3; omega) (c26 := by rw [mk_len]; omega) (c27 := by omega) (c28 := by unfold In3; omega)
          rw [gR, gT, mk_set, g5, cf_pst (yps (fun i => C i 47) jk c) (n := c) (z := C (jk + c) 47) (t0 := Int.toNat (c : Int)) rfl rfl]
          have es := yps_s (fun i => C i 47) jk c
          have es' : pst (yps (fun i => C i 47) jk c) c (C (jk + c) 47) = yps (fun i => C i 47) jk (c + 1) := es
          rw [es']
          have := ih (c + 1) _ _ (by omega) (RV_w v5 (c := 1302) rfl (cf (yps (fun i => C i 47) jk (c + 1)))) (FR_trans r5 (FR_w v5 (c := 1302) rfl _)) (fun x hx => by rw [up_ne _ _ hx, o5 x hx]) (up_at _ _ _)
          exact this
      exact gather (G k) 0 _ h4 (Nat.zero_add _) v4 (FR_trans r (FR_trans r3 r4)) (fun x hx => up_ne _ _ hx) (by rw [up_at, yps_0])
    | succ l ih =>
      intro e B h' he v r o g
      have gq : B 1298 = cf E := (o 1298 (by decide)).trans hE
      refine k545_252 (fun w => absurd w (by omega)) (fun _ => ?_) (c1 := by unfold In3; omega) (c2 := by unfold In3; omega)
      refine k545_259 v.1 (RV_l v (c := 1298) rfl) (Ra_table v) ?_ (c12 := by rw [mk_len]; omega) (c13 := by omega) (c14 := by unfold In3; omega) (c18 := by rw [mk_len]; omega) (c19 := by omega) (c20 := by unfold In3; omega)
      have e5 := fl_put (t47 (tc S H H 0) E e) (n := e) (i := 47) (by omega) (E.1 e) (t0 := (48 * (e : Int) + 47).toNat) (by omega) (x := gi (mk 176 (B 1298)) (e : Int)) (by rw [gq, gi_mkn (by omega)]; rfl)
      rw [mk_set, g, e5, t47_put]
      exact ih (e + 1) _ _ (by omega) (RV_t v rfl) (FR_trans r (FR_t v _)) (fun x hx => by rw [up_ne _ _ hx, o x hx]) (up_at _ _ _)
  exact k545_249 (last H 0 A h' (Nat.zero_add _) hv rr0 (fun _ _ => rfl) (by rw [hT, t47_0]))
theorem V_part (hv : RV h s A) {T : Nat → th} (hR : RI s A T) {x k j : Int} (hx : In3 x) (hk : In3 k) (hj : In3 j) : wm sw_P (d + 9) 545 [.index 1290, vi x, vi k, vi j] h (RA h (fun v s' A' => ∃ res, unS (s 1) T (fun n => n = 0) x (prtF (s 1) k j) res ∧ endz s A T res v s' A')) := by
  refine wm_in (cd := sw_c545) (nL := 11) (hd := sw_h545) rfl rfl ?_
  have b0 := hR.1.1
  have kb : -2147483648 ≤ k ∧ k ≤ 2147483647 := by unfold In3 at hk; omega
  have jb : -2147483648 ≤ j ∧ j ≤ 2147483647 := by unfold In3 at hj; omega
  refine k545_0 hv.1 (wm_mono (wq_A (fun v1 h1 s1 A1 w1 r1 φ => ?_)) (V_isOf hv hR hx (k := 0) (by decide)))
  rcases φ with ⟨ev, e1, q, eA⟩ | ⟨ev, e1, q, f, ef, lf, kf, m1, g, _⟩
  · rw [ev]
    exact k545_6 (fun w => absurd rfl w) (fun _ => k545_9 ⟨vi 0, h1, s1, A1, w1, r1, ⟨.inr (one s T x 0), one_un q, endz_bad hR (sq_refl s) sm_refl rfl e1 eA⟩, rfl⟩)
  rw [ev]
  subst ef
  have xf : (f : Int).toNat = f := by omega
  obtain ⟨g98, g99⟩ := g (by decide)
  have hf := hR.2.2 f lf
  have q1 : sq s s1 := by rw [e1]; exact sq_up (sq_refl s) _ rfl
  have sp : ∀ res : Sum th Int, prtF (s 1) k j (T f) res → unS (s 1) T (fun n => n = 0) f (prtF (s 1) k j) res := fun res w => ⟨fun w2 => absurd ⟨by omega, lf⟩ w2, fun _ w2 => (w2 (by rw [xf]; exact kf)).elim, fun _ _ => by rw [xf]; exact w⟩
  refine k545_6 (fun _ => ?_) (fun w => absurd (by decide) w)
  rcases ef1 : T f with ⟨a, b⟩ | t
  rotate_left
  · rw [ef1] at kf
    rcases t with a | ⟨r, c, M⟩ | ⟨n, so, va⟩
    · exact (kdn kf rfl).elim
    · exact (kdn kf rfl).elim
    · exact (kdn kf rfl).elim
  rw [ef1] at hf sp
  obtain ⟨_, p1, p2, p3, p4⟩ := hf
  have d1 := deg_le (fr_deg p1) (show 41 ≤ 176 by decide)
  have d2 := deg_le (fr_deg p2) (show 41 ≤ 176 by decide)
  have hb0 := hi_ge d2 (mo_n0 p3)
  have bh := hi_lt (fr_deg p2) (Nat.le_refl _)
  have v2 := RV_fld w1 (up s1 26 0) (rF_26 s1 0)
  have r2 := FR_fld w1 (1, 11, (rF s1).set 26 (vi 0))
  -- when the factors are there
  have go : ∀ (n : Nat) (F : Nat → zp_R) (G O : Nat → Nat) (s3 : Nat → Int) (A3 : Nat → Nat → Int) (h3 : s_H), RV h3 s3 A3 → FR h h3 → sq s s3 → sm A A3 scrA → s3 26 = (n : Int) → n ≤ 40 → A3 1298 = cf a → A3 1299 = cf b → (b = zp_C 1 → n = 0) → (b ≠ zp_C 1 → facs b n F G O) → (∀ i, i < n → pt A3 1315 i = cf (F i) ∧ A3 1314 i = (G i : Int) ∧ A3 1316 i = (O i : Int) ∧ O i ≤ 176) → wr sw_P (d + 8) sw_c545 sw_h545 (34, [.index 1290, vi (f : Int), vi k, vi j, .result, .result, .result, .result, .result, .result, .result], [], h3, 0, 0) (RA h (fun v s' A' => ∃ res, unS (s 1) T (fun n => n = 0) f (prtF (s 1) k j) res ∧ endz s A T res v s' A')) := by
    intro n F G O s3 A3 h3 v3 r3 q3 m3 e26 n40 ha hb nb fb fr
    have bad : ¬ ((0 ≤ k ∧ k < (n : Int)) ∧ 1 ≤ j ∧ j ≤ (O k.toNat : Int)) → wr sw_P (d + 8) sw_c545 sw_h545 (66, [.index 1290, vi (f : Int), vi k, vi j, .result, .result, .result, .result, .result, .result, .result], [], h3, 0, 0) (RA h (fun v s' A' => ∃ res, unS (s 1) T (fun n => n = 0) f (prtF (s 1) k j) res ∧ endz s A T res v s' A')) := fun w => by
      refine k545_66 v3.1 (wm_mono (wq_A (fun v4 h4 s4 A4 w4 r4 φ => ?_)) (V_raise v3))
      obtain ⟨y1, y2, y3⟩ := φ
      rw [y1]
      exact k545_71 ⟨vi 0, h4, s4, A4, w4, FR_trans r3 r4, ⟨.inr 1, sp _ ⟨n, F, G, O, nb, fb, fun _ => rfl, fun w2 => absurd w2 w⟩, endz_bad hR q3 m3 rfl y2 y3⟩, rfl⟩
    refine k545_34 (z6 := (n : Int)) v3.1 (wm_mono (wq_r ?_) (t_in (in6_of (by omega) (by omega)) (by decide) (in6_of (by omega) (by omega)))) (n7 := by
      show some (vi (s3 26)) = _
      rw [e26]) (c1 := hk) (c8 := by unfold In3; omega)
    by_cases w : 0 ≤ k ∧ k ≤ (n : Int) - 1
    rotate_left
    · rw [if_neg w]
      exact k545_47 (fun _ => bad (fun w2 => w ⟨w2.1.1, by omega⟩)) (fun w2 => absurd rfl w2) (c1 := by decide)
    rw [if_pos w]
    obtain ⟨k', ek⟩ : ∃ k' : Nat, k = k' := ⟨k.toNat, by omega⟩
    subst ek
    have kk : (k' : Int).toNat = k' := by omega
    have kn : k' < n := by omega
    obtain ⟨f1, f2, f3, f4⟩ := fr k' kn
    have gO : gi (mk 41 (A3 1316)) (k' : Int) = (O k' : Int) := by rw [gi_mkn (by omega), f3]
    refine k545_47 (fun w2 => absurd w2 (by decide)) (fun _ => ?_) (c1 := by decide)
    refine k545_50 v3.1 (Ra_factorOften v3) (wm_mono (wq_r ?_) (t_in (in6_of (by omega) (by omega)) (by decide) (by rw [gO]; exact in6_of (by omega) (by omega)))) (c1 := hj) (c11 := by rw [mk_len]; omega) (c12 := by omega) (c13 := by unfold In3; omega) (c14 := by rw [gO]; unfold In3; omega)
    rw [gO]
    by_cases w2 : 1 ≤ j ∧ j ≤ (O k' : Int)
    rotate_left
    · rw [if_neg w2]
      exact k545_63 (fun w3 => absurd rfl w3) (fun _ => bad (fun w3 => w2 (by rw [kk] at w3; exact w3.2))) (c1 := by decide)
    rw [if_pos w2]
    obtain ⟨j', ej⟩ : ∃ j' : Nat, j = (j' : Int) + 1 := ⟨(j - 1).toNat, by omega⟩
    subst ej
    have jj : ((j' : Int) + 1).toNat - 1 = j' := by omega
    have b1 : b ≠ zp_C 1 := fun w3 => by have := nb w3; omega
    have fab := fb b1
    refine k545_63 (fun _ => ?_) (fun w3 => absurd (by decide) w3) (c1 := by decide)
    refine k545_72 v3.1 (wm_mono (wq_N (fun h4 s4 A4 v4 r4 φ => ?_)) (V_splitTop v3 ha hb d1 d2 hb0))
    obtain ⟨e4, Q, Rm, x1, x2, x3, x4, x5⟩ := φ
    subst e4
    have c98 : A4 1298 = cf Rm := by rw [x5, up_ne _ _ (by decide), up_at]
    have c99 : A4 1299 = cf b := by rw [x5, up_ne _ _ (by decide), up_ne _ _ (by decide), up_ne _ _ (by decide), hb]
    have m4 : sm A A4 scrA := by rw [x5]; exact sm_up (sm_up (sm_up m3 _ rfl) _ rfl) _ rfl
    refine k545_76 v4.1 (wm_mono (wq_r ?_) (V_high v4 (c := 1299) rfl c99))
    obtain ⟨H, eH⟩ : ∃ H : Nat, hi b = H := ⟨(hi b).toNat, by omega⟩
    have mb := mo_hi p3 d2
    rw [eH] at mb
    have mbH : mon b H := ⟨mb.2.1, mb.2.2⟩
    have H1 : 1 ≤ H := by
      rcases Nat.eq_zero_or_pos H with w3 | w3
      · rw [w3] at mbH; exact absurd (mon_0 mbH) b1
      · exact w3
    have eHn : (hi b).toNat = H := by omega
    rw [eHn] at x2
    rw [eH]
    refine k545_83 v4.1 (wm_mono (wq_Q (fun h5 v5 r5 => ?_)) (V_emptyTable v4))
    obtain ⟨U, hU⟩ := pfs_ex fab
    have cd := facs_deg mbH fab
    have cle := cbs_le G O (show k' + 1 ≤ n from kn)
    have cs : cbs G O (k' + 1) = cbs G O k' + O k' * G k' := rfl
    have jl : (j' + 1) * G k' ≤ O k' * G k' := Nat.mul_le_mul_right _ (by omega)
    have js : (j' + 1) * G k' = j' * G k' + G k' := Nat.succ_mul j' (G k')
    -- the columns have small degrees
    have dS : ∀ c, c < H → zp_deg (scol G O U n c) H := fun c hc => by
      obtain ⟨i, i1, m, m1', c', c1', ec⟩ := cbs_at n c (by rw [cd]; exact hc)
      rw [ec, scol_at m1' c1' n i1]
      obtain ⟨hF, Fb, mFi, of⟩ := fab.1 i i1
      have mP : ∀ e, mon (zp_npow (F i) e) (e * G i) := fun e => by
        induction e with
        | zero => rw [Nat.zero_mul]; exact mon_C1
        | succ e ih => rw [npow_s, Nat.succ_mul]; exact mon_mul ih mFi
      obtain ⟨le1, mU⟩ := mon_quo (mP (m + 1)) mbH (hU i i1 m m1')
      have sm1 : (m + 1) * G i = m * G i + G i := Nat.succ_mul m (G i)
      have := zp_deg_mul (zp_T_deg 1 c') mU.2
      exact deg_le this (by omega)
    refine k545_89 ?_
    have fr5 : ∀ i, i < n → pt (up A4 1317 (fl (fun _ _ => 0))) 1315 i = cf (F i) ∧ up A4 1317 (fl (fun _ _ => 0)) 1314 i = (G i : Int) ∧ up A4 1317 (fl (fun _ _ => 0)) 1316 i = (O i : Int) ∧ O i ≤ 176 := fun i hi2 => by
      obtain ⟨y1, y2, y3, y4⟩ := fr i hi2
      refine ⟨?_, ?_, ?_, y4⟩
      · rw [← y1]
        unfold pt
        rw [up_ne _ _ (by decide), x5, up_ne _ _ (by decide), up_ne _ _ (by decide), up_ne _ _ (by decide)]
      · rw [up_ne _ _ (by decide), x5, up_ne _ _ (by decide), up_ne _ _ (by decide), up_ne _ _ (by decide), y2]
      · rw [up_ne _ _ (by decide), x5, up_ne _ _ (by decide), up_ne _ _ (by decide), up_ne _ _ (by decide), y3]
    refine W_cols (d := d + 4) (h := h) (s := s4) (A := up A4 1317 (fl (fun _ _ => 0))) (b := b) (H := H) (n := n) mbH H1 (by omega) n40 fab hU fr5 (by rw [up_ne _ _ (by decide)]; exact c99) e26 (k := k') (j := j') (jk := cbs G O k' + j' * G k') kn (by omega) rfl (fun D h6 x7 t8 t9 t10 v6 r6 m6 g6 => ?_) n 0 (up A4 1317 (fl (fun _ _ => 0))) h5 0 .result .result .result (Nat.zero_add n) v5 (FR_trans r3 (FR_trans r4 r5)) sm_refl (by rw [up_at]; show _ = fl (tc (scol G O U n) H 0 0); rw [tc_0]) (fun w3 => absurd w3 (Nat.not_lt_zero _))
    refine W_read (d := d + 4) (h := h) (s := s4) (A := D) (H := H) (n := n) (S := scol G O U n) (E := Rm) (G := G) (k := k') H1 (by omega) (by omega) dS x2 (by rw [m6 1298 rfl, up_ne _ _ (by decide)]; exact c98) (fun y hy z => by
      have := pf_cols p3 fab hU (S := scol G O U n) (fun i i1 m m1' c c1' => scol_at m1' c1' n i1) y (by rw [cd]; exact z)
      rw [cd] at this
      exact this) (by rw [m6 1314 rfl]; exact (fr5 k' kn).2.1) (jk := cbs G O k' + j' * G k') (by omega) (fun y s7 D7 h7 x7' t8 t9 t10 v7 r7 q7 m7 sum g7 => ?_) g6 v6 r6
    have q7' : sq s s7 := sq_tr q3 (sq_cl q7)
    have m7' : sm A D7 scrA := sm_tr m4 (sm_tr (sm_up sm_refl _ rfl) (sm_tr (sm_sub m6 rfl) (sm_sub m7 rfl)))
    refine k545_348 v7.1 (wm_mono (wq_Q (fun h8 v8 r8 => ?_)) (V_become v7 (c := 1303) rfl (z := 1) (by decide)))
    rw [nF_1] at v8
    have dN : zp_deg (yps y (cbs G O k' + j' * G k') (G k')) 176 := deg_le (yps_deg _ _ _) (by omega)
    refine k545_356 v8.1 (wm_mono (wq_A (fun v9 h9 s9 A9 w9 r9 φ => ?_)) (V_keep v8 (by rw [sq_1 q7']; exact b0) (N := yps y (cbs G O k' + j' * G k') (G k')) (D := zp_C 1) (by rw [up_ne _ _ (by decide)]; exact g7) (up_at _ _ _)))
    obtain ⟨res, z1, z3⟩ := endz_keeps hR q7' (sm_up m7' _ rfl) dN φ
    obtain ⟨u, eu⟩ := endz_vi z3
    subst eu
    rw [← cd, sum_fc (D := G) (O := O) (U := U) n (fun i i1 m m1' c c1' => scol_at m1' c1' n i1)] at sum
    refine k545_361 ⟨_, h9, s9, A9, w9, FR_trans r7 (FR_trans r8 r9), ⟨res, sp res ⟨n, F, G, O, nb, fb, fun w3 => absurd ⟨⟨by omega, by omega⟩, by rw [kk]; exact w2⟩ w3, fun _ => ⟨Q, Rm, U, fun i m => yps y (cbs G O i + m * G i) (G i), x1, by rw [eHn]; exact x2, hU, fun i _ m _ => yps_deg _ _ _, sum, ?_⟩⟩, z3⟩, rfl⟩
    rw [kk, jj]
    exact z1
  refine k545_11 w1.1 v2.1 (wm_mono (wq_r ?_) (V_isOne v2 (c := 1299) rfl (g99.trans p2)))
  by_cases q2 : hi b = 0 ∧ cf b 0 = 1
  · rw [if_pos q2]
    have eb : b = zp_C 1 := mo_1 p3 d2 (by omega)
    refine k545_23 (fun _ => ?_) (fun w => absurd (by decide) w) (c1 := by decide)
    exact go 0 (fun _ => zp_C 0) (fun _ => 0) (fun _ => 0) _ A1 _ v2 (FR_trans r1 r2) (sq_up q1 _ rfl) (scr_A m1) (up_at _ _ _) (by decide) (g98.trans p1) (g99.trans p2) (fun _ => rfl) (fun w => absurd eb w) (fun i hi2 => absurd hi2 (Nat.not_lt_zero i))
  · rw [if_neg q2]
    refine k545_23 (fun w => absurd rfl w) (fun _ => ?_) (c1 := by decide)
    refine k545_26 v2.1 (wm_mono (wq_N (fun h3 s3 A3 v3 r3 φ => ?_)) (V_findFactors v2 (p := 1299) rfl (.inr rfl) (g99.trans p2) (fr_deg p2)))
    obtain ⟨q3, m3, n, F, G, O, n40, e26, ff⟩ := φ
    have b1 : b ≠ zp_C 1 := fun w => q2 (by
      rw [w]
      exact ⟨hi_mo (n := 0) rfl (zp_C_deg 1) (deg_le (zp_C_deg 1) (by decide)), rfl⟩)
    have h1' : 1 ≤ hi b := Int.not_lt.mp (fun w => b1 (mo_1 p3 d2 (by omega)))
    exact go n F G O s3 A3 h3 v3 (FR_trans r1 (FR_trans r2 r3)) (sq_tr (sq_up q1 _ rfl) (ffq_sq q3)) (sm_tr (scr_A m1) (ffL_A m3)) e26 n40 ((m3 1298 rfl).trans (g98.trans p1)) ((m3 1299 rfl).trans (g99.trans p2)) (fun w => absurd w b1) (fun _ => ff.1.2 h1') ff.2
end
