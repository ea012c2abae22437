/-! the reference's tables of rules: makeOfPower, clearRule, answers -/
/-- the letter to the power c, moved or sloped i times -/
def mop (w : Int) (c : Nat) : Nat → zp_R
  | 0 => pst (zp_C 0) c 1
  | i + 1 => if w = 0 then mvf (mop w c i) 1 else zp_D (mop w c i)
/-- what the first i of a rule make of it -/
def mos (w : Int) (M : Nat → zp_R) (c : Nat) : Nat → zp_R
  | 0 => zp_C 0
  | i + 1 => zp_add (mos w M c i) (zp_mul (M i) (mop w c i))
theorem mop_dg (w : Int) {c : Nat} (hc : c < 100) : ∀ i, zp_deg (mop w c i) (c + 1)
  | 0 => pst_deg 1 (fun i _ => zp_C00 i) (Nat.lt_succ_self c)
  | i + 1 => by
    show zp_deg (if w = 0 then mvf (mop w c i) 1 else zp_D (mop w c i)) (c + 1)
    split
    · exact mvf_dg 1 (mop_dg w hc i) (by omega)
    · exact deg_le (D_dg (mop_dg w hc i)) (Nat.le_succ c)
theorem mos_dg (w : Int) {M : Nat → zp_R} {c L : Nat} (hc : c < 100) (dM : ∀ i, i < L → zp_deg (M i) 11) : ∀ i, i ≤ L → zp_deg (mos w M c i) (c + 11)
  | 0, _ => deg_le (zp_C_deg 0) (by omega)
  | i + 1, h => deg_add (mos_dg w hc dM i (by omega)) (deg_le (zp_deg_mul (n := 10) (m := c) (dM i (by omega)) (mop_dg w hc i)) (by omega))
/-- D as column 47, its first n numbers -/
def t47 (N : Nat → Nat → zp_F) (D : zp_R) (n : Nat) : Nat → Nat → zp_F := fun r c => if c = 47 ∧ r < n then D.1 r else N r c
theorem t47_put {N : Nat → Nat → zp_F} {D : zp_R} {n : Nat} : put1 (t47 N D n) n 47 (D.1 n) = t47 N D (n + 1) := by
  funext r c
  unfold put1 t47
  by_cases h1 : r = n ∧ c = 47
  · rw [if_pos h1, if_pos (show c = 47 ∧ r < n + 1 by omega), h1.1]
  · rw [if_neg h1]
    by_cases h2 : c = 47 ∧ r < n
    · rw [if_pos h2, if_pos (show c = 47 ∧ r < n + 1 by omega)]
    · rw [if_neg h2, if_neg (show ¬ (c = 47 ∧ r < n + 1) by omega)]
theorem t47_0 (N : Nat → Nat → zp_F) (D : zp_R) : t47 N D 0 = N := by
  funext r c
  unfold t47
  rw [if_neg (by omega)]
/-- a rule's table: a column for each power up to 20, what is due in column 47 -/
def rtb (M : Nat → zp_R) (L : Nat) (w : Int) (D : zp_R) : Nat → Nat → zp_F := t47 (tc (fun c => mos w M c L) 41 21 0) D 41
/-- how many answers a rule has -/
def ansF (w : Int) (t : th) (v : Int) : Prop := match t with
  | .inr (.inr (.inl (_, L, M))) => ∃ B R, rr (rtb (M 0) L w (zp_C 0)) B 41 21 R ∧ v = 21 - (pc R 21 : Int)
  | _ => True
def ansS (cnt : Int) (T : Nat → th) (x w : Int) (c v : Int) : Prop := rfS cnt T x w c ∧ (c ≠ 0 → v = 0) ∧ (c = 0 → ansF w (T x.toNat) v)
def scrR : List Nat := [1304, 1308, 1309, 1310, 1311, 1317, 1318]
section
variable {d : Nat} {h : s_H} {s : Nat → Int} {A : Nat → Nat → Int}
theorem V_makeOfPower (hv : RV h s A) {f L : Nat} {M : Nat → zp_R} (hf : f < 150) (hL : 1 ≤ L ∧ L ≤ 4) (h0 : row0 A f L M) {w : Int} (iw : In3 w) {c : Nat} (hc : c < 21) : wm sw_P (d + 4) 522 [.index 1290, vi (f : Int), vi w, vi (c : Int)] h (RN h (fun s' A' => s' = s ∧ sm A A' [1304, 1308, 1309, 1310, 1311] ∧ A' 1310 = cf (mos w M c L))) := by
  refine wm_in (cd := sw_c522) (nL := 5) (hd := sw_h522) rfl rfl ?_
  refine k522_0 hv.1 (wm_mono (wq_Q (fun h1 v1 r1 => ?_)) (V_empty hv (c := 1310) rfl))
  refine k522_7 v1.1 (wm_mono (wq_Q (fun h2 v2 r2 => ?_)) (V_become v1 (c := 1309) rfl (z := 0) (by decide)))
  rw [nF_0] at v2
  refine k522_15 v2.1 (RV_l v2 (c := 1309) rfl) ?_ (c10 := by rw [mk_len]; omega) (c11 := by omega) (c12 := by unfold In3; omega)
  rw [mk_set, up_at, cf_pst (zp_C 0) (n := c) (z := 1) (t0 := (c : Int).toNat) (x := 1) (by omega) rfl]
  have v3 := RV_w v2 (c := 1309) rfl (cf (pst (zp_C 0) c 1))
  have loop : ∀ (l i : Nat) (B : Nat → Nat → Int) (h' : s_H), i + l = L → RV h' s B → FR h h' → sm A B [1304, 1308, 1309, 1310, 1311] → B 1309 = cf (mop w c i) → B 1310 = cf (mos w M c i) → wr sw_P (d + 3) sw_c522 sw_h522 (25, [.index 1290, vi (f : Int), vi w, vi (c : Int), vi (i : Int)], [], h', 0, 0) (RN h (fun s' A' => s' = s ∧ sm A A' [1304, 1308, 1309, 1310, 1311] ∧ A' 1310 = cf (mos w M c L))) := by
    intro l
    induction l with
    | zero =>
      intro i B h' hi2 v r m gt gu
      have iL : i = L := by omega
      subst iL
      have q0 := row0_sm h0 (sm_sub (M := scr) m rfl)
      have g1 : gi (mk 150 (B 1295)) (f : Int) = (i : Int) := by rw [gi_mkn hf]; exact q0.1
      exact k522_25 v.1 (Ra_columns v) (fun _ => k522_115 ⟨h', s, B, v, r, ⟨rfl, m, gu⟩, rfl⟩) (fun w => absurd w (by rw [g1]; omega)) (c10 := by rw [mk_len]; omega) (c11 := by omega) (c12 := by unfold In3; omega) (c13 := by unfold In3; omega) (c14 := by rw [g1]; unfold In3; omega)
    | succ l ih =>
      intro i B h' hi2 v r m gt gu
      have q0 := row0_sm h0 (sm_sub (M := scr) m rfl)
      have g1 : gi (mk 150 (B 1295)) (f : Int) = (L : Int) := by rw [gi_mkn hf]; exact q0.1
      refine k522_25 v.1 (Ra_columns v) (fun w => absurd w (by rw [g1]; omega)) (fun _ => ?_) (c10 := by rw [mk_len]; omega) (c11 := by omega) (c12 := by unfold In3; omega) (c13 := by unfold In3; omega) (c14 := by rw [g1]; unfold In3; omega)
      refine k522_36 v.1 (wm_mono (wq_Q (fun h5 v5 r5 => ?_)) (V_loadEntry v (p := 1308) rfl (m := f) (i := 0) (j := i) hf (by omega) (by omega) q0.2.2))
      rw [q0.2.1 i (by omega)] at v5
      refine k522_48 v5.1 (wm_mono (wq_Q (fun h6 v6 r6 => ?_)) (V_multiply v5 (p := 1308) (q := 1309) rfl rfl (by decide) (by decide) (f := M i) (g := mop w c i) (up_at _ _ _) (by rw [up_ne _ _ (by decide), gt])))
      refine k522_60 v6.1 (wm_mono (wq_Q (fun h7 v7 r7 => ?_)) (V_more v6 (c := 1310) (e := 1304) rfl rfl (by decide) (f := mos w M c i) (g := zp_mul (M i) (mop w c i)) (by rw [up_ne _ _ (by decide), up_ne _ _ (by decide), gu]) (up_at _ _ _) (z := 1) (by decide)))
      rw [nF_1, mul1] at v7
      have m7 : sm A (up (up (up B 1308 (cf (M i))) 1304 (cf (zp_mul (M i) (mop w c i)))) 1310 (cf (zp_add (mos w M c i) (zp_mul (M i) (mop w c i))))) [1304, 1308, 1309, 1310, 1311] := sm_up (sm_up (sm_up m _ rfl) _ rfl) _ rfl
      have r7' := FR_trans r (FR_trans r5 (FR_trans r6 r7))
      have dm := deg_le (mop_dg w (c := c) (by omega) i) (show c + 1 ≤ 176 by omega)
      have g9 : up (up (up B 1308 (cf (M i))) 1304 (cf (zp_mul (M i) (mop w c i)))) 1310 (cf (zp_add (mos w M c i) (zp_mul (M i) (mop w c i)))) 1309 = cf (mop w c i) := by (repeat rw [up_ne _ _ (by decide)]); rw [gt]
      have ge : mop w c (i + 1) = if w = 0 then mvf (mop w c i) 1 else zp_D (mop w c i) := rfl
      refine k522_72 (fun w0 => ?_) (fun w0 => ?_) (c1 := iw)
      · rw [if_neg w0] at ge
        refine k522_87 v7.1 (wm_mono (wq_Q (fun h8 v8 r8 => ?_)) (V_slope v7 (c := 1311) (e := 1309) rfl rfl (by decide) g9 dm))
        refine k522_98 v8.1 (wm_mono (wq_Q (fun h9 v9 r9 => ?_)) (V_copy v8 (c := 1309) (e := 1311) rfl rfl (by decide)))
        refine k522_109 (ih (i + 1) _ _ (by omega) v9 (FR_trans r7' (FR_trans r8 r9)) (sm_up (sm_up m7 _ rfl) _ rfl) (by rw [up_at, up_at, ge]) ?_)
        rw [up_ne _ _ (by decide), up_ne _ _ (by decide), up_at]; rfl
      · rw [if_pos (Decidable.byContradiction w0)] at ge
        refine k522_76 v7.1 (wm_mono (wq_Q (fun h8 v8 r8 => ?_)) (V_move v7 (t := 1309) rfl g9 dm (z := 1) (by decide)))
        rw [nF_1] at v8
        refine k522_84 (k522_109 (ih (i + 1) _ _ (by omega) v8 (FR_trans r7' r8) (sm_up m7 _ rfl) (by rw [up_at, ge]) ?_))
        rw [up_ne _ _ (by decide), up_at]; rfl
  refine loop L 0 _ _ (by omega) v3 (FR_trans r1 (FR_trans r2 (FR_w v2 (c := 1309) rfl _))) (sm_up (sm_up (sm_up sm_refl _ rfl) _ rfl) _ rfl) (up_at _ _ _) ?_
  rw [up_ne _ _ (by decide), up_ne _ _ (by decide), up_at]; rfl
/-- the table of a rule, cleared -/
def clR (s : Nat → Int) (A : Nat → Nat → Int) (N : Nat → Nat → zp_F) : (Nat → Int) → (Nat → Nat → Int) → Prop := fun s' A' => ∃ B, s' = up (up s 32 (21 - pc (A' 1318) 21)) 37 (pc (A' 1318) 21) ∧ sm A A' scrR ∧ A' 1317 = fl B ∧ rr N B 41 21 (A' 1318)
theorem V_clearRule (hv : RV h s A) {f L : Nat} {M : Nat → zp_R} (hf : f < 150) (hL : 1 ≤ L ∧ L ≤ 4) (h0 : row0 A f L M) {w : Int} (iw : In3 w) {q : Nat} (hq : P9 q = true) (hq2 : scrR.contains q = false) {D : zp_R} (hD : A q = cf D) : wm sw_P (d + 5) 416 [.index 1290, vi (f : Int), vi w, .index q] h (RN h (clR s A (rtb M L w D))) := by
  refine wm_in (cd := sw_c416) (nL := 6) (hd := sw_h416) rfl rfl ?_
  refine k416_0 hv.1 (wm_mono (wq_Q (fun h1 v1 r1 => ?_)) (V_emptyTable hv))
  refine k416_4 ?_
  have dM : ∀ i, i < L → zp_deg (M i) 11 := fun i hi2 => me_deg (h0.2.1 i hi2)
  have qk : ∀ {B : Nat → Nat → Int}, sm A B scrR → B q = cf D := fun m => (m q hq2).trans hD
  -- column 47
  have last : ∀ (l e : Nat) (B : Nat → Nat → Int) (h' : s_H) (t5 : Term), e + l = 41 → RV h' s B → FR h h' → sm A B scrR → B 1317 = fl (t47 (tc (fun c => mos w M c L) 41 21 0) D e) → wr sw_P (d + 4) sw_c416 sw_h416 (67, [.index 1290, vi (f : Int), vi w, .index q, vi (e : Int), t5], [], h', 0, 0) (RN h (clR s A (rtb M L w D))) := by
    intro l
    induction l with
    | zero =>
      intro e B h' t5 he v r m g
      have e41 : e = 41 := by omega
      subst e41
      refine k416_67 (fun _ => ?_) (fun w => absurd w (by omega))
      refine k416_97 v.1 (wm_mono (wq_N (fun h2 s2 A2 v2 r2 φ => ?_)) (V_clearTable v g (H := 41) (w := 21) (by omega) (by omega)))
      obtain ⟨B2, es, m2, g2, a2⟩ := φ
      exact k416_105 ⟨h2, s2, A2, v2, FR_trans r r2, ⟨B2, es, sm_tr m (sm_sub m2 rfl), g2, a2⟩, rfl⟩
    | succ l ih =>
      intro e B h' t5 he v r m g
      have gq := qk m
      refine k416_67 (fun w => absurd w (by omega)) (fun _ => ?_)
      refine k416_74 v.1 (RV_l v hq) (Ra_table v) ?_ (c11 := by rw [mk_len]; omega) (c12 := by omega) (c13 := by unfold In3; omega) (c17 := by rw [mk_len]; omega) (c18 := by omega) (c19 := by unfold In3; omega)
      have e5 := fl_put (t47 (tc (fun c => mos w M c L) 41 21 0) D e) (n := e) (i := 47) (by omega) (D.1 e) (t0 := (48 * (e : Int) + 47).toNat) (by omega) (x := gi (mk 176 (B q)) (e : Int)) (by rw [gq, gi_mkn (by omega)]; rfl)
      rw [mk_set, g, e5, t47_put]
      exact ih (e + 1) _ _ _ (by omega) (RV_t v rfl) (FR_trans r (FR_t v _)) (sm_up m _ rfl) (up_at _ _ _)
  have tab : ∀ (l k : Nat) (B : Nat → Nat → Int) (h' : s_H) (t5 : Term), k + l = 21 → RV h' s B → FR h h' → sm A B scrR → B 1317 = fl (tc (fun c => mos w M c L) 41 k 0) → wr sw_P (d + 4) sw_c416 sw_h416 (7, [.index 1290, vi (f : Int), vi w, .index q, vi (k : Int), t5], [], h', 0, 0) (RN h (clR s A (rtb M L w D))) := by
    intro l
    induction l with
    | zero =>
      intro k B h' t5 hk v r m g
      have k21 : k = 21 := by omega
      subst k21
      refine k416_7 (fun _ => k416_64 ?_) (fun w => absurd w (by omega))
      exact last 41 0 B h' _ (by omega) v r m (by rw [g, t47_0])
    | succ l ih =>
      intro k B h' t5 hk v r m g
      have q0 : row0 B f L M := by
        obtain ⟨y1, y2, y3⟩ := h0
        refine ⟨by rw [m 1295 rfl]; exact y1, fun i hi2 => ?_, by rw [m 1296 rfl]; exact y3⟩
        rw [← y2 i hi2]
        unfold me
        rw [m 1296 rfl]
      refine k416_7 (fun w => absurd w (by omega)) (fun _ => ?_)
      refine k416_14 v.1 (wm_mono (wq_N (fun h2 s2 A2 v2 r2 φ => ?_)) (V_makeOfPower v hf hL q0 iw (c := k) (by omega)))
      obtain ⟨es, m2, g2⟩ := φ
      rw [es] at v2
      refine k416_22 ?_
      have inner : ∀ (l2 e : Nat) (C : Nat → Nat → Int) (h3 : s_H), e + l2 = 41 → RV h3 s C → FR h h3 → (∀ x, x ≠ 1317 → C x = A2 x) → C 1317 = fl (tc (fun c => mos w M c L) 41 k e) → wr sw_P (d + 4) sw_c416 sw_h416 (25, [.index 1290, vi (f : Int), vi w, .index q, vi (k : Int), vi (e : Int)], [], h3, 0, 0) (RN h (clR s A (rtb M L w D))) := by
        intro l2
        induction l2 with
        | zero =>
          intro e C h3 he v3 r3 o3 g3
          have e41 : e = 41 := by omega
          subst e41
          refine k416_25 (fun _ => k416_58 ?_) (fun w => absurd w (by omega))
          refine ih (k + 1) C h3 _ (by omega) v3 r3 (sm_tr (sm_tr m (sm_sub m2 rfl)) (fun j hj => o3 j (fun w => by rw [w] at hj; exact absurd hj (by decide)))) ?_
          rw [g3, tc_s]
        | succ l2 ih2 =>
          intro e C h3 he v3 r3 o3 g3
          refine k416_25 (fun w => absurd w (by omega)) (fun _ => ?_)
          have gu : C 1310 = cf (mos w M k L) := (o3 1310 (by decide)).trans g2
          refine k416_32 v3.1 (RV_l v3 (c := 1310) rfl) (Ra_table v3) ?_ (c12 := by rw [mk_len]; omega) (c13 := by omega) (c14 := by unfold In3; omega) (c18 := by rw [mk_len]; omega) (c19 := by omega) (c20 := by unfold In3; omega)
          have e5 := fl_put (tc (fun c => mos w M c L) 41 k e) (n := e) (i := k) (by omega) ((mos w M k L).1 e) (t0 := (48 * (e : Int) + k).toNat) (by omega) (x := gi (mk 176 (C 1310)) (e : Int)) (by rw [gu, gi_mkn (by omega)]; rfl)
          rw [mk_set, g3, e5, tc_put (S := fun c => mos w M c L) (show e < 41 by omega)]
          exact ih2 (e + 1) _ _ (by omega) (RV_t v3 rfl) (FR_trans r3 (FR_t v3 _)) (fun x hx => by rw [up_ne _ _ hx, o3 x hx]) (up_at _ _ _)
      exact inner 41 0 A2 h2 rfl v2 (FR_trans r r2) (fun _ _ => rfl) (by rw [m2 1317 rfl, g])
  exact tab 21 0 _ h1 _ rfl v1 r1 (sm_up sm_refl _ rfl) (by rw [up_at, tc_0])
theorem V_answers (hv : RV h s A) {T : Nat → th} (hR : RI s A T) {x w : Int} (hx : In3 x) (hw : In3 w) : wm sw_P (d + 6) 398 [.index 1290, vi x, vi w] h (RA h (fun v s' A' => ∃ c a, ansS (s 1) T x w c a ∧ v = vi a ∧ s' 0 = c ∧ sq s s' ∧ sm A A' scrA ∧ RI s' A' T)) := by
  refine wm_in (cd := sw_c398) (nL := 3) (hd := sw_h398) rfl rfl ?_
  have b0 := hR.1.1
  refine k398_0 hv.1 (wm_mono (wq_A (fun v1 h1 s1 A1 w1 r1 φ => ?_)) (V_isRuleFor hv hR hx hw))
  obtain ⟨m1, c, hc, e1, q⟩ := φ
  have q1 : sq s s1 := by rw [e1]; exact sq_up (sq_refl s) _ rfl
  have m1' : sm A A1 scrA := sm_sub m1 rfl
  rcases q with ⟨c0, ev⟩ | ⟨c0, ev, q3, f, L, M, ef, lf, tf, nM⟩
  · rw [ev]
    refine k398_6 (fun w => absurd rfl w) (fun _ => k398_9 ⟨vi 0, h1, s1, A1, w1, r1, ⟨c, 0, ⟨hc, fun _ => rfl, fun w => absurd w c0⟩, rfl, by rw [e1, up_at], q1, m1', RI_a hR m1' q1⟩, rfl⟩)
  · rw [ev]
    subst ef
    have xf : (f : Int).toNat = f := by omega
    have R1 : RI s1 A1 T := RI_a hR m1' q1
    have hf1 := R1.2.2 f (by rw [sq_1 q1]; exact lf)
    rw [tf] at hf1
    obtain ⟨q0, hL⟩ := row0_T hf1 (RI_me R1)
    refine k398_6 (fun _ => ?_) (fun w => absurd (by decide) w)
    refine k398_11 w1.1 (wm_mono (wq_Q (fun h2 w2 r2 => ?_)) (V_empty w1 (c := 1312) rfl))
    have q0' := row0_sm q0 (B := up A1 1312 (cf (zp_C 0))) (sm_up sm_refl _ rfl)
    refine k398_18 w2.1 (wm_mono (wq_N (fun h3 s3 A3 w3 r3 φ => ?_)) (V_clearRule w2 (f := f) (by omega) hL q0' hw (q := 1312) rfl rfl (up_at _ _ _)))
    obtain ⟨B, es, m3, g3, a3⟩ := φ
    have q3' : sq s s3 := by rw [es]; exact sq_up (sq_up q1 _ rfl) _ rfl
    have m3' : sm A A3 scrA := sm_tr (sm_up m1' _ rfl) (sm_sub m3 rfl)
    have ef : s3 32 = 21 - (pc (A3 1318) 21 : Int) := by rw [es, up_ne _ _ (by decide), up_at]
    have pb := pc_b (A3 1318) 21
    have e0 : s3 0 = c := by rw [es, up_ne _ _ (by decide), up_ne _ _ (by decide), e1, up_at]
    refine k398_28 (z5 := s3 32) w3.1 ⟨_, h3, s3, A3, w3, FR_trans r1 (FR_trans r2 r3), ⟨c, s3 32, ⟨hc, fun w => absurd c0 w, fun _ => ?_⟩, rfl, e0, q3', m3', RI_a hR m3' q3'⟩, rfl⟩
    rw [xf, tf]
    exact ⟨B, A3 1318, a3, ef⟩
end
