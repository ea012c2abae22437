/-! the reference's guess in the picture -/
/-- rows ahead of r, and of row r the first e places, of G -/
def prt (G : Nat → Nat → zp_F) (r e : Nat) : Nat → Nat → zp_F := fun a b => if a < r ∨ (a = r ∧ b < e) then G a b else 0
theorem prt_put {G : Nat → Nat → zp_F} {r e : Nat} : put1 (prt G r e) r e (G r e) = prt G r (e + 1) := by
  funext a b
  unfold put1 prt
  by_cases h1 : a = r ∧ b = e
  · rw [if_pos h1, if_pos (show a < r ∨ (a = r ∧ b < e + 1) by omega), h1.1, h1.2]
  · rw [if_neg h1]
    by_cases h2 : a < r ∨ (a = r ∧ b < e)
    · rw [if_pos h2, if_pos (show a < r ∨ (a = r ∧ b < e + 1) by omega)]
    · rw [if_neg h2, if_neg (show ¬ (a < r ∨ (a = r ∧ b < e + 1)) by omega)]
theorem prt_s {G : Nat → Nat → zp_F} {r e : Nat} (z : ∀ b, e ≤ b → G r b = 0) : prt G r e = prt G (r + 1) 0 := by
  funext a b
  unfold prt
  by_cases h1 : a < r ∨ (a = r ∧ b < e)
  · rw [if_pos h1, if_pos (show a < r + 1 ∨ (a = r + 1 ∧ b < 0) by omega)]
  · rw [if_neg h1]
    by_cases h2 : a = r
    · rw [if_pos (show a < r + 1 ∨ (a = r + 1 ∧ b < 0) by omega), h2, z b (by omega)]
    · rw [if_neg (show ¬ (a < r + 1 ∨ (a = r + 1 ∧ b < 0)) by omega)]
theorem prt_47 {G : Nat → Nat → zp_F} {r e : Nat} (he : e ≤ 47) (z : ∀ b, e ≤ b → b ≠ 47 → G r b = 0) : put1 (prt G r e) r 47 (G r 47) = prt G (r + 1) 0 := by
  funext a b
  unfold put1 prt
  by_cases h1 : a = r ∧ b = 47
  · rw [if_pos h1, if_pos (show a < r + 1 ∨ (a = r + 1 ∧ b < 0) by omega), h1.1, h1.2]
  · rw [if_neg h1]
    by_cases h2 : a < r ∨ (a = r ∧ b < e)
    · rw [if_pos h2, if_pos (show a < r + 1 ∨ (a = r + 1 ∧ b < 0) by omega)]
    · rw [if_neg h2]
      by_cases h3 : a = r
      · rw [if_pos (show a < r + 1 ∨ (a = r + 1 ∧ b < 0) by omega), h3, z b (by omega) (fun q => h1 ⟨h3, q⟩)]
      · rw [if_neg (show ¬ (a < r + 1 ∨ (a = r + 1 ∧ b < 0)) by omega)]
theorem prt_0 (G : Nat → Nat → zp_F) : prt G 0 0 = fun _ _ => 0 := by
  funext a b
  unfold prt
  rw [if_neg (by omega)]
/-- the table of a guess -/
def gtb (f : zp_R) : Nat → Nat → zp_F := fun r c => if c < 12 then f.1 (12 + r - (c + 1)) else if c = 47 then -(f.1 (12 + r)) else 0
theorem gsb_fin (B : Nat → Nat → zp_F) (R : Nat → Int) (m : Nat) : zp_fin (fun i => if i = 0 then 1 else if i ≤ m ∧ R (i - 1) ≠ -1 then B (pc R (i - 1)) 47 else 0) := ⟨m + 1, fun i hi2 => by
  show (if i = 0 then (1 : zp_F) else if i ≤ m ∧ R (i - 1) ≠ -1 then B (pc R (i - 1)) 47 else 0) = 0
  rw [if_neg (by omega), if_neg (fun w => by omega)]⟩
/-- the bottom that is guessed -/
def gsb (B : Nat → Nat → zp_F) (R : Nat → Int) (m : Nat) : zp_R := ⟨fun i => if i = 0 then 1 else if i ≤ m ∧ R (i - 1) ≠ -1 then B (pc R (i - 1)) 47 else 0, gsb_fin B R m⟩
theorem gsb_dg (B : Nat → Nat → zp_F) (R : Nat → Int) (m : Nat) : zp_deg (gsb B R m) (m + 1) := fun i hi2 => by
  show (if i = 0 then (1 : zp_F) else if i ≤ m ∧ R (i - 1) ≠ -1 then B (pc R (i - 1)) 47 else 0) = 0
  rw [if_neg (by omega), if_neg (fun w => by omega)]
theorem gsb_s (B : Nat → Nat → zp_F) (R : Nat → Int) (m : Nat) (h : R m ≠ -1) : pst (gsb B R m) (m + 1) (B (pc R m) 47) = gsb B R (m + 1) := zp_ext (fun i => by
  show (if i = m + 1 then B (pc R m) 47 else if i = 0 then 1 else if i ≤ m ∧ R (i - 1) ≠ -1 then B (pc R (i - 1)) 47 else 0) = if i = 0 then 1 else if i ≤ m + 1 ∧ R (i - 1) ≠ -1 then B (pc R (i - 1)) 47 else 0
  by_cases q : i = m + 1
  · rw [if_pos q, if_neg (show ¬ i = 0 by omega), q, if_pos ⟨Nat.le_refl _, h⟩]; rfl
  · rw [if_neg q]
    by_cases q0 : i = 0
    · rw [if_pos q0, if_pos q0]
    · rw [if_neg q0, if_neg q0]
      by_cases q2 : i ≤ m ∧ R (i - 1) ≠ -1
      · rw [if_pos q2, if_pos ⟨by omega, q2.2⟩]
      · rw [if_neg q2, if_neg (fun w => q2 ⟨by omega, w.2⟩)])
theorem gsb_n (B : Nat → Nat → zp_F) (R : Nat → Int) (m : Nat) (h : R m = -1) : gsb B R (m + 1) = gsb B R m := zp_ext (fun i => by
  show (if i = 0 then 1 else if i ≤ m + 1 ∧ R (i - 1) ≠ -1 then B (pc R (i - 1)) 47 else 0) = if i = 0 then 1 else if i ≤ m ∧ R (i - 1) ≠ -1 then B (pc R (i - 1)) 47 else 0
  by_cases q0 : i = 0
  · rw [if_pos q0, if_pos q0]
  · rw [if_neg q0, if_neg q0]
    by_cases q2 : i ≤ m ∧ R (i - 1) ≠ -1
    · rw [if_pos q2, if_pos ⟨by omega, q2.2⟩]
    · rw [if_neg q2, if_neg (fun w => q2 ⟨by
        have : i ≠ m + 1 := fun e => w.2 (by rw [e]; exact h)
        omega, w.2⟩)])
def gueF (cnt : Int) (t : th) (ro : Option (Sum th Int)) : Prop := match t with
  | .inr (.inl f) => (cnt = 150 → ro = some (.inr 3)) ∧ (cnt ≠ 150 → ∃ B R, rr (prt (gtb f) 13 0) B 13 12 R ∧ ((∃ k, pc R 12 ≤ k ∧ k < 13 ∧ B k 47 ≠ 0) → ro = none) ∧ (¬ (∃ k, pc R 12 ≤ k ∧ k < 13 ∧ B k 47 ≠ 0) → ∃ res, ro = some res ∧ keptF cnt (cut (zp_mul f (gsb B R 12)) 12) (gsb B R 12) 3 res))
  | _ => True
def gueS (cnt : Int) (T : Nat → th) (x : Int) (ro : Option (Sum th Int)) : Prop := (¬ (0 ≤ x ∧ x < cnt) → ro = some (.inr 1)) ∧ ((0 ≤ x ∧ x < cnt) → (kd (T x.toNat) ≠ 1 → ro = some (.inr 2)) ∧ (kd (T x.toNat) = 1 → gueF cnt (T x.toNat) ro))
section
variable {d : Nat} {h : s_H} {s : Nat → Int} {A : Nat → Nat → Int}
theorem V_guess (hv : RV h s A) {T : Nat → th} (hR : RI s A T) {x : Int} (hx : In3 x) : wm sw_P (d + 7) 459 [.index 1290, vi x] h (RA h (fun v s' A' => ∃ ro, gueS (s 1) T x ro ∧ endn s A T ro v s' A')) := by
  refine wm_in (cd := sw_c459) (nL := 4) (hd := sw_h459) rfl rfl ?_
  have b0 := hR.1.1
  refine k459_0 hv.1 (wm_mono (wq_A (fun v1 h1 s1 A1 w1 r1 φ => ?_)) (V_isOf hv hR hx (k := 1) (by decide)))
  rcases φ with ⟨ev, e1, q, eA⟩ | ⟨ev, e1, q, f, ef, lf, kf, m1, g, _⟩
  · rw [ev]
    refine k459_6 (fun w => absurd rfl w) (fun _ => k459_9 ⟨vi 0, h1, s1, A1, w1, r1, ⟨some (.inr (one s T x 1)), ⟨fun w => by rw [show one s T x 1 = 1 from if_pos w], fun w => ?_⟩, endz_bad hR (sq_refl s) sm_refl rfl e1 eA⟩, rfl⟩)
    have ho : one s T x 1 = if kd (T x.toNat) = 1 then 0 else 2 := if_neg (fun w3 => w3 w)
    refine ⟨fun w2 => by rw [ho, if_neg w2], fun w2 => absurd (by rw [ho, if_pos w2]) q⟩
  rw [ev]
  subst ef
  have xf : (f : Int).toNat = f := by omega
  obtain ⟨g98, g99⟩ := g (by decide)
  have hf := hR.2.2 f lf
  have q1 : sq s s1 := by rw [e1]; exact sq_up (sq_refl s) _ rfl
  have s11 : s1 1 = s 1 := sq_1 q1
  have sp : ∀ ro : Option (Sum th Int), gueF (s 1) (T f) ro → gueS (s 1) T f ro := fun res w => ⟨fun w2 => absurd ⟨by omega, lf⟩ w2, fun _ => ⟨fun w2 => absurd (by rw [xf]; exact kf) w2, fun _ => by rw [xf]; exact w⟩⟩
  refine k459_6 (fun _ => ?_) (fun w => absurd (by decide) w)
  rcases ef1 : T f with ⟨a, b⟩ | a | ⟨r, c, M⟩ | ⟨n, so, va⟩
  · rw [ef1] at kf; exact (kdn kf rfl).elim
  · rw [ef1] at hf
    obtain ⟨_, p1, p2, p3⟩ := hf
    have h98 := g98.trans p1
    have mF : ∀ ro : Option (Sum th Int), ((s 1 = 150 → ro = some (.inr 3)) ∧ (s 1 ≠ 150 → ∃ B R, rr (prt (gtb a) 13 0) B 13 12 R ∧ ((∃ k, pc R 12 ≤ k ∧ k < 13 ∧ B k 47 ≠ 0) → ro = none) ∧ (¬ (∃ k, pc R 12 ≤ k ∧ k < 13 ∧ B k 47 ≠ 0) → ∃ res, ro = some res ∧ keptF (s 1) (cut (zp_mul a (gsb B R 12)) 12) (gsb B R 12) 3 res))) → gueF (s 1) (T f) ro := fun ro y => by rw [ef1]; exact y
    refine k459_11 (z5 := s1 1) w1.1 (fun q6 => ?_) (fun q6 => ?_) (c7 := by rw [s11]; unfold In3; omega)
    rotate_left
    · refine k459_21 w1.1 (wm_mono (wq_A (fun v4 h4 s4 A4 w4 r4 φ => ?_)) (V_raise w1))
      obtain ⟨z1, z2, z3⟩ := φ
      subst z1
      exact k459_26 ⟨_, h4, s4, A4, w4, FR_trans r1 r4, ⟨some (.inr 3), sp _ (mF _ ⟨fun _ => rfl, fun w => absurd (by omega) w⟩), endz_bad hR q1 (scr_A m1) rfl z2 z3⟩, rfl⟩
    refine k459_27 w1.1 (wm_mono (wq_Q (fun h2 w2 r2 => ?_)) (V_emptyTable w1))
    refine k459_31 ?_
    -- when the table is full
    have full' : ∀ (B0 : Nat → Nat → Int) (h' : s_H) (t3 : Term), RV h' s1 B0 → FR h h' → (∀ x, x ≠ 1317 → B0 x = A1 x) → B0 1317 = fl (prt (gtb a) 13 0) → wr sw_P (d + 6) sw_c459 sw_h459 (109, [.index 1290, vi (f : Int), vi 25, t3], [], h', 0, 0) (RA h (fun v s' A' => ∃ ro, gueS (s 1) T f ro ∧ endn s A T ro v s' A')) := by
      intro B0 h' t3 v0 r0 o0 g0
      have m0 : sm A B0 scrA := sm_tr (scr_A m1) (fun j hj => o0 j (fun e => by rw [e] at hj; exact absurd hj (by decide)))
      refine k459_109 v0.1 (wm_mono (wq_N (fun h4 s4 A4 w4 r4 φ => ?_)) (V_clearTable v0 g0 (H := 13) (w := 12) (by decide) (by decide)))
      obtain ⟨B, es, m4, g4, a4⟩ := φ
      have q4' : sq s s4 := by rw [es]; exact sq_up (sq_up q1 _ rfl) _ rfl
      have m4' : sm A A4 scrA := sm_tr m0 (sm_sub m4 rfl)
      have e37 : s4 37 = (pc (A4 1318) 12 : Int) := by rw [es, up_at]
      have e40 : s4 0 = 0 := by rw [es, up_ne _ _ (by decide), up_ne _ _ (by decide), e1, up_at]
      have pb := pc_b (A4 1318) 12
      have r4' := FR_trans r0 r4
      have ga4 : A4 1298 = cf a := by rw [m4 1298 rfl, o0 1298 (by decide), h98]
      refine k459_117 (z5 := s4 37) w4.1 ?_
      rw [e37]
      have met : (∀ i, pc (A4 1318) 12 ≤ i → i < 13 → B i 47 = 0) → wr sw_P (d + 6) sw_c459 sw_h459 (153, [.index 1290, vi (f : Int), vi 13, t3], [], h4, 0, 0) (RA h (fun v s' A' => ∃ ro, gueS (s 1) T f ro ∧ endn s A T ro v s' A')) := fun hz => by
        refine k459_153 w4.1 (wm_mono (wq_Q (fun h5 w5 r5 => ?_)) (V_become w4 (c := 1303) rfl (z := 1) (by decide)))
        rw [nF_1] at w5
        refine k459_161 ?_
        have loop : ∀ (l m : Nat) (C : Nat → Nat → Int) (h2 : s_H), m + l = 12 → RV h2 s4 C → FR h h2 → (∀ x, x ≠ 1303 → C x = A4 x) → C 1303 = cf (gsb B (A4 1318) m) → wr sw_P (d + 6) sw_c459 sw_h459 (163, [.index 1290, vi (f : Int), vi ((m : Int) + 1), t3], [], h2, 0, 0) (RA h (fun v s' A' => ∃ ro, gueS (s 1) T f ro ∧ endn s A T ro v s' A')) := by
          intro l
          induction l with
          | zero =>
            intro m C h2 hm v r o g
            have m12 : m = 12 := by omega
            subst m12
            have mC : sm A C scrA := sm_tr m4' (fun j hj => o j (fun e => by rw [e] at hj; exact absurd hj (by decide)))
            have dG := gsb_dg B (A4 1318) 12
            have dP : zp_deg (zp_mul a (gsb B (A4 1318) 12)) 176 := deg_le (zp_deg_mul (n := 24) (m := 12) p3 dG) (by decide)
            refine k459_163 (fun _ => ?_) (fun w => absurd w (by omega)) (c1 := by unfold In3; omega)
            refine k459_212 v.1 (wm_mono (wq_Q (fun h6 v6 r6 => ?_)) (V_multiply v (p := 1298) (q := 1303) rfl rfl (by decide) (by decide) (f := a) (g := gsb B (A4 1318) 12) (by rw [o 1298 (by decide), ga4]) g))
            refine k459_224 v6.1 (wm_mono (wq_Q (fun h7 v7 r7 => ?_)) (V_empty v6 (c := 1302) rfl))
            refine k459_231 ?_
            have cp : ∀ (l2 i : Nat) (D : Nat → Nat → Int) (h3 : s_H), i + l2 = 12 → RV h3 s4 D → FR h h3 → sm A D scrA → D 1303 = cf (gsb B (A4 1318) 12) → D 1304 = cf (zp_mul a (gsb B (A4 1318) 12)) → D 1302 = cf (cut (zp_mul a (gsb B (A4 1318) 12)) i) → wr sw_P (d + 6) sw_c459 sw_h459 (233, [.index 1290, vi (f : Int), vi (i : Int), t3], [], h3, 0, 0) (RA h (fun v s' A' => ∃ ro, gueS (s 1) T f ro ∧ endn s A T ro v s' A')) := by
              intro l2
              induction l2 with
              | zero =>
                intro i D h3 hi2 v r mD gq gx gr
                have i12 : i = 12 := by omega
                subst i12
                refine k459_233 (fun _ => ?_) (fun w => absurd w (by omega))
                have n0 : gsb B (A4 1318) 12 ≠ zp_C 0 := fun e => by
                  have : (gsb B (A4 1318) 12).1 0 = (zp_C 0).1 0 := by rw [e]
                  exact absurd (show (1 : zp_F) = 0 from this) (by decide)
                have dG6 := deg_le dG (show 13 ≤ 176 by decide)
                refine k459_257 v.1 (wm_mono (wq_N (fun h8 s8 A8 v8 r8 φ => ?_)) (V_lower v gr gq (deg_le (cut_deg _ 12) (by decide)) dG6 (hi_ge dG6 n0)))
                obtain ⟨es8, ⟨N, D', hcn, dN, dD, gN, gD⟩, m8⟩ := φ
                rw [es8] at v8
                refine k459_261 v8.1 (wm_mono (wq_A (fun v9 h9 s9 A9 w9 r9 φ => ?_)) (V_keep v8 (by rw [sq_1 q4']; exact b0) gN gD))
                obtain ⟨res, z1, z2, z3⟩ := endz_kQ hR q4' (sm_tr mD (sm_sub m8 rfl)) dN dD hcn.2.2 hcn.2.1 φ
                obtain ⟨u, eu⟩ := endz_vi z3
                subst eu
                exact k459_266 ⟨_, h9, s9, A9, w9, FR_trans r (FR_trans r8 r9), ⟨some res, sp _ (mF _ ⟨fun w => absurd (by omega) q6, fun _ => ⟨B, A4 1318, a4, fun ⟨i, i1, i2, i3⟩ => absurd (hz i i1 i2) i3, fun _ => ⟨res, rfl, N, D', hcn, z1, z2⟩⟩⟩), z3⟩, rfl⟩
              | succ l2 ih2 =>
                intro i D h3 hi2 v r mD gq gx gr
                have gn : gi (mk 176 (D 1304)) (i : Int) = (((zp_mul a (gsb B (A4 1318) 12)).1 i).val : Int) := by rw [gx]; exact gi_mkn (by omega)
                have es : pst (cut (zp_mul a (gsb B (A4 1318) 12)) i) i ((zp_mul a (gsb B (A4 1318) 12)).1 i) = cut (zp_mul a (gsb B (A4 1318) 12)) (i + 1) := zp_ext (fun x => by
                  show (if x = i then (zp_mul a (gsb B (A4 1318) 12)).1 i else if x < i then (zp_mul a (gsb B (A4 1318) 12)).1 x else 0) = if x < i + 1 then (zp_mul a (gsb B (A4 1318) 12)).1 x else 0
                  by_cases q : x = i
                  · rw [if_pos q, if_pos (show x < i + 1 by omega), q]
                  · rw [if_neg q]
                    by_cases q2 : x < i
                    · rw [if_pos q2, if_pos (show x < i + 1 by omega)]
                    · rw [if_neg q2, if_neg (show ¬ x < i + 1 by omega)])
                refine k459_233 (fun w => absurd w (by omega)) (fun _ => ?_)
                refine k459_239 v.1 (Ra_x v) (Ra_rt v) ?_ (c12 := by rw [mk_len]; omega) (c13 := by omega) (c14 := by unfold In3; omega) (c18 := by rw [mk_len]; omega)
                rw [gn, mk_set, gr, cf_pst _ (n := i) (by omega) rfl, es]
                exact ih2 (i + 1) _ _ (by omega) (RV_w v (c := 1302) rfl _) (FR_trans r (FR_w v (c := 1302) rfl _)) (sm_up mD _ rfl) (by rw [up_ne _ _ (by decide), gq]) (by rw [up_ne _ _ (by decide), gx]) (up_at _ _ _)
            refine cp 12 0 _ h7 rfl v7 (FR_trans r (FR_trans r6 r7)) (sm_up (sm_up mC _ rfl) _ rfl) (by rw [up_ne _ _ (by decide), up_ne _ _ (by decide), g]) (by rw [up_ne _ _ (by decide), up_at]) ?_
            rw [up_at]
            congr 1
            refine zp_ext (fun x => ?_)
            rw [zp_C00]
            show (0 : zp_F) = if x < 0 then (zp_mul a (gsb B (A4 1318) 12)).1 x else 0
            rw [if_neg (Nat.not_lt_zero x)]
          | succ l ih =>
            intro m C h2 hm v r o g
            have row := rr_row a4 (j := m) (by omega)
            have e1' : gi (mk 48 (C 1318)) ((m : Int) + 1 - 1) = A4 1318 m := by rw [show (m : Int) + 1 - 1 = (m : Int) by omega, gi_mkn (by omega), o 1318 (by decide)]
            refine k459_163 (fun w => absurd w (by omega)) (fun _ => ?_) (c1 := by unfold In3; omega)
            refine k459_169 v.1 (Ra_row v) (fun w => ?_) (fun w => ?_) (c10 := by rw [mk_len]; omega) (c11 := by omega) (c12 := by unfold In3; omega) (c13 := by rw [e1']; unfold In3; omega)
            · rw [e1'] at w
              refine k459_206 ?_
              rw [show (m : Int) + 1 + 1 = ((m + 1 : Nat) : Int) + 1 by omega]
              exact ih (m + 1) C h2 (by omega) v r o (by rw [g, gsb_n B _ m w])
            · rw [e1'] at w
              obtain ⟨z1, z2⟩ := row.2.2 w
              have e2 := gi_fl ((o 1317 (by decide)).trans g4) (n := pc (A4 1318) m) (i := 47) (by omega) (by omega) (x := 48 * (A4 1318 m) + 47) (by omega)
              refine k459_181 v.1 (Ra_row v) (Ra_table v) (RV_l v (c := 1303) rfl) ?_ (c14 := by rw [mk_len]; omega) (c15 := by omega) (c16 := by unfold In3; omega) (c20 := by rw [e1', mk_len]; omega) (c21 := by rw [e1']; omega) (c22 := by rw [e1']; unfold In3; omega) (c26 := by rw [mk_len]; omega) (c27 := by omega) (c28 := by unfold In3; omega)
              rw [e1', e2, mk_set, g, cf_pst (gsb B (A4 1318) m) (n := m + 1) (by omega) rfl, gsb_s B _ m w]
              refine k459_206 ?_
              rw [show (m : Int) + 1 + 1 = ((m + 1 : Nat) : Int) + 1 by omega]
              exact ih (m + 1) _ _ (by omega) (RV_w v (c := 1303) rfl _) (FR_trans r (FR_w v (c := 1303) rfl _)) (fun x hx => by rw [up_ne _ _ hx, o x hx]) (up_at _ _ _)
        have st := loop 12 0 _ h5 rfl w5 (FR_trans r4' r5) (fun x hx => up_ne _ _ hx) (by
          rw [up_at]
          congr 1
          refine zp_ext (fun x => ?_)
          show (if x = 0 then (1 : zp_F) else 0) = if x = 0 then 1 else if x ≤ 0 ∧ A4 1318 (x - 1) ≠ -1 then B (pc (A4 1318) (x - 1)) 47 else 0
          by_cases q : x = 0
          · rw [if_pos q, if_pos q]
          · rw [if_neg q, if_neg q, if_neg (fun w => by omega)])
        exact st
      have look : ∀ (l i : Nat), i + l = 13 → pc (A4 1318) 12 ≤ i → (∀ j, pc (A4 1318) 12 ≤ j → j < i → B j 47 = 0) → wr sw_P (d + 6) sw_c459 sw_h459 (122, [.index 1290, vi (f : Int), vi (i : Int), t3], [], h4, 0, 0) (RA h (fun v s' A' => ∃ ro, gueS (s 1) T f ro ∧ endn s A T ro v s' A')) := by
        intro l
        induction l with
        | zero =>
          intro i hi2 hp2 hz
          have i13 : i = 13 := by omega
          subst i13
          exact k459_122 (fun _ => met hz) (fun w => absurd w (by omega))
        | succ l ih =>
          intro i hi2 hp2 hz
          have e2 := gi_fl g4 (n := i) (i := 47) (by omega) (by omega) (x := 48 * (i : Int) + 47) (by omega)
          have bz := (B i 47).isLt
          refine k459_122 (fun w => absurd w (by omega)) (fun _ => ?_)
          refine k459_128 w4.1 (Ra_table w4) (fun w => ?_) (fun w => ?_) (c10 := by rw [mk_len]; omega) (c11 := by omega) (c12 := by unfold In3; omega) (c13 := by rw [e2]; exact in6_of (by omega) (by omega))
          · rw [e2] at w
            have z0 : B i 47 = 0 := F_ext w
            refine k459_147 (ih (i + 1) (by omega) (by omega) (fun j h1 h2 => ?_))
            by_cases q : j = i
            · rw [q]; exact z0
            · exact hz j h1 (by omega)
          · rw [e2] at w
            have n0 : B i 47 ≠ 0 := fun q => w (by rw [q]; rfl)
            exact k459_145 ⟨_, h4, s4, A4, w4, r4', ⟨none, sp _ (mF _ ⟨fun w => absurd (by omega) q6, fun _ => ⟨B, A4 1318, a4, fun _ => rfl, fun w => absurd ⟨i, hp2, by omega, n0⟩ w⟩⟩), endn_none hR q4' m4' e40⟩, rfl⟩
      exact look (13 - pc (A4 1318) 12) _ (by omega) (Nat.le_refl _) (fun j h1 h2 => absurd h1 (by omega))
    -- the table
    have tab : ∀ (l r : Nat) (B : Nat → Nat → Int) (h' : s_H) (t3 : Term), r + l = 13 → RV h' s1 B → FR h h' → (∀ x, x ≠ 1317 → B x = A1 x) → B 1317 = fl (prt (gtb a) r 0) → wr sw_P (d + 6) sw_c459 sw_h459 (34, [.index 1290, vi (f : Int), vi ((r : Int) + 12), t3], [], h', 0, 0) (RA h (fun v s' A' => ∃ ro, gueS (s 1) T f ro ∧ endn s A T ro v s' A')) := by
      intro l
      induction l with
      | zero =>
        intro r B h' t3 hr v rr' o g
        have r13 : r = 13 := by omega
        subst r13
        exact k459_34 (fun _ => full' B h' t3 v rr' o g) (fun w => absurd w (by omega)) (c1 := by unfold In3; omega)
      | succ l ih =>
        intro r B h' t3 hr v rr' o g
        refine k459_34 (fun w => absurd w (by omega)) (fun _ => k459_40 ?_) (c1 := by unfold In3; omega)
        have inner : ∀ (l2 e : Nat) (C : Nat → Nat → Int) (h2 : s_H), e + l2 = 12 → RV h2 s1 C → FR h h2 → (∀ x, x ≠ 1317 → C x = A1 x) → C 1317 = fl (prt (gtb a) r e) → wr sw_P (d + 6) sw_c459 sw_h459 (42, [.index 1290, vi (f : Int), vi ((r : Int) + 12), vi ((e : Int) + 1)], [], h2, 0, 0) (RA h (fun v s' A' => ∃ ro, gueS (s 1) T f ro ∧ endn s A T ro v s' A')) := by
          intro l2
          induction l2 with
          | zero =>
            intro e C h2 he v2 r2 o2 g2
            have e12 : e = 12 := by omega
            subst e12
            have gn : gi (mk 176 (C 1298)) ((r : Int) + 12) = ((a.1 (12 + r)).val : Int) := by rw [o2 1298 (by decide), h98, show (r : Int) + 12 = ((12 + r : Nat) : Int) by omega]; exact gi_mkn (by omega)
            have bz := (a.1 (12 + r)).isLt
            refine k459_42 (fun _ => ?_) (fun w => absurd w (by omega)) (c1 := by unfold In3; omega)
            refine k459_78 v2.1 (RV_l v2 (c := 1298) rfl) (wm_mono (wq_r ?_) (t_modulo (by rw [gn]; exact in6_of (by omega) (by omega)))) (c12 := by rw [mk_len]; omega) (c13 := by omega) (c14 := by unfold In3; omega)
            rw [gn, md_neg]
            refine k459_102 (Ra_table v2) ?_ (c4 := by rw [mk_len]; omega) (c5 := by omega) (c6 := by unfold In3; omega)
            have e5 := fl_put (prt (gtb a) r 12) (n := r) (i := 47) (by omega) (gtb a r 47) (t0 := (48 * ((r : Int) + 12 - 12) + 47).toNat) (by omega) (x := ((-(a.1 (12 + r)) : zp_F).val : Int)) rfl
            rw [mk_set, g2, e5, prt_47 (by decide) (fun b h1 h2 => by
              show (if b < 12 then _ else if b = 47 then _ else (0 : zp_F)) = 0
              rw [if_neg (by omega), if_neg h2])]
            rw [show (r : Int) + 12 + 1 = ((r + 1 : Nat) : Int) + 12 by omega]
            exact ih (r + 1) _ _ _ (by omega) (RV_t v2 rfl) (FR_trans r2 (FR_t v2 _)) (fun x hx => by rw [up_ne _ _ hx, o2 x hx]) (up_at _ _ _)
          | succ l2 ih2 =>
            intro e C h2 he v2 r2 o2 g2
            have gn : gi (mk 176 (C 1298)) ((r : Int) + 12 - ((e : Int) + 1)) = ((a.1 (12 + r - (e + 1))).val : Int) := by rw [o2 1298 (by decide), h98, show (r : Int) + 12 - ((e : Int) + 1) = ((12 + r - (e + 1) : Nat) : Int) by omega]; exact gi_mkn (by omega)
            refine k459_42 (fun w => absurd w (by omega)) (fun _ => ?_) (c1 := by unfold In3; omega)
            refine k459_48 v2.1 (RV_l v2 (c := 1298) rfl) (Ra_table v2) ?_ (c12 := by rw [mk_len]; omega) (c13 := by omega) (c14 := by unfold In3; omega) (c18 := by rw [mk_len]; omega) (c19 := by omega) (c20 := by unfold In3; omega)
            have ge : gtb a r e = a.1 (12 + r - (e + 1)) := if_pos (by omega)
            have e5 := fl_put (prt (gtb a) r e) (n := r) (i := e) (by omega) (gtb a r e) (t0 := (48 * ((r : Int) + 12 - 12) + ((e : Int) + 1) - 1).toNat) (by omega) (x := ((a.1 (12 + r - (e + 1))).val : Int)) (by rw [ge])
            rw [gn, mk_set, g2, e5, prt_put]
            rw [show (e : Int) + 1 + 1 = ((e + 1 : Nat) : Int) + 1 by omega]
            exact ih2 (e + 1) _ _ (by omega) (RV_t v2 rfl) (FR_trans r2 (FR_t v2 _)) (fun x hx => by rw [up_ne _ _ hx, o2 x hx]) (up_at _ _ _)
        exact inner 12 0 B h' rfl v rr' o g
    exact tab 13 0 _ h2 _ rfl w2 (FR_trans r1 r2) (fun x hx => up_ne _ _ hx) (by rw [up_at, prt_0])
  · rw [ef1] at kf; exact (kdn kf rfl).elim
  · rw [ef1] at kf; exact (kdn kf rfl).elim
end
