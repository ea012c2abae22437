/-! the reference's solved, the whole call -/
section
variable {d : Nat} {h : s_H} {s : Nat → Int} {A : Nat → Nat → Int}
theorem V_solved (hv : RV h s A) {T : Nat → th} (hR : RI s A T) {x y : Int} (hx : In3 x) (hy : In3 y) : wm sw_P (d + 7) 597 [.index 1290, vi x, vi y] h (RA h (fun v s' A' => ∃ ro, slvS (s 1) T x y ro ∧ endn s A T ro v s' A')) := by
  refine wm_in (cd := sw_c597) (nL := 6) (hd := sw_h597) rfl rfl ?_
  have b0 := hR.1.1
  refine k597_0 hv.1 (wm_mono (wq_A (fun v1 h1 s1 A1 w1 r1 φ => ?_)) (V_isOf hv hR hx (k := 2) (by decide)))
  rcases φ with ⟨ev, e1, q, eA⟩ | ⟨ev, e1, q, f, ef, lf, kf, m1, _, gA⟩
  · rw [ev]
    refine k597_6 (fun w => absurd rfl w) (fun _ => k597_9 ⟨vi 0, h1, s1, A1, w1, r1, ⟨some (.inr (one s T x 2)), ⟨fun w => by rw [show one s T x 2 = 1 from if_pos w], fun w w2 => ?_, fun w w2 => ?_⟩, endz_bad hR (sq_refl s) sm_refl rfl e1 eA⟩, rfl⟩)
    · have ho : one s T x 2 = if kd (T x.toNat) = 2 then 0 else 2 := if_neg (fun w3 => w3 w)
      rw [ho, if_neg w2]
    · have ho : one s T x 2 = if kd (T x.toNat) = 2 then 0 else 2 := if_neg (fun w3 => w3 w)
      rw [if_pos w2] at ho
      exact absurd ho q
  rw [ev]
  subst ef
  have eA := gA (by decide)
  rw [eA] at w1
  have xf : (f : Int).toNat = f := by omega
  have hf := hR.2.2 f lf
  have q1 : sq s s1 := by rw [e1]; exact sq_up (sq_refl s) _ rfl
  have s11 : s1 1 = s 1 := sq_1 q1
  have s10 : s1 0 = 0 := by rw [e1]; rfl
  refine k597_6 (fun _ => ?_) (fun w => absurd (by decide) w)
  rcases ef1 : T f with ⟨a, b⟩ | a | ⟨R, C, M⟩ | ⟨n, so, va⟩
  · rw [ef1] at kf; exact (kdn kf rfl).elim
  · rw [ef1] at kf; exact (kdn kf rfl).elim
  rotate_left
  · rw [ef1] at kf; exact (kdn kf rfl).elim
  rw [ef1] at hf
  obtain ⟨_, p1, p2, p3⟩ := hf
  have sp : ∀ ro : Option (Sum th Int), slvF (s 1) y (.inr (.inr (.inl (R, C, M)))) ro → slvS (s 1) T f y ro := fun ro w => ⟨fun w2 => absurd ⟨by omega, lf⟩ w2, fun _ w2 => (w2 (by rw [xf]; exact kf)).elim, fun _ _ => by rw [xf, ef1]; exact w⟩
  have g3 : gi (mk 150 (A 1295)) (f : Int) = (C : Int) := by rw [gi_mkn (by omega)]; exact p3.2.1
  obtain ⟨l, el⟩ : ∃ l : Nat, C = l + 1 := ⟨C - 1, by omega⟩
  subst el
  have ll : l + 1 - 1 = l := by omega
  have p2l : 2 ^ (l + 1) = 2 ^ l * 2 := Nat.pow_succ 2 l
  have pl := Nat.pow_le_pow_right (show 0 < 2 by decide) (show l ≤ 3 by omega)
  unfold In3 at hy
  refine k597_11 w1.1 (Ra_columns w1) ?_ (c10 := by rw [mk_len]; omega) (c11 := by omega) (c12 := by unfold In3; omega) (c13 := by unfold In3; omega) (c14 := by rw [g3]; unfold In3; omega)
  rw [g3]
  refine wm_mono (wq_r ?_) (t_in (x := y) (lo := 0) (hi := ((l + 1 : Nat) : Int) - 1 - 1) (in6_of (by omega) (by omega)) (by decide) (in6_of (by omega) (by omega)))
  by_cases q3 : 0 ≤ y ∧ y ≤ ((l + 1 : Nat) : Int) - 1 - 1
  rotate_left
  · rw [if_neg q3]
    refine k597_30 (fun w => absurd rfl w) (fun _ => ?_)
    refine k597_33 w1.1 (wm_mono (wq_A (fun v3 h3 s3 A3 w3 r3 φ => ?_)) (V_raise w1))
    obtain ⟨y1, y2, y3⟩ := φ
    subst y1
    exact k597_38 ⟨_, h3, s3, A3, w3, FR_trans r1 r3, ⟨some (.inr 1), sp _ ⟨fun _ => rfl, fun w => absurd ⟨w.1, by omega⟩ q3⟩, endz_bad hR q1 sm_refl rfl y2 y3⟩, rfl⟩
  rw [if_pos q3]
  refine k597_30 (fun _ => ?_) (fun w => absurd (by decide) w)
  obtain ⟨j, ej⟩ : ∃ j : Nat, y = j := ⟨y.toNat, by omega⟩
  subst ej
  have jj : (j : Int).toNat = j := by omega
  have hjl : j < l := by omega
  have ok : 0 ≤ (j : Int) ∧ (j : Int) ≤ ((l + 1 : Nat) : Int) - 2 := by omega
  refine k597_39 (z5 := s1 1) w1.1 (fun q4 => ?_) (fun q4 => ?_) (c7 := by rw [s11]; unfold In3; omega)
  rotate_left
  · refine k597_49 w1.1 (wm_mono (wq_A (fun v3 h3 s3 A3 w3 r3 φ => ?_)) (V_raise w1))
    obtain ⟨y1, y2, y3⟩ := φ
    subst y1
    exact k597_54 ⟨_, h3, s3, A3, w3, FR_trans r1 r3, ⟨some (.inr 3), sp _ ⟨fun w => absurd ok w, fun _ => ⟨fun _ => rfl, fun w => absurd (by omega) w⟩⟩, endz_bad hR q1 sm_refl rfl y2 y3⟩, rfl⟩
  have n150 : s 1 ≠ 150 := by omega
  have dM : ∀ i j, i < R → j < l + 1 → zp_deg (M i j) 11 := fun i j h1 h2 => me_deg (p3.2.2 i j h1 h2)
  refine k597_55 w1.1 (wm_mono (wq_N (fun h2 s2 A2 w2 r2 φ => ?_)) (V_findMinors w1 (by omega) p1 p2 p3 hR.2.1))
  obtain ⟨e2, m2, mn⟩ := φ
  subst e2
  have r02 := FR_trans r1 r2
  have M2 := mat_sm p3 (m2 1294 rfl) (m2 1295 rfl) (m2 1296 rfl)
  obtain ⟨set, es⟩ : ∃ set, set = slc M R (l + 1) l := ⟨_, rfl⟩
  have hset := slc_has M R (l + 1) l
  rw [← es] at hset
  have sp2 : ∀ ro : Option (Sum th Int), ((hasR M R (l + 1) (set + 2 ^ l) → ro = none) ∧ (¬ hasR M R (l + 1) (set + 2 ^ l) → ∃ res, ro = some res ∧ (bt set j = 0 → keeps (s 1) (zp_C 0) 3 res) ∧ (bt set j = 1 → ∃ r N D, fstR M R (l + 1) set r ∧ cn (if bts (set / 2 ^ (j + 1)) % 2 = 1 then zp_mul (zp_C (nF 32002)) (mnq M (l + 1) r (set - 2 ^ j + 2 ^ l)) else mnq M (l + 1) r (set - 2 ^ j + 2 ^ l)) (mnq M (l + 1) r set) N D ∧ keep2 (s 1) N D 3 res))) → slvS (s 1) T f j ro := fun ro w => sp ro ⟨fun w2 => absurd ok w2, fun _ => ⟨fun w2 => absurd w2 n150, fun _ => by rw [ll, jj, ← es]; exact w⟩⟩
  -- the columns that are taken
  have loop : ∀ (p c : Nat) (B : Nat → Nat → Int) (h' : s_H), c + p = l → RV h' s2 B → FR h h' → sm A2 B [1309] → (∀ (B : Nat → Nat → Int) (h' : s_H), RV h' s2 B → FR h h' → sm A2 B [1309] → wr sw_P (d + 6) sw_c597 sw_h597 (107, [.index 1290, vi (f : Int), vi (j : Int), vi (l : Int), vi (set : Int), vi (l : Int)], [], h', 0, 0) (RA h (fun v s' A' => ∃ ro, slvS (s 1) T f j ro ∧ endn s A T ro v s' A'))) → wr sw_P (d + 6) sw_c597 sw_h597 (66, [.index 1290, vi (f : Int), vi (j : Int), vi (l : Int), vi (slc M R (l + 1) c : Int), vi (c : Int)], [], h', 0, 0) (RA h (fun v s' A' => ∃ ro, slvS (s 1) T f j ro ∧ endn s A T ro v s' A')) := by
    intro p
    induction p with
    | zero =>
      intro c B h' hc v rr mB K
      have ec : c = l := by omega
      subst ec
      rw [← es]
      exact k597_66 (fun _ => K B h' v rr mB) (fun w => absurd (by omega) w) (c1 := by unfold In3; omega) (c2 := by unfold In3; omega)
    | succ p ih =>
      intro c B h' hc v rr mB K
      have hs := (slc_has M R (l + 1) c).1
      have pc1 : 2 ^ (c + 1) = 2 ^ c * 2 := Nat.pow_succ 2 c
      have pc2 := Nat.pow_le_pow_right (show 0 < 2 by decide) (show c + 1 ≤ l by omega)
      have MB := mat_sm M2 (mB 1294 rfl) (mB 1295 rfl) (mB 1296 rfl)
      have zc := zs (j := c) (by omega)
      refine k597_66 (fun w => absurd w (by omega)) (fun _ => ?_) (c1 := by unfold In3; omega) (c2 := by unfold In3; omega)
      refine k597_72 v.1 ?_
      rw [zc, show ((slc M R (l + 1) c : Nat) : Int) + ((2 ^ c : Nat) : Int) = ((slc M R (l + 1) c + 2 ^ c : Nat) : Int) by omega]
      refine wm_mono (wq_A (fun v3 h3 s3 A3 w3 r3 φ => ?_)) (V_rowsFor v (c := slc M R (l + 1) c + 2 ^ c) (by omega) p1 p2 MB (mins_sm mn (mB 1329 rfl)) (by omega))
      obtain ⟨e3, m3, q⟩ := φ
      subst e3
      rcases q with ⟨r, ev3, q⟩ | ⟨ev3, q⟩
      · have y1 : hasR M R (l + 1) (slc M R (l + 1) c + 2 ^ c) := ⟨r, q.1, q.2.1, q.2.2.1⟩
        have rl := pw16 q.1 p1.2
        subst ev3
        have ih2 := ih (c + 1) A3 h3 (by omega) w3 (FR_trans rr r3) (sm_tr mB m3) K
        rw [slc_y y1] at ih2
        refine k597_86 (fun w => absurd w (by omega)) (fun _ => k597_90 (k597_98 ?_)) (c1 := by unfold In3; omega)
        rw [zc]
        exact ih2
      · subst ev3
        have ih2 := ih (c + 1) A3 h3 (by omega) w3 (FR_trans rr r3) (sm_tr mB m3) K
        rw [slc_n q] at ih2
        refine k597_86 (fun _ => k597_97 (k597_98 ?_)) (fun w => absurd rfl w) (c1 := by decide)
        rw [Int.add_zero]
        exact ih2
  refine k597_60 ?_
  have lcast : ((l + 1 : Nat) : Int) - 1 = (l : Int) := by omega
  rw [lcast]
  refine loop l 0 A2 h2 (Nat.zero_add _) w2 r02 sm_refl (fun B h' v rr mB => ?_)
  have mB0 : sm A B scrA := sm_tr (sm_sub m2 rfl) (sm_sub mB rfl)
  have MB := mat_sm M2 (mB 1294 rfl) (mB 1295 rfl) (mB 1296 rfl)
  have mnB := mins_sm mn (mB 1329 rfl)
  have zl := zs (j := l) (by omega)
  have s16 : set < 16 := by omega
  refine k597_107 v.1 ?_
  rw [zl, show (set : Int) + ((2 ^ l : Nat) : Int) = ((set + 2 ^ l : Nat) : Int) by omega]
  refine wm_mono (wq_A (fun v3 h3 s3 A3 w3 r3 φ => ?_)) (V_rowsFor v (c := set + 2 ^ l) (by omega) p1 p2 MB mnB (by omega))
  obtain ⟨e3, m3, q⟩ := φ
  subst e3
  have mA3 : sm A A3 scrA := sm_tr mB0 (sm_sub m3 rfl)
  have r03 := FR_trans rr r3
  rcases q with ⟨r, ev3, q⟩ | ⟨ev3, q⟩
  · subst ev3
    have y1 : hasR M R (l + 1) (set + 2 ^ l) := ⟨r, q.1, q.2.1, q.2.2.1⟩
    have rl := pw16 q.1 p1.2
    exact k597_118 (fun w => absurd w (by omega)) (fun _ => k597_122 ⟨_, h3, s3, A3, w3, r03, ⟨none, sp2 none ⟨fun _ => rfl, fun w => absurd y1 w⟩, endn_none hR q1 mA3 s10⟩, rfl⟩) (c1 := by unfold In3; omega)
  subst ev3
  refine k597_118 (fun _ => ?_) (fun w => absurd rfl w) (c1 := by decide)
  refine k597_124 w3.1 (wm_mono (wq_Q (fun h4 w4 r4 => ?_)) (V_empty w3 (c := 1302) rfl))
  refine k597_131 w4.1 (wm_mono (wq_Q (fun h5 w5 r5 => ?_)) (V_become w4 (c := 1303) rfl (z := 1) (by decide)))
  rw [nF_1] at w5
  have r05 := FR_trans r03 (FR_trans r4 r5)
  have zb1 := zb s16 (show j < 4 by omega)
  have b01 := bt_01 set j
  have mA5 : sm A (up (up A3 1302 (cf (zp_C 0))) 1303 (cf (zp_C 1))) scrA := sm_up (sm_up mA3 _ rfl) _ rfl
  refine k597_139 (fun w => ?_) (fun w => ?_) (c1 := by rw [zb1]; unfold In3; omega)
  rotate_left
  · rw [zb1] at w
    refine k597_148 w5.1 (wm_mono (wq_A (fun v6 h6 s6 A6 w6 r6 φ => ?_)) (V_keep w5 (by rw [s11]; exact b0) (N := zp_C 0) (D := zp_C 1) (by rw [up_ne _ _ (by decide), up_at]) (up_at _ _ _)))
    obtain ⟨res, z1, z3⟩ := endz_keeps hR q1 mA5 (deg_le (zp_C_deg _) (by decide)) φ
    obtain ⟨u, eu⟩ := endz_vi z3
    subst eu
    exact k597_153 ⟨_, h6, s6, A6, w6, FR_trans r05 r6, ⟨some res, sp2 _ ⟨fun w2 => absurd w2 q, fun _ => ⟨res, rfl, fun _ => z1, fun w2 => absurd w2 (by omega)⟩⟩, z3⟩, rfl⟩
  rw [zb1] at w
  have on : bt set j = 1 := by omega
  obtain ⟨sw1, sw2, sw3⟩ := swap_on (show l < 4 by omega) hset.1 hjl on
  have M5 : mat (up (up A3 1302 (cf (zp_C 0))) 1303 (cf (zp_C 1))) f R (l + 1) M := mat_sm MB (by rw [up_ne _ _ (by decide), up_ne _ _ (by decide)]; exact m3 1294 rfl) (by rw [up_ne _ _ (by decide), up_ne _ _ (by decide)]; exact m3 1295 rfl) (by rw [up_ne _ _ (by decide), up_ne _ _ (by decide)]; exact m3 1296 rfl)
  have mn5 : mins (up (up A3 1302 (cf (zp_C 0))) 1303 (cf (zp_C 1))) R (l + 1) M := mins_sm mnB (by rw [up_ne _ _ (by decide), up_ne _ _ (by decide)]; exact m3 1329 rfl)
  refine k597_154 w5.1 (wm_mono (wq_A (fun v6 h6 s6 A6 w6 r6 φ => ?_)) (V_rowsFor w5 (c := set) (by omega) p1 p2 M5 mn5 (by omega)))
  obtain ⟨e6, m6, q6⟩ := φ
  subst e6
  rcases q6 with ⟨r, ev6, q6⟩ | ⟨ev6, q6⟩
  rotate_left
  · exact absurd hset.2 q6
  subst ev6
  have r16 := pw16 q6.1 p1.2
  have mn6 : mins A6 R (l + 1) M := mins_sm mn5 (m6 1329 rfl)
  refine k597_161 w6.1 (wm_mono (wq_Q (fun h7 w7 r7 => ?_)) (V_loadMinor w6 (p := 1303) rfl (r := r) (c := set) r16 s16))
  rw [mn6 r set q6.1 (by omega) q6.2.1] at w7
  have zj := zs (j := j) (by omega)
  have ec2 : ((set : Int) - zi 27 1 (j : Int)) + zi 27 1 (l : Int) = ((set - 2 ^ j + 2 ^ l : Nat) : Int) := by rw [zj, zl]; omega
  refine k597_175 w7.1 ?_
  rw [ec2]
  refine wm_mono (wq_Q (fun h8 w8 r8 => ?_)) (V_loadMinor w7 (p := 1302) rfl (r := r) (c := set - 2 ^ j + 2 ^ l) r16 (by omega))
  have eM : mi (up A6 1303 (cf (mnq M (l + 1) r set))) r (set - 2 ^ j + 2 ^ l) = cf (mnq M (l + 1) r (set - 2 ^ j + 2 ^ l)) := by
    rw [← mn6 r (set - 2 ^ j + 2 ^ l) q6.1 sw2 (by rw [sw1]; exact q6.2.1)]
    unfold mi
    rw [up_ne _ _ (by decide)]
  rw [eM] at w8
  have r08 := FR_trans r05 (FR_trans r6 (FR_trans r7 r8))
  have sh16 : set / 2 ^ (j + 1) < 16 := Nat.lt_of_le_of_lt (Nat.div_le_self _ _) s16
  have bsh : bts (set / 2 ^ (j + 1)) ≤ 4 := by unfold bts; omega
  have ezs : zi 28 (set : Int) ((j : Int) + 1) = ((set / 2 ^ (j + 1) : Nat) : Int) := zsh (j := j + 1) s16 (by omega)
  refine k597_195 ?_
  rw [ezs]
  refine wm_mono (wq_r ?_) (V_bits sh16)
  have et : Int.tmod (bts (set / 2 ^ (j + 1)) : Int) 2 = ((bts (set / 2 ^ (j + 1)) % 2 : Nat) : Int) := by
    rw [Int.tmod_eq_emod_of_nonneg (by omega)]; omega
  have dD := mnq_deg p1.2 dM (c := set) q6.1
  have dN := mnq_deg p1.2 dM (c := set - 2 ^ j + 2 ^ l) q6.1
  have mA8 : sm A (up (up A6 1303 (cf (mnq M (l + 1) r set))) 1302 (cf (mnq M (l + 1) r (set - 2 ^ j + 2 ^ l)))) scrA := sm_up (sm_up (sm_tr mA5 (sm_sub m6 rfl)) _ rfl) _ rfl
  have go : ∀ (P : zp_R) (B : Nat → Nat → Int) (h' : s_H), RV h' s6 B → FR h h' → sm A B scrA → B 1302 = cf P → B 1303 = cf (mnq M (l + 1) r set) → zp_deg P 176 → P = (if bts (set / 2 ^ (j + 1)) % 2 = 1 then zp_mul (zp_C (nF 32002)) (mnq M (l + 1) r (set - 2 ^ j + 2 ^ l)) else mnq M (l + 1) r (set - 2 ^ j + 2 ^ l)) → wr sw_P (d + 6) sw_c597 sw_h597 (220, [.index 1290, vi (f : Int), vi (j : Int), vi (l : Int), vi (set : Int), vi (r : Int)], [], h', 0, 0) (RA h (fun v s' A' => ∃ ro, slvS (s 1) T f j ro ∧ endn s A T ro v s' A')) := by
    intro P B h' v rr mB eP eQ dP hP
    refine k597_220 v.1 (wm_mono (wq_N (fun h9 s9 A9 w9 r9 φ => ?_)) (V_lower v eP eQ dP (deg_le dD (by decide)) (hi_ge (deg_le dD (by decide)) q6.2.2.1)))
    obtain ⟨e9, ⟨N, D, hcn, dN9, dD9, eN9, eD9⟩, m9⟩ := φ
    subst e9
    refine k597_224 w9.1 (wm_mono (wq_A (fun v10 h10 s10 A10 w10 r10 φ => ?_)) (V_keep w9 (by rw [s11]; exact b0) (N := N) (D := D) eN9 eD9))
    obtain ⟨res, z1, z2, z3⟩ := endz_kQ hR q1 (sm_tr mB (sm_sub m9 rfl)) dN9 dD9 hcn.2.2 hcn.2.1 φ
    obtain ⟨u, eu⟩ := endz_vi z3
    subst eu
    exact k597_229 ⟨_, h10, s10, A10, w10, FR_trans rr (FR_trans r9 r10), ⟨some res, sp2 _ ⟨fun w2 => absurd w2 q, fun _ => ⟨res, rfl, fun w2 => absurd w2 (by omega), fun _ => ⟨r, N, D, q6, by rw [← hP]; exact hcn, z1, z2⟩⟩⟩, z3⟩, rfl⟩
  refine k597_204 (fun w2 => ?_) (fun w2 => ?_) (c1 := by unfold In3; omega) (c2 := by rw [et]; unfold In3; omega)
  · rw [et] at w2
    exact go _ _ h8 w8 r08 mA8 (up_at _ _ _) (by rw [up_ne _ _ (by decide), up_at]) (deg_le dN (by decide)) (by rw [if_neg (by omega)])
  · rw [et] at w2
    refine k597_210 w8.1 (wm_mono (wq_Q (fun h9 w9 r9 => ?_)) (V_scale w8 (c := 1302) rfl (up_at _ _ _) (z := 32002) (by decide)))
    exact go _ _ h9 w9 (FR_trans r08 r9) (sm_up mA8 _ rfl) (up_at _ _ _) (by rw [up_ne _ _ (by decide), up_ne _ _ (by decide), up_at]) (deg_Cm _ (deg_le dN (by decide))) (by rw [if_pos (by omega)])
end
