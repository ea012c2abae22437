/-! the reference's rule (found from a series) in the picture -/
/-- the table of a rule that is looked for: terms n to the power e times the number at n + i -/
def rug (f : zp_R) (r each : Nat) : Nat → Nat → zp_F := fun n c => if c < each * (r + 1) then nF (n : Int) ^ (c % each) * f.1 (n + c / each) else 0
theorem ei_d {each i e : Nat} (he : e < each) : (each * i + e) / each = i ∧ (each * i + e) % each = e := by
  have h0 : 0 < each := by omega
  refine ⟨?_, ?_⟩
  · rw [Nat.mul_add_div h0, Nat.div_eq_of_lt he]; rfl
  · rw [Nat.mul_add_mod, Nat.mod_eq_of_lt he]
theorem ei_lt {each r i e : Nat} (he : e < each) (hi2 : i ≤ r) : each * i + e < each * (r + 1) := by
  have := Nat.mul_le_mul_left each (show i + 1 ≤ r + 1 by omega)
  have e2 : each * (i + 1) = each * i + each := Nat.mul_succ each i
  omega
theorem rug_at {f : zp_R} {r each n i e : Nat} (he : e < each) (hi2 : i ≤ r) : rug f r each n (each * i + e) = nF (n : Int) ^ e * f.1 (n + i) := by
  unfold rug
  rw [if_pos (ei_lt he hi2), (ei_d he).1, (ei_d he).2]
theorem tm_mk (a : zp_F) (k : Nat) : Int.tmod ((a.val : Int) * (k : Int)) 32003 = ((a * nF (k : Int) : zp_F).val : Int) := by
  rw [tmod_nn (Int.mul_nonneg (by omega) (by omega)), ← nF_v, nF_mul, nF_val]
theorem in_mk {k : Nat} (hk : k ≤ 200) (a : zp_F) : In6 ((a.val : Int) * (k : Int)) := by
  have h2 := a.isLt
  have h3 : a.val * k ≤ 32003 * 200 := Nat.mul_le_mul (by omega) hk
  have h4 : (a.val : Int) * k = ((a.val * k : Nat) : Int) := rfl
  rw [h4]
  exact in6_of (by omega) (by omega)
theorem kme_fin (each : Nat) (p : zp_R) (i m : Nat) : zp_fin (fun e => if e < m then p.1 (each * i + e) else 0) := ⟨m, fun e he => if_neg (by omega)⟩
/-- numbers each * i and on of p, the first m -/
def kme (each : Nat) (p : zp_R) (i m : Nat) : zp_R := ⟨fun e => if e < m then p.1 (each * i + e) else 0, kme_fin each p i m⟩
theorem kme_dg (each : Nat) (p : zp_R) (i m : Nat) : zp_deg (kme each p i m) m := fun e he => if_neg (by omega)
theorem kme_s (each : Nat) (p : zp_R) (i m : Nat) : pst (kme each p i m) m (p.1 (each * i + m)) = kme each p i (m + 1) := zp_ext (fun e => by
  show (if e = m then p.1 (each * i + m) else if e < m then p.1 (each * i + e) else 0) = if e < m + 1 then p.1 (each * i + e) else 0
  by_cases q : e = m
  · rw [if_pos q, if_pos (show e < m + 1 by omega), q]
  · rw [if_neg q]
    by_cases q2 : e < m
    · rw [if_pos q2, if_pos (show e < m + 1 by omega)]
    · rw [if_neg q2, if_neg (show ¬ e < m + 1 by omega)])
theorem kme_0 (each : Nat) (p : zp_R) (i : Nat) : kme each p i 0 = zp_C 0 := zp_ext (fun e => by
  rw [zp_C00]
  show (if e < 0 then p.1 (each * i + e) else 0) = 0
  rw [if_neg (Nat.not_lt_zero e)])
def rueF (cnt r dd : Int) (t : th) (ro : Option (Sum th Int)) : Prop := match t with
  | .inr (.inl f) => (¬ ((0 ≤ r ∧ r ≤ 3) ∧ 0 ≤ dd ∧ dd ≤ 4) → ro = some (.inr 2)) ∧ (((0 ≤ r ∧ r ≤ 3) ∧ 0 ≤ dd ∧ dd ≤ 4) → (cnt = 150 → ro = some (.inr 3)) ∧ (cnt ≠ 150 → ∃ B R, rr (prt (rug f r.toNat (dd.toNat + 1)) (25 - r.toNat) 0) B (25 - r.toNat) ((dd.toNat + 1) * (r.toNat + 1)) R ∧ ((∀ j, j < (dd.toNat + 1) * (r.toNat + 1) → R j ≠ -1) → ro = none) ∧ (∀ c, c < (dd.toNat + 1) * (r.toNat + 1) → R c = -1 → (∀ j, j < c → R j ≠ -1) → ro = some (.inl (th_ma 1 (c / (dd.toNat + 1) + 1) (fun _ i => kme (dd.toNat + 1) (kerp B R c) i (dd.toNat + 1)))))))
  | _ => True
def rueS (cnt : Int) (T : Nat → th) (x r dd : Int) (ro : Option (Sum th Int)) : Prop := (¬ (0 ≤ x ∧ x < cnt) → ro = some (.inr 1)) ∧ ((0 ≤ x ∧ x < cnt) → (kd (T x.toNat) ≠ 1 → ro = some (.inr 2)) ∧ (kd (T x.toNat) = 1 → rueF cnt r dd (T x.toNat) ro))
section
variable {d : Nat} {h : s_H} {s : Nat → Int} {A : Nat → Nat → Int}
theorem V_rule (hv : RV h s A) {T : Nat → th} (hR : RI s A T) {x r dd : Int} (hx : In3 x) (hr : In3 r) (hd : In3 dd) : wm sw_P (d + 5) 589 [.index 1290, vi x, vi r, vi dd] h (RA h (fun v s' A' => ∃ ro, rueS (s 1) T x r dd ro ∧ endn s A T ro v s' A')) := by
  refine wm_in (cd := sw_c589) (nL := 11) (hd := sw_h589) rfl rfl ?_
  have b0 := hR.1.1
  refine k589_0 hv.1 (wm_mono (wq_A (fun v1 h1 s1 A1 w1 r1 φ => ?_)) (V_isOf hv hR hx (k := 1) (by decide)))
  rcases φ with ⟨ev, e1, q, eA⟩ | ⟨ev, e1, q, f, ef, lf, kf, m1, g, _⟩
  · rw [ev]
    refine k589_6 (fun w => absurd rfl w) (fun _ => k589_9 ⟨vi 0, h1, s1, A1, w1, r1, ⟨some (.inr (one s T x 1)), ⟨fun w => by rw [show one s T x 1 = 1 from if_pos w], fun w => ?_⟩, endz_bad hR (sq_refl s) sm_refl rfl e1 eA⟩, rfl⟩)
    have ho : one s T x 1 = if kd (T x.toNat) = 1 then 0 else 2 := if_neg (fun w3 => w3 w)
    exact ⟨fun w2 => by rw [ho, if_neg w2], fun w2 => absurd (by rw [ho, if_pos w2]) q⟩
  rw [ev]
  subst ef
  have xf : (f : Int).toNat = f := by omega
  obtain ⟨g98, g99⟩ := g (by decide)
  have hf := hR.2.2 f lf
  have q1 : sq s s1 := by rw [e1]; exact sq_up (sq_refl s) _ rfl
  have s11 : s1 1 = s 1 := sq_1 q1
  have sp : ∀ ro : Option (Sum th Int), rueF (s 1) r dd (T f) ro → rueS (s 1) T f r dd ro := fun res w => ⟨fun w2 => absurd ⟨by omega, lf⟩ w2, fun _ => ⟨fun w2 => absurd (by rw [xf]; exact kf) w2, fun _ => by rw [xf]; exact w⟩⟩
  refine k589_6 (fun _ => ?_) (fun w => absurd (by decide) w)
  rcases ef1 : T f with ⟨a, b⟩ | a | ⟨r', c, M⟩ | ⟨n, so, va⟩
  · rw [ef1] at kf; exact (kdn kf rfl).elim
  rotate_left
  · rw [ef1] at kf; exact (kdn kf rfl).elim
  · rw [ef1] at kf; exact (kdn kf rfl).elim
  rw [ef1] at hf
  obtain ⟨_, p1, p2, p3⟩ := hf
  have h98 := g98.trans p1
  have bad : ¬ ((0 ≤ r ∧ r ≤ 3) ∧ 0 ≤ dd ∧ dd ≤ 4) → wr sw_P (d + 4) sw_c589 sw_h589 (35, [.index 1290, vi (f : Int), vi r, vi dd, .result, .result, .result, .result, .result, .result, .result], [], h1, 0, 0) (RA h (fun v s' A' => ∃ ro, rueS (s 1) T f r dd ro ∧ endn s A T ro v s' A')) := fun hb => by
    refine k589_35 w1.1 (wm_mono (wq_A (fun v4 h4 s4 A4 w4 r4 φ => ?_)) (V_raise w1))
    obtain ⟨z1, z2, z3⟩ := φ
    subst z1
    exact k589_40 ⟨_, h4, s4, A4, w4, FR_trans r1 r4, ⟨some (.inr 2), sp _ (by rw [ef1]; exact ⟨fun _ => rfl, fun w => absurd w hb⟩), endz_bad hR q1 (scr_A m1) rfl z2 z3⟩, rfl⟩
  refine k589_11 (wm_mono (wq_r ?_) (t_in (x := r) (lo := 0) (hi := 3) (by unfold In6; unfold In3 at hr; omega) (by decide) (by decide))) (c1 := hr)
  by_cases q2 : 0 ≤ r ∧ r ≤ 3
  case neg =>
    rw [if_neg q2]
    exact k589_20 (fun _ => bad (fun w => q2 w.1)) (fun w => absurd rfl w)
  rw [if_pos q2]
  refine k589_20 (fun w => absurd w (by decide)) (fun _ => ?_)
  refine k589_23 (wm_mono (wq_r ?_) (t_in (x := dd) (lo := 0) (hi := 4) (by unfold In6; unfold In3 at hd; omega) (by decide) (by decide))) (c1 := hd)
  by_cases q3 : 0 ≤ dd ∧ dd ≤ 4
  case neg =>
    rw [if_neg q3]
    exact k589_32 (fun w => absurd rfl w) (fun _ => bad (fun w => q3 w.2))
  rw [if_pos q3]
  refine k589_32 (fun _ => ?_) (fun w => absurd (by decide) w)
  obtain ⟨rn, er⟩ : ∃ n : Nat, r = n := ⟨r.toNat, by omega⟩
  obtain ⟨dn, ed⟩ : ∃ n : Nat, dd = n := ⟨dd.toNat, by omega⟩
  subst er
  subst ed
  have rn3 : (rn : Int).toNat = rn := by omega
  have dn3 : (dn : Int).toNat = dn := by omega
  have mF : ∀ ro : Option (Sum th Int), (s 1 = 150 → ro = some (.inr 3)) → (s 1 ≠ 150 → ∃ B R, rr (prt (rug a rn (dn + 1)) (25 - rn) 0) B (25 - rn) ((dn + 1) * (rn + 1)) R ∧ ((∀ j, j < (dn + 1) * (rn + 1) → R j ≠ -1) → ro = none) ∧ (∀ c, c < (dn + 1) * (rn + 1) → R c = -1 → (∀ j, j < c → R j ≠ -1) → ro = some (.inl (th_ma 1 (c / (dn + 1) + 1) (fun _ i => kme (dn + 1) (kerp B R c) i (dn + 1)))))) → rueS (s 1) T f rn dn ro := fun ro y1 y2 => sp ro (by
    rw [ef1]
    refine ⟨fun w => absurd ⟨q2, q3⟩ w, fun _ => ⟨y1, ?_⟩⟩
    rw [rn3, dn3]
    exact y2)
  refine k589_41 (z5 := s1 1) w1.1 (fun q6 => ?_) (fun q6 => ?_) (c7 := by rw [s11]; unfold In3; omega)
  rotate_left
  · refine k589_51 w1.1 (wm_mono (wq_A (fun v4 h4 s4 A4 w4 r4 φ => ?_)) (V_raise w1))
    obtain ⟨z1, z2, z3⟩ := φ
    subst z1
    exact k589_56 ⟨_, h4, s4, A4, w4, FR_trans r1 r4, ⟨some (.inr 3), mF _ (fun _ => rfl) (fun w => absurd (by omega) w), endz_bad hR q1 (scr_A m1) rfl z2 z3⟩, rfl⟩
  -- each = dn + 1, width = each * (rn + 1)
  obtain ⟨E, eE⟩ : ∃ E, E = dn + 1 := ⟨_, rfl⟩
  obtain ⟨W, eW⟩ : ∃ W, W = E * (rn + 1) := ⟨_, rfl⟩
  rw [← eE, ← eW] at mF
  have E5 : 1 ≤ E ∧ E ≤ 5 := by omega
  have W20 : W ≤ 20 := by rw [eW]; exact Nat.le_trans (Nat.mul_le_mul E5.2 (show rn + 1 ≤ 4 by omega)) (by decide)
  have W1 : 1 ≤ W := by rw [eW]; exact Nat.mul_le_mul E5.1 (show 1 ≤ rn + 1 by omega)
  have cE : (dn : Int) + 1 = (E : Int) := by omega
  have cW : ((rn : Int) + 1) * ((dn : Int) + 1) = (W : Int) := by
    rw [cE, eW, Int.natCast_mul, Int.mul_comm]; rfl
  refine k589_57 w1.1 (wm_mono (wq_Q (fun h2 w2 r2 => ?_)) (V_emptyTable w1))
  rw [cW, cE]
  refine k589_74 ?_
  have Ei : ∀ i, i ≤ 3 → E * i ≤ 15 := fun i hi2 => Nat.le_trans (Nat.mul_le_mul E5.2 hi2) (by decide)
  have Ec : ∀ i : Nat, (E : Int) * (i : Int) = ((E * i : Nat) : Int) := fun i => (Int.natCast_mul E i).symm
  -- when the table is full
  have full' : ∀ (B0 : Nat → Nat → Int) (h' : s_H) (x6 : Int) (t7 t8 t9 t10 : Term), RV h' s1 B0 → FR h h' → (∀ x, x ≠ 1317 → B0 x = A1 x) → B0 1317 = fl (prt (rug a rn E) (25 - rn) 0) → wr sw_P (d + 4) sw_c589 sw_h589 (174, [.index 1290, vi (f : Int), vi (rn : Int), vi (dn : Int), vi (E : Int), vi (W : Int), vi x6, t7, t8, t9, t10], [], h', 0, 0) (RA h (fun v s' A' => ∃ ro, rueS (s 1) T f rn dn ro ∧ endn s A T ro v s' A')) := by
    intro B0 h' x6 t7 t8 t9 t10 v0 r0 o0 g0
    have m0 : sm A B0 scrA := sm_tr (scr_A m1) (fun j hj => o0 j (fun e => by rw [e] at hj; exact absurd hj (by decide)))
    refine k589_174 v0.1 ?_
    rw [show (25 : Int) - (rn : Int) = ((25 - rn : Nat) : Int) by omega]
    refine wm_mono (wq_N (fun h4 s4 A4 w4 r4 φ => ?_)) (V_clearTable v0 g0 (H := 25 - rn) (w := W) (by omega) (by omega))
    obtain ⟨B, es, m4, g4, a4⟩ := φ
    have q4' : sq s s4 := by rw [es]; exact sq_up (sq_up q1 _ rfl) _ rfl
    have m4' : sm A A4 scrA := sm_tr m0 (sm_sub m4 rfl)
    have e40 : s4 0 = 0 := by rw [es, up_ne _ _ (by decide), up_ne _ _ (by decide), e1, up_at]
    have r4' := FR_trans r0 r4
    refine k589_184 ?_
    -- the matrix of the first column without a row
    have made : ∀ c, c < W → A4 1318 c = -1 → (∀ j, j < c → A4 1318 j ≠ -1) → wr sw_P (d + 4) sw_c589 sw_h589 (211, [.index 1290, vi (f : Int), vi (rn : Int), vi (dn : Int), vi (E : Int), vi (W : Int), vi (c : Int), t7, t8, t9, t10], [], h4, 0, 0) (RA h (fun v s' A' => ∃ ro, rueS (s 1) T f rn dn ro ∧ endn s A T ro v s' A')) := by
      intro c cW' ec ne
      have hlast : c / E < rn + 1 := (Nat.div_lt_iff_lt_mul (by omega)).mpr (by rw [Nat.mul_comm]; omega)
      obtain ⟨la, ela⟩ : ∃ la, la = c / E := ⟨_, rfl⟩
      rw [← ela] at hlast
      refine k589_211 (fun _ => ?_) (fun w => absurd w (fun w => by omega)) (c1 := by unfold In3; omega) (c2 := by unfold In3; omega)
      refine k589_220 ?_ (c1 := by omega) (c2 := by unfold In3; omega) (c3 := by unfold In3; omega)
      rw [show Int.tdiv (c : Int) (E : Int) = (la : Int) by rw [ela]; rfl]
      obtain ⟨m, em⟩ : ∃ m : Nat, s4 1 = m := ⟨(s4 1).toNat, by have := sq_1 q4'; omega⟩
      have s41 := sq_1 q4'
      have R4 : RI s4 A4 T := RI_a hR m4' q4'
      have outer : ∀ (l i : Nat) (C : Nat → Nat → Int) (h5 : s_H) (t9 t10 : Term), i + l = la + 1 → RV h5 s4 C → FR h h5 → inM A4 C m (fun x y => x < 1 ∧ y < i) (fun _ i => kme E (kerp B (A4 1318) c) i E) → wr sw_P (d + 4) sw_c589 sw_h589 (230, [.index 1290, vi (f : Int), vi (rn : Int), vi (dn : Int), vi (E : Int), vi (W : Int), vi (c : Int), vi (la : Int), vi (i : Int), t9, t10], [], h5, 0, 0) (RA h (fun v s' A' => ∃ ro, rueS (s 1) T f rn dn ro ∧ endn s A T ro v s' A')) := by
        intro l
        induction l with
        | zero =>
          intro i C h5 t9 t10 hi2 v rr' w
          refine k589_230 (fun _ => ?_) (fun w => absurd w (by omega)) (c1 := by unfold In3; omega) (c2 := by unfold In3; omega)
          refine k589_349 v.1 ?_
          rw [show (la : Int) + 1 = ((la + 1 : Nat) : Int) by omega]
          refine wm_mono (wq_A (fun v2 h3 s3 A3 v3 r3 φ => ?_)) (V_keepMatrix v ⟨by omega, by omega⟩)
          obtain ⟨y1, y2, y3⟩ := φ
          have hN : newM A4 A3 (s4 1).toNat 1 (la + 1) (fun _ i => kme E (kerp B (A4 1318) c) i E) := ⟨C, by rw [show (s4 1).toNat = m by omega]; exact inM_mono w (fun x y _ _ w => ⟨w.1, by omega⟩), y3⟩
          subst y1
          refine k589_358 ⟨_, h3, s3, A3, v3, FR_trans rr' r3, ⟨some (.inl (th_ma 1 (la + 1) (fun _ i => kme E (kerp B (A4 1318) c) i E))), mF _ (fun w => absurd (by omega) q6) (fun _ => ⟨B, A4 1318, a4, fun w => absurd ec (w c cW'), fun c' c1 c2 c3 => ?_⟩), endz_new hR q4' m4' (by omega) (by omega) (by omega) rfl y2 hN⟩, rfl⟩
          have cc : c' = c := by
            refine Decidable.byContradiction (fun w => ?_)
            by_cases l' : c' < c
            · exact ne c' l' c2
            · exact c3 c (by omega) ec
          subst cc
          rw [← ela]
        | succ l ih =>
          intro i C h5 t9 t10 hi2 v rr' w
          refine k589_230 (fun w => absurd w (by omega)) (fun _ => ?_) (c1 := by unfold In3; omega) (c2 := by unfold In3; omega)
          refine k589_237 v.1 (wm_mono (wq_Q (fun h6 v6 r6 => ?_)) (V_empty v (c := 1308) rfl))
          refine k589_244 ?_
          have Eib := Ei i (by omega)
          have inner : ∀ (l2 e : Nat) (D : Nat → Nat → Int) (h7 : s_H) (t10 : Term), e + l2 = E → RV h7 s4 D → FR h h7 → (∀ x, x ≠ 1308 → D x = C x) → D 1308 = cf (kme E (kerp B (A4 1318) c) i e) → wr sw_P (d + 4) sw_c589 sw_h589 (247, [.index 1290, vi (f : Int), vi (rn : Int), vi (dn : Int), vi (E : Int), vi (W : Int), vi (c : Int), vi (la : Int), vi (i : Int), vi (e : Int), t10], [], h7, 0, 0) (RA h (fun v s' A' => ∃ ro, rueS (s 1) T f rn dn ro ∧ endn s A T ro v s' A')) := by
            intro l2
            induction l2 with
            | zero =>
              intro e D h7 t10 he v7 r7 o7 g7
              have eE' : e = E := by omega
              subst eE'
              refine k589_247 (fun _ => ?_) (fun w => absurd w (by omega)) (c1 := by unfold In3; omega) (c2 := by unfold In3; omega)
              have a3 := inM_sc w (C := D) (fun j hj => o7 j (fun e => by rw [e] at hj; exact absurd hj (by decide)))
              refine k589_332 v7.1 (wm_mono (wq_Q (fun h8 v8 r8 => ?_)) (V_keepEntry v7 (p := 1308) rfl (m := m) (i := 0) (j := i) (by omega) em (by omega) (by omega) g7))
              exact k589_343 (ih (i + 1) _ _ _ _ (by omega) v8 (FR_trans r7 r8) (inM_mono (inM_step a3 (i := 0) (j := i) (by omega) (by omega) (deg_le (kme_dg _ _ _ _) (by omega))) (fun x y _ _ w => by
                by_cases q5 : x = 0 ∧ y = i
                · exact .inr q5
                · exact .inl ⟨w.1, by omega⟩)))
            | succ l2 ih2 =>
              intro e D h7 t10 he v7 r7 o7 g7
              refine k589_247 (fun w => absurd w (by omega)) (fun _ => ?_) (c1 := by unfold In3; omega) (c2 := by unfold In3; omega)
              have eq' : (E : Int) * (i : Int) + (e : Int) = ((E * i + e : Nat) : Int) := by rw [Ec]; omega
              have gi8 : ∀ z : Int, z = (((kerp B (A4 1318) c).1 (E * i + e)).val : Int) → wr sw_P (d + 4) sw_c589 sw_h589 (325, [.index 1290, vi (f : Int), vi (rn : Int), vi (dn : Int), vi (E : Int), vi (W : Int), vi (c : Int), vi (la : Int), vi (i : Int), vi (e : Int), vi ((E * i + e : Nat) : Int)], [vl z, vi (e : Int), .index 1308], h7, 0, 0) (RA h (fun v s' A' => ∃ ro, rueS (s 1) T f rn dn ro ∧ endn s A T ro v s' A')) := by
                intro z ez
                refine k589_325 (RV_l v7 (c := 1308) rfl) ?_ (c4 := by rw [mk_len]; omega) (c5 := by omega) (c6 := by unfold In3; omega)
                rw [mk_set, g7, cf_pst (kme E (kerp B (A4 1318) c) i e) (n := e) (by omega) ez, kme_s]
                exact ih2 (e + 1) _ _ _ (by omega) (RV_w v7 (c := 1308) rfl _) (FR_trans r7 (FR_w v7 (c := 1308) rfl _)) (fun x hx => by rw [up_ne _ _ hx, o7 x hx]) (up_at _ _ _)
              have kx : (kerp B (A4 1318) c).1 (E * i + e) = if E * i + e = c then 1 else if E * i + e < c ∧ A4 1318 (E * i + e) ≠ -1 then -(B (pc (A4 1318) (E * i + e)) c) else 0 := rfl
              have o7' : ∀ x, x ≠ 1308 → x ≠ 1296 → x ≠ 1304 → x ≠ 1309 → x ≠ 1310 → D x = A4 x := fun x h1 h2 h3 h4 h5 => (o7 x h1).trans (w.1 x (by
                simp only [List.contains_cons, List.contains_nil, beq_false_of_ne h1, beq_false_of_ne h2, beq_false_of_ne h3, beq_false_of_ne h4, beq_false_of_ne h5, Bool.or_self]))
              refine k589_254 v7.1 ?_ ?_ (c7 := by rw [eq']; unfold In3; omega) (c8 := by unfold In3; omega)
              · rw [eq']
                intro q7
                refine k589_281 (fun q8 => ?_) (fun q8 => ?_) (c1 := by unfold In3; omega) (c2 := by unfold In3; omega)
                · refine k589_299 (gi8 0 ?_)
                  rw [kx, if_neg (by omega), if_neg (fun w => by omega)]; rfl
                · have lt : E * i + e < c := by omega
                  have nr := ne _ lt
                  have row := rr_row a4 (j := E * i + e) (by omega)
                  obtain ⟨z1, z2⟩ := row.2.2 nr
                  have e1' : gi (mk 48 (D 1318)) ((E * i + e : Nat) : Int) = A4 1318 (E * i + e) := by rw [gi_mkn (by omega), o7' 1318 (by decide) (by decide) (by decide) (by decide) (by decide)]
                  refine k589_288 v7.1 (Ra_row v7) (fun w2 => ?_) (fun w2 => absurd w2 (by rw [e1']; exact fun w3 => w3 nr)) (c10 := by rw [mk_len]; omega) (c11 := by omega) (c12 := by unfold In3; omega) (c13 := by rw [e1']; unfold In3; omega)
                  have e2 := gi_fl ((o7' 1317 (by decide) (by decide) (by decide) (by decide) (by decide)).trans g4) (n := pc (A4 1318) (E * i + e)) (i := c) (by omega) (by omega) (x := 48 * (A4 1318 (E * i + e)) + c) (by omega)
                  have bz := (B (pc (A4 1318) (E * i + e)) c).isLt
                  refine k589_303 v7.1 (Ra_row v7) (Ra_table v7) (wm_mono (wq_r ?_) (t_modulo (by rw [e1', e2]; exact in6_of (by omega) (by omega)))) (c12 := by rw [mk_len]; omega) (c13 := by omega) (c14 := by unfold In3; omega) (c18 := by rw [e1', mk_len]; omega) (c19 := by rw [e1']; omega) (c20 := by rw [e1']; unfold In3; omega)
                  rw [e1', e2, md_neg]
                  refine gi8 _ ?_
                  rw [kx, if_neg (by omega), if_pos ⟨lt, nr⟩]
              · rw [eq']
                intro q7
                refine k589_277 (gi8 1 ?_)
                rw [kx, if_pos (by omega)]; rfl
          exact inner E 0 _ h6 _ (by omega) v6 (FR_trans rr' r6) (fun x hx => up_ne _ _ hx) (by rw [up_at, kme_0])
      exact outer (la + 1) 0 A4 h4 _ _ (by omega) w4 r4' ⟨sm_refl, fun _ _ => rfl, fun _ => .inl rfl, fun x y _ _ w => absurd w.2 (Nat.not_lt_zero y)⟩
    have look : ∀ (l c : Nat), c + l = W → (∀ j, j < c → A4 1318 j ≠ -1) → wr sw_P (d + 4) sw_c589 sw_h589 (187, [.index 1290, vi (f : Int), vi (rn : Int), vi (dn : Int), vi (E : Int), vi (W : Int), vi (c : Int), t7, t8, t9, t10], [], h4, 0, 0) (RA h (fun v s' A' => ∃ ro, rueS (s 1) T f rn dn ro ∧ endn s A T ro v s' A')) := by
      intro l
      induction l with
      | zero =>
        intro c hc ne
        have cW' : c = W := by omega
        subst cW'
        refine k589_187 (fun _ => ?_) (fun w => absurd w (by omega)) (c1 := by unfold In3; omega) (c2 := by unfold In3; omega)
        refine k589_211 (fun w => absurd rfl w) (fun _ => ?_) (c1 := by unfold In3; omega) (c2 := by unfold In3; omega)
        exact k589_218 ⟨_, h4, s4, A4, w4, r4', ⟨none, mF _ (fun w => absurd (by omega) q6) (fun _ => ⟨B, A4 1318, a4, fun _ => rfl, fun c' c1 c2 _ => absurd c2 (ne c' c1)⟩), endn_none hR q4' m4' e40⟩, rfl⟩
      | succ l ih =>
        intro c hc ne
        have row := rr_row a4 (j := c) (by omega)
        have e1' : gi (mk 48 (A4 1318)) (c : Int) = A4 1318 c := gi_mkn (by omega)
        refine k589_187 (fun w => absurd w (by omega)) (fun _ => ?_) (c1 := by unfold In3; omega) (c2 := by unfold In3; omega)
        refine k589_194 w4.1 (Ra_row w4) (fun w => ?_) (fun w => ?_) (c10 := by rw [mk_len]; omega) (c11 := by omega) (c12 := by unfold In3; omega) (c13 := by rw [e1']; unfold In3; omega)
        · rw [e1'] at w
          exact made c (by omega) w ne
        · rw [e1'] at w
          refine k589_205 (ih (c + 1) (by omega) (fun j hj => ?_))
          by_cases q : j = c
          · rw [q]; exact w
          · exact ne j (by omega)
    exact look W 0 (by omega) (fun j hj => absurd hj (Nat.not_lt_zero j))
  -- the table
  have tab : ∀ (l n : Nat) (B : Nat → Nat → Int) (h' : s_H) (t7 t8 t9 t10 : Term), n + l = 25 - rn → RV h' s1 B → FR h h' → (∀ x, x ≠ 1317 → B x = A1 x) → B 1317 = fl (prt (rug a rn E) n 0) → wr sw_P (d + 4) sw_c589 sw_h589 (77, [.index 1290, vi (f : Int), vi (rn : Int), vi (dn : Int), vi (E : Int), vi (W : Int), vi (n : Int), t7, t8, t9, t10], [], h', 0, 0) (RA h (fun v s' A' => ∃ ro, rueS (s 1) T f rn dn ro ∧ endn s A T ro v s' A')) := by
    intro l
    induction l with
    | zero =>
      intro n B h' t7 t8 t9 t10 hn v rr' o g
      have nn : n = 25 - rn := by omega
      subst nn
      exact k589_77 (fun _ => full' B h' _ _ _ _ _ v rr' o g) (fun w => absurd w (by omega)) (c1 := by unfold In3; omega)
    | succ l ih =>
      intro n B h' t7 t8 t9 t10 hn v rr' o g
      refine k589_77 (fun w => absurd w (by omega)) (fun _ => k589_86 ?_) (c1 := by unfold In3; omega)
      have mid : ∀ (l2 i : Nat) (C : Nat → Nat → Int) (h2 : s_H) (t8 t9 t10 : Term), i + l2 = rn + 1 → RV h2 s1 C → FR h h2 → (∀ x, x ≠ 1317 → C x = A1 x) → C 1317 = fl (prt (rug a rn E) n (E * i)) → wr sw_P (d + 4) sw_c589 sw_h589 (89, [.index 1290, vi (f : Int), vi (rn : Int), vi (dn : Int), vi (E : Int), vi (W : Int), vi (n : Int), vi (i : Int), t8, t9, t10], [], h2, 0, 0) (RA h (fun v s' A' => ∃ ro, rueS (s 1) T f rn dn ro ∧ endn s A T ro v s' A')) := by
        intro l2
        induction l2 with
        | zero =>
          intro i C h2 t8 t9 t10 hi2 v2 r2 o2 g2
          have ii : i = rn + 1 := by omega
          subst ii
          refine k589_89 (fun _ => k589_168 ?_) (fun w => absurd w (by omega)) (c1 := by unfold In3; omega) (c2 := by unfold In3; omega)
          refine ih (n + 1) C h2 _ _ _ _ (by omega) v2 r2 o2 ?_
          rw [g2, prt_s (fun b hb => if_neg (by omega))]
        | succ l2 ih2 =>
          intro i C h2 t8 t9 t10 hi2 v2 r2 o2 g2
          have Eib := Ei i (by omega)
          refine k589_89 (fun w => absurd w (by omega)) (fun _ => k589_95 ?_) (c1 := by unfold In3; omega) (c2 := by unfold In3; omega)
          have num : ∀ (l3 e : Nat) (D : Nat → Nat → Int) (h3 : s_H) (t9 : Term), e + l3 = E → RV h3 s1 D → FR h h3 → (∀ x, x ≠ 1317 → D x = A1 x) → D 1317 = fl (prt (rug a rn E) n (E * i + e)) → wr sw_P (d + 4) sw_c589 sw_h589 (101, [.index 1290, vi (f : Int), vi (rn : Int), vi (dn : Int), vi (E : Int), vi (W : Int), vi (n : Int), vi (i : Int), vl ((nF (n : Int) ^ e : zp_F).val : Int), t9, vi (e : Int)], [], h3, 0, 0) (RA h (fun v s' A' => ∃ ro, rueS (s 1) T f rn dn ro ∧ endn s A T ro v s' A')) := by
            intro l3
            induction l3 with
            | zero =>
              intro e D h3 t9 he v3 r3 o3 g3
              have eE' : e = E := by omega
              refine k589_101 (fun _ => k589_162 ?_) (fun w => absurd w (by omega)) (c1 := by unfold In3; omega) (c2 := by unfold In3; omega)
              refine ih2 (i + 1) D h3 _ _ _ (by omega) v3 r3 o3 ?_
              rw [g3, show E * (i + 1) = E * i + e by rw [Nat.mul_succ, eE']]
            | succ l3 ih3 =>
              intro e D h3 t9 he v3 r3 o3 g3
              have gn : gi (mk 176 (D 1298)) ((n : Int) + i) = ((a.1 (n + i)).val : Int) := by rw [o3 1298 (by decide), h98, show (n : Int) + i = ((n + i : Nat) : Int) by omega]; exact gi_mkn (by omega)
              refine k589_101 (fun w => absurd w (by omega)) (fun _ => ?_) (c1 := by unfold In3; omega) (c2 := by unfold In3; omega)
              have ei := Ec i
              refine k589_108 v3.1 (RV_l v3 (c := 1298) rfl) (Ra_table v3) ?_ (c12 := by rw [mk_len]; omega) (c13 := by omega) (c14 := by unfold In3; omega) (c15 := by rw [gn]; exact in_mul _ _) (c19 := by rw [mk_len, ei]; omega) (c20 := by rw [ei]; omega) (c21 := by rw [ei]; unfold In3; omega) (c23 := by unfold In3; omega) (c24 := in_mk (by omega) _)
              have e5 := fl_put (prt (rug a rn E) n (E * i + e)) (n := n) (i := E * i + e) (by omega) (rug a rn E n (E * i + e)) (t0 := (48 * (n : Int) + (E : Int) * (i : Int) + e).toNat) (by rw [ei]; omega) (x := Int.tmod (((nF (n : Int) ^ e : zp_F).val : Int) * ((a.1 (n + i)).val : Int)) 32003) (by rw [tm_mul, rug_at (by omega) (by omega)])
              rw [gn, mk_set, g3, e5, prt_put, tm_mk, ← zp_pow_succ]
              exact ih3 (e + 1) _ _ _ (by omega) (RV_t v3 rfl) (FR_trans r3 (FR_t v3 _)) (fun x hx => by rw [up_ne _ _ hx, o3 x hx]) (up_at _ _ _)
          exact num E 0 C h2 _ (by omega) v2 r2 o2 g2
      exact mid (rn + 1) 0 B h' _ _ _ (by omega) v rr' o (by rw [g, Nat.mul_zero])
  exact tab (25 - rn) 0 _ h2 _ _ _ _ (by omega) w2 (FR_trans r1 r2) (fun x hx => up_ne _ _ hx) (by rw [up_at, prt_0])
end
