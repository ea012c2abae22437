/-! the class: the calls times, over, number, power, derive, put, value -/
section
variable {D : Nat} {h : s_H}
theorem zl_in (o : Nat) (x y : Int) : In6 (zl o x y) := by
  have a : ∀ v : Int64, In6 v.toInt := fun v => by
    have h1 := Int64.le_toInt v
    have h2 := Int64.toInt_lt v
    exact ⟨by omega, by omega⟩
  unfold zl
  exact a _
theorem zl_xs {x : Int} (hx : In6 x) : 0 ≤ zl 36 x 32003 ↔ 0 ≤ x := by
  have e : ∀ v : BitVec 64, v.msb = decide (v.toInt < 0) := fun v => BitVec.msb_eq_toInt
  have m := BitVec.msb_xor (x := (Int64.ofInt x).toBitVec) (y := (Int64.ofInt 32003).toBitVec)
  have k : (Int64.ofInt 32003).toBitVec.msb = false := by decide
  rw [k, Bool.xor_false, e, e] at m
  have z : zl 36 x 32003 = ((Int64.ofInt x).toBitVec ^^^ (Int64.ofInt 32003).toBitVec).toInt := rfl
  have w : (Int64.ofInt x).toBitVec.toInt = x := vl_int hx
  rw [← z, w] at m
  have := decide_eq_decide.mp m
  omega
theorem u_floorModL {x : Int} (hx : In6 x) : wm sw_P (D + 1) 624 [vl x, vl 32003] h (qr (vl ((nF x).val : Int)) h) := by
  refine wm_in (cd := sw_c624) (nL := 6) (hd := sw_h624) rfl rfl ?_
  have ng : ¬ 0 ≤ x → Int.tmod x 32003 = -((-x) % 32003) := fun w => by
    have : x = -(-x) := by omega
    rw [this, Int.neg_tmod, Int.tmod_eq_emod_of_nonneg (by omega), Int.neg_neg]
  refine k624_0 (fun w => k624_25 ?_) (fun w => k624_13 (fun z => k624_25 ?_) (fun z => k624_20 ?_) (c1 := ?_)) (c1 := by decide) (c2 := hx) (c3 := by decide) (c4 := zl_in _ _ _)
  · rw [Int.tmod_eq_emod_of_nonneg ((zl_xs hx).mp w), ← nF_v]
  · have nx : ¬ 0 ≤ x := fun q => w ((zl_xs hx).mpr q)
    have e := ng nx
    rw [z]
    rw [z] at e
    have : ((nF x).val : Int) = 0 := by rw [nF_v]; omega
    rw [this]
  · have nx : ¬ 0 ≤ x := fun q => w ((zl_xs hx).mpr q)
    have e := ng nx
    have : Int.tmod x 32003 + 32003 = ((nF x).val : Int) := by rw [nF_v]; omega
    rw [this]
  · have nx : ¬ 0 ≤ x := fun q => w ((zl_xs hx).mpr q)
    have e := ng nx
    rw [e]
    exact in6_of (by omega) (by omega)
theorem u_residue {x : Int} (hx : In6 x) : wm sw_P (D + 2) 76 [vl x] h (qr (vi ((nF x).val : Int)) h) := by
  refine wm_in (cd := sw_c76) (nL := 2) (hd := sw_h76) rfl rfl ?_
  have b := (nF x).isLt
  exact k76_0 (wm_mono (wq_r (k76_7 rfl)) (u_floorModL hx))
end
section
variable {D : Nat} {h : s_H} {n : Nat} {T : Nat → th} {tx lf lp tk : Int}
/-- THE CALL number -/
theorem u_numberC (H : CA h n T tx lf lp tk) (rm : RM h 100) {z : Int} (hz : In6 z) : wm sw_P (D + 4) 62 [.index 1, vl z] h (fun out => ∃ res, numS n z res ∧ CE 100 4000 100 [0] h n T tx lf lp tk res out) := by
  refine wm_in (cd := sw_c62) (nL := 3) (hd := sw_h62) rfl rfl ?_
  obtain ⟨⟨_, lo⟩, _, A, _, wd, _⟩ := id H
  have b := (nF z).isLt
  refine k62_0 H.1.1 (wm_mono (wq_r ?_) (u_residue hz))
  refine k62_8 (PE_c wd) (wm_mono (wq_U (fun h1 P F => ?_)) (u_setNumber wd (by decide) (x := ((nF z).val : Int)) (by omega)))
  rw [nF_val] at P
  have A1 := AL_U A F (fun p hp => .inl (by rw [List.mem_singleton.mp hp]; omega))
  obtain ⟨H1, C1', e1⟩ := CA_wide H (FA_of F) A1 (PF_E P)
  refine k62_11 H1.1.1 (wm_mono (fun out => ?_) (u_keepWhole H1 (RM_A rm C1' lo (by omega)) P (deg_le (zp_C_deg _) (by decide)) (by omega) (bad := 1) (l := [0]) rfl))
  intro ⟨res, r1, r2⟩
  refine wq_CE (fun v h' x y q => k62_19 q) C1' (by omega) (by omega) (by omega) (fun out c => ⟨res, ⟨fun q => r1.1 (.inl q), fun q => r1.2 ?_⟩, c⟩) out r2
  have c1 := C_hi (nF z)
  have c2 := C_hi 1
  omega
theorem joined_mul (H : CA h n T tx lf lp tk) (mo' : MO h) (rm : RM h 60) {x y : Int} {a b : Nat} (x0 : 0 ≤ x ∧ x < n) (y0 : 0 ≤ y ∧ y < n) (Ka : KT h a (T x.toNat)) (ka : kt h a) (Kb : KT h b (T y.toNat)) (kb : kt h b) : wm sw_P (D + 7) 32 [.index 1, vi 42, .index a, .index b] h (fun out => ∃ res, binS n T 1 x y (timF n) res ∧ CE 60 3600 60 [3, 1, 0] h n T tx lf lp tk res out) := by
  have b0 : 0 ≤ x ∧ x < n ∧ 0 ≤ y ∧ y < n := ⟨x0.1, x0.2, y0.1, y0.2⟩
  have sp : ∀ res, (kd (T x.toNat) ≠ kd (T y.toNat) ∨ kd (T x.toNat) = 3 → res = .inr 2) → (¬ (kd (T x.toNat) ≠ kd (T y.toNat) ∨ kd (T x.toNat) = 3) → timF n (T x.toNat) (T y.toNat) res) → binS n T 1 x y (timF n) res := fun res w1 w2 => ⟨fun q => absurd b0 q, fun _ q => w1 (by
    rcases q with q | q | q
    · exact .inl q
    · exact .inr q
    · exact absurd q.1 (by decide)), fun _ q => w2 (fun q2 => q (by
    rcases q2 with q2 | q2
    · exact .inl q2
    · exact .inr (.inl q2)))⟩
  obtain ⟨t, et⟩ : ∃ t, T x.toNat = t := ⟨_, rfl⟩
  obtain ⟨u, eu⟩ : ∃ u, T y.toNat = u := ⟨_, rfl⟩
  rw [et] at Ka
  rw [eu] at Kb
  rw [et, eu] at sp
  clear et eu
  have bad : kd t ≠ kd u ∨ kd t = 3 → wm sw_P (D + 7) 32 [.index 1, vi 42, .index a, .index b] h (fun out => ∃ res, binS n T 1 x y (timF n) res ∧ CE 60 3600 60 [3, 1, 0] h n T tx lf lp tk res out) := fun ne => by
    refine wm_mono (fun out eo => ?_) (u_joinedK (D := D + 2) H Ka Kb ne)
    rw [eo]
    exact ⟨.inr 2, sp _ (fun _ => rfl) (fun q => absurd ne q), CE_t H (CF_refl _ _) 2 rfl (by omega) (by omega) (by omega)⟩
  rcases t with ⟨N1, D1⟩ | f | ⟨r, w, M⟩ | ⟨n1, so, va⟩ <;> rcases u with ⟨N2, D2⟩ | g | ⟨r2, w2, M2⟩ | ⟨n2, so2, va2⟩
  · refine wm_mono (fun out => ?_) (u_joinedF (D := D + 2) (x := 42) H (RM_le rm (by decide)) (by omega) Ka ka Kb kb (bad := 3) (zer := 9) (l := [3, 1, 0]) rfl (fun w => absurd w (by omega)))
    intro ⟨res, r1, h', kc, ks, q1, q2, q3, q4, q5⟩
    obtain ⟨N, Dn, cc, fk⟩ := r1.2 (fun w => by omega)
    exact ⟨res, sp _ (fun q => absurd q (by first | (simp [kd]; done) | decide)) (fun _ => ⟨N, Dn, cc, fk⟩), h', kc, ks, by omega, by omega, q3, by omega, q5⟩
  · exact bad (.inl (by first | (simp [kd]; done) | decide))
  · exact bad (.inl (by first | (simp [kd]; done) | decide))
  · exact bad (.inl (by first | (simp [kd]; done) | decide))
  · exact bad (.inl (by first | (simp [kd]; done) | decide))
  · refine wm_mono (fun out => ?_) (u_joinedS (D := D + 2) (x := 42) H (RM_le rm (by decide)) (by omega) Ka Kb (bad := 3) (zer := 9) (l := [3, 1, 0]) rfl (fun w => absurd w (by omega)))
    intro ⟨res, r1, h', kc, ks, q1, q2, q3, q4, q5⟩
    obtain ⟨R, e3, _, _, e4, e5⟩ := r1.2 (fun w => by omega)
    rw [e3 rfl] at e5
    exact ⟨res, sp _ (fun q => absurd q (by first | (simp [kd]; done) | decide)) (fun _ => ⟨e4, e5⟩), h', kc, ks, by omega, by omega, q3, by omega, q5⟩
  · exact bad (.inl (by first | (simp [kd]; done) | decide))
  · exact bad (.inl (by first | (simp [kd]; done) | decide))
  · exact bad (.inl (by first | (simp [kd]; done) | decide))
  · exact bad (.inl (by first | (simp [kd]; done) | decide))
  · refine wm_mono (fun out => ?_) (u_joinedM (D := D) (x := 42) H mo' rm (by omega) Ka ka Kb kb (bad := 3) (ib := 2) (l := [3, 1, 0]) rfl rfl)
    intro ⟨res, r1, cc⟩
    obtain ⟨a1, a2⟩ := r1.1 rfl
    exact ⟨res, sp _ (fun q => absurd q (by first | (simp [kd]; done) | decide)) (fun _ => ⟨a1, fun e => (a2 e).1, fun e => (a2 e).2.1, fun e => (a2 e).2.2⟩), cc⟩
  · exact bad (.inl (by first | (simp [kd]; done) | decide))
  · exact bad (.inl (by first | (simp [kd]; done) | decide))
  · exact bad (.inl (by first | (simp [kd]; done) | decide))
  · exact bad (.inl (by first | (simp [kd]; done) | decide))
  · exact bad (.inr rfl)
/-- THE CALL times -/
theorem u_times (H : CA h n T tx lf lp tk) (mo' : MO h) (rm : RM h 100) {x y : Int} (hx : In3 x) (hy : In3 y) : wm sw_P (D + 8) 94 [.index 1, vi x, vi y] h (fun out => ∃ res, binS n T 1 x y (timF n) res ∧ CE 100 4000 100 [3, 1, 0] h n T tx lf lp tk res out) := by
  refine wm_in (cd := sw_c94) (nL := 3) (hd := sw_h94) rfl rfl ?_
  have bad : ∀ {c : Prop}, ¬ c → (c = (0 ≤ x ∧ x < n) ∨ c = (0 ≤ y ∧ y < n)) → binS n T 1 x y (timF n) (.inr 1) := fun {c} nc w => by
    have no : ¬ (0 ≤ x ∧ x < n ∧ 0 ≤ y ∧ y < n) := fun q => by
      rcases w with w | w
      · rw [w] at nc; exact absurd ⟨q.1, q.2.1⟩ nc
      · rw [w] at nc; exact absurd ⟨q.2.2.1, q.2.2.2⟩ nc
    exact ⟨fun _ => rfl, fun q => absurd q no, fun q => absurd q no⟩
  refine k94_0 H.1.1 (r_thing H hx (fun a x0 xn ka Ka => ?_) (fun w => CE_x H 1 rfl (bad w (.inl rfl)) (by omega) (by omega)))
  refine k94_8 H.1.1 (r_thing H hy (fun b y0 yn kb Kb => ?_) (fun w => CE_x H 1 rfl (bad w (.inr rfl)) (by omega) (by omega)))
  exact k94_13 H.1.1 (wm_mono (wq_pass (fun res w => w) (by omega) (by omega) (by omega) (fun v h' x y q => k94_16 q)) (joined_mul (D := D) H mo' (RM_le rm (by decide)) ⟨x0, xn⟩ ⟨y0, yn⟩ Ka ka Kb kb))
/-- THE CALL over -/
theorem u_over (H : CA h n T tx lf lp tk) (rm : RM h 100) {x y : Int} (hx : In3 x) (hy : In3 y) : wm sw_P (D + 6) 66 [.index 1, vi x, vi y] h (fun out => ∃ res, binS n T 0 x y (ovF n) res ∧ CE 100 4000 100 [3, 1, 2, 0] h n T tx lf lp tk res out) := by
  refine wm_in (cd := sw_c66) (nL := 5) (hd := sw_h66) rfl rfl ?_
  have bad : ∀ {c : Prop}, ¬ c → (c = (0 ≤ x ∧ x < n) ∨ c = (0 ≤ y ∧ y < n)) → binS n T 0 x y (ovF n) (.inr 1) := fun {c} nc w => by
    have no : ¬ (0 ≤ x ∧ x < n ∧ 0 ≤ y ∧ y < n) := fun q => by
      rcases w with w | w
      · rw [w] at nc; exact absurd ⟨q.1, q.2.1⟩ nc
      · rw [w] at nc; exact absurd ⟨q.2.2.1, q.2.2.2⟩ nc
    exact ⟨fun _ => rfl, fun q => absurd q no, fun q => absurd q no⟩
  refine k66_0 H.1.1 (r_thing H hx (fun a x0 xn ka Ka => ?_) (fun w => CE_x H 1 rfl (bad w (.inl rfl)) (by omega) (by omega)))
  refine k66_5 H.1.1 (r_thing H hy (fun b y0 yn kb Kb => ?_) (fun w => CE_x H 1 rfl (bad w (.inr rfl)) (by omega) (by omega)))
  have b0 : 0 ≤ x ∧ x < n ∧ 0 ≤ y ∧ y < n := ⟨x0, xn, y0, yn⟩
  have sp : ∀ res, (kd (T x.toNat) ≠ kd (T y.toNat) ∨ kd (T x.toNat) = 3 ∨ kd (T x.toNat) = 2 → res = .inr 2) → (¬ (kd (T x.toNat) ≠ kd (T y.toNat) ∨ kd (T x.toNat) = 3 ∨ kd (T x.toNat) = 2) → ovF n (T x.toNat) (T y.toNat) res) → binS n T 0 x y (ovF n) res := fun res w1 w2 => ⟨fun q => absurd b0 q, fun _ q => w1 (by
    rcases q with q | q | q
    · exact .inl q
    · exact .inr (.inl q)
    · exact .inr (.inr q.2)), fun _ q => w2 (fun q2 => q (by
    rcases q2 with q2 | q2 | q2
    · exact .inl q2
    · exact .inr (.inl q2)
    · exact .inr (.inr ⟨rfl, q2⟩)))⟩
  obtain ⟨t, et⟩ : ∃ t, T x.toNat = t := ⟨_, rfl⟩
  obtain ⟨u, eu⟩ : ∃ u, T y.toNat = u := ⟨_, rfl⟩
  rw [et] at Ka
  rw [eu] at Kb
  rw [et, eu] at sp
  clear et eu
  have bt := kd_b t
  obtain ⟨fs, ga⟩ := KT_kd Ka
  refine k66_11 (z6 := kd t) ga (fun n2 => ?_) (fun e2 => k66_21 (CE_x H 2 rfl (sp _ (fun _ => rfl) (fun q => absurd (.inr (.inr (Classical.byContradiction e2))) q)) (by omega) (by omega))) (c8 := by unfold In3; omega)
  refine k66_29 H.1.1 ?_
  have no : kd t ≠ kd u ∨ kd t = 3 → wm sw_P (D + 5) 32 [.index 1, vi 47, .index a, .index b] h (wq sw_P (D + 5) sw_c66 sw_h66 38 [.index 1, vi x, vi y, .index a, .index b] [] 0 0 (fun out => ∃ res, binS n T 0 x y (ovF n) res ∧ CE 100 4000 100 [3, 1, 2, 0] h n T tx lf lp tk res out)) := fun ne => by
    have q : kd t ≠ kd u ∨ kd t = 3 ∨ kd t = 2 := by
      rcases ne with w | w
      · exact .inl w
      · exact .inr (.inl w)
    refine wm_mono (fun out eo => ?_) (u_joinedK H Ka Kb ne)
    rw [eo]
    exact ⟨rfl, CE_x H 2 rfl (sp _ (fun _ => rfl) (fun q2 => absurd q q2)) (by omega) (by omega)⟩
  rcases t with ⟨N1, D1⟩ | f | ⟨r, w, M⟩ | ⟨n1, so, va⟩ <;> rcases u with ⟨N2, D2⟩ | g | ⟨r2, w2, M2⟩ | ⟨n2, so2, va2⟩
  · refine wm_mono (wq_pass (fun res w => sp _ (fun q => absurd q (by first | (simp [kd]; done) | decide)) (fun _ => ⟨fun e => w.1 ⟨rfl, e⟩, fun e => w.2 (fun q => e q.2)⟩)) (by omega) (by omega) (by omega) (fun v h' x y q => k66_38 q)) (u_joinedF (x := 47) H (RM_le rm (by decide)) (by omega) Ka ka Kb kb (bad := 4) (zer := 3) (l := [3, 1, 2, 0]) rfl (fun _ => rfl))
  · exact no (.inl (by first | (simp [kd]; done) | decide))
  · exact no (.inl (by first | (simp [kd]; done) | decide))
  · exact no (.inl (by first | (simp [kd]; done) | decide))
  · exact no (.inl (by first | (simp [kd]; done) | decide))
  · refine wm_mono (wq_pass (fun res w => sp _ (fun q => absurd q (by first | (simp [kd]; done) | decide)) (fun _ => ⟨fun e => w.1 ⟨rfl, e⟩, fun e => ?_⟩)) (by omega) (by omega) (by omega) (fun v h' x y q => k66_38 q)) (u_joinedS (x := 47) H (RM_le rm (by decide)) (by omega) Ka Kb (bad := 4) (zer := 3) (l := [3, 1, 2, 0]) rfl (fun _ => rfl))
    obtain ⟨R, _, e3, _, e4, e5⟩ := w.2 (fun q => e q.2)
    exact ⟨R, e3 rfl, e4, e5⟩
  · exact no (.inl (by first | (simp [kd]; done) | decide))
  · exact no (.inl (by first | (simp [kd]; done) | decide))
  · exact no (.inl (by first | (simp [kd]; done) | decide))
  · exact no (.inl (by first | (simp [kd]; done) | decide))
  · exact absurd rfl n2
  · exact no (.inl (by first | (simp [kd]; done) | decide))
  · exact no (.inl (by first | (simp [kd]; done) | decide))
  · exact no (.inl (by first | (simp [kd]; done) | decide))
  · exact no (.inl (by first | (simp [kd]; done) | decide))
  · exact no (.inr rfl)
theorem gd_dgp {a b : zp_R} {e f : Int} (da : dgp a e) (db : dgp b f) (a6 : zp_deg a 176) (b6 : zp_deg b 176) (f0 : 0 ≤ f) (e1 : e < 176) (f1 : f < 176) : ((if e ≤ f then f else e) : Int) = gd a b := by
  have h1 := dgp_of da e1
  have h2 := dgp_of db f1
  unfold gd
  rw [h1, h2]
  first
  | (split <;> split <;> omega)
  | (split <;> omega)
  | omega
/-- THE CALL power -/
theorem u_power (H : CA h n T tx lf lp tk) (rm : RM h 100) {x y : Int} (hx : In3 x) (hy : In3 y) : wm sw_P (D + 4) 69 [.index 1, vi x, vi y] h (fun out => ∃ res, powS n T x y res ∧ CE 100 4000 100 [3, 1, 0] h n T tx lf lp tk res out) := by
  refine wm_in (cd := sw_c69) (nL := 4) (hd := sw_h69) rfl rfl ?_
  have lo := H.1.2
  obtain ⟨_, _, A, _, _, ⟨z, o1⟩, _⟩ := id H
  have no : ∀ (x0 : 0 ≤ x ∧ x < n), ¬ (kd (T x.toNat) = 0 ∧ 0 ≤ y ∧ y ≤ 99) → powS n T x y (.inr 2) := fun x0 w => ⟨fun q => absurd x0 q, fun _ _ => rfl, fun _ q => absurd q w⟩
  refine k69_0 H.1.1 (r_ofKind H hx (by decide) (fun a x0 xn ka Ka k0 => ?_) (fun w => CE_x H 1 rfl ⟨fun _ => rfl, fun q => absurd q w, fun q => absurd q w⟩ (by omega) (by omega)) (fun x0 xn k0 => CE_x H 2 rfl (no ⟨x0, xn⟩ (fun q => k0 q.1)) (by omega) (by omega)))
  refine k69_6 (fun y0 => k69_17 (CE_x H 2 rfl (no ⟨x0, xn⟩ (fun q => by omega)) (by omega) (by omega))) (fun y0 => ?_) (c2 := hy)
  refine k69_11 (fun y99 => ?_) (fun y99 => k69_17 (CE_x H 2 rfl (no ⟨x0, xn⟩ (fun q => by omega)) (by omega) (by omega))) (c1 := hy)
  obtain ⟨m, em⟩ : ∃ m : Nat, y = m := ⟨y.toNat, by omega⟩
  subst em
  have sp : ∀ res, powF n m (T x.toNat) res → powS n T x m res := fun res w => ⟨fun q => absurd ⟨x0, xn⟩ q, fun _ q => absurd ⟨k0, by omega, by omega⟩ q, fun _ _ => by rw [show ((m : Int)).toNat = m by omega]; exact w⟩
  obtain ⟨t, et⟩ : ∃ t, T x.toNat = t := ⟨_, rfl⟩
  rw [et] at Ka sp k0
  clear et
  rcases t with ⟨N1, D1⟩ | f | ⟨r, w, M⟩ | ⟨n1, so, va⟩
  · obtain ⟨ta, dN, dD, mD, _⟩ := KT_T Ka ka
    obtain ⟨_, _, _, _, _, _, _, PN', PD', _⟩ := id Ka
    obtain ⟨e, _, _, be, _⟩ := PN'
    obtain ⟨f, _, _, bf, _⟩ := PD'
    have e41 : e < 41 := fD dN (by omega) e be
    have f41 : f < 41 := fD dD (by omega) f bf
    have f0 : 0 ≤ f := Int.not_lt.mp (fun q => mo_0 mD (dgp_0 bf q))
    have eg := gd_dgp be bf (deg_le dN (by decide)) (deg_le dD (by decide)) f0 (by omega) (by omega)
    obtain ⟨Hh, eH⟩ : ∃ Hh : Nat, ((if e ≤ f then f else e) : Int) = Hh := ⟨(if e ≤ f then f else e).toNat, by split <;> omega⟩
    have H41 : Hh ≤ 40 := by split at eH <;> omega
    have gH : gd N1 D1 = Hh := eg.symm.trans eH
    refine k69_25 H.1.1 A.1 (wm_mono (wq_AV (fun h1 S1 F1 A1 => ?_)) (u_raise A (by decide) ta o1 (by decide) be bf f0 eH (by omega) (n := m) (by omega)))
    have pw : ∀ {g : zp_R}, zp_deg g (Hh + 1) → zp_deg (zp_npow g m) (Hh * m + 1) := fun dg => npow_deg dg m
    have dNH : zp_deg N1 (Hh + 1) := dgp_deg be (by split at eH <;> omega)
    have dDH : zp_deg D1 (Hh + 1) := dgp_deg bf (by split at eH <;> omega)
    by_cases q : Hh * m ≤ 40
    · rw [if_pos q] at S1
      have lt41 : ∀ {g : zp_R}, zp_deg g (Hh + 1) → ∀ e, dgp (zp_npow g m) e → e ≤ 40 := fun dg e he => by
        have := fD (L := 41) (pw dg) (by omega) e he
        omega
      obtain ⟨H1, C1', e1⟩ := CA_res H F1 A1 ⟨0, OUT_E S1⟩
      have mn : mo (zp_npow D1 m) := mo_npow mD m
      have cn' : co (zp_npow N1 m) (zp_npow D1 m) := by
        obtain ⟨_, _, _, _, cND⟩ := KT_T Ka ka
        exact co_npow2 cND m m
      refine k69_39 H1.1.1 (wm_mono (fun out => ?_) (u_keepOut H1 (RM_A rm C1' lo (by omega)) S1 (by decide) (by omega) (lt41 dNH) (lt41 dDH) mn cn' (bad := 3) (l := [3, 1, 0]) rfl))
      intro ⟨res, r1, r2⟩
      refine wq_CE (fun v h' x y q => k69_42 q) C1' (by omega) (by omega) (by omega) (fun out c => ⟨res, sp _ ⟨fun w => ?_, fun _ => r1⟩, c⟩) out r2
      obtain ⟨_, w2⟩ := w
      rw [gH] at w2
      have : ((Hh * m : Nat) : Int) = (Hh : Int) * (m : Int) := Int.natCast_mul _ _
      omega
    · rw [if_neg q] at S1
      obtain ⟨H1, C1', e1⟩ := CA_res H F1 A1 ⟨5, S1⟩
      refine k69_39 H1.1.1 (wm_mono (wq_CE (res := .inr 3) (fun v h' x y q => k69_42 q) C1' (by omega) (by omega) (by omega) (fun out c => ⟨.inr 3, sp _ ⟨fun w => rfl, fun w => absurd ?_ w⟩, c⟩)) (u_keepBad H1 S1 rfl))
      have : ((Hh * m : Nat) : Int) = (Hh : Int) * (m : Int) := Int.natCast_mul _ _
      rw [gH]
      refine ⟨?_, by omega⟩
      refine Nat.pos_of_ne_zero (fun z => q ?_)
      rw [z, Nat.mul_zero]
      omega
  · exact absurd k0 (by first | (simp [kd]; done) | decide)
  · exact absurd k0 (by first | (simp [kd]; done) | decide)
  · exact absurd k0 (by first | (simp [kd]; done) | decide)
end
