/-! when the parts can't be parted further -/
/-- one more unknown than rows: something not 0 is told nothing of -/
theorem dep : ∀ (m : Nat) (M : Nat → Nat → zp_F), ∃ y : Nat → zp_F, (∃ j, j ≤ m ∧ y j ≠ 0) ∧ ∀ c, c < m → zp_sum (fun j => M c j * y j) (m + 1) = 0
  | 0, M => ⟨fun _ => 1, ⟨0, Nat.le_refl 0, by decide⟩, fun c hc => absurd hc (Nat.not_lt_zero c)⟩
  | m + 1, M => by
    by_cases h : ∃ c, c < m + 1 ∧ M c (m + 1) ≠ 0
    · obtain ⟨c0, hc0, p0⟩ := h
      obtain ⟨y, ⟨j, hj, yj⟩, hy⟩ := dep m (fun c j => M (if c < c0 then c else c + 1) j + -(M (if c < c0 then c else c + 1) (m + 1) * M c0 (m + 1) ^ 32001) * M c0 j)
      have inv := zp_inv p0
      refine ⟨fun i => if i = m + 1 then -(M c0 (m + 1) ^ 32001 * zp_sum (fun j => M c0 j * y j) (m + 1)) else y i, ⟨j, by omega, by
        show (if j = m + 1 then _ else y j) ≠ 0
        rw [if_neg (by omega)]
        exact yj⟩, fun c hc => ?_⟩
      have head : ∀ c, zp_sum (fun i => M c i * (if i = m + 1 then -(M c0 (m + 1) ^ 32001 * zp_sum (fun j => M c0 j * y j) (m + 1)) else y i)) (m + 1) = zp_sum (fun j => M c j * y j) (m + 1) := fun c => zp_sum_congr (fun i hi2 => by rw [if_neg (by omega)])
      show zp_sum (fun i => M c i * (if i = m + 1 then -(M c0 (m + 1) ^ 32001 * zp_sum (fun j => M c0 j * y j) (m + 1)) else y i)) (m + 1) + M c (m + 1) * (if m + 1 = m + 1 then -(M c0 (m + 1) ^ 32001 * zp_sum (fun j => M c0 j * y j) (m + 1)) else y (m + 1)) = 0
      rw [head, if_pos rfl]
      by_cases q : c = c0
      · rw [q]
        exact @dp_h1 zp_F _ _ _ _ inv
      · have idx : ∃ c', c' < m ∧ (if c' < c0 then c' else c' + 1) = c := by
          by_cases q2 : c < c0
          · exact ⟨c, by omega, if_pos q2⟩
          · exact ⟨c - 1, by omega, by rw [if_neg (by omega)]; omega⟩
        obtain ⟨c', h1, h2⟩ := idx
        have e := hy c' h1
        rw [h2] at e
        have e2 : zp_sum (fun j => (M c j + -(M c (m + 1) * M c0 (m + 1) ^ 32001) * M c0 j) * y j) (m + 1) = zp_sum (fun j => M c j * y j) (m + 1) + -(M c (m + 1) * M c0 (m + 1) ^ 32001) * zp_sum (fun j => M c0 j * y j) (m + 1) := by
          rw [← zp_sum_mul, ← zp_sum_add]
          exact zp_sum_congr (fun i _ => @dp_h2 zp_F _ _ _ _ _)
        rw [e2] at e
        exact @dp_h3 zp_F _ _ _ _ _ e
    · refine ⟨fun i => if i = m + 1 then 1 else 0, ⟨m + 1, Nat.le_refl _, by
        show (if m + 1 = m + 1 then (1 : zp_F) else 0) ≠ 0
        rw [if_pos rfl]; decide⟩, fun c hc => ?_⟩
      refine zp_sum_zero (fun i hi2 => ?_)
      show M c i * (if i = m + 1 then 1 else 0) = 0
      by_cases q : i = m + 1
      · have : M c (m + 1) = 0 := Classical.byContradiction (fun w => h ⟨c, hc, w⟩)
        rw [q, this]; exact zp_0ml _
      · rw [if_neg q]; exact zp_ml0 _
where
  dp_h1 : ∀ {R : Type} [Lean.Grind.CommRing R] {p l x : R} (_ : p * l = 1), x + p * -(l * x) = 0 := by intro R _ p l x e; grind
  dp_h2 : ∀ {R : Type} [Lean.Grind.CommRing R] (a b c y : R), (a + b * c) * y = a * y + b * (c * y) := by intro R _ a b c y; grind
  dp_h3 : ∀ {R : Type} [Lean.Grind.CommRing R] {a b l x : R} (_ : a + -(b * l) * x = 0), a + b * -(l * x) = 0 := by intro R _ a b l x e; grind
/-- 1 at one, 0 at all others -/
theorem idm {B f : zp_R} {n : Nat} (hB : mon B n) (n1 : 1 ≤ n) (n41 : n ≤ 41) (sB : sqf B) (hf : irr f) (fB : dv f B) : ∃ E, zp_deg E n ∧ cg B (zp_npow E 32003) E ∧ cg f E (zp_C 1) ∧ ∀ f', irr f' → dv f' B → f' ≠ f → dv f' E := by
  obtain ⟨C, eC⟩ := fB
  have fC : ¬ dv f C := fun w => by
    obtain ⟨q, e⟩ := w
    exact sB f hf ⟨q, @im_h1 zp_R zp_ring B f C q eC e⟩
  obtain ⟨u, v, l⟩ := irr_co hf fC
  rw [zp_C1] at l
  have dB : zp_deg B 176 := deg_le hB.2 (by omega)
  have hn : hi B = n := hi_mo hB.1 hB.2 dB
  have h0 : 0 ≤ hi B := by omega
  have c2 : cg B (zp_mul (zp_mul v C) (zp_mul v C)) (zp_mul v C) := ⟨_, @im_h2 zp_R zp_ring B f C u v eC l⟩
  have cp : ∀ k, cg B (zp_npow (zp_mul v C) (k + 1)) (zp_mul v C) := by
    intro k
    induction k with
    | zero =>
      rw [npow_s]
      have : zp_mul (zp_npow (zp_mul v C) 0) (zp_mul v C) = zp_mul v C := by
        show zp_mul (zp_C 1) _ = _
        rw [zp_C1]; exact @im_h3 zp_R zp_ring _
      rw [this]; exact cg_refl B _
    | succ k ih =>
      rw [npow_s]
      exact cg_tr (cg_mul ih (cg_refl B _)) c2
  have cE := md_c h0 dB (zp_mul v C)
  refine ⟨md B (zp_mul v C), ?_, ?_, ?_, fun f' hf' fB' ne => ?_⟩
  · have := md_deg h0 dB (zp_mul v C)
    rw [hn] at this
    exact this
  · exact cg_tr (cg_symm (cg_pow cE 32003)) (cg_tr (cp 32002) cE)
  · have c1 : cg f (zp_mul v C) (zp_C 1) := ⟨zp_neg u, by rw [zp_C1]; exact @im_h4 zp_R zp_ring f C u v l⟩
    exact cg_tr (cg_symm (cg_of ⟨C, eC⟩ cE)) c1
  · have : dv f' C := by
      rw [eC] at fB'
      exact (irr_pr hf' fB').resolve_left (fun w => ne (irr_eq hf' hf w))
    exact dv_cg (by rw [eC]; exact dv_ml this f) (cg_symm cE) (dv_ml this v)
where
  im_h1 : ∀ {R : Type} [Lean.Grind.CommRing R] {B f C q : R} (_ : B = f * C) (_ : C = f * q), B = f * f * q := by intro R _ B f C q e1 e2; grind
  im_h2 : ∀ {R : Type} [Lean.Grind.CommRing R] {B f C u v : R} (_ : B = f * C) (_ : u * f + v * C = 1), v * C * (v * C) + -(v * C) = B * (-(u * v)) := by intro R _ B f C u v e1 e2; grind
  im_h3 : ∀ {R : Type} [Lean.Grind.CommRing R] (a : R), 1 * a = a := by intro R _ a; grind
  im_h4 : ∀ {R : Type} [Lean.Grind.CommRing R] {f C u v : R} (_ : u * f + v * C = 1), v * C + -1 = f * -u := by intro R _ f C u v e; grind
/-- a part that isn't irreducible has two that divide it -/
theorem two_of {B P : zp_R} (sB : sqf B) (hP : mo P) (P1 : P ≠ zp_C 1) (PB : dv P B) (h : ¬ irr P) : ∃ f f', irr f ∧ irr f' ∧ dv f P ∧ dv f' P ∧ f ≠ f' := by
  have hP' := hP
  obtain ⟨n, a, b⟩ := hP
  have n1 : 1 ≤ n := by
    rcases Nat.eq_zero_or_pos n with q | q
    · exact absurd (mon_0 (by rw [q] at a b; exact ⟨a, b⟩)) P1
    · exact q
  have : ∃ k, mo k ∧ dv k P ∧ k ≠ zp_C 1 ∧ k ≠ P := Classical.byContradiction (fun w => h ⟨⟨n, n1, a, b⟩, fun k hk d => Classical.byContradiction (fun w2 => w ⟨k, hk, d, fun e => w2 (.inl e), fun e => w2 (.inr e)⟩)⟩)
  obtain ⟨g, mg, ⟨q, e⟩, g1, gP⟩ := this
  have mq := mo_quo mg hP' e
  have q1 : q ≠ zp_C 1 := fun w => gP (by
    rw [w, zp_C1] at e
    exact ((@tw_h zp_R zp_ring g).trans e.symm))
  obtain ⟨f, hf, fg⟩ := irr_of mg g1
  obtain ⟨f', hf', fq⟩ := irr_of mq q1
  refine ⟨f, f', hf, hf', by rw [e]; exact dv_mr fg q, by rw [e]; exact dv_ml fq g, fun w => ?_⟩
  rw [← w] at fq
  obtain ⟨x, ex⟩ := fg
  obtain ⟨y, ey⟩ := fq
  refine sB f hf (dv_tr2 PB ⟨zp_mul x y, ?_⟩)
  exact @tw_h2 zp_R zp_ring P g q f x y e ex ey
where
  tw_h : ∀ {R : Type} [Lean.Grind.CommRing R] (g : R), g = g * 1 := by intro R _ g; grind
  tw_h2 : ∀ {R : Type} [Lean.Grind.CommRing R] {P g q f x y : R} (_ : P = g * q) (_ : g = f * x) (_ : q = f * y), P = f * f * (x * y) := by intro R _ P g q f x y e1 e2 e3; grind
theorem cst_sum {f : zp_R} {g : Nat → zp_R} : ∀ N, (∀ k, k < N → cst (g k) f) → cst (@zp_sum zp_R zp_ring g N) f
  | 0, _ => ⟨0, by
    have : zp_add (zp_C 0) (zp_C 0) = zp_C 0 := @cs_h zp_R zp_ring
    show dv f (zp_add (zp_C 0) (zp_C 0))
    rw [this]; exact dv_00 f⟩
  | N + 1, h => by
    obtain ⟨z, w⟩ := cst_sum N (fun k hk => h k (by omega))
    obtain ⟨z', w'⟩ := h N (by omega)
    obtain ⟨q, e⟩ := dv_add w w'
    refine ⟨z + z', q, Eq.trans ?_ e⟩
    have : zp_C (z + z') = zp_add (zp_C z) (zp_C z') := zp_ext (fun j => by
      show (if j = 0 then z + z' else (0 : zp_F)) = (if j = 0 then z else 0) + (if j = 0 then z' else 0)
      split
      · rfl
      · exact (@root_fac.rf_h zp_F _ _).symm)
    rw [this]
    exact @cs_h2 zp_R zp_ring _ _ _ _
where
  cs_h : ∀ {R : Type} [Lean.Grind.CommRing R], (0 : R) + 0 = 0 := by intro R _; grind
  cs_h2 : ∀ {R : Type} [Lean.Grind.CommRing R] (a b c d : R), (a + b) + (c + d) = (a + c) + (b + d) := by intro R _ a b c d; grind
theorem cst_mul {F f : zp_R} (a : zp_F) (h : cst F f) : cst (zp_mul (zp_C a) F) f := by
  obtain ⟨z, w⟩ := h
  obtain ⟨q, e⟩ := dv_ml w (zp_C a)
  refine ⟨a * z, q, Eq.trans ?_ e⟩
  rw [← zp_C_mul]
  exact @cm_h zp_R zp_ring _ _ _
where cm_h : ∀ {R : Type} [Lean.Grind.CommRing R] (a b c : R), a * b + a * c = a * (b + c) := by intro R _ a b c; grind
theorem cst_C (z : zp_F) (f : zp_R) : cst (zp_C z) f := ⟨-z, by
  have : zp_add (zp_C z) (zp_C (-z)) = zp_C 0 := zp_ext (fun j => by
    show (if j = 0 then z else (0 : zp_F)) + (if j = 0 then -z else 0) = if j = 0 then 0 else 0
    split
    · exact @zpr_ev.zv_h zp_F _ _
    · exact @root_fac.rf_h zp_F _ _)
  rw [this]; exact dv_00 f⟩
/-- if what stays is a number on each part, parts are irreducible -/
theorem end_A {B : zp_R} {n m : Nat} {P : Nat → zp_R} (hB : mon B n) (n1 : 1 ≤ n) (n41 : n ≤ 41) (sB : sqf B) (hp : prts B m P) (h : ∀ E, zp_deg E n → cg B (zp_npow E 32003) E → ∀ j, j < m → cst E (P j)) {j : Nat} (hj : j < m) : irr (P j) := Classical.byContradiction (fun w => by
  obtain ⟨a, b, c⟩ := hp.1 j hj
  obtain ⟨f, f', hf, hf', fP, fP', ne⟩ := two_of sB a b c w
  obtain ⟨E, dE, cE, c1, c0⟩ := idm hB n1 n41 sB hf (dv_tr2 c fP)
  obtain ⟨z, wz⟩ := h E dE cE j hj
  have z0 : z = 0 := irr_nC hf' (dv_can (c0 f' hf' (dv_tr2 c fP') (fun e => ne e.symm)) (dv_tr2 wz fP'))
  have z1 : dv f (zp_add (zp_C 1) (zp_C z)) := dv_cg (dv_rf f) (cg_add (cg_symm c1) (cg_refl f (zp_C z))) (dv_tr2 wz fP)
  rw [z0] at z1
  have : zp_add (zp_C 1) (zp_C 0) = zp_C 1 := @ea_h zp_R zp_ring _
  rw [this] at z1
  exact irr_n1 hf z1)
where ea_h : ∀ {R : Type} [Lean.Grind.CommRing R] (a : R), a + 0 = a := by intro R _ a; grind
theorem fcn_inj {R : Nat → Int} {c c' : Nat} (h : R c = -1) (h' : R c' = -1) (e : fcn R c = fcn R c') : c = c' := by
  rcases Nat.lt_trichotomy c c' with q | q | q
  · have := fcn_lt h c' q; omega
  · exact q
  · have := fcn_lt h' c q; omega
/-- as many primes as the base has polynomials, no more -/
theorem few_pr {B : zp_R} {n m : Nat} {Bt : Nat → Nat → zp_F} {R : Nat → Int} (hB : mon B n) (n1 : 1 ≤ n) (n41 : n ≤ 41) (sB : sqf B) (a : rr (tc (fxG B (md B (zp_X 32003))) n n 0) Bt n n R) (q : Nat → zp_R) (hq : ∀ i, i ≤ m → irr (q i) ∧ dv (q i) B) (ne : ∀ i j, i ≤ m → j ≤ m → i ≠ j → q i ≠ q j) : m < fcn R n := Nat.lt_of_not_le (fun le => by
  have hE : ∀ i, ∃ E, i ≤ m → zp_deg E n ∧ cg B (zp_npow E 32003) E ∧ cg (q i) E (zp_C 1) ∧ ∀ f', irr f' → dv f' B → f' ≠ q i → dv f' E := fun i => by
    by_cases hi2 : i ≤ m
    · obtain ⟨E, w⟩ := idm hB n1 n41 sB (hq i hi2).1 (hq i hi2).2
      exact ⟨E, fun _ => w⟩
    · exact ⟨zp_C 0, fun w => absurd w hi2⟩
  obtain ⟨E, hE⟩ : ∃ E : Nat → zp_R, ∀ i, i ≤ m → zp_deg (E i) n ∧ cg B (zp_npow (E i) 32003) (E i) ∧ cg (q i) (E i) (zp_C 1) ∧ ∀ f', irr f' → dv f' B → f' ≠ q i → dv f' (E i) := ⟨fun i => Classical.choose (hE i), fun i => Classical.choose_spec (hE i)⟩
  have hcol : ∀ t, ∃ c, (∃ c', c' < n ∧ R c' = -1 ∧ fcn R c' = t) → c < n ∧ R c = -1 ∧ fcn R c = t := fun t => by
    by_cases w : ∃ c', c' < n ∧ R c' = -1 ∧ fcn R c' = t
    · obtain ⟨c', w'⟩ := w
      exact ⟨c', fun _ => w'⟩
    · exact ⟨0, fun w' => absurd w' w⟩
  obtain ⟨col, hcol⟩ : ∃ col : Nat → Nat, ∀ t, (∃ c', c' < n ∧ R c' = -1 ∧ fcn R c' = t) → col t < n ∧ R (col t) = -1 ∧ fcn R (col t) = t := ⟨fun t => Classical.choose (hcol t), fun t => Classical.choose_spec (hcol t)⟩
  obtain ⟨y, ⟨i0, hi0, y0⟩, hy⟩ := dep m (fun t i => (E i).1 (col t))
  -- the sum
  have dS : zp_deg (@zp_sum zp_R zp_ring (fun i => zp_mul (zp_C (y i)) (E i)) (m + 1)) n := sum_dg (fun i hi2 => deg_Cm _ (hE i (by omega)).1)
  have cS : cg B (zp_npow (@zp_sum zp_R zp_ring (fun i => zp_mul (zp_C (y i)) (E i)) (m + 1)) 32003) (@zp_sum zp_R zp_ring (fun i => zp_mul (zp_C (y i)) (E i)) (m + 1)) := by
    rw [frob_sum]
    refine sum_cg (fun i hi2 => ?_)
    rw [frob_mul, frob_C]
    exact cg_mul (cg_refl B _) (hE i (by omega)).2.1
  have zS : ∀ c, c < n → R c = -1 → (@zp_sum zp_R zp_ring (fun i => zp_mul (zp_C (y i)) (E i)) (m + 1)).1 c = 0 := fun c hc e => by
    have w := hcol (fcn R c) ⟨c, hc, e, rfl⟩
    have ec : col (fcn R c) = c := fcn_inj w.2.1 e w.2.2
    have lt := fcn_lt e n hc
    have h1 := hy (fcn R c) (by omega)
    rw [ec] at h1
    rw [sum_cf]
    refine Eq.trans (zp_sum_congr (fun i _ => ?_)) h1
    rw [zp_C_mul1]; exact @zp_h20 zp_F _ _ _
  have sp := fx_span n41 a dS ((fx_ker hB n1 n41 dS).mpr cS)
  have S0 : @zp_sum zp_R zp_ring (fun i => zp_mul (zp_C (y i)) (E i)) (m + 1) = zp_C 0 := by
    rw [sp]
    refine @zp_sum_zero zp_R zp_ring _ _ (fun c hc => ?_)
    by_cases e : R c = -1
    · rw [if_pos e, zS c hc e]; exact @cmo_ext.cx_h zp_R zp_ring _
    · rw [if_neg e]; rfl
  -- at one prime
  have key : ∀ N, N ≤ m + 1 → cg (q i0) (@zp_sum zp_R zp_ring (fun i => zp_mul (zp_C (y i)) (E i)) N) (zp_C (if i0 < N then y i0 else 0)) := by
    intro N
    induction N with
    | zero => intro _; rw [if_neg (Nat.not_lt_zero i0)]; exact cg_refl _ _
    | succ N ih =>
      intro hN
      have h1 := ih (by omega)
      show cg (q i0) (zp_add (@zp_sum zp_R zp_ring (fun i => zp_mul (zp_C (y i)) (E i)) N) (zp_mul (zp_C (y N)) (E N))) _
      by_cases e : N = i0
      · rw [if_neg (by omega)] at h1
        rw [if_pos (by omega)]
        have h2 := (hE N (by omega)).2.2.1
        rw [e] at h2 h1
        have := cg_add h1 (cg_mul (cg_refl (q i0) (zp_C (y i0))) h2)
        rw [zp_C1] at this
        have e2 : zp_add (zp_C 0) (zp_mul (zp_C (y i0)) (zp_C 1)) = zp_C (y i0) := by rw [zp_C1]; exact @fp_h zp_R zp_ring _
        rw [zp_C1] at e2
        rw [e2] at this
        rw [e]; exact this
      · have h2 : cg (q i0) (E N) (zp_C 0) := cg_0.mpr ((hE N (by omega)).2.2.2 (q i0) (hq i0 hi0).1 (hq i0 hi0).2 (ne i0 N hi0 (by omega) (fun w => e w.symm)))
        have := cg_add h1 (cg_mul (cg_refl (q i0) (zp_C (y N))) h2)
        have e2 : zp_add (zp_C (if i0 < N then y i0 else 0)) (zp_mul (zp_C (y N)) (zp_C 0)) = zp_C (if i0 < N then y i0 else 0) := @fp_h2 zp_R zp_ring _ _
        rw [e2] at this
        have e3 : (if i0 < N + 1 then y i0 else 0) = (if i0 < N then y i0 else 0) := by
          by_cases q3 : i0 < N
          · rw [if_pos q3, if_pos (by omega)]
          · rw [if_neg q3, if_neg (by omega)]
        rw [e3]; exact this
  have fin := key (m + 1) (Nat.le_refl _)
  rw [S0, if_pos (by omega)] at fin
  exact y0 (irr_nC (hq i0 hi0).1 (cg_0.mp (cg_symm fin))))
where
  fp_h : ∀ {R : Type} [Lean.Grind.CommRing R] (a : R), 0 + a * 1 = a := by intro R _ a; grind
  fp_h2 : ∀ {R : Type} [Lean.Grind.CommRing R] (a b : R), a + b * 0 = a := by intro R _ a b; grind
/-- if there are as many parts as the base has polynomials, parts are irreducible -/
theorem end_B {B : zp_R} {n m : Nat} {P : Nat → zp_R} {Bt : Nat → Nat → zp_F} {R : Nat → Int} (hB : mon B n) (n1 : 1 ≤ n) (n41 : n ≤ 41) (sB : sqf B) (a : rr (tc (fxG B (md B (zp_X 32003))) n n 0) Bt n n R) (hp : prts B m P) (h : fcn R n ≤ m) {j : Nat} (hj : j < m) : irr (P j) := Classical.byContradiction (fun w => by
  obtain ⟨p1, p2, p3⟩ := hp.1 j hj
  obtain ⟨f, f', hf, hf', fP, fP', ne⟩ := two_of sB p1 p2 p3 w
  have hc : ∀ i, ∃ g, i < m → irr g ∧ dv g (P i) := fun i => by
    by_cases hi2 : i < m
    · obtain ⟨b1, b2, _⟩ := hp.1 i hi2
      obtain ⟨g, g1, g2⟩ := irr_of b1 b2
      exact ⟨g, fun _ => ⟨g1, g2⟩⟩
    · exact ⟨zp_C 0, fun w => absurd w hi2⟩
  obtain ⟨g, hg⟩ : ∃ g : Nat → zp_R, ∀ i, i < m → irr (g i) ∧ dv (g i) (P i) := ⟨fun i => Classical.choose (hc i), fun i => Classical.choose_spec (hc i)⟩
  -- a prime divides one part alone
  have only : ∀ k i x, irr x → k < m → i < m → k ≠ i → dv x (P k) → ¬ dv x (P i) := fun k i x hx hk hi2 ki w1 w2 => by
    have c : co (P k) (P i) := by
      rcases Nat.lt_trichotomy k i with l | l | l
      · exact hp.2 k i l hi2
      · exact absurd l ki
      · exact co_sym (hp.2 i k l hk)
    obtain ⟨u, v, l⟩ := c
    exact irr_n1 hx (by rw [← l]; exact dv_add (dv_ml w1 u) (dv_ml w2 v))
  let q : Nat → zp_R := fun i => if i = m then f' else if i = j then f else g i
  have qm : q m = f' := if_pos rfl
  have qj : q j = f := by show (if j = m then f' else if j = j then f else g j) = f; rw [if_neg (by omega), if_pos rfl]
  have qi : ∀ i, i < m → i ≠ j → q i = g i := fun i h1 h2 => by show (if i = m then f' else if i = j then f else g i) = g i; rw [if_neg (by omega), if_neg h2]
  have qs : ∀ i, i < m → irr (q i) ∧ dv (q i) (P i) := fun i hi2 => by
    by_cases e : i = j
    · rw [e, qj]; exact ⟨hf, fP⟩
    · rw [qi i hi2 e]; exact hg i hi2
  have lt : ∀ i k, i < k → k ≤ m → q i ≠ q k := fun i k ik hk e => by
    by_cases km : k = m
    · by_cases ij : i = j
      · rw [km, qm, ij, qj] at e; exact ne e
      · rw [km, qm] at e
        have := (qs i (by omega)).2
        rw [e] at this
        exact only j i f' hf' hj (by omega) (fun w => ij w.symm) fP' this
    · have := (qs i (by omega)).2
      rw [e] at this
      exact only k i (q k) (qs k (by omega)).1 (by omega) (by omega) (by omega) (qs k (by omega)).2 this
  have := few_pr hB n1 n41 sB a q (m := m) (fun i hi2 => by
    by_cases e : i = m
    · rw [e, qm]; exact ⟨hf', dv_tr2 p3 fP'⟩
    · obtain ⟨b1, b2⟩ := qs i (by omega)
      exact ⟨b1, dv_tr2 (hp.1 i (by omega)).2.2 b2⟩) (fun i k hi2 hk ik => by
    rcases Nat.lt_trichotomy i k with l | l | l
    · exact lt i k l hk
    · exact absurd l ik
    · exact fun w => lt k i l hi2 w.symm)
  omega)
/-- what is a number for the base is one for all that stays -/
theorem fx_cst {B f E : zp_R} {n : Nat} {Bt : Nat → Nat → zp_F} {R : Nat → Int} (hB : mon B n) (n1 : 1 ≤ n) (n41 : n ≤ 41) (a : rr (tc (fxG B (md B (zp_X 32003))) n n 0) Bt n n R) (dE : zp_deg E n) (cE : cg B (zp_npow E 32003) E) (h : ∀ c, c < n → R c = -1 → cst (kerq Bt R n c) f) : cst E f := by
  rw [fx_span n41 a dE ((fx_ker hB n1 n41 dE).mpr cE)]
  refine cst_sum n (fun c hc => ?_)
  by_cases e : R c = -1
  · rw [if_pos e]; exact cst_mul _ (h c hc e)
  · rw [if_neg e]; exact cst_C 0 f
