/-! partial fractions: what they are, and that they are one -/
/-- a sum that f divides, all but one of its terms too: the one too -/
theorem dv_but {f : zp_R} {g : Nat → zp_R} {k : Nat} : ∀ N, k < N → (∀ i, i < N → i ≠ k → dv f (g i)) → dv f (@zp_sum zp_R zp_ring g N) → dv f (g k)
  | 0, h, _, _ => absurd h (Nat.not_lt_zero k)
  | N + 1, h, hg, w => by
    have w' : dv f (zp_add (@zp_sum zp_R zp_ring g N) (g N)) := w
    by_cases q : k = N
    · have all : dv f (@zp_sum zp_R zp_ring g N) := by
        have : ∀ M, M ≤ N → dv f (@zp_sum zp_R zp_ring g M) := by
          intro M
          induction M with
          | zero => intro _; exact dv_00 f
          | succ M ih => intro hM; exact dv_add (ih (by omega)) (hg M (by omega) (by omega))
        exact this N (Nat.le_refl _)
      rw [q]
      exact dv_can all w'
    · refine dv_but N (by omega) (fun i hi2 => hg i (by omega)) ?_
      have c : zp_add (@zp_sum zp_R zp_ring g N) (g N) = zp_add (g N) (@zp_sum zp_R zp_ring g N) := @db_h zp_R zp_ring _ _
      rw [c] at w'
      exact dv_can (hg N (by omega) (fun e => q e.symm)) w'
where db_h : ∀ {R : Type} [Lean.Grind.CommRing R] (a b : R), a + b = b + a := by intro R _ a b; grind
theorem dv_sum {f : zp_R} {g : Nat → zp_R} : ∀ N, (∀ i, i < N → dv f (g i)) → dv f (@zp_sum zp_R zp_ring g N)
  | 0, _ => dv_00 f
  | N + 1, h => dv_add (dv_sum N (fun i hi2 => h i (by omega))) (h N (by omega))
theorem zp_can {f a b : zp_R} (hf : mo f) (e : zp_mul f a = zp_mul f b) : a = b := by
  have := mo_ne hf (W := zp_add a (zp_neg b)) (@zc_h zp_R zp_ring _ _ _ e)
  exact @un_h5 zp_R zp_ring _ _ this
where zc_h : ∀ {R : Type} [Lean.Grind.CommRing R] {f a b : R} (_ : f * a = f * b), f * (a + -b) = 0 := by intro R _ f a b e; grind
/-- the bottom's parts: b is F i so often, less one of them for each place, times U i m -/
def pfs (b : zp_R) (n : Nat) (F : Nat → zp_R) (O : Nat → Nat) (U : Nat → Nat → zp_R) : Prop := ∀ i, i < n → ∀ m, m < O i → b = zp_mul (zp_npow (F i) (m + 1)) (U i m)
theorem co_npow2 {f g : zp_R} (h : co f g) (a b : Nat) : co (zp_npow f a) (zp_npow g b) := co_sym (co_npow (co_sym (co_npow h a)) b)
theorem irr_cop {f g : zp_R} (hf : irr f) (hg : irr g) (ne : f ≠ g) : co f g := irr_co hf (fun w => ne (irr_eq hf hg w))
theorem ahd_ne {f g : zp_R} (h : ahd f g) : f ≠ g := fun e => by rw [e] at h; exact ahd_irr g h
theorem facs_ne {p : zp_R} {n : Nat} {F : Nat → zp_R} {D O : Nat → Nat} (h : facs p n F D O) {i j : Nat} (hi2 : i < n) (hj : j < n) (ne : i ≠ j) : F i ≠ F j := by
  rcases Nat.lt_trichotomy i j with l | l | l
  · exact ahd_ne (h.2.1 i j l hj)
  · exact absurd l ne
  · exact fun w => ahd_ne (h.2.1 j i l hi2) w.symm
/-- partial fractions of 0 are 0 -/
theorem pf_ind {b : zp_R} {n : Nat} {F : Nat → zp_R} {D O : Nat → Nat} {U Y : Nat → Nat → zp_R} (hb : mo b) (h : facs b n F D O) (hU : pfs b n F O U) (dY : ∀ i, i < n → ∀ m, m < O i → zp_deg (Y i m) (D i)) (z : @zp_sum zp_R zp_ring (fun i => @zp_sum zp_R zp_ring (fun m => zp_mul (Y i m) (U i m)) (O i)) n = zp_C 0) : ∀ i, i < n → ∀ m, m < O i → Y i m = zp_C 0 := by
  intro i hi2
  obtain ⟨hF, Fb, mF, V, eV, nV⟩ := h.1 i hi2
  have key : ∀ k, ∀ m, m < O i → O i ≤ m + k → Y i m = zp_C 0 := by
    intro k
    induction k with
    | zero => intro m h1 h2; omega
    | succ k ih =>
      intro m hm hk
      have up_ : ∀ m', m < m' → m' < O i → Y i m' = zp_C 0 := fun m' h1 h2 => ih m' h2 (by omega)
      -- U here is the rest of the powers times V
      have eU : ∀ m', m' < O i → U i m' = zp_mul (zp_npow (F i) (O i - 1 - m')) V := fun m' hm' => by
        refine zp_can (mo_npow (irr_mo hF) (m' + 1)) ?_
        rw [← hU i hi2 m' hm']
        have e1 := npow_add (F i) (m' + 1) (O i - 1 - m')
        rw [show m' + 1 + (O i - 1 - m') = O i by omega] at e1
        have e2 := eV
        rw [e1] at e2
        exact e2.trans (@pi_h zp_R zp_ring _ _ _)
      have oth : ∀ i', i' < n → i' ≠ i → dv (zp_npow (F i) (O i - m)) (@zp_sum zp_R zp_ring (fun m => zp_mul (Y i' m) (U i' m)) (O i')) := fun i' h1 h2 => dv_sum _ (fun m' hm' => by
        refine dv_ml (dv_tr2 ?_ (npow_dv (F i) (show O i - m ≤ O i by omega))) _
        have e := hU i' h1 m' hm'
        rw [eV] at e
        exact co_dv (co_npow2 (irr_cop hF (h.1 i' h1).1 (facs_ne h hi2 h1 (fun w => h2 w.symm))) (O i) (m' + 1)) ⟨V, e.symm⟩)
      have w1 := dv_but n hi2 oth (by rw [z]; exact dv_00 _)
      have w2 := dv_but (f := zp_npow (F i) (O i - m)) (g := fun m => zp_mul (Y i m) (U i m)) (k := m) (O i) hm (fun m' h1 h2 => by
        show dv _ (zp_mul (Y i m') (U i m'))
        by_cases q : m < m'
        · rw [up_ m' q h1]
          have : zp_mul (zp_C 0) (U i m') = zp_C 0 := @cmo_ext.cx_h zp_R zp_ring _
          rw [this]; exact dv_00 _
        · rw [eU m' h1]
          exact dv_ml (dv_mr (npow_dv (F i) (by omega)) V) _) w1
      have w3 : dv (zp_npow (F i) (O i - m)) (zp_mul (Y i m) (U i m)) := w2
      rw [eU m hm, show O i - m = (O i - 1 - m) + 1 by omega, npow_s] at w3
      obtain ⟨q, eq⟩ := w3
      have w4 : zp_mul (Y i m) V = zp_mul (F i) q := zp_can (mo_npow (irr_mo hF) (O i - 1 - m)) (@pi_h2 zp_R zp_ring _ _ _ _ _ eq)
      obtain ⟨q2, e2⟩ := (irr_pr hF ⟨q, w4⟩).resolve_right nV
      have dq : q2 = zp_C 0 := zp_zero_of (zp_monic_deg mF.1 mF.2 (t := 0) (by rw [← e2]; exact dY i hi2 m hm))
      rw [e2, dq, zp_mul0]
  exact fun m hm => key (O i) m hm (by omega)
where
  pi_h : ∀ {R : Type} [Lean.Grind.CommRing R] (a b c : R), a * b * c = a * (b * c) := by intro R _ a b c; grind
  pi_h2 : ∀ {R : Type} [Lean.Grind.CommRing R] {Y p V f q : R} (_ : Y * (p * V) = p * f * q), p * (Y * V) = p * (f * q) := by intro R _ Y p V f q e; grind
/-- the columns ahead of factor i -/
def cbs (D O : Nat → Nat) : Nat → Nat
  | 0 => 0
  | i + 1 => cbs D O i + O i * D i
theorem cbs_le (D O : Nat → Nat) {i : Nat} : ∀ {j : Nat}, i ≤ j → cbs D O i ≤ cbs D O j
  | 0, h => by rw [show i = 0 by omega]; exact Nat.le_refl _
  | j + 1, h => by
    by_cases e : i = j + 1
    · rw [e]; exact Nat.le_refl _
    · have := cbs_le D O (show i ≤ j by omega)
      show cbs D O i ≤ cbs D O j + O j * D j
      omega
/-- degrees add up -/
theorem facs_deg {b : zp_R} {n H : Nat} {F : Nat → zp_R} {D O : Nat → Nat} (hb : mon b H) (h : facs b n F D O) : cbs D O n = H := by
  have key : ∀ N, N ≤ n → ∃ C, dv C b ∧ mon C (cbs D O N) ∧ (∀ j, N ≤ j → j < n → co C (zp_npow (F j) (O j))) ∧ ∀ i, i < N → dv (zp_npow (F i) (O i)) C := by
    intro N
    induction N with
    | zero => exact fun _ => ⟨zp_C 1, dv_one b, mon_C1, fun j _ _ => co_one _, fun i hi2 => absurd hi2 (Nat.not_lt_zero i)⟩
    | succ N ih =>
      intro hN
      obtain ⟨C, c1, c2, c3, c4⟩ := ih (by omega)
      obtain ⟨hF, Fb, mF, V, eV, nV⟩ := h.1 N (by omega)
      have mP : ∀ e, mon (zp_npow (F N) e) (e * D N) := fun e => by
        induction e with
        | zero => rw [Nat.zero_mul]; exact mon_C1
        | succ e ih => rw [npow_s, Nat.succ_mul]; exact mon_mul ih mF
      refine ⟨zp_mul C (zp_npow (F N) (O N)), co_both (c3 N (Nat.le_refl _) (by omega)) c1 ⟨V, eV⟩, mon_mul c2 (mP (O N)), fun j h1 h2 => co_mul (c3 j (by omega) h2) (co_npow2 (irr_cop hF (h.1 j h2).1 (facs_ne h (by omega) h2 (by omega))) _ _), fun i hi2 => ?_⟩
      by_cases q : i = N
      · rw [q]; exact dv_ml (dv_rf _) C
      · exact dv_mr (c4 i (by omega)) _
  obtain ⟨C, ⟨q, eq⟩, c2, _, c4⟩ := key n (Nat.le_refl _)
  have hq := mon_quo c2 hb eq
  by_cases q1 : q = zp_C 1
  · rw [q1] at hq
    have := mon_one hq.2 mon_C1
    omega
  · obtain ⟨f, hf, fq⟩ := irr_of ⟨_, hq.2.1, hq.2.2⟩ q1
    obtain ⟨i, hi2, e⟩ := h.2.2 f hf (by rw [eq]; exact dv_ml fq C)
    obtain ⟨hF, Fb, mF, of⟩ := h.1 i hi2
    obtain ⟨x, ex⟩ := c4 i hi2
    obtain ⟨y, ey⟩ := fq
    rw [← e] at ey
    have := oft_le hF of (k := O i + 1) ⟨zp_mul x y, by
      rw [npow_s]
      exact @fd_h zp_R zp_ring _ _ _ _ _ _ _ eq ex ey⟩
    omega
where fd_h : ∀ {R : Type} [Lean.Grind.CommRing R] {b C q p f x y : R} (_ : b = C * q) (_ : C = p * x) (_ : q = f * y), b = p * f * (x * y) := by intro R _ b C q p f x y e1 e2 e3; grind
/-- numbers y by the columns of place m of factor i -/
def yps (y : Nat → zp_F) (k D : Nat) : zp_R := ⟨fun c => if c < D then y (k + c) else 0, D, fun c hc => if_neg (by omega)⟩
theorem yps_deg (y : Nat → zp_F) (k D : Nat) : zp_deg (yps y k D) D := fun c hc => if_neg (by omega)
theorem yps_mul {y : Nat → zp_F} {k : Nat} {u : zp_R} {S : Nat → zp_R} : ∀ {D : Nat}, (∀ c, c < D → S (k + c) = zp_mul (zp_X c) u) → @zp_sum zp_R zp_ring (fun c => zp_mul (zp_C (y (k + c))) (S (k + c))) D = zp_mul (yps y k D) u
  | D, hS => by
    have e := cmo_X (yps_deg y k D)
    have e2 : zp_mul (yps y k D) u = @zp_sum zp_R zp_ring (fun c => zp_mul (zp_C (y (k + c))) (S (k + c))) D := by
      have e3 : zp_mul (cmo (yps y k D) (zp_X 1) D) u = @zp_sum zp_R zp_ring (fun c => zp_mul (zp_C (y (k + c))) (S (k + c))) D := by
        rw [zp_h20R]
        refine Eq.trans (@zp_sum_mul zp_R zp_ring u _ D).symm (@zp_sum_congr zp_R zp_ring _ _ D (fun c hc => ?_))
        rw [hS c hc, zp_X_pow]
        have : (yps y k D).1 c = y (k + c) := if_pos hc
        rw [this]
        exact @ym_h zp_R zp_ring _ _ _
      rw [e] at e3
      exact e3
    exact e2.symm
where ym_h : ∀ {R : Type} [Lean.Grind.CommRing R] (u a b : R), u * (a * b) = a * (b * u) := by intro R _ u a b; grind
/-- a sum over columns, place by place -/
theorem sum_pl {y : Nat → zp_F} {S : Nat → zp_R} {k D : Nat} {u : Nat → zp_R} : ∀ M, (∀ m, m < M → ∀ c, c < D → S (k + m * D + c) = zp_mul (zp_X c) (u m)) → @zp_sum zp_R zp_ring (fun c => zp_mul (zp_C (y (k + c))) (S (k + c))) (M * D) = @zp_sum zp_R zp_ring (fun m => zp_mul (yps y (k + m * D) D) (u m)) M
  | 0, _ => by rw [Nat.zero_mul]; rfl
  | M + 1, h => by
    rw [Nat.succ_mul, @zp_sum_cut zp_R zp_ring, sum_pl M (fun m hm => h m (by omega))]
    have := yps_mul (y := y) (k := k + M * D) (u := u M) (S := S) (D := D) (h M (Nat.lt_succ_self M))
    refine congrArg (fun z => zp_add _ z) (Eq.trans (@zp_sum_congr zp_R zp_ring _ _ D (fun c _ => ?_)) this)
    rw [Nat.add_assoc]
theorem sum_fc {y : Nat → zp_F} {S : Nat → zp_R} {D O : Nat → Nat} {U : Nat → Nat → zp_R} : ∀ n, (∀ i, i < n → ∀ m, m < O i → ∀ c, c < D i → S (cbs D O i + m * D i + c) = zp_mul (zp_X c) (U i m)) → @zp_sum zp_R zp_ring (fun c => zp_mul (zp_C (y c)) (S c)) (cbs D O n) = @zp_sum zp_R zp_ring (fun i => @zp_sum zp_R zp_ring (fun m => zp_mul (yps y (cbs D O i + m * D i) (D i)) (U i m)) (O i)) n
  | 0, _ => rfl
  | n + 1, h => by
    show @zp_sum zp_R zp_ring (fun c => zp_mul (zp_C (y c)) (S c)) (cbs D O n + O n * D n) = _
    rw [@zp_sum_cut zp_R zp_ring, sum_fc n (fun i hi2 => h i (by omega))]
    exact congrArg (fun z => zp_add _ z) (sum_pl (k := cbs D O n) (O n) (h n (Nat.lt_succ_self n)))
/-- each column is one of a place -/
theorem cbs_at {D O : Nat → Nat} : ∀ n x, x < cbs D O n → ∃ i, i < n ∧ ∃ m, m < O i ∧ ∃ c, c < D i ∧ x = cbs D O i + m * D i + c
  | 0, x, h => absurd h (Nat.not_lt_zero x)
  | n + 1, x, h => by
    by_cases q : x < cbs D O n
    · obtain ⟨i, a, b⟩ := cbs_at n x q
      exact ⟨i, by omega, b⟩
    · have h' : x < cbs D O n + O n * D n := h
      obtain ⟨t, et⟩ : ∃ t, x = cbs D O n + t := ⟨x - cbs D O n, by omega⟩
      have ht : t < O n * D n := by omega
      have D0 : 0 < D n := by
        rcases Nat.eq_zero_or_pos (D n) with q0 | q0
        · rw [q0, Nat.mul_zero] at ht; exact absurd ht (Nat.not_lt_zero t)
        · exact q0
      refine ⟨n, Nat.lt_succ_self n, t / D n, Nat.div_lt_of_lt_mul (by rw [Nat.mul_comm]; exact ht), t % D n, Nat.mod_lt _ D0, ?_⟩
      have := Nat.div_add_mod t (D n)
      rw [Nat.mul_comm] at this
      omega
/-- the columns of all places depend on no others -/
theorem pf_cols {b : zp_R} {n : Nat} {F : Nat → zp_R} {D O : Nat → Nat} {U : Nat → Nat → zp_R} {S : Nat → zp_R} (hb : mo b) (h : facs b n F D O) (hU : pfs b n F O U) (hS : ∀ i, i < n → ∀ m, m < O i → ∀ c, c < D i → S (cbs D O i + m * D i + c) = zp_mul (zp_X c) (U i m)) (y : Nat → zp_F) (z : @zp_sum zp_R zp_ring (fun c => zp_mul (zp_C (y c)) (S c)) (cbs D O n) = zp_C 0) : ∀ x, x < cbs D O n → y x = 0 := fun x hx => by
  rw [sum_fc n hS] at z
  have w := pf_ind hb h hU (Y := fun i m => yps y (cbs D O i + m * D i) (D i)) (fun i _ m _ => yps_deg _ _ _) z
  obtain ⟨i, hi2, m, hm, c, hc, e⟩ := cbs_at n x hx
  have w2 := congrFun (congrArg Subtype.val (w i hi2 m hm)) c
  have w3 : (if c < D i then y (cbs D O i + m * D i + c) else 0) = (zp_C 0).1 c := w2
  rw [if_pos hc, zp_C00, ← e] at w3
  exact w3
