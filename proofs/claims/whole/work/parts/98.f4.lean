/-! the slope of a product; what is left when the common part with the slope is taken out has no squares -/
theorem D_ex1 (h : zp_R) : zp_D (zp_mul (zp_X 1) h) = zp_add h (zp_mul (zp_X 1) (zp_D h)) := zp_ext (fun i => by
  show zp_nat (i + 1) * (zp_mul (zp_X 1) h).1 (i + 1) = h.1 i + (zp_mul (zp_X 1) (zp_D h)).1 i
  rw [(zp_X1 h).2]
  cases i with
  | zero =>
    rw [(zp_X1 _).1]
    show ((0 : zp_F) + 1) * h.1 0 = h.1 0 + 0
    grind
  | succ i =>
    rw [(zp_X1 _).2]
    show ((zp_nat (i + 1) : zp_F) + 1) * h.1 (i + 1) = h.1 (i + 1) + zp_nat (i + 1) * h.1 (i + 1)
    generalize (zp_nat (i + 1) : zp_F) = y
    generalize h.1 (i + 1) = x
    grind)
theorem D_add (f g : zp_R) : zp_D (zp_add f g) = zp_add (zp_D f) (zp_D g) := zp_ext (fun i => by
  show zp_nat (i + 1) * (f.1 (i + 1) + g.1 (i + 1)) = zp_nat (i + 1) * f.1 (i + 1) + zp_nat (i + 1) * g.1 (i + 1)
  exact @fx_ker.fk_h zp_F _ _ _ _)
theorem D_Cm (c : zp_F) (g : zp_R) : zp_D (zp_mul (zp_C c) g) = zp_mul (zp_C c) (zp_D g) := zp_ext (fun i => by
  rw [zp_C_mul1]
  show zp_nat (i + 1) * (zp_mul (zp_C c) g).1 (i + 1) = c * (zp_nat (i + 1) * g.1 (i + 1))
  rw [zp_C_mul1]
  exact @dc_h zp_F _ _ _ _)
where dc_h : ∀ {R : Type} [Lean.Grind.CommRing R] (a b c : R), a * (b * c) = b * (a * c) := by intro R _ a b c; grind
theorem D_mul : ∀ (N : Nat) (f g : zp_R), zp_deg f N → zp_D (zp_mul f g) = zp_add (zp_mul (zp_D f) g) (zp_mul f (zp_D g))
  | 0, f, g, h => by
    have e := zp_zero_of h
    have e1 : zp_mul f g = zp_C 0 := by rw [e]; exact @cmo_ext.cx_h zp_R zp_ring _
    have e2 : zp_D (zp_C 0) = zp_C 0 := zp_ext (fun i => by
      show zp_nat (i + 1) * (if i + 1 = 0 then (0 : zp_F) else 0) = if i = 0 then 0 else 0
      rw [if_neg (by omega), zp_ml0]
      split <;> rfl)
    rw [e1, e, e2]
    exact @dm_h zp_R zp_ring _ _
  | N + 1, f, g, h => by
    have dS : zp_deg (zp_sh f) N := fun i hi2 => h (i + 1) (by omega)
    have ef := zp_split f
    have ih := D_mul N (zp_sh f) g dS
    have e1 : zp_D f = zp_add (zp_sh f) (zp_mul (zp_X 1) (zp_D (zp_sh f))) := by
      have e3 : zp_D (zp_add (zp_C (f.1 0)) (zp_mul (zp_X 1) (zp_sh f))) = _ := D_add _ _
      rw [D_ex1] at e3
      rw [← ef] at e3
      have e2 : zp_D (zp_C (f.1 0)) = zp_C 0 := zp_ext (fun i => by
        show zp_nat (i + 1) * (if i + 1 = 0 then f.1 0 else 0) = if i = 0 then 0 else 0
        rw [if_neg (by omega), zp_ml0]
        split <;> rfl)
      rw [e2] at e3
      exact e3.trans (@dm_h2 zp_R zp_ring _)
    have e4 : zp_mul f g = zp_add (zp_mul (zp_C (f.1 0)) g) (zp_mul (zp_X 1) (zp_mul (zp_sh f) g)) := by
      have := congrArg (fun y => zp_mul y g) ef
      exact Eq.trans this (@dm_h3 zp_R zp_ring _ _ _ _)
    rw [e4, D_add, D_Cm, D_ex1, ih, e1]
    exact @dm_h4 zp_R zp_ring _ _ _ _ _ _ _ ef
where
  dm_h : ∀ {R : Type} [Lean.Grind.CommRing R] (a b : R), 0 = 0 * a + 0 * b := by intro R _ a b; grind
  dm_h2 : ∀ {R : Type} [Lean.Grind.CommRing R] (a : R), 0 + a = a := by intro R _ a; grind
  dm_h3 : ∀ {R : Type} [Lean.Grind.CommRing R] (c X s g : R), (c + X * s) * g = c * g + X * (s * g) := by intro R _ c X s g; grind
  dm_h4 : ∀ {R : Type} [Lean.Grind.CommRing R] {c X s g Dg Ds f : R} (_ : f = c + X * s), c * Dg + (s * g + X * (Ds * g + s * Dg)) = (s + X * Ds) * g + f * Dg := by intro R _ c X s g Dg Ds f e; grind
theorem D_mu (f g : zp_R) : zp_D (zp_mul f g) = zp_add (zp_mul (zp_D f) g) (zp_mul f (zp_D g)) := by
  obtain ⟨N, hN⟩ := f.2
  exact D_mul N f g hN
theorem D_pow (f : zp_R) : ∀ e : Nat, zp_D (zp_npow f (e + 1)) = zp_mul (zp_C (zp_nat (e + 1))) (zp_mul (zp_npow f e) (zp_D f))
  | 0 => by
    have e1 : zp_npow f (0 + 1) = zp_mul (zp_C 1) f := rfl
    have e2 : zp_npow f 0 = zp_C 1 := rfl
    have e3 : (zp_nat (0 + 1) : zp_F) = 1 := by
      show (0 : zp_F) + 1 = 1
      exact @root_fac.rf_h zp_F _ _
    rw [e1, e2, e3, D_Cm, zp_C1]
    exact @dp_h zp_R zp_ring _
  | e + 1 => by
    have e3 : zp_C (zp_nat (e + 1 + 1)) = zp_add (zp_C (zp_nat (e + 1))) (zp_C 1) := zp_ext (fun j => by
      show (if j = 0 then (zp_nat (e + 1) : zp_F) + 1 else 0) = (if j = 0 then zp_nat (e + 1) else 0) + (if j = 0 then 1 else 0)
      split
      · rfl
      · exact (@root_fac.rf_h zp_F _ _).symm)
    rw [npow_s f (e + 1), D_mu, D_pow f e, e3, npow_s f e, zp_C1]
    exact @dp_h2 zp_R zp_ring _ _ _ _
where
  dp_h : ∀ {R : Type} [Lean.Grind.CommRing R] (a : R), 1 * a = 1 * (1 * a) := by intro R _ a; grind
  dp_h2 : ∀ {R : Type} [Lean.Grind.CommRing R] (c p D f : R), c * (p * D) * f + p * f * D = (c + 1) * (p * f * D) := by intro R _ c p D f; grind
theorem zp_nat_0 {n : Nat} (h1 : 1 ≤ n) (h2 : n < 32003) : (zp_nat n : zp_F) ≠ 0 := fun w => by
  rw [zp_natF] at w
  have := congrArg Fin.val w
  have h3 : n % 32003 = 0 := this
  omega
theorem irr_D {f : zp_R} {n : Nat} (hf : irr f) (m : mon f n) (n40 : n ≤ 41) : ¬ dv f (zp_D f) := fun ⟨q, e⟩ => by
  have n1 : 1 ≤ n := by
    obtain ⟨⟨k, k1, mk⟩, _⟩ := hf
    rw [mon_one m mk]; exact k1
  have d : zp_deg (zp_D f) n := D_dg m.2
  have q0 : q = zp_C 0 := zp_zero_of (zp_monic_deg m.1 m.2 (t := 0) (by rw [← e]; exact d))
  rw [q0, zp_mul0] at e
  have t : (zp_D f).1 (n - 1) = zp_nat (n - 1 + 1) * f.1 (n - 1 + 1) := rfl
  rw [e, zp_C00, show n - 1 + 1 = n by omega, m.1] at t
  exact zp_nat_0 n1 (by omega) ((@cmo_X.cx_h1 zp_F _ _).symm.trans t.symm)
theorem irr_npow {f g : zp_R} (h : irr f) : ∀ n, dv f (zp_npow g n) → dv f g
  | 0, w => absurd w (irr_n1 h)
  | n + 1, w => by
    rw [npow_s] at w
    rcases irr_pr h w with w | w
    · exact irr_npow h n w
    · exact w
/-- how often f divides g: there is such a number -/
theorem oft_ex {f : zp_R} {k : Nat} (hf : mon f k) (k1 : 1 ≤ k) : ∀ (N : Nat) (g : zp_R), zp_deg g N → g ≠ zp_C 0 → ∃ n, oft g f n ∧ n ≤ N
  | 0, g, h, g0 => absurd (zp_zero_of h) g0
  | N + 1, g, h, g0 => by
    by_cases w : dv f g
    · obtain ⟨q, e⟩ := w
      have q0 : q ≠ zp_C 0 := fun z => g0 (by rw [e, z, zp_mul0])
      have dq : zp_deg q N := zp_monic_deg hf.1 hf.2 (t := N) (by rw [← e]; exact deg_le h (by omega))
      obtain ⟨n, ⟨G, e1, e2⟩, hn⟩ := oft_ex hf k1 N q dq q0
      exact ⟨n + 1, ⟨G, by rw [e, e1, npow_s]; exact @ox_h zp_R zp_ring _ _ _, e2⟩, by omega⟩
    · exact ⟨0, ⟨g, by
        show g = zp_mul (zp_C 1) g
        rw [zp_C1]; exact @rts_0.rs_h zp_R zp_ring g, w⟩, Nat.zero_le _⟩
where ox_h : ∀ {R : Type} [Lean.Grind.CommRing R] (f p G : R), f * (p * G) = p * f * G := by intro R _ f p G; grind
theorem npow_dv (f : zp_R) {a b : Nat} (h : a ≤ b) : dv (zp_npow f a) (zp_npow f b) := by
  obtain ⟨k, rfl⟩ : ∃ k, b = a + k := ⟨b - a, by omega⟩
  exact ⟨_, npow_add f a k⟩
theorem oft_le {f g : zp_R} {n k : Nat} (hf : irr f) (h : oft g f n) (w : dv (zp_npow f k) g) : k ≤ n := by
  refine Nat.le_of_not_lt (fun lt => ?_)
  obtain ⟨G, e, ne⟩ := h
  obtain ⟨q, eq⟩ := dv_tr2 w (npow_dv f (show n + 1 ≤ k from lt))
  have mo_n := mo_npow (irr_mo hf) n
  have : zp_mul (zp_npow f n) (zp_add G (zp_neg (zp_mul f q))) = zp_C 0 := by
    rw [npow_s] at eq
    exact @ol_h zp_R zp_ring _ _ _ _ _ e eq
  have z := mo_ne mo_n this
  exact ne ⟨q, @un_h5 zp_R zp_ring _ _ z⟩
where ol_h : ∀ {R : Type} [Lean.Grind.CommRing R] {g p G f q : R} (_ : g = p * G) (_ : g = p * f * q), p * (G + -(f * q)) = 0 := by intro R _ g p G f q e1 e2; grind
/-- what is left of p without what it has in common with its slope: no squares, the same primes -/
theorem sqf_of {p g B : zp_R} {N : Nat} (p0 : p ≠ zp_C 0) (dp : zp_deg p N) (N41 : N ≤ 41) (hG : isG p (zp_D p) g) (e : p = zp_mul g B) : sqf B ∧ ∀ f, irr f → dv f p → dv f B := by
  have all : ∀ f, irr f → ∀ n, oft p f (n + 1) → n + 1 ≤ N → dv (zp_npow f n) g ∧ ¬ dv (zp_npow f (n + 1)) g := fun f hf n ⟨G, e1, ne⟩ hn => by
    obtain ⟨⟨k, k1, mk⟩, _⟩ := id hf
    have k41 : k ≤ 41 := by
      refine Nat.le_of_not_lt (fun w => ?_)
      obtain ⟨q, eq⟩ : dv f p := by rw [e1, npow_s]; exact dv_mr (dv_ml (dv_rf f) _) G
      have q0 : q = zp_C 0 := zp_zero_of (zp_monic_deg mk.1 mk.2 (t := 0) (by rw [← eq]; exact deg_le dp (by omega)))
      exact p0 (by rw [eq, q0, zp_mul0])
    have eD : zp_D p = zp_add (zp_mul (zp_mul (zp_C (zp_nat (n + 1))) (zp_mul (zp_npow f n) (zp_D f))) G) (zp_mul (zp_npow f (n + 1)) (zp_D G)) := by
      rw [e1, D_mu, D_pow]
    refine ⟨dv_lin hG.2.2.1 (by rw [e1]; exact dv_mr (npow_dv f (Nat.le_succ n)) G) ?_, fun w => ?_⟩
    · rw [eD]
      exact dv_add (dv_mr (dv_ml (dv_mr (dv_rf _) _) _) _) (dv_mr (npow_dv f (Nat.le_succ n)) _)
    · have w2 := dv_tr2 hG.2.1 w
      rw [eD] at w2
      obtain ⟨q, eq⟩ := w2
      have z := mo_ne (mo_npow (irr_mo hf) n) (W := zp_add (zp_mul (zp_mul (zp_C (zp_nat (n + 1))) (zp_D f)) G) (zp_neg (zp_mul f (zp_add q (zp_neg (zp_D G)))))) (by
        rw [npow_s] at eq
        exact @so_h zp_R zp_ring _ _ _ _ _ _ _ eq)
      have w3 : dv f (zp_mul (zp_mul (zp_C (zp_nat (n + 1))) (zp_D f)) G) := ⟨_, @un_h5 zp_R zp_ring _ _ z⟩
      have w4 := (irr_pr hf w3).resolve_right ne
      rcases irr_pr hf w4 with w5 | w5
      · exact zp_nat_0 (by omega) (by omega) (irr_nC hf w5)
      · exact irr_D hf mk k41 w5
  have dvp : ∀ f, irr f → dv f p → ∃ n, oft p f (n + 1) ∧ n + 1 ≤ N := fun f hf w => by
    obtain ⟨⟨k, k1, mk⟩, _⟩ := id hf
    obtain ⟨n, h1, h2⟩ := oft_ex mk k1 N p dp p0
    cases n with
    | zero =>
      obtain ⟨G, e1, ne⟩ := h1
      have e2 : p = G := by
        rw [e1]
        show zp_mul (zp_C 1) G = G
        rw [zp_C1]; exact (@rts_0.rs_h zp_R zp_ring G).symm
      rw [e2] at w
      exact absurd w ne
    | succ n => exact ⟨n, h1, h2⟩
  refine ⟨fun f hf w => ?_, fun f hf w => ?_⟩
  · obtain ⟨x, ex⟩ := w
    have fp : dv f p := by rw [e, ex]; exact dv_ml (dv_mr (dv_mr (dv_rf f) f) x) g
    obtain ⟨n, h1, h2⟩ := dvp f hf fp
    obtain ⟨y, ey⟩ := (all f hf n h1 h2).1
    have := oft_le hf h1 (k := n + 2) ⟨zp_mul y x, by
      rw [npow_s, npow_s]
      exact @so_h2 zp_R zp_ring _ _ _ _ _ _ _ e ex ey⟩
    omega
  · obtain ⟨n, h1, h2⟩ := dvp f hf w
    refine Classical.byContradiction (fun nB => ?_)
    have c : co (zp_npow f (n + 1)) B := co_npow (irr_co hf nB) (n + 1)
    obtain ⟨G, e1, _⟩ := id h1
    have : dv (zp_npow f (n + 1)) (zp_mul B g) := ⟨G, by rw [zp_h20R, ← e, e1]⟩
    exact (all f hf n h1 h2).2 (co_dv c this)
where
  so_h : ∀ {R : Type} [Lean.Grind.CommRing R] {c p D G f E q : R} (_ : c * (p * D) * G + p * f * E = p * f * q), p * (c * D * G + -(f * (q + -E))) = 0 := by intro R _ c p D G f E q e; grind
  so_h2 : ∀ {R : Type} [Lean.Grind.CommRing R] {p g B f x y k : R} (_ : p = g * B) (_ : B = f * f * x) (_ : g = k * y), p = k * f * f * (y * x) := by intro R _ p g B f x y k e1 e2 e3; grind
