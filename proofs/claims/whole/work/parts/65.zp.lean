/-! sixth part: degrees, division, values, zeros -/
def zp_deg (f : zp_R) (n : Nat) : Prop := ∀ i, n ≤ i → f.1 i = 0
theorem zp_deg_mul {f g : zp_R} {n m : Nat} (hf : zp_deg f (n + 1)) (hg : zp_deg g (m + 1)) : zp_deg (zp_mul f g) (n + m + 1) := fun i hi => zp_c_lt hf hg (by omega)
theorem zp_degD : @zp_dg zp_R zp_ring zp_deg := by
  refine ⟨fun f n m h hnm i hi => h i (by omega), fun f g n hf hg i hi => ?_, fun f n hf i hi => ?_, fun f g n m hf hg => zp_deg_mul hf hg, fun i hi => ?_, fun i hi => ?_⟩
  · show f.1 i + g.1 i = 0
    rw [hf i hi, hg i hi]; grind
  · show -f.1 i = 0
    rw [hf i hi]; grind
  · show (if i = 0 then (0 : zp_F) else 0) = 0
    split <;> rfl
  · show (if i = 0 then zp_nat 1 else (0 : zp_F)) = 0
    rw [if_neg (by omega)]
theorem zp_zero_of {f : zp_R} (h : zp_deg f 0) : f = zp_C 0 := zp_ext (fun i => by
  rw [h i (Nat.zero_le i)]
  show (0 : zp_F) = if i = 0 then 0 else 0
  split <;> rfl)
theorem zp_c_top {R : Type} [Lean.Grind.CommRing R] {g : Nat → R} {t : Nat} (hg : ∀ i, t + 1 ≤ i → g i = 0) : ∀ (n : Nat) (f : Nat → R), (∀ i, n + 1 ≤ i → f i = 0) → zp_c f g (n + t) = f n * g t
  | 0, f, hf => by
    rw [Nat.zero_add]
    unfold zp_c
    rw [zp_sum_head, Nat.sub_zero]
    have : zp_sum (fun i => f (i + 1) * g (t - (i + 1))) t = 0 := zp_sum_zero (fun i hi => by rw [hf (i + 1) (by omega)]; grind)
    rw [this]; grind
  | n + 1, f, hf => by
    rw [show n + 1 + t = n + t + 1 by omega, zp_c_succ, hg (n + t + 1) (by omega), zp_c_top hg n (fun i => f (i + 1)) (fun i hi => hf (i + 1) (by omega))]
    grind
/-- the degree of what is multiplied by one with 1 at its highest power -/
theorem zp_monic_deg {g : zp_R} {n : Nat} (hg : g.1 n = 1) (hd : zp_deg g (n + 1)) {W : zp_R} {t : Nat} (h : zp_deg (zp_mul g W) (n + t)) : zp_deg W t := by
  obtain ⟨N, hN⟩ := W.2
  have key : ∀ k, zp_deg W (t + k) → zp_deg W t := by
    intro k
    induction k with
    | zero => exact id
    | succ k ih =>
      intro hk
      refine ih (fun i hi => ?_)
      by_cases hik : i = t + k
      · subst hik
        have h1 : (zp_mul g W).1 (n + (t + k)) = g.1 n * W.1 (t + k) := zp_c_top (fun i hi => hk i (by omega)) n g.1 hd
        rw [h (n + (t + k)) (by omega), hg] at h1
        have h2 : (1 : zp_F) * W.1 (t + k) = W.1 (t + k) := by grind
        rw [h2] at h1
        exact h1.symm
      · exact hk i (by omega)
  exact key N (fun i hi => hN i (by omega))
def zp_T (c : zp_F) (k : Nat) : zp_R := ⟨fun i => if i = k then c else 0, k + 1, fun i hi => if_neg (by omega)⟩
theorem zp_T_deg (c : zp_F) (k : Nat) : zp_deg (zp_T c k) (k + 1) := fun i hi => if_neg (by omega)
theorem zp_divm {g : zp_R} {n : Nat} (hg : g.1 n = 1) (hd : zp_deg g (n + 1)) : ∀ (N : Nat) (f : zp_R), zp_deg f N → ∃ q r, f = zp_add (zp_mul g q) r ∧ zp_deg r n
  | 0, f, hf => by
    letI := zp_ring
    exact ⟨0, f, (show f = g * 0 + f by grind), fun i hi => hf i (Nat.zero_le i)⟩
  | N + 1, f, hf => by
    letI := zp_ring
    by_cases hN : N + 1 ≤ n
    · exact ⟨0, f, (show f = g * 0 + f by grind), fun i hi => hf i (by omega)⟩
    · have h1 : zp_deg (f - g * zp_T (f.1 N) (N - n)) N := fun i hi => by
        show f.1 i + -(zp_mul g (zp_T (f.1 N) (N - n))).1 i = 0
        by_cases hiN : i = N
        · subst hiN
          have h2 : (zp_mul g (zp_T (f.1 i) (i - n))).1 (n + (i - n)) = g.1 n * (zp_T (f.1 i) (i - n)).1 (i - n) := zp_c_top (zp_T_deg _ _) n g.1 hd
          rw [show n + (i - n) = i by omega, hg] at h2
          rw [h2]
          show f.1 i + -(1 * if i - n = i - n then f.1 i else 0) = 0
          rw [if_pos rfl]
          generalize f.1 i = y
          grind
        · have h2 : (zp_mul g (zp_T (f.1 N) (N - n))).1 i = 0 := zp_c_lt hd (zp_T_deg _ _) (by omega)
          rw [h2, hf i (by omega)]; grind
      obtain ⟨q, r, e, hr⟩ := zp_divm hg hd N _ h1
      refine ⟨q + zp_T (f.1 N) (N - n), r, ?_, hr⟩
      show f = g * (q + zp_T (f.1 N) (N - n)) + r
      have e : f - g * zp_T (f.1 N) (N - n) = g * q + r := e
      generalize zp_T (f.1 N) (N - n) = t at *
      clear h1 hf hd hg
      grind
/-- the value at a number -/
theorem zp_sum_ext {R : Type} [Lean.Grind.CommRing R] {f : Nat → R} {n m : Nat} (hn : ∀ i, n ≤ i → f i = 0) (h : n ≤ m) : zp_sum f m = zp_sum f n := by
  obtain ⟨k, rfl⟩ : ∃ k, m = n + k := ⟨m - n, by omega⟩
  rw [zp_sum_cut]
  have : zp_sum (fun i => f (n + i)) k = 0 := zp_sum_zero (fun i hi => hn _ (by omega))
  rw [this]; grind
noncomputable def zp_ev (a : zp_F) (f : zp_R) : zp_F := zp_sum (fun i => f.1 i * a ^ i) (Classical.choose f.2)
theorem zp_ev_eq (a : zp_F) {f : zp_R} {N : Nat} (h : zp_deg f N) : zp_ev a f = zp_sum (fun i => f.1 i * a ^ i) N := by
  have h1 := Classical.choose_spec f.2
  have z : ∀ {n : Nat}, (∀ i, n ≤ i → f.1 i = 0) → ∀ i, n ≤ i → f.1 i * a ^ i = 0 := fun hn i hi => by rw [hn i hi]; grind
  show zp_sum (fun i => f.1 i * a ^ i) (Classical.choose f.2) = _
  generalize Classical.choose f.2 = M at *
  rcases Nat.le_total N M with q | q
  · exact zp_sum_ext (z h) q
  · exact (zp_sum_ext (z h1) q).symm
theorem zp_ev_add (a : zp_F) (f g : zp_R) : zp_ev a (zp_add f g) = zp_ev a f + zp_ev a g := by
  obtain ⟨n, hn⟩ := f.2
  obtain ⟨m, hm⟩ := g.2
  have h1 : zp_deg f (n + m) := fun i hi => hn i (by omega)
  have h2 : zp_deg g (n + m) := fun i hi => hm i (by omega)
  have h3 : zp_deg (zp_add f g) (n + m) := fun i hi => by
    show f.1 i + g.1 i = 0
    rw [h1 i hi, h2 i hi]; grind
  rw [zp_ev_eq a h1, zp_ev_eq a h2, zp_ev_eq a h3, ← zp_sum_add]
  exact zp_sum_congr (fun i hi => by show (f.1 i + g.1 i) * a ^ i = _; grind)
theorem zp_ev_mulA {R : Type} [Lean.Grind.CommRing R] (a : R) {g : Nat → R} {m : Nat} (hg : ∀ i, m ≤ i → g i = 0) : ∀ (n : Nat) (f : Nat → R), (∀ i, n ≤ i → f i = 0) → ∀ M, n + m ≤ M → zp_sum (fun i => zp_c f g i * a ^ i) M = zp_sum (fun i => f i * a ^ i) n * zp_sum (fun i => g i * a ^ i) m
  | 0, f, hf, M, hM => by
    have : zp_sum (fun i => zp_c f g i * a ^ i) M = 0 := zp_sum_zero (fun i hi => by
      have : zp_c f g i = 0 := zp_sum_zero (fun j hj => by rw [hf j (Nat.zero_le j)]; grind)
      rw [this]; grind)
    rw [this]
    show (0 : R) = 0 * _
    grind
  | n + 1, f, hf, M, hM => by
    obtain ⟨M, rfl⟩ : ∃ k, M = k + 1 := ⟨M - 1, by omega⟩
    have ih := zp_ev_mulA a hg n (fun i => f (i + 1)) (fun i hi => hf (i + 1) (by omega)) M (by omega)
    rw [zp_sum_head, zp_c_zero, zp_pow_zero, zp_sum_head (fun i => f i * a ^ i) n, zp_pow_zero]
    have e1 : zp_sum (fun i => zp_c f g (i + 1) * a ^ (i + 1)) M = f 0 * zp_sum (fun i => g (i + 1) * a ^ (i + 1)) M + a * zp_sum (fun i => zp_c (fun j => f (j + 1)) g i * a ^ i) M := by
      rw [← zp_sum_mul, ← zp_sum_mul, ← zp_sum_add]
      refine zp_sum_congr (fun i hi => ?_)
      rw [zp_c_succ, zp_pow_succ]
      grind
    have e2 : zp_sum (fun i => f (i + 1) * a ^ (i + 1)) n = a * zp_sum (fun i => f (i + 1) * a ^ i) n := by
      rw [← zp_sum_mul]
      exact zp_sum_congr (fun i hi => by rw [zp_pow_succ]; grind)
    have e3 : zp_sum (fun i => g i * a ^ i) (M + 1) = zp_sum (fun i => g i * a ^ i) m := zp_sum_ext (fun i hi => by rw [hg i hi]; grind) (by omega)
    rw [zp_sum_head, zp_pow_zero] at e3
    rw [e1, e2, ih, ← e3]
    generalize zp_sum (fun i => g (i + 1) * a ^ (i + 1)) M = x
    generalize zp_sum (fun i => f (i + 1) * a ^ i) n = y
    clear ih e1 e2 e3 hf hg hM
    grind
theorem zp_ev_mul (a : zp_F) (f g : zp_R) : zp_ev a (zp_mul f g) = zp_ev a f * zp_ev a g := by
  obtain ⟨n, hn⟩ := f.2
  obtain ⟨m, hm⟩ := g.2
  rw [zp_ev_eq a (f := f) hn, zp_ev_eq a (f := g) hm, zp_ev_eq a (f := zp_mul f g) (N := n + m) (fun i hi => zp_c_lt hn hm (by omega))]
  exact zp_ev_mulA a hm n f.1 hn (n + m) (Nat.le_refl _)
theorem zp_ev_T (a c : zp_F) (k : Nat) : zp_ev a (zp_T c k) = c * a ^ k := by
  rw [zp_ev_eq a (zp_T_deg c k)]
  show zp_sum (fun i => (if i = k then c else 0) * a ^ i) k + (if k = k then c else 0) * a ^ k = _
  have : zp_sum (fun i => (if i = k then c else 0) * a ^ i) k = 0 := zp_sum_zero (fun i hi => by rw [if_neg (by omega)]; grind)
  rw [this, if_pos rfl]; grind
theorem zp_C_T (c : zp_F) : zp_C c = zp_T c 0 := rfl
theorem zp_X_T (k : Nat) : zp_X k = zp_T 1 k := rfl
theorem zp_ev_C (a c : zp_F) : zp_ev a (zp_C c) = c := by
  rw [zp_C_T, zp_ev_T, zp_pow_zero]; grind
theorem zp_ev_neg (a : zp_F) (f : zp_R) : zp_ev a (zp_neg f) = -zp_ev a f := by
  have h : zp_add f (zp_neg f) = zp_C 0 := zp_ext (fun i => by
    show f.1 i + -f.1 i = if i = 0 then 0 else 0
    split <;> grind)
  have h1 := congrArg (zp_ev a) h
  rw [zp_ev_add, zp_ev_C] at h1
  generalize zp_ev a f = x at *
  generalize zp_ev a (zp_neg f) = y at *
  clear h
  grind
theorem zp_ev_pow (a : zp_F) (f : zp_R) : ∀ n : Nat, zp_ev a (zp_npow f n) = zp_ev a f ^ n
  | 0 => by rw [zp_pow_zero]; exact zp_ev_C a 1
  | n + 1 => by
    rw [zp_pow_succ, ← zp_ev_pow a f n]
    exact zp_ev_mul a (zp_npow f n) f
theorem zp_nat_ne {i n : Nat} (h : i < n) (hn : n < 32003) : (zp_nat i : zp_F) - zp_nat n ≠ 0 := by
  intro q
  have h1 : (zp_nat i : zp_F) = zp_nat n := zp_h9 q
  rw [zp_natF, zp_natF] at h1
  have h2 := congrArg Fin.val h1
  have h3 : i % 32003 = n % 32003 := h2
  omega
/-- as many zeros as the degree allows, and one more -/
theorem zp_roots : ∀ (n : Nat) (r : zp_R), n ≤ 32003 → zp_deg r n → (∀ i, i < n → zp_ev (zp_nat i) r = 0) → r = zp_C 0
  | 0, r, _, hr, _ => zp_zero_of hr
  | n + 1, r, hn, hr, h0 => by
    letI := zp_ring
    have hg1 : (zp_add (zp_X 1) (zp_neg (zp_C (zp_nat n)))).1 1 = 1 := by
      show (if 1 = 1 then (1 : zp_F) else 0) + -(if 1 = 0 then zp_nat n else 0) = 1
      rw [if_pos rfl, if_neg (by omega)]; grind
    have hgd : zp_deg (zp_add (zp_X 1) (zp_neg (zp_C (zp_nat n)))) (1 + 1) := fun i hi => by
      show (if i = 1 then (1 : zp_F) else 0) + -(if i = 0 then zp_nat n else 0) = 0
      rw [if_neg (by omega), if_neg (by omega)]; grind
    obtain ⟨q, s, e, hs⟩ := zp_divm hg1 hgd (n + 1) r hr
    have hev : ∀ b, zp_ev b (zp_add (zp_X 1) (zp_neg (zp_C (zp_nat n)))) = b - zp_nat n := fun b => by
      rw [zp_ev_add, zp_ev_neg, zp_ev_C, zp_X_T, zp_ev_T]
      have : b ^ (0 + 1) = b ^ 0 * b := zp_pow_succ b 0
      have h2 : b ^ 1 = b ^ 0 * b := this
      rw [h2, zp_pow_zero]; grind
    have hs0 : s = zp_C 0 := by
      have h1 := h0 n (by omega)
      rw [e, zp_ev_add, zp_ev_mul, hev] at h1
      have h2 : zp_ev (zp_nat n) s = s.1 0 := by
        rw [zp_ev_eq _ hs]
        show (0 : zp_F) + s.1 0 * zp_nat n ^ 0 = s.1 0
        rw [zp_pow_zero]; grind
      rw [h2] at h1
      have h3 : s.1 0 = 0 := zp_h10 h1
      exact zp_zero_of (fun i hi => by
        by_cases hi0 : i = 0
        · subst hi0; exact h3
        · exact hs i (by omega))
    have e2 : r = zp_mul (zp_add (zp_X 1) (zp_neg (zp_C (zp_nat n)))) q := by
      rw [hs0] at e
      refine e.trans (zp_ext (fun i => ?_))
      show _ + (if i = 0 then (0 : zp_F) else 0) = _
      split <;> grind
    have hq : zp_deg q n := zp_monic_deg hg1 hgd (by rw [← e2, Nat.add_comm]; exact hr)
    have hq0 : q = zp_C 0 := zp_roots n q (by omega) hq (fun i hi => by
      have h1 := h0 i (by omega)
      rw [e2, zp_ev_mul, hev] at h1
      rcases zp_dom h1 with w | w
      · exact absurd w (zp_nat_ne hi (by omega))
      · exact w)
    rw [e2, hq0]
    show zp_add (zp_X 1) (zp_neg (zp_C (zp_nat n))) * (0 : zp_R) = 0
    generalize zp_add (zp_X 1) (zp_neg (zp_C (zp_nat n))) = y
    clear e e2 hq0 hq hs0 hs hev hgd hg1 h0 hr hn
    grind
