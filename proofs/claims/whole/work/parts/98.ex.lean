/-! what can't be parted: irreducible polynomials -/
theorem dv_rf (f : zp_R) : dv f f := ⟨zp_C 1, by rw [zp_C1]; exact @ir_h1 zp_R zp_ring f⟩
where ir_h1 : ∀ {R : Type} [Lean.Grind.CommRing R] (f : R), f = f * 1 := by intro R _ f; grind
theorem dv_mr {f g : zp_R} (h : dv f g) (k : zp_R) : dv f (zp_mul g k) := dv_tr2 (G := g) ⟨k, rfl⟩ h
theorem dv_ml {f g : zp_R} (h : dv f g) (k : zp_R) : dv f (zp_mul k g) := by rw [zp_h20R]; exact dv_mr h k
theorem dv_one (f : zp_R) : dv (zp_C 1) f := ⟨f, by rw [zp_C1]; exact @ir_h2 zp_R zp_ring f⟩
where ir_h2 : ∀ {R : Type} [Lean.Grind.CommRing R] (f : R), f = 1 * f := by intro R _ f; grind
theorem dv_add {f a b : zp_R} (h : dv f a) (h' : dv f b) : dv f (zp_add a b) := by
  obtain ⟨u, e⟩ := h
  obtain ⟨v, e'⟩ := h'
  exact ⟨zp_add u v, @ir_h3 zp_R zp_ring f a b u v e e'⟩
where ir_h3 : ∀ {R : Type} [Lean.Grind.CommRing R] {f a b u v : R} (_ : a = f * u) (_ : b = f * v), a + b = f * (u + v) := by intro R _ f a b u v e e'; grind
theorem dv_neg {f a : zp_R} (h : dv f a) : dv f (zp_neg a) := by
  obtain ⟨u, e⟩ := h
  exact ⟨zp_neg u, @ir_h4 zp_R zp_ring f a u e⟩
where ir_h4 : ∀ {R : Type} [Lean.Grind.CommRing R] {f a u : R} (_ : a = f * u), -a = f * -u := by intro R _ f a u e; grind
theorem dv_can {f a b : zp_R} (h : dv f a) (e : dv f (zp_add a b)) : dv f b := by
  have := dv_add e (dv_neg h)
  obtain ⟨u, w⟩ := this
  exact ⟨u, (@ir_h5 zp_R zp_ring a b).trans w⟩
where ir_h5 : ∀ {R : Type} [Lean.Grind.CommRing R] (a b : R), b = (a + b) + -a := by intro R _ a b; grind
theorem dv_cg {f W a b : zp_R} (hf : dv f W) (c : cg W a b) (h : dv f b) : dv f a := by
  obtain ⟨q, e⟩ := c
  obtain ⟨u, w⟩ := dv_add (dv_mr hf q) h
  exact ⟨u, (@ir_h6 zp_R zp_ring _ _ _ e).trans w⟩
where ir_h6 : ∀ {R : Type} [Lean.Grind.CommRing R] {a b c : R} (_ : a + -b = c), a = c + b := by intro R _ a b c e; grind
theorem cg_of {f W a b : zp_R} (hf : dv f W) (c : cg W a b) : cg f a b := by
  obtain ⟨q, e⟩ := c
  obtain ⟨u, w⟩ := dv_mr hf q
  exact ⟨u, e.trans w⟩
theorem cg_0 {W a : zp_R} : cg W a (zp_C 0) ↔ dv W a := ⟨fun ⟨q, e⟩ => ⟨q, (@ir_h7 zp_R zp_ring a).trans e⟩, fun ⟨q, e⟩ => ⟨q, (@ir_h7 zp_R zp_ring a).symm.trans e⟩⟩
where ir_h7 : ∀ {R : Type} [Lean.Grind.CommRing R] (a : R), a = a + -0 := by intro R _ a; grind
/-- monic of degree n -/
def mon (f : zp_R) (n : Nat) : Prop := f.1 n = 1 ∧ zp_deg f (n + 1)
theorem mon_0 {f : zp_R} (h : mon f 0) : f = zp_C 1 := zp_ext (fun i => by
  show f.1 i = if i = 0 then 1 else 0
  by_cases q : i = 0
  · rw [if_pos q, q]; exact h.1
  · rw [if_neg q]; exact h.2 i (by omega))
theorem mon_C1 : mon (zp_C 1) 0 := ⟨rfl, zp_C_deg 1⟩
theorem mon_one {f : zp_R} {n m : Nat} (h : mon f n) (h' : mon f m) : n = m := by
  rcases Nat.lt_trichotomy n m with q | q | q
  · have := h.2 m (by omega)
    rw [h'.1] at this
    exact absurd this zp_F10
  · exact q
  · have := h'.2 n (by omega)
    rw [h.1] at this
    exact absurd this zp_F10
theorem mon_le {f g : zp_R} {n m : Nat} (hf : mon f n) (hg : mon g m) (h : dv f g) : n ≤ m := by
  obtain ⟨q, e⟩ := h
  exact mo_le hf.1 hf.2 hg.1 hg.2 e
theorem mon_mul {f g : zp_R} {n m : Nat} (hf : mon f n) (hg : mon g m) : mon (zp_mul f g) (n + m) := by
  refine ⟨?_, zp_deg_mul hf.2 hg.2⟩
  rw [mul_top hf.2 hg.2, hf.1, hg.1]; rfl
theorem nz_top : ∀ (n : Nat) (f : zp_R), zp_deg f n → f ≠ zp_C 0 → ∃ m, m < n ∧ f.1 m ≠ 0 ∧ zp_deg f (m + 1)
  | 0, f, h, h0 => absurd (zp_zero_of h) h0
  | n + 1, f, h, h0 => by
    by_cases q : f.1 n = 0
    · obtain ⟨m, a, b, c⟩ := nz_top n f (fun i hi2 => by
        by_cases e : i = n
        · rw [e]; exact q
        · exact h i (by omega)) h0
      exact ⟨m, by omega, b, c⟩
    · exact ⟨n, by omega, q, h⟩
/-- a number times f is monic -/
theorem mon_ex {f : zp_R} {m : Nat} (h : f.1 m ≠ 0) (hd : zp_deg f (m + 1)) : mon (zp_mul (zp_C (f.1 m ^ 32001)) f) m := ⟨by
  rw [zp_C_mul1, @zp_h20 zp_F _]
  exact zp_inv h, deg_Cm _ hd⟩
/-- what is left of a monic one's quotient is monic -/
theorem mon_quo {f g q : zp_R} {n m : Nat} (hf : mon f n) (hg : mon g m) (e : g = zp_mul f q) : n ≤ m ∧ mon q (m - n) := by
  have le := mon_le hf hg ⟨q, e⟩
  have dq : zp_deg q (m - n + 1) := zp_monic_deg hf.1 hf.2 (t := m - n + 1) (by rw [← e, show n + (m - n + 1) = m + 1 by omega]; exact hg.2)
  have t := mul_top hf.2 dq
  rw [← e, show n + (m - n) = m by omega, hg.1, hf.1] at t
  exact ⟨le, t.trans (@ir_h8 zp_F _ _) |>.symm, dq⟩
where ir_h8 : ∀ {R : Type} [Lean.Grind.CommRing R] (a : R), 1 * a = a := by intro R _ a; grind
/-- Euclid: there is a common divisor -/
theorem isG_ex : ∀ (N : Nat) (f g : zp_R), zp_deg g N → ∃ G, isG f g G
  | N, f, g, hg => by
    by_cases g0 : g = zp_C 0
    · by_cases f0 : f = zp_C 0
      · refine ⟨zp_C 0, ?_, ?_, ?_, .inl rfl⟩
        · rw [f0]; exact dv_rf _
        · rw [g0]; exact dv_rf _
        · rw [f0]; exact lin_l _ _
      · obtain ⟨n, hn⟩ := f.2
        obtain ⟨m, _, a, b⟩ := nz_top n f hn f0
        have hm := mon_ex a b
        have inv := zp_inv a
        obtain ⟨u, v, l⟩ := lin_l f g
        refine ⟨zp_mul (zp_C (f.1 m ^ 32001)) f, ⟨zp_C (f.1 m), ?_⟩, ?_, ⟨zp_C (f.1 m ^ 32001), zp_C 0, ?_⟩, .inr ⟨m, hm.1, hm.2⟩⟩
        · have e : zp_mul (zp_C (f.1 m)) (zp_C (f.1 m ^ 32001)) = zp_C 1 := by rw [zp_C_mul, inv]
          rw [zp_C1] at e
          exact @ex_h1 zp_R zp_ring _ _ _ e
        · rw [g0]; exact dv_00 _
        · exact @ex_h2 zp_R zp_ring _ _ _
    · obtain ⟨m, hm, a, b⟩ := nz_top N g hg g0
      have mm := mon_ex a b
      obtain ⟨n, hn⟩ := f.2
      obtain ⟨q, r, e, dr⟩ := zp_divm mm.1 mm.2 n f hn
      obtain ⟨G, h1, h2, h3, h4⟩ := isG_ex m g r dr
      refine ⟨G, ?_, h1, ?_, h4⟩
      · rw [e]
        exact dv_add (dv_mr (dv_ml h1 _) q) h2
      · obtain ⟨u, v, l⟩ := h3
        exact ⟨_, _, @ex_h3 zp_R zp_ring f g r G (zp_C (g.1 m ^ 32001)) q u v e l⟩
termination_by N => N
where
  ex_h1 : ∀ {R : Type} [Lean.Grind.CommRing R] {c d f : R} (_ : c * d = 1), f = d * f * c := by intro R _ c d f e; grind
  ex_h2 : ∀ {R : Type} [Lean.Grind.CommRing R] (c f g : R), c * f = c * f + 0 * g := by intro R _ c f g; grind
  ex_h3 : ∀ {R : Type} [Lean.Grind.CommRing R] {f g r G c q u v : R} (_ : f = c * g * q + r) (_ : G = u * g + v * r), G = v * f + (u - v * c * q) * g := by intro R _ f g r G c q u v e l; grind
theorem isG_all (f g : zp_R) : ∃ G, isG f g G := by
  obtain ⟨n, hn⟩ := g.2
  exact isG_ex n f g hn
/-- monic, of degree 1 or more, and no monic one divides it but 1 and itself -/
def irr (f : zp_R) : Prop := (∃ n, 1 ≤ n ∧ mon f n) ∧ ∀ g, mo g → dv g f → g = zp_C 1 ∨ g = f
theorem irr_mo {f : zp_R} (h : irr f) : mo f := by
  obtain ⟨⟨n, _, a, b⟩, _⟩ := h
  exact ⟨n, a, b⟩
theorem irr_n1 {f : zp_R} (h : irr f) : ¬ dv f (zp_C 1) := fun w => by
  obtain ⟨⟨n, n1, m⟩, _⟩ := h
  have := mon_le m mon_C1 w
  omega
theorem irr_nC {f : zp_R} (h : irr f) {c : zp_F} (w : dv f (zp_C c)) : c = 0 := Classical.byContradiction (fun c0 => by
  have e : zp_mul (zp_C c) (zp_C (c ^ 32001)) = zp_C 1 := by rw [zp_C_mul, zp_inv c0]
  have := dv_mr w (zp_C (c ^ 32001))
  rw [e] at this
  exact irr_n1 h this)
theorem irr_co {f a : zp_R} (h : irr f) (n : ¬ dv f a) : co f a := by
  obtain ⟨G, g1, g2, ⟨u, v, l⟩, g4⟩ := isG_all f a
  have hG : mo G := g4.resolve_left (fun z => mo_n0 (irr_mo h) (by
    obtain ⟨q, e⟩ := g1
    rw [e, z, zp_h20R, zp_mul0]))
  rcases h.2 G hG g1 with e | e
  · exact ⟨u, v, by rw [← l, e]⟩
  · exact absurd (e ▸ g2) n
theorem co_dv {f a b : zp_R} (h : co f a) (w : dv f (zp_mul a b)) : dv f b := by
  obtain ⟨u, v, l⟩ := h
  rw [zp_C1] at l
  obtain ⟨q, e⟩ := w
  exact ⟨_, @co_h zp_R zp_ring f a b u v q l e⟩
where co_h : ∀ {R : Type} [Lean.Grind.CommRing R] {f a b u v q : R} (_ : u * f + v * a = 1) (_ : a * b = f * q), b = f * (u * b + v * q) := by intro R _ f a b u v q l e; grind
theorem irr_pr {f a b : zp_R} (h : irr f) (w : dv f (zp_mul a b)) : dv f a ∨ dv f b := by
  by_cases q : dv f a
  · exact .inl q
  · exact .inr (co_dv (irr_co h q) w)
theorem irr_eq {f g : zp_R} (h : irr f) (h' : irr g) (w : dv f g) : f = g := (h'.2 f (irr_mo h) w).resolve_left (fun e => by
  have := h.1
  obtain ⟨n, n1, m⟩ := this
  rw [e] at m
  have := mon_one m mon_C1
  omega)
theorem mon_eq {f g : zp_R} {n : Nat} (hf : mon f n) (hg : mon g n) (h : dv f g) : f = g := by
  obtain ⟨q, e⟩ := h
  have := (mon_quo hf hg e).2
  rw [show n - n = 0 by omega] at this
  have q1 := mon_0 this
  rw [q1, zp_C1] at e
  exact ((@ir_h9 zp_R zp_ring f).trans e.symm)
where ir_h9 : ∀ {R : Type} [Lean.Grind.CommRing R] (f : R), f = f * 1 := by intro R _ f; grind
theorem irr_ex : ∀ (n : Nat) (g : zp_R), mon g n → 1 ≤ n → ∃ f, irr f ∧ dv f g
  | n, g, hg, n1 => by
    by_cases h : irr g
    · exact ⟨g, h, dv_rf g⟩
    · have : ∃ k, mo k ∧ dv k g ∧ k ≠ zp_C 1 ∧ k ≠ g := Classical.byContradiction (fun w => h ⟨⟨n, n1, hg⟩, fun k hk d => Classical.byContradiction (fun w2 => w ⟨k, hk, d, fun e => w2 (.inl e), fun e => w2 (.inr e)⟩)⟩)
      obtain ⟨k, ⟨m, a, b⟩, hd, k1, kg⟩ := this
      have le := mon_le ⟨a, b⟩ hg hd
      have ne : m ≠ n := fun e => kg (mon_eq (by rw [e] at a b; exact ⟨a, b⟩) hg hd)
      have n0 : m ≠ 0 := fun e => k1 (mon_0 (by rw [e] at a b; exact ⟨a, b⟩))
      obtain ⟨f, hf, d⟩ := irr_ex m k ⟨a, b⟩ (by omega)
      exact ⟨f, hf, dv_tr2 hd d⟩
termination_by n => n
theorem irr_of {g : zp_R} (hg : mo g) (g1 : g ≠ zp_C 1) : ∃ f, irr f ∧ dv f g := by
  obtain ⟨n, a, b⟩ := hg
  exact irr_ex n g ⟨a, b⟩ (by
    rcases Nat.eq_zero_or_pos n with q | q
    · exact absurd (mon_0 (by rw [q] at a b; exact ⟨a, b⟩)) g1
    · exact q)
theorem mo_quo {f g q : zp_R} (hf : mo f) (hg : mo g) (e : g = zp_mul f q) : mo q := by
  obtain ⟨n, a, b⟩ := hf
  obtain ⟨m, a', b'⟩ := hg
  have := (mon_quo ⟨a, b⟩ ⟨a', b'⟩ e).2
  exact ⟨_, this.1, this.2⟩
/-- without squares -/
def sqf (B : zp_R) : Prop := ∀ f, irr f → ¬ dv (zp_mul f f) B
/-- what all that divides B divides, B divides -/
theorem sqf_dv {B g : zp_R} (hB : mo B) (sB : sqf B) (h : ∀ f, irr f → dv f B → dv f g) : dv B g := by
  obtain ⟨G, g1, g2, g3, g4⟩ := isG_all B g
  have hG : mo G := g4.resolve_left (fun z => mo_n0 hB (by
    obtain ⟨q, e⟩ := g1
    rw [e, z, zp_h20R, zp_mul0]))
  obtain ⟨q, e⟩ := g1
  have hq := mo_quo hG hB e
  by_cases q1 : q = zp_C 1
  · rw [q1, zp_C1] at e
    rw [show B = G from e.trans (@ir_h9 zp_R zp_ring G)]
    exact g2
  · obtain ⟨f, hf, d⟩ := irr_of hq q1
    have fB : dv f B := by rw [e]; exact dv_ml d _
    have fG : dv f G := dv_lin g3 fB (h f hf fB)
    exfalso
    refine sB f hf ?_
    obtain ⟨a, ea⟩ := fG
    obtain ⟨b, eb⟩ := d
    exact ⟨_, @sq_h zp_R zp_ring B G q f a b e ea eb⟩
where
  ir_h9 : ∀ {R : Type} [Lean.Grind.CommRing R] (f : R), f * 1 = f := by intro R _ f; grind
  sq_h : ∀ {R : Type} [Lean.Grind.CommRing R] {B G q f a b : R} (_ : B = G * q) (_ : G = f * a) (_ : q = f * b), B = f * f * (a * b) := by intro R _ B G q f a b e1 e2 e3; grind
