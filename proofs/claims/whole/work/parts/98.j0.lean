/-! THE CLASS: polynomials. One lies at p, its numbers at p + 1 -/
def PO (h : s_H) (p L : Nat) (d : Int) (g : Nat → Int) : Prop := 0 < p ∧ s_get h p = some (1, 4, [.index (p + 1), vi d]) ∧ s_get h (p + 1) = some (ai L g)
/-- nothing but the polynomials of S has changed, and nothing is new -/
def FU (S : List Nat) (h h' : s_H) : Prop := h'.1 = h.1 ∧ ∀ j, (∀ p, p ∈ S → j ≠ p ∧ j ≠ p + 1) → s_get h' j = s_get h j
theorem FU_refl (S : List Nat) (h : s_H) : FU S h h := ⟨rfl, fun _ _ => rfl⟩
theorem FU_trans {S : List Nat} {h h' h'' : s_H} (a : FU S h h') (b : FU S h' h'') : FU S h h'' := ⟨b.1.trans a.1, fun j hj => (b.2 j hj).trans (a.2 j hj)⟩
theorem FU_sub {S S' : List Nat} {h h' : s_H} (a : FU S h h') (s : ∀ p, p ∈ S → p ∈ S') : FU S' h h' := ⟨a.1, fun j hj => a.2 j (fun p hp => hj p (s p hp))⟩
/-- two polynomials that share no cell -/
def apt (p q : Nat) : Prop := p ≠ q ∧ p + 1 ≠ q ∧ p ≠ q + 1
theorem PO_keep {S : List Nat} {h h' : s_H} {q L : Nat} {d : Int} {g : Nat → Int} (hq : PO h q L d g) (a : FU S h h') (s : ∀ p, p ∈ S → apt q p) : PO h' q L d g := by
  obtain ⟨h0, h1, h2⟩ := hq
  refine ⟨h0, ?_, ?_⟩
  · rw [a.2 q (fun p hp => ⟨(s p hp).1, (s p hp).2.2⟩)]
    exact h1
  · rw [a.2 (q + 1) (fun p hp => ⟨(s p hp).2.1, fun e => (s p hp).1 (by omega)⟩)]
    exact h2
theorem PO_d {h : s_H} {p L : Nat} {d : Int} {g : Nat → Int} (hp1 : PO h p L d g) (d' : Int) : PO (hp h p (1, 4, [.index (p + 1), vi d'])) p L d' g ∧ FU [p] h (hp h p (1, 4, [.index (p + 1), vi d'])) := by
  obtain ⟨h0, h1, h2⟩ := hp1
  refine ⟨⟨h0, hp_at h1, (hp_ne h1 (by omega)).trans h2⟩, rfl, fun j hj => hp_ne h1 (hj p List.mem_cons_self).1⟩
theorem PO_g {h : s_H} {p L : Nat} {d : Int} {g : Nat → Int} (hp1 : PO h p L d g) (g' : Nat → Int) : PO (hp h (p + 1) (ai L g')) p L d g' ∧ FU [p] h (hp h (p + 1) (ai L g')) := by
  obtain ⟨h0, h1, h2⟩ := hp1
  refine ⟨⟨h0, (hp_ne h2 (by omega)).trans h1, hp_at h2⟩, rfl, fun j hj => hp_ne h2 (hj p List.mem_cons_self).2⟩
/-- how far a polynomial goes -/
def dgp (f : zp_R) (d : Int) : Prop := -1 ≤ d ∧ (∀ i : Nat, d < i → f.1 i = 0) ∧ ∀ i : Nat, d = i → f.1 i ≠ 0
theorem dgp_one {f : zp_R} {d d' : Int} (h : dgp f d) (h' : dgp f d') : d = d' := by
  have le : ∀ {a b : Int}, dgp f a → dgp f b → a ≤ b := fun {a b} x y => by
    refine Int.not_lt.mp (fun w => ?_)
    have y1 := y.1
    have x3 := x.2.2 a.toNat (by omega)
    exact x3 (y.2.1 a.toNat (by omega))
  have := le h h'
  have := le h' h
  omega
theorem dgp_deg {f : zp_R} {d : Int} (h : dgp f d) {n : Nat} (hn : d < n) : zp_deg f n := fun i hi2 => h.2.1 i (by omega)
theorem dgp_hi {f : zp_R} (hd : zp_deg f 176) : dgp f (hi f) := ⟨(hi_b f).1, fun i hi2 => hi_deg hd i (by have := hi_b f; omega), fun i hi2 => hi_ne hi2⟩
theorem dgp_of {f : zp_R} {d : Int} (h : dgp f d) (hd : d < 176) : hi f = d := dgp_one (dgp_hi (dgp_deg h (n := 176) (by omega))) h
theorem dgp_0 {f : zp_R} {d : Int} (h : dgp f d) (hd : d < 0) : f = zp_C 0 := zp_ext (fun i => by
  rw [h.2.1 i (by omega)]
  show (0 : zp_F) = if i = 0 then 0 else 0
  split <;> rfl)
theorem dgp_C0 : dgp (zp_C 0) (-1) := ⟨by decide, fun i _ => by
  show (if i = 0 then (0 : zp_F) else 0) = 0
  split <;> rfl, fun i hi2 => absurd hi2 (by omega)⟩
/-- the polynomial at p, with room for L numbers, is f -/
def PF (h : s_H) (p L : Nat) (f : zp_R) : Prop := ∃ d g, PO h p L d g ∧ dgp f d ∧ (∀ i : Nat, (i : Int) ≤ d → g i = cf f i) ∧ d < L ∧ L ≤ 1000
def PE (h : s_H) (p L : Nat) : Prop := (∃ d g, PO h p L d g ∧ -1000 ≤ d ∧ d < L) ∧ L ≤ 1000
theorem PF_E {h : s_H} {p L : Nat} {f : zp_R} (h1 : PF h p L f) : PE h p L := by
  obtain ⟨d, g, a, b, _, c, e⟩ := h1
  exact ⟨⟨d, g, a, by have := b.1; omega, c⟩, e⟩
theorem PF_keep {S : List Nat} {h h' : s_H} {q L : Nat} {f : zp_R} (hq : PF h q L f) (a : FU S h h') (s : ∀ p, p ∈ S → apt q p) : PF h' q L f := by
  obtain ⟨d, g, b, c⟩ := hq
  exact ⟨d, g, PO_keep b a s, c⟩
theorem PE_keep {S : List Nat} {h h' : s_H} {q L : Nat} (hq : PE h q L) (a : FU S h h') (s : ∀ p, p ∈ S → apt q p) : PE h' q L := by
  obtain ⟨⟨d, g, b, c⟩, e⟩ := hq
  exact ⟨⟨d, g, PO_keep b a s, c⟩, e⟩
/-- a method that ends with no answer and has changed the polynomials of S alone -/
def UN (S : List Nat) (h : s_H) (φ : s_H → Prop) : s_O → Prop := fun out => ∃ h', φ h' ∧ FU S h h' ∧ out = (.inl none, h', 0, 0)
theorem wq_U {P : s_P} {d : Nat} {cd : s_Cd} {hd : List s_Hd} {nx : Nat} {ls rest : List Term} {kc ks : Nat} {Q : s_O → Prop} {S : List Nat} {h0 : s_H} {φ : s_H → Prop} (k : ∀ h', φ h' → FU S h0 h' → wr P d cd hd (nx, ls, rest, h', kc, ks) Q) : ∀ out, UN S h0 φ out → wq P d cd hd nx ls rest kc ks Q out := by
  intro out ⟨h', a, b, e⟩
  exact wq_v (k h' a b) out e
theorem nF_is0 {x : Int} (hx : 0 ≤ x ∧ x < 32003) : nF x = 0 ↔ x = 0 := by
  refine ⟨fun e => ?_, fun e => by rw [e]; exact nF_0⟩
  have := nF_v x
  rw [e] at this
  have z : ((0 : zp_F).val : Int) = 0 := rfl
  omega
theorem cf_nF {x : Int} (hx : 0 ≤ x ∧ x < 32003) : ((nF x).val : Int) = x := by
  rw [nF_v]
  omega
section
variable {D : Nat} {h : s_H} {p L : Nat} {d : Int} {g : Nat → Int}
theorem u_coef {f : zp_R} (hf : PF h p L f) {x : Int} (hx : In3 x) : wm sw_P (D + 1) 167 [.index p, vi x] h (qr (vi (if 0 ≤ x then cf f x.toNat else 0)) h) := by
  obtain ⟨d, g, ⟨h0, h1, h2⟩, b, c, e, eL⟩ := hf
  have b1 := b.1
  refine wm_in (cd := sw_c167) (nL := 2) (hd := sw_h167) rfl rfl ?_
  refine k167_0 (fun w => k167_12 (k167_22 ?_)) (fun w => ?_) (c1 := hx)
  · rw [if_neg (by omega)]
  refine k167_4 (z5 := d) h1 (fun w2 => k167_16 (a8 := mk L g) h1 h2 (k167_22 ?_) (c10 := by rw [mk_len]; omega) (c11 := by omega) (c12 := hx)) (fun w2 => k167_12 (k167_22 ?_)) (c7 := hx) (c8 := by unfold In3; omega)
  · rw [if_pos (by omega), gi_mk (by omega) (by omega), c x.toNat (by omega)]
  · rw [if_pos (by omega)]
    have : cf f x.toNat = 0 := by
      unfold cf
      rw [b.2.1 x.toNat (by omega)]
      rfl
    rw [this]
theorem u_lead {f : zp_R} (hf : PF h p L f) {e : Int} (he : dgp f e) : wm sw_P (D + 1) 171 [.index p] h (qr (vi (if 0 ≤ e then cf f e.toNat else 0)) h) := by
  obtain ⟨d, g, ⟨h0, h1, h2⟩, b, c, e', eL⟩ := hf
  have b1 := b.1
  have ed := dgp_one he b
  subst ed
  refine wm_in (cd := sw_c171) (nL := 1) (hd := sw_h171) rfl rfl ?_
  refine k171_0 (z5 := e) h1 (fun w => k171_11 (z7 := e) (a10 := mk L g) h1 h2 (k171_20 ?_) (c12 := by rw [mk_len]; omega) (c13 := by omega) (c14 := by unfold In3; omega)) (fun w => k171_7 (k171_20 ?_)) (c7 := by unfold In3; omega)
  · rw [if_pos w, gi_mk (by omega) (by omega), c e.toNat (by omega)]
  · rw [if_neg w]
theorem u_setNumber (hE : PE h p L) (L0 : 0 < L) {x : Int} (hx : 0 ≤ x ∧ x < 32003) : wm sw_P (D + 1) 180 [.index p, vi x] h (UN [p] h (fun h' => PF h' p L (zp_C (nF x)))) := by
  obtain ⟨⟨d, g, P, _, _⟩, eL⟩ := hE
  refine wm_in (cd := sw_c180) (nL := 2) (hd := sw_h180) rfl rfl ?_
  obtain ⟨P1, F1⟩ := PO_g P (fun t => if t = 0 then x else g t)
  have st : (mk L g).set (Int.toNat 0) x = mk L (fun t => if t = 0 then x else g t) := by rw [mk_set]; rfl
  have ix : In3 x := by unfold In3; omega
  have c0 : (zp_C (nF x)).1 0 = nF x := rfl
  have fin : ∀ d' : Int, dgp (zp_C (nF x)) d' → d' ≤ 0 → wr sw_P D sw_c180 sw_h180 (17, [.index p, vi x], [vi d', .index p], hp h (p + 1) (ai L (fun t => if t = 0 then x else g t)), 0, 0) (UN [p] h (fun h' => PF h' p L (zp_C (nF x)))) := fun d' hd hd0 => by
    obtain ⟨P2, F2⟩ := PO_d P1 d'
    refine k180_17 P1.2.1 ⟨_, ⟨d', _, P2, hd, fun i hi2 => ?_, by omega, eL⟩, FU_trans F1 F2, rfl⟩ (c5 := P1.1)
    have i0 : i = 0 := by omega
    subst i0
    show (if 0 = 0 then x else g 0) = _
    rw [if_pos rfl]
    unfold cf
    rw [c0, cf_nF hx]
  refine k180_0 (a8 := mk L g) P.2.1 P.2.2 (fun w => k180_16 ?_) (fun w => k180_12 ?_) (c10 := by rw [mk_len]; omega) (c11 := by omega) (c12 := ix)
  · rw [st]
    refine fin 0 ⟨by decide, fun i hi2 => zp_C_deg (nF x) i (by omega), fun i hi2 => ?_⟩ (by decide)
    have i0 : i = 0 := by omega
    subst i0
    rw [c0]
    exact fun e => w ((nF_is0 hx).mp e)
  · rw [st]
    have x0 : x = 0 := Classical.byContradiction w
    refine fin (-1) ?_ (by decide)
    rw [x0, nF_0]
    exact dgp_C0
end
