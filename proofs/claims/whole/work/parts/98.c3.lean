/-! what is left of one modulo another one -/
theorem md_h1 {R : Type} [Lean.Grind.CommRing R] {W f q r q' r' : R} (e : f = W * q + r) (e' : f = W * q' + r') : W * (q + -q') = r' + -r := by grind
theorem md_h2 {R : Type} [Lean.Grind.CommRing R] {r r' : R} (e : r' + -r = 0) : r = r' := by grind
theorem deg_neg {f : zp_R} {n : Nat} (h : zp_deg f n) : zp_deg (zp_neg f) n := fun i hi2 => by
  show -f.1 i = 0
  rw [h i hi2]; rfl
/-- nothing but 0 is of less degree than W and so many times W -/
theorem mul_0 {W q r : zp_R} (h0 : 0 ≤ hi W) (dW : zp_deg W 176) (e : zp_mul W q = r) (dr : zp_deg r (hi W).toNat) : q = zp_C 0 := by
  have m := mkm_mo dW (by omega)
  rw [mkm_c (by omega)] at m
  have a2 : zp_mul (zp_mul (zp_C (W.1 (hi W).toNat ^ 32001)) W) q = zp_mul (zp_C (W.1 (hi W).toNat ^ 32001)) r := by
    rw [← e]; exact @exact_div2.cb_h5 zp_R zp_ring _ _ _
  exact zp_zero_of (zp_monic_deg (t := 0) m.1 m.2 (W := q) (by rw [a2]; exact deg_Cm _ (deg_le dr (by omega))))
theorem rem_one {W f q r q' r' : zp_R} (h0 : 0 ≤ hi W) (dW : zp_deg W 176) (e : f = zp_add (zp_mul W q) r) (e' : f = zp_add (zp_mul W q') r') (d : zp_deg r (hi W).toNat) (d' : zp_deg r' (hi W).toNat) : r = r' := by
  have a := @md_h1 zp_R zp_ring W f q r q' r' e e'
  have z := mul_0 h0 dW a (deg_add d' (deg_neg d))
  have a' : zp_mul W (zp_add q (zp_neg q')) = zp_add r' (zp_neg r) := a
  have z' : zp_add q (zp_neg q') = zp_C 0 := z
  rw [z', zp_mul0] at a'
  exact @md_h2 zp_R zp_ring r r' a'.symm
noncomputable def md (W f : zp_R) : zp_R := by
  classical
  exact if h : ∃ r, (∃ q, f = zp_add (zp_mul W q) r) ∧ zp_deg r (hi W).toNat then h.choose else zp_C 0
theorem md_is {W f q r : zp_R} (h0 : 0 ≤ hi W) (dW : zp_deg W 176) (e : f = zp_add (zp_mul W q) r) (dr : zp_deg r (hi W).toNat) : md W f = r := by
  have h : ∃ r, (∃ q, f = zp_add (zp_mul W q) r) ∧ zp_deg r (hi W).toNat := ⟨r, ⟨q, e⟩, dr⟩
  unfold md
  rw [dif_pos h]
  obtain ⟨⟨q', e'⟩, d'⟩ := h.choose_spec
  exact rem_one h0 dW e' e d' dr
/-- W divides what is between the two -/
def cg (W f g : zp_R) : Prop := ∃ q, zp_add f (zp_neg g) = zp_mul W q
theorem cg_h1 {R : Type} [Lean.Grind.CommRing R] {W f q r : R} (e : f = W * q + r) : f + -r = W * q := by grind
theorem cg_h2 {R : Type} [Lean.Grind.CommRing R] {W f g q : R} (e : f + -g = W * q) : g + -f = W * -q := by grind
theorem cg_h3 {R : Type} [Lean.Grind.CommRing R] {W f g k q p : R} (e : f + -g = W * q) (e' : g + -k = W * p) : f + -k = W * (q + p) := by grind
theorem cg_h4 {R : Type} [Lean.Grind.CommRing R] {W f g k l q p : R} (e : f + -g = W * q) (e' : k + -l = W * p) : f * k + -(g * l) = W * (q * k + g * p) := by grind
theorem cg_h5 {R : Type} [Lean.Grind.CommRing R] {W f g k l q p : R} (e : f + -g = W * q) (e' : k + -l = W * p) : (f + k) + -(g + l) = W * (q + p) := by grind
theorem cg_h6 {R : Type} [Lean.Grind.CommRing R] (W f : R) : f + -f = W * 0 := by grind
theorem cg_h7 {R : Type} [Lean.Grind.CommRing R] {W f q r : R} (e : f + -r = W * q) : f = W * q + r := by grind
theorem cg_refl (W f : zp_R) : cg W f f := ⟨_, @cg_h6 zp_R zp_ring W f⟩
theorem cg_symm {W f g : zp_R} (h : cg W f g) : cg W g f := by
  obtain ⟨q, e⟩ := h
  exact ⟨_, @cg_h2 zp_R zp_ring W f g q e⟩
theorem cg_tr {W f g k : zp_R} (h : cg W f g) (h' : cg W g k) : cg W f k := by
  obtain ⟨q, e⟩ := h
  obtain ⟨p, e'⟩ := h'
  exact ⟨_, @cg_h3 zp_R zp_ring W f g k q p e e'⟩
theorem cg_mul {W f g k l : zp_R} (h : cg W f g) (h' : cg W k l) : cg W (zp_mul f k) (zp_mul g l) := by
  obtain ⟨q, e⟩ := h
  obtain ⟨p, e'⟩ := h'
  exact ⟨_, @cg_h4 zp_R zp_ring W f g k l q p e e'⟩
theorem cg_add {W f g k l : zp_R} (h : cg W f g) (h' : cg W k l) : cg W (zp_add f k) (zp_add g l) := by
  obtain ⟨q, e⟩ := h
  obtain ⟨p, e'⟩ := h'
  exact ⟨_, @cg_h5 zp_R zp_ring W f g k l q p e e'⟩
theorem cg_pow {W f g : zp_R} (h : cg W f g) : ∀ n, cg W (zp_npow f n) (zp_npow g n)
  | 0 => cg_refl W _
  | n + 1 => cg_mul (cg_pow h n) h
theorem cg_dv {W f r : zp_R} {q : zp_R} (e : f = zp_add (zp_mul W q) r) : cg W f r := ⟨q, @cg_h1 zp_R zp_ring W f q r e⟩
theorem md_cg {W f r : zp_R} (h0 : 0 ≤ hi W) (dW : zp_deg W 176) (h : cg W f r) (dr : zp_deg r (hi W).toNat) : md W f = r := by
  obtain ⟨q, e⟩ := h
  exact md_is h0 dW (@cg_h7 zp_R zp_ring W f q r e) dr
/-- one is left of all, whatever W is -/
theorem md_ex {W : zp_R} (h0 : 0 ≤ hi W) (dW : zp_deg W 176) (f : zp_R) : ∃ q, f = zp_add (zp_mul W q) (md W f) ∧ zp_deg (md W f) (hi W).toNat := by
  have m := mkm_mo dW (by omega)
  rw [mkm_c (by omega)] at m
  obtain ⟨N, hN⟩ := f.2
  obtain ⟨q, r, e, dr⟩ := zp_divm m.1 m.2 N f hN
  have e' : f = zp_add (zp_mul W (zp_mul (zp_C (W.1 (hi W).toNat ^ 32001)) q)) r := e.trans (@me_h zp_R zp_ring _ _ _ _)
  rw [md_is h0 dW e' dr]
  exact ⟨_, e', dr⟩
where me_h : ∀ {R : Type} [Lean.Grind.CommRing R] (c W q r : R), c * W * q + r = W * (c * q) + r := by intro R _ c W q r; grind
theorem md_c {W : zp_R} (h0 : 0 ≤ hi W) (dW : zp_deg W 176) (f : zp_R) : cg W f (md W f) := by
  obtain ⟨q, e, _⟩ := md_ex h0 dW f
  exact cg_dv e
theorem md_deg {W : zp_R} (h0 : 0 ≤ hi W) (dW : zp_deg W 176) (f : zp_R) : zp_deg (md W f) (hi W).toNat := by
  obtain ⟨q, _, e⟩ := md_ex h0 dW f
  exact e
theorem md_eq {W f g : zp_R} (h0 : 0 ≤ hi W) (dW : zp_deg W 176) (h : cg W f g) : md W f = md W g := md_cg h0 dW (cg_tr h (md_c h0 dW g)) (md_deg h0 dW g)
section
variable {d : Nat} {h : s_H} {s : Nat → Int} {A : Nat → Nat → Int}
theorem V_mulMod (hv : RV h s A) {q p : Nat} (hq : P9 q = true) (hp : P9 p = true) (q4 : q ≠ 1304) (p4 : p ≠ 1304) (p5 : p ≠ 1305) (p8 : p ≠ 1308) {S g W : zp_R} (hS : A 1308 = cf S) (hg : A q = cf g) (hW : A p = cf W) (dS : zp_deg (zp_mul S g) 176) (dW : zp_deg W 176) (h0 : 0 ≤ hi W) : wm sw_P (d + 4) 534 [.index 1290, .index q, .index p] h (RN h (fun s' A' => s' = s ∧ sm A A' [1304, 1305, 1308] ∧ A' 1308 = cf (md W (zp_mul S g)))) := by
  refine wm_in (cd := sw_c534) (nL := 3) (hd := sw_h534) rfl rfl ?_
  refine k534_0 hv.1 (wm_mono (wq_Q (fun h1 v1 r1 => ?_)) (V_multiplyBy hv (p := 1308) (q := q) rfl hq (by decide) q4 hS hg))
  refine k534_9 v1.1 (wm_mono (wq_N (fun h2 s2 A2 v2 r2 φ => ?_)) (V_divide v1 (p := 1308) (q := p) rfl hp (by decide) p5 p8 (up_at _ _ _) (by rw [up_ne _ _ p8, up_ne _ _ p4]; exact hW) dS dW h0))
  obtain ⟨es, Q, R, e, dR, _, _, eA⟩ := φ
  refine k534_18 ⟨h2, s2, A2, v2, FR_trans r1 r2, ⟨es, ?_, ?_⟩, rfl⟩
  · rw [eA]
    exact sm_up (sm_up (sm_up (sm_up sm_refl _ rfl) _ rfl) _ rfl) _ rfl
  · rw [eA, up_at, md_is h0 dW e dR]
end
