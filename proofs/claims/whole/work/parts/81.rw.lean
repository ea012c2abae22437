/-! THE REFERENCE AT ONCE: how methods end there, and its polynomials told so -/
def P9 (c : Nat) : Bool := Nat.ble 1291 c && Nat.ble c 1374 && Nat.beq (rl c) 176 && Nat.beq (rt c) 1
theorem P9_i {c : Nat} (hc : P9 c = true) : 1291 ≤ c ∧ c ≤ 1374 ∧ rl c = 176 ∧ rt c = 1 := by
  unfold P9 at hc
  simp only [Bool.and_eq_true] at hc
  exact ⟨Nat.le_of_ble_eq_true hc.1.1.1, Nat.le_of_ble_eq_true hc.1.1.2, Nat.eq_of_beq_eq_true hc.1.2, Nat.eq_of_beq_eq_true hc.2⟩
theorem rc_9 {c : Nat} (hc : P9 c = true) (g : Nat → Int) : rc c g = al 176 g := by
  obtain ⟨_, _, h3, h4⟩ := P9_i hc
  unfold rc vf
  rw [h3, h4, if_pos rfl]
theorem RV_l {h : s_H} {s : Nat → Int} {A : Nat → Nat → Int} (hv : RV h s A) {c : Nat} (hc : P9 c = true) : s_get h c = some (al 176 (A c)) := by
  obtain ⟨h1, h2, _, _⟩ := P9_i hc
  rw [← rc_9 hc]; exact hv.2 c h1 h2
theorem RV_q {h : s_H} {s : Nat → Int} {A : Nat → Nat → Int} (hv : RV h s A) {c : Nat} (hc : P9 c = true) {f : zp_R} (hf : A c = cf f) : s_get h c = some (pl f) := by
  rw [RV_l hv hc, hf]
theorem RV_w {h : s_H} {s : Nat → Int} {A : Nat → Nat → Int} (hv : RV h s A) {c : Nat} (hc : P9 c = true) (g : Nat → Int) : RV (hp h c (al 176 g)) s (up A c g) := by
  obtain ⟨h1, h2, _, _⟩ := P9_i hc
  rw [← rc_9 hc]; exact RV_put hv h1 h2 g
theorem FR_w {h : s_H} {s : Nat → Int} {A : Nat → Nat → Int} (hv : RV h s A) {c : Nat} (hc : P9 c = true) (C : s_C) : FR h (hp h c C) := FR_put hv (P9_i hc).1 (P9_i hc).2.1 C
/-- ends with no answer, or with one; then φ of the reference's numbers and rows -/
def RN (h : s_H) (φ : (Nat → Int) → (Nat → Nat → Int) → Prop) : s_O → Prop := fun out => ∃ h' s' A', RV h' s' A' ∧ FR h h' ∧ φ s' A' ∧ out = (.inl none, h', 0, 0)
def RA (h : s_H) (φ : Term → (Nat → Int) → (Nat → Nat → Int) → Prop) : s_O → Prop := fun out => ∃ v h' s' A', RV h' s' A' ∧ FR h h' ∧ φ v s' A' ∧ out = (.inl (some v), h', 0, 0)
abbrev RQ (h : s_H) (s : Nat → Int) (A : Nat → Nat → Int) : s_O → Prop := RN h (fun s' A' => s' = s ∧ A' = A)
theorem wq_N {P : s_P} {d : Nat} {cd : s_Cd} {hd : List s_Hd} {nx : Nat} {ls rest : List Term} {kc ks : Nat} {Q : s_O → Prop} {h0 : s_H} {φ : (Nat → Int) → (Nat → Nat → Int) → Prop} (k : ∀ h' s' A', RV h' s' A' → FR h0 h' → φ s' A' → wr P d cd hd (nx, ls, rest, h', kc, ks) Q) : ∀ out, RN h0 φ out → wq P d cd hd nx ls rest kc ks Q out := by
  intro out ⟨h', s', A', a, b, c, e⟩
  exact wq_v (k h' s' A' a b c) out e
theorem wq_A {P : s_P} {d : Nat} {cd : s_Cd} {hd : List s_Hd} {nx : Nat} {ls rest : List Term} {kc ks : Nat} {Q : s_O → Prop} {h0 : s_H} {φ : Term → (Nat → Int) → (Nat → Nat → Int) → Prop} (k : ∀ v h' s' A', RV h' s' A' → FR h0 h' → φ v s' A' → wr P d cd hd (nx, ls, v :: rest, h', kc, ks) Q) : ∀ out, RA h0 φ out → wq P d cd hd nx ls rest kc ks Q out := by
  intro out ⟨v, h', s', A', a, b, c, e⟩
  exact wq_r (k v h' s' A' a b c) out e
theorem wq_Q {P : s_P} {d : Nat} {cd : s_Cd} {hd : List s_Hd} {nx : Nat} {ls rest : List Term} {kc ks : Nat} {Q : s_O → Prop} {h0 : s_H} {s : Nat → Int} {A : Nat → Nat → Int} (k : ∀ h', RV h' s A → FR h0 h' → wr P d cd hd (nx, ls, rest, h', kc, ks) Q) : ∀ out, RQ h0 s A out → wq P d cd hd nx ls rest kc ks Q out := by
  refine wq_N (fun h' s' A' a b c => ?_)
  obtain ⟨rfl, rfl⟩ := c
  exact k h' a b
theorem RQ_i {h h' : s_H} {s : Nat → Int} {A : Nat → Nat → Int} (a : RV h' s A) (b : FR h h') : ∀ out, qv h' out → RQ h s A out := fun _ e => ⟨h', s, A, a, b, ⟨rfl, rfl⟩, e⟩
section
variable {d : Nat} {h : s_H} {s : Nat → Int} {A : Nat → Nat → Int}
theorem V_copy (hv : RV h s A) {c e : Nat} (hc : P9 c = true) (he : P9 e = true) (hce : e ≠ c) : wm sw_P (d + 1) 425 [.index c, .index e] h (RQ h s (up A c (A e))) :=
  wm_mono (RQ_i (RV_w hv hc _) (FR_w hv hc _)) (t_copy (by have := P9_i hc; omega) hce (RV_l hv hc) (RV_l hv he))
theorem V_become (hv : RV h s A) {c : Nat} (hc : P9 c = true) {z : Int} (hz : In6 z) : wm sw_P (d + 2) 405 [.index c, vl z] h (RQ h s (up A c (cf (zp_C (nF z))))) :=
  wm_mono (RQ_i (RV_w hv hc _) (FR_w hv hc _)) (t_become (by have := P9_i hc; omega) (RV_l hv hc) hz)
theorem V_scale (hv : RV h s A) {c : Nat} (hc : P9 c = true) {f : zp_R} (hf : A c = cf f) {z : Int} (hz : 0 ≤ z ∧ z < 32003) : wm sw_P (d + 1) 592 [.index c, vl z] h (RQ h s (up A c (cf (zp_mul (zp_C (nF z)) f)))) :=
  wm_mono (RQ_i (RV_w hv hc _) (FR_w hv hc _)) (t_scale (by have := P9_i hc; omega) (RV_q hv hc hf) hz)
theorem V_more (hv : RV h s A) {c e : Nat} (hc : P9 c = true) (he : P9 e = true) (hce : e ≠ c) {f g : zp_R} (hf : A c = cf f) (hg : A e = cf g) {z : Int} (hz : In6 z) : wm sw_P (d + 2) 529 [.index c, .index e, vl z] h (RQ h s (up A c (cf (zp_add f (zp_mul (zp_C (nF z)) g))))) :=
  wm_mono (RQ_i (RV_w hv hc _) (FR_w hv hc _)) (t_more (by have := P9_i hc; omega) hce (RV_q hv hc hf) (RV_q hv he hg) hz)
theorem V_high (hv : RV h s A) {c : Nat} (hc : P9 c = true) {f : zp_R} (hf : A c = cf f) : wm sw_P (d + 1) 463 [.index c] h (qr (vi (hi f)) h) := t_highp (RV_q hv hc hf)
theorem V_isOne (hv : RV h s A) {c : Nat} (hc : P9 c = true) {f : zp_R} (hf : A c = cf f) : wm sw_P (d + 2) 483 [.index c] h (qr (vi (if hi f = 0 ∧ cf f 0 = 1 then 1 else 0)) h) := t_isOne (RV_q hv hc hf)
theorem V_multiply (hv : RV h s A) {p q : Nat} (hp : P9 p = true) (hq : P9 q = true) (hp1 : p ≠ 1304) (hq1 : q ≠ 1304) {f g : zp_R} (hf : A p = cf f) (hg : A q = cf g) : wm sw_P (d + 2) 531 [.index 1290, .index p, .index q] h (RQ h s (up A 1304 (cf (zp_mul f g)))) :=
  wm_mono (RQ_i (RV_w hv (c := 1304) rfl _) (FR_w hv (c := 1304) rfl _)) (t_multiply hv.1 (RV_l hv rfl) hp1 hq1 (RV_q hv hp hf) (RV_q hv hq hg))
theorem V_multiplyBy (hv : RV h s A) {p q : Nat} (hp : P9 p = true) (hq : P9 q = true) (hp1 : p ≠ 1304) (hq1 : q ≠ 1304) {f g : zp_R} (hf : A p = cf f) (hg : A q = cf g) : wm sw_P (d + 3) 532 [.index 1290, .index p, .index q] h (RQ h s (up (up A 1304 (cf (zp_mul f g))) p (cf (zp_mul f g)))) :=
  wm_mono (RQ_i (RV_w (RV_w hv (c := 1304) rfl _) hp _) (FR_trans (FR_w hv (c := 1304) rfl _) (FR_w (RV_w hv (c := 1304) rfl _) hp _))) (t_multiplyBy hv.1 (RV_l hv rfl) (by have := P9_i hp; omega) hp1 hq1 (RV_q hv hp hf) (RV_q hv hq hg))
theorem V_slope (hv : RV h s A) {c e : Nat} (hc : P9 c = true) (he : P9 e = true) (hce : e ≠ c) {f : zp_R} (hf : A e = cf f) (hd : zp_deg f 176) : wm sw_P (d + 1) 596 [.index c, .index e] h (RQ h s (up A c (cf (zp_D f)))) :=
  wm_mono (RQ_i (RV_w hv hc _) (FR_w hv hc _)) (t_slope (by have := P9_i hc; omega) hce (RV_l hv hc) (RV_q hv he hf) hd)
theorem V_makeMonic (hv : RV h s A) {c : Nat} (hc : P9 c = true) {f : zp_R} (hf : A c = cf f) : wm sw_P (d + 3) 521 [.index c] h (RQ h s (up A c (cf (if hi f < 0 then f else zp_mul (zp_C ((f.1 (hi f).toNat) ^ 32001)) f)))) :=
  wm_mono (RQ_i (RV_w hv hc _) (FR_w hv hc _)) (t_makeMonic (by have := P9_i hc; omega) (RV_q hv hc hf))
theorem V_divide (hv : RV h s A) {p q : Nat} (hp : P9 p = true) (hq : P9 q = true) (hp1 : p ≠ 1305) (hq1 : q ≠ 1305) (hpq : q ≠ p) {f g : zp_R} (hf : A p = cf f) (hg : A q = cf g) (hdf : zp_deg f 176) (hdg : zp_deg g 176) (hn : 0 ≤ hi g) : wm sw_P (d + 3) 433 [.index 1290, .index p, .index q] h (RN h (fun s' A' => s' = s ∧ ∃ Q R, f = zp_add (zp_mul g Q) R ∧ zp_deg R (hi g).toNat ∧ zp_deg R 176 ∧ zp_deg Q 176 ∧ A' = up (up A 1305 (cf Q)) p (cf R))) := by
  refine wm_mono (fun out => ?_) (t_divide hv.1 (RV_l hv (c := 1305) rfl) (by have := P9_i hp; omega) hp1 hq1 hpq (by have := P9_i hp; omega) (RV_q hv hp hf) (RV_q hv hq hg) hdf hdg (n := (hi g).toNat) (by omega))
  intro ⟨Q, R, e1, e2, e3, e4, e5⟩
  exact ⟨_, s, _, RV_w (RV_w hv (c := 1305) rfl (cf Q)) hp (cf R), FR_trans (FR_w hv (c := 1305) rfl _) (FR_w (RV_w hv (c := 1305) rfl (cf Q)) hp _), ⟨rfl, Q, R, e1, e2, e3, e4, rfl⟩, e5⟩
theorem V_divideBy (hv : RV h s A) {p q : Nat} (hp : P9 p = true) (hq : P9 q = true) (hp1 : p ≠ 1305) (hq1 : q ≠ 1305) (hpq : q ≠ p) {f g : zp_R} (hf : A p = cf f) (hg : A q = cf g) (hdf : zp_deg f 176) (hdg : zp_deg g 176) (hn : 0 ≤ hi g) : wm sw_P (d + 4) 434 [.index 1290, .index p, .index q] h (RN h (fun s' A' => s' = s ∧ ∃ Q R, f = zp_add (zp_mul g Q) R ∧ zp_deg R (hi g).toNat ∧ zp_deg R 176 ∧ zp_deg Q 176 ∧ A' = up (up (up A 1305 (cf Q)) p (cf R)) p (cf Q))) := by
  refine wm_in (cd := sw_c434) (nL := 3) (hd := sw_h434) rfl rfl ?_
  refine k434_0 hv.1 (wm_mono (wq_N (fun h1 s1 A1 v1 r1 φ1 => ?_)) (V_divide hv hp hq hp1 hq1 hpq hf hg hdf hdg hn))
  obtain ⟨rfl, Q, R, e1, e2, e3, e4, rfl⟩ := φ1
  refine k434_6 v1.1 (wm_mono (wq_Q (fun h2 v2 r2 => ?_)) (V_copy v1 (e := 1305) hp rfl (Ne.symm hp1)))
  refine k434_14 ⟨h2, _, _, v2, FR_trans r1 r2, ⟨rfl, Q, R, e1, e2, e3, e4, ?_⟩, rfl⟩
  rw [up_ne _ _ (Ne.symm hp1), up_at]
end
