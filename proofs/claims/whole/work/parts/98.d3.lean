/-! the reference's move: a number and the letter in place of the letter -/
theorem ev_ext {f g : zp_R} (df : zp_deg f 176) (dg : zp_deg g 176) (h : ∀ a, zp_ev a f = zp_ev a g) : f = g := by
  have z := zp_roots 176 (zp_add f (zp_neg g)) (by decide) (deg_add df (deg_neg dg)) (fun i _ => by
    rw [zp_ev_add, zp_ev_neg, h]
    exact @ex_h zp_F _ _)
  exact @cn_h2 zp_R zp_ring f g z
where ex_h : ∀ {R : Type} [Lean.Grind.CommRing R] (a : R), a + -a = 0 := by intro R _ a; grind
theorem cmo_ev (a : zp_F) (L V : zp_R) : ∀ N, zp_ev a (cmo L V N) = zp_sum (fun k => L.1 k * zp_ev a V ^ k) N
  | 0 => zp_ev_C a 0
  | N + 1 => by
    show zp_ev a (zp_add (cmo L V N) (zp_mul (zp_C (L.1 N)) (zp_npow V N))) = zp_sum (fun k => L.1 k * zp_ev a V ^ k) N + L.1 N * zp_ev a V ^ N
    rw [zp_ev_add, cmo_ev a L V N, zp_ev_mul, zp_ev_C, zp_ev_pow]
theorem cmo_deg {L V : zp_R} (hV : zp_deg V 2) (N : Nat) : zp_deg (cmo L V N) N := sum_dg (fun k hk => deg_Cm _ (deg_le (npow_deg (H := 1) hV k) (by omega)))
/-- f with c and the letter in place of the letter -/
def mvf (f : zp_R) (c : zp_F) : zp_R := cmo f (zp_add (zp_X 1) (zp_C c)) 176
theorem xc_deg (c : zp_F) : zp_deg (zp_add (zp_X 1) (zp_C c)) 2 := deg_add (zp_T_deg 1 1) (deg_le (zp_C_deg c) (by decide))
theorem mvf_deg (f : zp_R) (c : zp_F) : zp_deg (mvf f c) 176 := cmo_deg (xc_deg c) 176
theorem mvf_ev {f : zp_R} (df : zp_deg f 176) (c a : zp_F) : zp_ev a (mvf f c) = zp_ev (a + c) f := by
  unfold mvf
  rw [cmo_ev, zp_ev_eq (a + c) df]
  refine zp_sum_congr (fun k _ => ?_)
  rw [zp_ev_add, zp_X_T, zp_ev_T, zp_ev_C]
  congr 2
  exact @mv_h zp_F _ _ _
where mv_h : ∀ {R : Type} [Lean.Grind.CommRing R] (a c : R), 1 * a ^ 1 + c = a + c := by intro R _ a c; grind
theorem mvf_is {f P : zp_R} {c : zp_F} (df : zp_deg f 176) (dP : zp_deg P 176) (h : ∀ a, zp_ev a P = zp_ev (a + c) f) : P = mvf f c := ev_ext dP (mvf_deg f c) (fun a => by rw [h, mvf_ev df])
/-- a part through the letter less c -/
theorem syn {T Q : Nat → zp_F} {c b : zp_F} : ∀ m, (∀ k, k < m → T k = Q k - c * Q (k + 1)) → T m = Q m → zp_sum (fun k => T k * b ^ k) (m + 1) = Q 0 + (b - c) * zp_sum (fun k => Q (k + 1) * b ^ k) m := by
  intro m h hm
  have e1 : ∀ j, j ≤ m → zp_sum (fun k => T k * b ^ k) j = zp_sum (fun k => Q k * b ^ k) j + (-c) * zp_sum (fun k => Q (k + 1) * b ^ k) j := fun j hj => by
    rw [← zp_sum_mul, ← zp_sum_add]
    refine zp_sum_congr (fun k hk => ?_)
    rw [h k (by omega)]
    exact @sy_h zp_F _ _ _ _ _
  have e2 : zp_sum (fun k => Q k * b ^ k) (m + 1) = Q 0 + b * zp_sum (fun k => Q (k + 1) * b ^ k) m := by
    rw [zp_sum_head, ← zp_sum_mul, zp_pow_zero]
    have : zp_sum (fun i => Q (i + 1) * b ^ (i + 1)) m = zp_sum (fun i => b * (Q (i + 1) * b ^ i)) m := zp_sum_congr (fun k _ => by rw [zp_pow_succ]; exact @sy_h2 zp_F _ _ _ _)
    rw [this]
    exact @sy_h3 zp_F _ _ _
  have e3 : zp_sum (fun k => Q k * b ^ k) (m + 1) = zp_sum (fun k => Q k * b ^ k) m + Q m * b ^ m := rfl
  show zp_sum (fun k => T k * b ^ k) m + T m * b ^ m = _
  rw [e1 m (Nat.le_refl _), hm]
  rw [e3] at e2
  exact @sy_h4 zp_F _ _ _ _ _ _ _ e2
where
  sy_h : ∀ {R : Type} [Lean.Grind.CommRing R] (q c r b : R), (q - c * r) * b = q * b + -c * (r * b) := by intro R _ q c r b; grind
  sy_h2 : ∀ {R : Type} [Lean.Grind.CommRing R] (q p b : R), q * (p * b) = b * (q * p) := by intro R _ q p b; grind
  sy_h3 : ∀ {R : Type} [Lean.Grind.CommRing R] (q x : R), q * 1 + x = q + x := by intro R _ q x; grind
  sy_h4 : ∀ {R : Type} [Lean.Grind.CommRing R] {A S c q b Q0 : R}, A + q = Q0 + b * S → A + -c * S + q = Q0 + (b - c) * S := by intro R _ A S c q b Q0 h; grind
/-- what is left to be moved, from place i on -/
def mvI (f P : zp_R) (c : zp_F) (n i : Nat) : Prop := zp_deg P (n + 1) ∧ ∀ b, zp_ev b f = zp_sum (fun k => P.1 k * (b - c) ^ k) i + (b - c) ^ i * zp_sum (fun k => P.1 (i + k) * b ^ k) (n + 1 - i)
theorem mvI_0 {f : zp_R} {c : zp_F} {n : Nat} (df : zp_deg f (n + 1)) : mvI f f c n 0 := ⟨df, fun b => by
  rw [zp_ev_eq b df, zp_pow_zero]
  show _ = 0 + 1 * zp_sum (fun k => f.1 (0 + k) * b ^ k) (n + 1)
  rw [zp_sum_congr (f := fun k => f.1 (0 + k) * b ^ k) (g := fun k => f.1 k * b ^ k) (fun k _ => by rw [Nat.zero_add])]
  exact @m0_h zp_F _ _⟩
where m0_h : ∀ {R : Type} [Lean.Grind.CommRing R] (a : R), a = 0 + 1 * a := by intro R _ a; grind
theorem mvI_s {f T Q : zp_R} {c : zp_F} {n i : Nat} (hi2 : i < n) (h : mvI f T c n i) (dQ : zp_deg Q (n + 1)) (q1 : ∀ m, m < i → Q.1 m = T.1 m) (q2 : ∀ m, i ≤ m → m < n → T.1 m = Q.1 m - c * Q.1 (m + 1)) (q3 : T.1 n = Q.1 n) : mvI f Q c n (i + 1) := by
  refine ⟨dQ, fun b => ?_⟩
  rw [h.2 b, show n + 1 - i = (n - i) + 1 by omega, syn (T := fun k => T.1 (i + k)) (Q := fun k => Q.1 (i + k)) (c := c) (n - i) (fun k hk => q2 (i + k) (by omega) (by omega)) (by rw [show i + (n - i) = n by omega]; exact q3)]
  have e1 : zp_sum (fun k => T.1 k * (b - c) ^ k) i = zp_sum (fun k => Q.1 k * (b - c) ^ k) i := zp_sum_congr (fun k hk => by rw [q1 k hk])
  have e2 : zp_sum (fun k => Q.1 (i + (k + 1)) * b ^ k) (n - i) = zp_sum (fun k => Q.1 (i + 1 + k) * b ^ k) (n + 1 - (i + 1)) := by
    rw [show n + 1 - (i + 1) = n - i by omega]
    exact zp_sum_congr (fun k _ => by rw [show i + (k + 1) = i + 1 + k by omega])
  rw [e1]
  show _ = zp_sum (fun k => Q.1 k * (b - c) ^ k) i + Q.1 i * (b - c) ^ i + (b - c) ^ (i + 1) * _
  rw [← e2, zp_pow_succ]
  exact @ms_h zp_F _ _ _ _ _ _
where ms_h : ∀ {R : Type} [Lean.Grind.CommRing R] (S p q0 d Z : R), S + p * (q0 + d * Z) = S + q0 * p + p * d * Z := by intro R _ S p q0 d Z; grind
theorem mvI_e {f P : zp_R} {c : zp_F} {n : Nat} (h : mvI f P c n n) (a : zp_F) : zp_ev a P = zp_ev (a + c) f := by
  rw [h.2 (a + c), zp_ev_eq a h.1, show n + 1 - n = 1 by omega]
  show zp_sum (fun k => P.1 k * a ^ k) n + P.1 n * a ^ n = _ + (a + c - c) ^ n * (0 + P.1 (n + 0) * (a + c) ^ 0)
  rw [show a + c - c = a from @me_h zp_F _ a c, zp_pow_zero]
  exact @me_h2 zp_F _ _ _ _
where
  me_h : ∀ {R : Type} [Lean.Grind.CommRing R] (a c : R), a + c - c = a := by intro R _ a c; grind
  me_h2 : ∀ {R : Type} [Lean.Grind.CommRing R] (S p q : R), S + q * p = S + p * (0 + q * 1) := by intro R _ S p q; grind
theorem tm_ab (a c b : zp_F) : Int.tmod ((a.val : Int) + (c.val : Int) * b.val) 32003 = ((a + c * b : zp_F).val : Int) := by
  rw [tmod_nn (Int.add_nonneg (by omega) (Int.mul_nonneg (by omega) (by omega))), ← nF_v, nF_add, nF_mul, nF_val, nF_val, nF_val]
section
variable {d : Nat} {h : s_H} {s : Nat → Int} {A : Nat → Nat → Int}
theorem V_move (hv : RV h s A) {t : Nat} (hc : P9 t = true) {f : zp_R} (hf : A t = cf f) (df : zp_deg f 176) {z : Int} (hz : In6 z) : wm sw_P (d + 2) 530 [.index t, vl z] h (RQ h s (up A t (cf (mvf f (nF z))))) := by
  refine wm_in (cd := sw_c530) (nL := 8) (hd := sw_h530) rfl rfl ?_
  have p0 := P9_i hc
  have bf := hi_b f
  refine k530_0 (wm_mono (wq_r ?_) (t_modulo hz))
  rw [← nF_v]
  refine k530_4 (wm_mono (wq_r ?_) (V_high hv hc hf))
  refine k530_9 ?_
  have fin : ∀ (P : zp_R) (B : Nat → Nat → Int) (h' : s_H) (x6 : Int) (t2 t4 t7 : Term), hi f ≤ x6 → In3 x6 → RV h' s B → FR h h' → (∀ x, x ≠ t → B x = A x) → B t = cf P → P = mvf f (nF z) → wr sw_P (d + 1) sw_c530 sw_h530 (14, [.index t, vl z, t2, vl ((nF z).val : Int), t4, vi (hi f), vi x6, t7], [], h', 0, 0) (RQ h s (up A t (cf (mvf f (nF z))))) := by
    intro P B h' x6 t2 t4 t7 hx i6 v r o g e
    refine k530_14 (fun _ => k530_67 ?_) (fun w => absurd hx w) (c1 := i6) (c2 := by unfold In3; omega)
    have eB : B = up A t (cf (mvf f (nF z))) := by
      funext x
      by_cases hx : x = t
      · rw [hx, up_at, g, e]
      · rw [up_ne _ _ hx, o x hx]
    rw [eB] at v
    exact ⟨h', s, _, v, r, ⟨rfl, rfl⟩, rfl⟩
  by_cases n0 : hi f < 0
  · have f0 := hi_0 df n0
    refine fin f A h 0 _ _ _ (by omega) (by decide) hv (FR_refl h) (fun _ _ => rfl) hf (mvf_is df df (fun a => ?_))
    rw [f0, zp_ev_C, zp_ev_C]
  · obtain ⟨n, en⟩ : ∃ n : Nat, hi f = n := ⟨(hi f).toNat, by omega⟩
    have dn : zp_deg f (n + 1) := fun i hi2 => hi_deg df i (by omega)
    have outer : ∀ (l i : Nat) (P : zp_R) (B : Nat → Nat → Int) (h' : s_H) (t2 t4 t7 : Term), i + l = n → RV h' s B → FR h h' → (∀ x, x ≠ t → B x = A x) → B t = cf P → mvI f P (nF z) n i → wr sw_P (d + 1) sw_c530 sw_h530 (14, [.index t, vl z, t2, vl ((nF z).val : Int), t4, vi (hi f), vi (i : Int), t7], [], h', 0, 0) (RQ h s (up A t (cf (mvf f (nF z))))) := by
      intro l
      induction l with
      | zero =>
        intro i P B h' t2 t4 t7 hi2 v r o g a
        have i_n : i = n := by omega
        subst i_n
        exact fin P B h' _ _ _ _ (by omega) (by unfold In3; omega) v r o g (mvf_is df (deg_le a.1 (by omega)) (mvI_e a))
      | succ l ih =>
        intro i P B h' t2 t4 t7 hi2 v r o g a
        refine k530_14 (fun w => absurd w (by omega)) (fun _ => k530_21 ?_) (c1 := by unfold In3; omega) (c2 := by unfold In3; omega)
        rw [show hi f - 1 = ((n - i : Nat) : Int) + i - 1 by omega]
        have inner : ∀ (p : Nat) (Q : zp_R) (C : Nat → Nat → Int) (h2 : s_H), p + i ≤ n → RV h2 s C → FR h h2 → (∀ x, x ≠ t → C x = A x) → C t = cf Q → zp_deg Q (n + 1) → (∀ m, m < p + i → Q.1 m = P.1 m) → (∀ m, p + i ≤ m → m < n → P.1 m = Q.1 m - nF z * Q.1 (m + 1)) → P.1 n = Q.1 n → wr sw_P (d + 1) sw_c530 sw_h530 (27, [.index t, vl z, t2, vl ((nF z).val : Int), t4, vi (hi f), vi (i : Int), vi ((p : Int) + i - 1)], [], h2, 0, 0) (RQ h s (up A t (cf (mvf f (nF z))))) := by
          intro p
          induction p with
          | zero =>
            intro Q C h2 hp2 v2 r2 o2 g2 dQ q1 q2 q3
            refine k530_27 (fun _ => k530_61 ?_) (fun w => absurd w (by omega)) (c1 := by unfold In3; omega) (c2 := by unfold In3; omega)
            exact ih (i + 1) Q C h2 _ _ _ (by omega) v2 r2 o2 g2 (mvI_s (by omega) a dQ (fun m hm => q1 m (by omega)) (fun m h1 h2 => q2 m (by omega) h2) q3)
          | succ p ih2 =>
            intro Q C h2 hp2 v2 r2 o2 g2 dQ q1 q2 q3
            have ek : ((p + 1 : Nat) : Int) + i - 1 = ((p + i : Nat) : Int) := by omega
            rw [ek]
            have g3 : gi (mk 176 (C t)) ((p + i : Nat) : Int) = ((Q.1 (p + i)).val : Int) := by rw [g2]; exact gi_mkn (by omega)
            have g4 : gi (mk 176 (C t)) (((p + i : Nat) : Int) + 1) = ((Q.1 (p + i + 1)).val : Int) := by rw [g2, show ((p + i : Nat) : Int) + 1 = ((p + i + 1 : Nat) : Int) by omega]; exact gi_mkn (by omega)
            refine k530_27 (fun w => absurd w (by omega)) (fun _ => ?_) (c1 := by unfold In3; omega) (c2 := by unfold In3; omega)
            refine k530_34 (RV_l v2 hc) ?_ (c5 := by rw [mk_len]; omega) (c6 := by omega) (c7 := by unfold In3; omega) (c8 := by rw [mk_len]; omega) (c9 := by omega) (c10 := by unfold In3; omega) (c11 := by rw [g3, g4]; exact in_acc _ _ _)
            rw [g3, g4, tm_ab, mk_set, g2, cf_pst Q (n := p + i) (by omega) rfl, show ((p + i : Nat) : Int) + (-1) = (p : Int) + i - 1 by omega]
            refine ih2 (pst Q (p + i) (Q.1 (p + i) + nF z * Q.1 (p + i + 1))) _ _ (by omega) (RV_w v2 hc _) (FR_trans r2 (FR_w v2 hc _)) (fun x hx => by rw [up_ne _ _ hx, o2 x hx]) (up_at _ _ _) (pst_deg _ dQ (by omega)) (fun m hm => ?_) (fun m h1 h2 => ?_) ?_
            · rw [pst_ne _ _ (by omega)]; exact q1 m (by omega)
            · by_cases q : m = p + i
              · subst q
                rw [pst_at, pst_ne _ _ (by omega), ← q1 (p + i) (by omega)]
                exact @mo_h zp_F _ _ _
              · rw [pst_ne _ _ q, pst_ne _ _ (by omega)]
                exact q2 m (by omega) h2
            · rw [pst_ne _ _ (by omega)]; exact q3
        exact inner (n - i) P B h' (by omega) v r o g a.1 (fun _ _ => rfl) (fun m h1 h2 => absurd h1 (by omega)) rfl
    exact outer n 0 f A h _ _ _ (by omega) hv (FR_refl h) (fun _ _ => rfl) hf (mvI_0 dn)
where mo_h : ∀ {R : Type} [Lean.Grind.CommRing R] (a b : R), a = a + b - b := by intro R _ a b; grind
end
