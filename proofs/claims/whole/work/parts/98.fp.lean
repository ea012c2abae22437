/-! the reference's isSplit -/
def isL2 : List Nat := [1298, 1299, 1304, 1305, 1306, 1307, 1309, 1310, 1312]
section
variable {d : Nat} {h : s_H} {s : Nat → Int} {A : Nat → Nat → Int}
/-- d is multiplied by what place n gives -/
theorem W_gsd {Q : s_O → Prop} {n j : Nat} {g D : zp_R} {N : Nat} (n21 : n < 21) (mg : mon g j) (j41 : j ≤ 41) (mD : mon D N) (K : ∀ (sm' : Int) (B : Nat → Nat → Int) (h2 : s_H), RV h2 s B → FR h h2 → sm A B [1304, 1310, 1312] → B 1310 = cf (mvf g (nF (-(n : Int)))) → ((sm' = 1 ∧ N + n * j ≤ 60 ∧ B 1312 = cf (zp_mul D (gsd g n))) ∨ (sm' = 0 ∧ 61 ≤ N + n * j)) → wr sw_P (d + 3) sw_c490 sw_h490 (142, [.index 1290, vi sm', vi (n : Int), vi ((n : Int) + 1)], [], h2, 0, 0) Q) : ∀ (l k : Nat) (sm' : Int) (B : Nat → Nat → Int) (h2 : s_H), k + l = n → RV h2 s B → FR h h2 → sm A B [1304, 1310, 1312] → B 1310 = cf (mvf g (nF (-(k : Int)))) → ((sm' = 1 ∧ N + k * j ≤ 60 ∧ B 1312 = cf (zp_mul D (gsd g k))) ∨ (sm' = 0 ∧ 61 ≤ N + k * j)) → wr sw_P (d + 3) sw_c490 sw_h490 (75, [.index 1290, vi sm', vi (n : Int), vi ((k : Int) + 1)], [], h2, 0, 0) Q := by
  intro l
  induction l with
  | zero =>
    intro k sm' B h2 hk v r m g10 w
    have ek : k = n := by omega
    subst ek
    exact k490_75 (fun _ => K sm' B h2 v r m g10 w) (fun w2 => absurd (by omega) w2) (c1 := by unfold In3; omega) (c2 := by unfold In3; omega)
  | succ l ih =>
    intro k sm' B h2 hk v r m g10 w
    have dg6 := deg_le mg.2 (show j + 1 ≤ 176 by omega)
    refine k490_75 (fun w2 => absurd w2 (by omega)) (fun _ => ?_) (c1 := by unfold In3; omega) (c2 := by unfold In3; omega)
    refine k490_80 v.1 (wm_mono (wq_Q (fun h3 v3 r3 => ?_)) (V_move v (t := 1310) rfl g10 (mvf_deg _ _) (z := -1) (by decide)))
    rw [mvf_mvf _ _ dg6, nF_add0] at v3
    have m3 : sm A (up B 1310 (cf (mvf g (nF (-((k : Int) + 1)))))) [1304, 1310, 1312] := sm_up m _ rfl
    have mU := mvf_mon (nF (-((k : Int) + 1))) mg (by omega)
    have dU6 : zp_deg (mvf g (nF (-((k : Int) + 1)))) 176 := mvf_deg _ _
    have hU := hi_mo mU.1 mU.2 dU6
    have sj : (k + 1) * j = k * j + j := Nat.succ_mul k j
    have bad : ∀ t : Int, 61 ≤ N + (k + 1) * j → wr sw_P (d + 3) sw_c490 sw_h490 (118, [.index 1290, vi sm', vi (n : Int), vi ((k : Int) + 1)], [], h3, 0, 0) Q := fun t w2 => by
      refine k490_118 (k490_119 (fun _ => k490_136 ?_) (fun w3 => absurd rfl w3) (c2 := by decide))
      have := ih (k + 1) 0 _ h3 (by omega) v3 (FR_trans r r3) m3 (by rw [up_at]; rfl) (.inr ⟨rfl, w2⟩)
      exact this
    rcases w with ⟨w1, w2, w3⟩ | ⟨w1, w2⟩
    · subst w1
      have mW := mon_mul mD (gsd_mon mg j41 k)
      have dW6 := deg_le mW.2 (show N + k * j + 1 ≤ 176 by omega)
      have hW := hi_mo mW.1 mW.2 dW6
      have g12 : up B 1310 (cf (mvf g (nF (-((k : Int) + 1))))) 1312 = cf (zp_mul D (gsd g k)) := by rw [up_ne _ _ (by decide), w3]
      refine k490_90 (fun w4 => absurd w4 (by decide)) (fun _ => ?_) (c1 := by decide)
      refine k490_94 v3.1 (wm_mono (wq_r ?_) (V_high v3 (c := 1312) rfl g12))
      refine k490_101 v3.1 (wm_mono (wq_r ?_) (V_high v3 (c := 1310) rfl (up_at _ _ _)))
      rw [hW, hU]
      refine k490_108 (fun w4 => bad 0 (by omega)) (fun w4 => k490_114 ?_) (c1 := by unfold In3; omega)
      refine k490_119 (fun w5 => absurd w5 (by decide)) (fun _ => ?_) (c2 := by decide)
      refine k490_124 v3.1 (wm_mono (wq_Q (fun h4 v4 r4 => k490_136 ?_)) (V_multiplyBy v3 (p := 1312) (q := 1310) rfl rfl (by decide) (by decide) g12 (up_at _ _ _)))
      have e1 : zp_mul (zp_mul D (gsd g k)) (mvf g (nF (-((k : Int) + 1)))) = zp_mul D (gsd g (k + 1)) := @pf_ind.pi_h zp_R zp_ring _ _ _
      have := ih (k + 1) 1 _ h4 (by omega) v4 (FR_trans r (FR_trans r3 r4)) (sm_up (sm_up m3 _ rfl) _ rfl) (by rw [up_ne _ _ (by decide), up_ne _ _ (by decide), up_at]; rfl) (.inl ⟨rfl, by omega, by rw [up_at, e1]⟩)
      exact this
    · subst w1
      refine k490_90 (fun _ => bad 0 (by omega)) (fun w4 => absurd rfl w4) (c1 := by decide)
theorem V_isSplit (hv : RV h s A) {a b : zp_R} (ha : A 1298 = cf a) (hb : A 1299 = cf b) (da : zp_deg a 41) (db : zp_deg b 41) (a0 : a ≠ zp_C 0) (mb : mo b) : wm sw_P (d + 7) 490 [.index 1290] h (RA h (fun v s' A' => s' = s ∧ sm A A' isL2 ∧ ∃ (P R G : Nat → zp_R) (N : Nat), gsp a b 21 P R G ∧ mon (gsw G 21) N ∧ zp_deg (P 21) 41 ∧ zp_deg (R 21) 41 ∧ P 21 ≠ zp_C 0 ∧ mo (R 21) ∧ ((v = vi 1 ∧ N ≤ 60 ∧ A' 1298 = cf (P 21) ∧ A' 1299 = cf (R 21) ∧ A' 1312 = cf (gsw G 21)) ∨ (v = vi 0 ∧ 61 ≤ N)))) := by
  refine wm_in (cd := sw_c490) (nL := 4) (hd := sw_h490) rfl rfl ?_
  refine k490_0 hv.1 (wm_mono (wq_Q (fun h1 v1 r1 => k490_8 ?_)) (V_become hv (c := 1312) rfl (z := 1) (by decide)))
  rw [nF_1] at v1
  have loop : ∀ (l n : Nat) (P R G : Nat → zp_R) (N k : Nat) (sm' : Int) (B : Nat → Nat → Int) (h2 : s_H) (t3 : Term), n + l = 21 → RV h2 s B → FR h h2 → sm A B isL2 → gsp a b n P R G → mon (gsw G n) N → zp_deg (P n) 41 → P n ≠ zp_C 0 → mon (R n) k → k ≤ 40 → B 1298 = cf (P n) → B 1299 = cf (R n) → ((sm' = 1 ∧ N ≤ 60 ∧ B 1312 = cf (gsw G n)) ∨ (sm' = 0 ∧ 61 ≤ N)) → wr sw_P (d + 6) sw_c490 sw_h490 (12, [.index 1290, vi sm', vi (n : Int), t3], [], h2, 0, 0) (RA h (fun v s' A' => s' = s ∧ sm A A' isL2 ∧ ∃ (P R G : Nat → zp_R) (N : Nat), gsp a b 21 P R G ∧ mon (gsw G 21) N ∧ zp_deg (P 21) 41 ∧ zp_deg (R 21) 41 ∧ P 21 ≠ zp_C 0 ∧ mo (R 21) ∧ ((v = vi 1 ∧ N ≤ 60 ∧ A' 1298 = cf (P 21) ∧ A' 1299 = cf (R 21) ∧ A' 1312 = cf (gsw G 21)) ∨ (v = vi 0 ∧ 61 ≤ N)))) := by
    intro l
    induction l with
    | zero =>
      intro n P R G N k sm' B h2 t3 hn v r m gs mN dP P0 mR k40 g98 g99 w
      have en : n = 21 := by omega
      subst en
      refine k490_12 (fun _ => k490_160 ⟨vi sm', h2, s, B, v, r, ⟨rfl, m, P, R, G, N, gs, mN, dP, deg_le mR.2 (by omega), P0, ⟨k, mR.1, mR.2⟩, ?_⟩, rfl⟩ (c1 := by rcases w with ⟨w, _⟩ | ⟨w, _⟩ <;> omega)) (fun w2 => absurd (by decide) w2) (c1 := by decide)
      rcases w with ⟨w1, w2, w3⟩ | ⟨w1, w2⟩
      · exact .inl ⟨by rw [w1], w2, g98, g99, w3⟩
      · exact .inr ⟨by rw [w1], w2⟩
    | succ l ih =>
      intro n P R G N k sm' B h2 t3 hn v r m gs mN dP P0 mR k40 g98 g99 w
      have dR6 := deg_le mR.2 (show k + 1 ≤ 176 by omega)
      have dP6 := deg_le dP (show 41 ≤ 176 by decide)
      refine k490_12 (fun w2 => absurd w2 (by omega)) (fun _ => ?_) (c1 := by unfold In3; omega)
      refine k490_18 v.1 (wm_mono (wq_Q (fun h3 v3 r3 => ?_)) (V_copy v (c := 1309) (e := 1299) rfl rfl (by decide)))
      rw [g99] at v3
      refine k490_29 v3.1 (wm_mono (wq_Q (fun h4 v4 r4 => ?_)) (V_move v3 (t := 1309) rfl (up_at _ _ _) dR6 (z := (n : Int)) (in6_of (by omega) (by omega)))) (c7 := by unfold In3; omega)
      refine k490_38 v4.1 (wm_mono (wq_N (fun h5 s5 A5 v5 r5 φ => ?_)) (V_commonOf v4 (p := 1298) (q := 1309) rfl rfl (by decide) (by decide) (by decide) (f := P n) (g := mvf (R n) (nF (n : Int))) (by rw [up_ne _ _ (by decide), up_ne _ _ (by decide)]; exact g98) (up_at _ _ _) dP6 (mvf_deg _ _)))
      obtain ⟨es5, ⟨g, hG, dg6, eg⟩, m5⟩ := φ
      subst es5
      have mg : mo g := hG.2.2.2.resolve_left (fun z => P0 (by
        obtain ⟨q, e⟩ := hG.1
        rw [e, z, zp_h20R, zp_mul0]))
      obtain ⟨j, r', jk, mgj, eR, mr'⟩ := gs_quo mR (by omega) mg hG.2.1
      obtain ⟨p', eP⟩ := id hG.1
      have dp' : zp_deg p' 41 := zp_monic_deg mgj.1 mgj.2 (t := 41) (by rw [← eP]; exact deg_le dP (by omega))
      have p0 : p' ≠ zp_C 0 := fun z => P0 (by rw [eP, z, zp_mul0])
      have a5 : sm A A5 isL2 := sm_tr (sm_up (sm_up m _ rfl) _ rfl) (sm_sub m5 rfl)
      have c98 : A5 1298 = cf (P n) := by rw [m5 1298 rfl, up_ne _ _ (by decide), up_ne _ _ (by decide), g98]
      have c99 : A5 1299 = cf (R n) := by rw [m5 1299 rfl, up_ne _ _ (by decide), up_ne _ _ (by decide), g99]
      have c12 : A5 1312 = B 1312 := by rw [m5 1312 rfl, up_ne _ _ (by decide), up_ne _ _ (by decide)]
      refine k490_50 v5.1 (wm_mono (wq_Q (fun h6 v6 r6 => ?_)) (V_copy v5 (c := 1310) (e := 1306) rfl rfl (by decide)))
      rw [eg] at v6
      refine k490_61 v6.1 (wm_mono (wq_N (fun h7 s7 A7 v7 r7 φ => ?_)) (V_divideBy v6 (p := 1298) (q := 1310) rfl rfl (by decide) (by decide) (by decide) (f := P n) (g := g) (by rw [up_ne _ _ (by decide)]; exact c98) (up_at _ _ _) dP6 dg6 (mo_pos mg dg6)))
      obtain ⟨es7, Q7, R7, e7, dR7, _, dQ7, eA7⟩ := φ
      subst es7
      have qp : p' = Q7 := exact_div mg dg6 e7 dR7 eP
      subst qp
      have a7 : sm A A7 isL2 := by rw [eA7]; exact sm_up (sm_up (sm_up (sm_up a5 _ rfl) _ rfl) _ rfl) _ rfl
      have i98 : A7 1298 = cf p' := by rw [eA7, up_at]
      have i10 : A7 1310 = cf g := by rw [eA7, up_ne _ _ (by decide), up_ne _ _ (by decide), up_ne _ _ (by decide), up_at]
      have i99 : A7 1299 = cf (R n) := by rw [eA7, up_ne _ _ (by decide), up_ne _ _ (by decide), up_ne _ _ (by decide), up_ne _ _ (by decide), c99]
      have i12 : A7 1312 = B 1312 := by rw [eA7, up_ne _ _ (by decide), up_ne _ _ (by decide), up_ne _ _ (by decide), up_ne _ _ (by decide), c12]
      have m0 : mvf g (nF (-((0 : Nat) : Int))) = g := by
        have : nF (-((0 : Nat) : Int)) = 0 := nF_0
        rw [this]; exact mvf_0 dg6
      refine k490_73 ?_
      have start := W_gsd (d := d + 3) (h := h) (s := s7) (A := A7) (Q := RA h (fun v s' A' => s' = s7 ∧ sm A A' isL2 ∧ ∃ (P R G : Nat → zp_R) (N : Nat), gsp a b 21 P R G ∧ mon (gsw G 21) N ∧ zp_deg (P 21) 41 ∧ zp_deg (R 21) 41 ∧ P 21 ≠ zp_C 0 ∧ mo (R 21) ∧ ((v = vi 1 ∧ N ≤ 60 ∧ A' 1298 = cf (P 21) ∧ A' 1299 = cf (R 21) ∧ A' 1312 = cf (gsw G 21)) ∨ (v = vi 0 ∧ 61 ≤ N)))) (n := n) (j := j) (g := g) (D := gsw G n) (N := N) (by omega) mgj (by omega) mN (fun sm2 C h8 v8 r8 m8 k10 w8 => ?_) n 0 sm' A7 h7 (Nat.zero_add n) v7 (FR_trans r (FR_trans r3 (FR_trans r4 (FR_trans r5 (FR_trans r6 r7))))) sm_refl (by rw [i10, m0]) (by
        rw [Nat.zero_mul, Nat.add_zero, i12]
        rcases w with ⟨w1, w2, w3⟩ | w
        · refine .inl ⟨w1, w2, ?_⟩
          rw [w3]
          show cf (gsw G n) = cf (zp_mul (gsw G n) (zp_C 1))
          rw [zp_C1]
          exact congrArg cf (@zp_can_h zp_R zp_ring _)
        · exact .inr w)
      · exact start
      have mU := mvf_mon (nF (-(n : Int))) mgj (by omega)
      have dU6 : zp_deg (mvf g (nF (-(n : Int)))) 176 := mvf_deg _ _
      have j99 : C 1299 = cf (R n) := (m8 1299 rfl).trans i99
      refine k490_142 v8.1 (wm_mono (wq_N (fun h9 s9 A9 v9 r9 φ => k490_154 ?_)) (V_divideBy v8 (p := 1299) (q := 1310) rfl rfl (by decide) (by decide) (by decide) (f := R n) (g := mvf g (nF (-(n : Int)))) j99 k10 dR6 dU6 (mo_pos ⟨j, mU.1, mU.2⟩ dU6)))
      obtain ⟨es9, Q9, R9, e9, dR9, _, dQ9, eA9⟩ := φ
      subst es9
      have qr' : r' = Q9 := exact_div ⟨j, mU.1, mU.2⟩ dU6 e9 dR9 eR
      subst qr'
      have a9 : sm A A9 isL2 := by rw [eA9]; exact sm_up (sm_up (sm_up (sm_tr a7 (sm_sub m8 rfl)) _ rfl) _ rfl) _ rfl
      have eG : gsw (pu G n g) (n + 1) = zp_mul (gsw G n) (gsd g n) := by
        show zp_mul (gsw (pu G n g) n) (gsd (pu G n g n) n) = _
        rw [gsw_pu n (Nat.le_refl n), pu_at]
      have := ih (n + 1) (pu P (n + 1) p') (pu R (n + 1) r') (pu G n g) (N + n * j) (k - j) sm2 A9 h9 (vi ((n : Int) + 1)) (by omega) v9 (FR_trans r8 r9) a9 (gsp_s gs hG eP eR) (by rw [eG]; exact mon_mul mN (gsd_mon mgj (by omega) n)) (by rw [pu_at]; exact dp') (by rw [pu_at]; exact p0) (by rw [pu_at]; exact mr') (by omega) (by rw [pu_at, eA9, up_ne _ _ (by decide), up_ne _ _ (by decide), up_ne _ _ (by decide), m8 1298 rfl, i98]) (by rw [pu_at, eA9, up_at]) (by
        rcases w8 with ⟨w1, w2, w3⟩ | w8
        · refine .inl ⟨w1, w2, ?_⟩
          rw [eG, eA9, up_ne _ _ (by decide), up_ne _ _ (by decide), up_ne _ _ (by decide), w3]
        · exact .inr w8)
      exact this
  obtain ⟨nb, mb1, mb2⟩ := mb
  have nb40 : nb ≤ 40 := Nat.le_of_not_lt (fun w => by
    rw [db nb (by omega)] at mb1
    exact zp_F10 mb1.symm)
  exact loop 21 0 (fun _ => a) (fun _ => b) (fun _ => zp_C 0) 0 nb 1 _ h1 _ (Nat.zero_add _) v1 r1 (sm_up sm_refl _ rfl) (gsp_0 a b) mon_C1 da a0 ⟨mb1, mb2⟩ nb40 (by rw [up_ne _ _ (by decide)]; exact ha) (by rw [up_ne _ _ (by decide)]; exact hb) (.inl ⟨rfl, by decide, up_at _ _ _⟩)
where zp_can_h : ∀ {R : Type} [Lean.Grind.CommRing R] (a : R), a = a * 1 := by intro R _ a; grind
end
