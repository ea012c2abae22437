/-! the reference's matrix in the picture -/
/-- entry under way: its first k numbers -/
def erk (g : Nat → Int) (b : Nat) (n : Nat → Int) (k : Nat) : Nat → Int := fun t => if b ≤ t ∧ t < b + k then n (t - b) else g t
theorem erk_s {g n : Nat → Int} {b k t0 : Nat} {z : Int} (ht : t0 = b + k) (hz : z = n k) : (fun t => if t = t0 then z else erk g b n k t) = erk g b n (k + 1) := by
  subst ht
  subst hz
  funext t
  show (if t = b + k then n k else if b ≤ t ∧ t < b + k then n (t - b) else g t) = if b ≤ t ∧ t < b + (k + 1) then n (t - b) else g t
  by_cases q : t = b + k
  · rw [if_pos q, if_pos (show b ≤ t ∧ t < b + (k + 1) by omega), show t - b = k by omega]
  · rw [if_neg q]
    by_cases q2 : b ≤ t ∧ t < b + k
    · rw [if_pos q2, if_pos (show b ≤ t ∧ t < b + (k + 1) by omega)]
    · rw [if_neg q2, if_neg (show ¬ (b ≤ t ∧ t < b + (k + 1)) by omega)]
theorem erk_0 (g n : Nat → Int) (b : Nat) : erk g b n 0 = g := by
  funext t
  exact if_neg (by omega)
theorem kept_96 (A : Nat → Nat → Int) (m : Nat) (r c : Int) (E : Nat → Int) : up (keptM A m r c) 1296 E = keptM (up A 1296 E) m r c := by
  funext j
  unfold keptM
  by_cases q : j = 1296
  · rw [q, up_at, up_ne _ _ (by decide), up_ne _ _ (by decide), up_ne _ _ (by decide), up_at]
  · rw [up_ne _ _ q]
    by_cases q5 : j = 1295
    · rw [q5, up_at, up_at, up_ne _ _ (by decide)]
    · rw [up_ne _ _ q5, up_ne _ _ q5]
      by_cases q4 : j = 1294
      · rw [q4, up_at, up_at, up_ne _ _ (by decide)]
      · rw [up_ne _ _ q4, up_ne _ _ q4]
        by_cases q1 : j = 1291
        · rw [q1, up_at, up_at, up_ne _ _ (by decide)]
        · rw [up_ne _ _ q1, up_ne _ _ q1, up_ne _ _ q]
section
variable {d : Nat} {h : s_H} {s : Nat → Int} {A : Nat → Nat → Int}
theorem V_isSize {x y : Int} (hx : In3 x) (hy : In3 y) : wm sw_P (d + 2) 489 [.index 1290, vi x, vi y] h (qr (vi (if (1 ≤ x ∧ x ≤ 4) ∧ 1 ≤ y ∧ y ≤ 4 then 1 else 0)) h) := by
  refine wm_in (cd := sw_c489) (nL := 3) (hd := sw_h489) rfl rfl ?_
  refine k489_0 (wm_mono (wq_r ?_) (t_in (x := x) (lo := 1) (hi := 4) (by unfold In6; unfold In3 at hx; omega) (by decide) (by decide))) (c1 := hx)
  by_cases q : 1 ≤ x ∧ x ≤ 4
  case neg =>
    rw [if_neg q, if_neg (fun w => q w.1)]
    exact k489_9 (fun _ => k489_28 (k489_29 rfl)) (fun w => absurd rfl w)
  rw [if_pos q]
  refine k489_9 (fun w => absurd w (by decide)) (fun _ => ?_)
  refine k489_12 (wm_mono (wq_r ?_) (t_in (x := y) (lo := 1) (hi := 4) (by unfold In6; unfold In3 at hy; omega) (by decide) (by decide))) (c1 := hy)
  by_cases q2 : 1 ≤ y ∧ y ≤ 4
  · rw [if_pos q2, if_pos ⟨q, q2⟩]
    exact k489_21 (fun w => absurd w (by decide)) (fun _ => k489_24 (k489_29 rfl))
  · rw [if_neg q2, if_neg (fun w => q2 w.2)]
    exact k489_21 (fun _ => k489_28 (k489_29 rfl)) (fun w => absurd rfl w)
theorem V_matrix (hv : RV h s A) {T : Nat → th} (hR : RI s A T) {n : Nat} {P : Nat → zp_R} (hK : TKI s A n P) {x y : Int} (hx : In3 x) (hy : In3 y) : wm sw_P (d + 3) 525 [.index 1290, vi x, vi y] h (RA h (fun v s' A' => ∃ c res, matS (s 1) n P x y c res ∧ ((c ≠ 0 ∧ v = vi 0 ∧ s' = up s 0 c ∧ A' = A ∧ RI s' A' T) ∨ (c = 0 ∧ v = vi (s 1) ∧ s' = up (up (up s 0 0) 8 0) 1 (s 1 + 1) ∧ sm A A' sto ∧ RI s' A' (up T (s 1).toNat res))))) := by
  refine wm_in (cd := sw_c525) (nL := 6) (hd := sw_h525) rfl rfl ?_
  have b0 := hR.1.1
  have n16 := hK.2.1
  have v0 : ∀ z : Int, RV (hp h 1290 (1, 11, (rF s).set 0 (vi z))) (up s 0 z) A := fun z => RV_fld hv (up s 0 z) (rF_0 s z)
  have bad : ∀ z : Int, 0 < z → z < 4 → matS (s 1) n P x y z (th_se (zp_C 0)) → wr sw_P (d + 2) sw_c525 sw_h525 (39, [.index 1290, vi x, vi y, .result, .result, .result], [vi z, .index 1290], h, 0, 0) (RA h (fun v s' A' => ∃ c res, matS (s 1) n P x y c res ∧ ((c ≠ 0 ∧ v = vi 0 ∧ s' = up s 0 c ∧ A' = A ∧ RI s' A' T) ∨ (c = 0 ∧ v = vi (s 1) ∧ s' = up (up (up s 0 0) 8 0) 1 (s 1 + 1) ∧ sm A A' sto ∧ RI s' A' (up T (s 1).toNat res))))) := by
    intro z hz2 hz3 hs
    refine k525_39 (z10 := z) hv.1 (hp_at hv.1) (fun w => absurd w (by omega)) (fun _ => k525_49 ?_) (c12 := by unfold In3; omega)
    exact ⟨_, _, _, _, v0 z, FR_fld hv _, ⟨z, _, hs, .inl ⟨by omega, rfl, rfl, rfl, RI_sc hR sm_refl rfl⟩⟩, rfl⟩
  refine k525_0 hv.1 (wm_mono (wq_r ?_) (V_isSize hx hy))
  by_cases q1 : (1 ≤ x ∧ x ≤ 4) ∧ 1 ≤ y ∧ y ≤ 4
  case neg =>
    rw [if_neg q1]
    exact k525_7 (fun _ => k525_20 (bad 1 (by decide) (by decide) ⟨fun _ => rfl, fun w => absurd w.1 q1⟩)) (fun w => absurd rfl w)
  rw [if_pos q1]
  refine k525_7 (fun w => absurd w (by decide)) (fun _ => ?_)
  obtain ⟨r, er⟩ : ∃ r : Nat, x = r := ⟨x.toNat, by omega⟩
  obtain ⟨c, ec⟩ : ∃ c : Nat, y = c := ⟨y.toNat, by omega⟩
  subst er
  subst ec
  have rt' : (r : Int).toNat = r := by omega
  have ct' : (c : Int).toNat = c := by omega
  have rc16 : r * c ≤ 16 := Nat.mul_le_mul (show r ≤ 4 by omega) (show c ≤ 4 by omega)
  have crc : (r : Int) * (c : Int) = ((r * c : Nat) : Int) := rfl
  have e8 : s 8 = n := hK.1
  refine k525_10 (z5 := s 8) hv.1 (fun q2 => ?_) (fun q2 => k525_20 (bad 1 (by decide) (by decide) ⟨fun _ => rfl, fun w => absurd (by rw [e8]; exact w.2) q2⟩)) (c7 := by rw [e8]; unfold In3; omega) (c8 := by rw [crc]; unfold In3; omega)
  rw [e8] at q2
  have ok : ((1 ≤ (r : Int) ∧ (r : Int) ≤ 4) ∧ 1 ≤ (c : Int) ∧ (c : Int) ≤ 4) ∧ (n : Int) = (r : Int) * c := ⟨q1, q2⟩
  refine k525_24 (z5 := s 1) hv.1 (fun q3 => k525_38 ?_) (fun q3 => k525_34 (bad 2 (by decide) (by decide) ⟨fun w => absurd ok w, fun _ => ⟨fun _ => rfl, fun w => absurd (by omega) w⟩⟩)) (c7 := by unfold In3; omega)
  refine k525_39 (z10 := 0) hv.1 (hp_at hv.1) (fun _ => ?_) (fun w => absurd (by decide) w)
  have w0 := v0 0
  obtain ⟨m, em⟩ : ∃ m : Nat, s 1 = m := ⟨(s 1).toNat, by omega⟩
  have nrc : n = r * c := by rw [crc] at q2; omega
  have w1 := Rp_kind w0 (fun i => if i = (s 1).toNat then 2 else A 1291 i)
  have w2 := Rp_rows w1 (fun i => if i = (s 1).toNat then (r : Int) else A 1294 i)
  have w3 := Rp_columns w2 (fun i => if i = (s 1).toNat then (c : Int) else A 1295 i)
  have f3 := FR_trans (FR_fld hv (1, 11, (rF s).set 0 (vi 0))) (FR_trans (FR_put w0 (c := 1291) (by decide) (by decide) (ai 150 (fun i => if i = (s 1).toNat then 2 else A 1291 i))) (FR_trans (FR_put w1 (c := 1294) (by decide) (by decide) (ai 150 (fun i => if i = (s 1).toNat then (r : Int) else A 1294 i))) (FR_put w2 (c := 1295) (by decide) (by decide) (ai 150 (fun i => if i = (s 1).toNat then (c : Int) else A 1295 i)))))
  refine k525_51 (z7 := s 1) (z20 := s 1) (z33 := s 1) w0.1 (Ra_kind w0) ((hp_ne (Ra_kind w0) (by decide)).trans w0.1) ((hp_ne (Ra_kind w0) (by decide)).trans (Ra_rows w0)) ((hp_ne ((hp_ne (Ra_kind w0) (by decide)).trans (Ra_rows w0)) (by decide)).trans ((hp_ne (Ra_kind w0) (by decide)).trans w0.1)) ((hp_ne ((hp_ne (Ra_kind w0) (by decide)).trans (Ra_rows w0)) (by decide)).trans ((hp_ne (Ra_kind w0) (by decide)).trans (Ra_columns w0))) ?_ (c12 := by rw [mk_len]; omega) (c13 := b0.1) (c14 := by unfold In3; omega) (c25 := by rw [mk_len]; omega) (c26 := b0.1) (c27 := by unfold In3; omega) (c38 := by rw [mk_len]; omega) (c39 := b0.1) (c40 := by unfold In3; omega)
  rw [mk_set, mk_set, mk_set]
  have eK : up (up (up A 1291 (fun i => if i = (s 1).toNat then 2 else A 1291 i)) 1294 (fun i => if i = (s 1).toNat then (r : Int) else A 1294 i)) 1295 (fun i => if i = (s 1).toNat then (c : Int) else A 1295 i) = keptM A m r c := by
    rw [show (s 1).toNat = m by omega]; rfl
  rw [eK] at w3
  have i2 : ∀ i j, i < r → j < c → c * i + j < n := fun i j h1 h2 => by
    have q := Nat.mul_le_mul_left c (show i + 1 ≤ r by omega)
    have e := Nat.mul_succ c i
    have e2 := Nat.mul_comm r c
    have e3 : c * (i + 1) = c * i + c := e
    omega
  have cci : ∀ i : Nat, (c : Int) * (i : Int) = ((c * i : Nat) : Int) := fun i => (Int.natCast_mul c i).symm
  have e1' : ∀ j, j ≠ 1296 → j ≠ 1291 → j ≠ 1294 → j ≠ 1295 → ∀ E, up (keptM A m r c) 1296 E j = A j := fun j h1 h2 h3 h4 E => by
    rw [up_ne _ _ h1]
    unfold keptM
    rw [up_ne _ _ h4, up_ne _ _ h3, up_ne _ _ h2]
  have outer : ∀ (l i : Nat) (E : Nat → Int) (h' : s_H) (t4 t5 : Term), i + l = r → RV h' (up s 0 0) (up (keptM A m r c) 1296 E) → FR h h' → inM A (up A 1296 E) m (fun a b => a < i ∧ b < c) (fun i j => P (c * i + j)) → wr sw_P (d + 2) sw_c525 sw_h525 (83, [.index 1290, vi (r : Int), vi (c : Int), vi (i : Int), t4, t5], [], h', 0, 0) (RA h (fun v s' A' => ∃ cc res, matS (s 1) n P r c cc res ∧ ((cc ≠ 0 ∧ v = vi 0 ∧ s' = up s 0 cc ∧ A' = A ∧ RI s' A' T) ∨ (cc = 0 ∧ v = vi (s 1) ∧ s' = up (up (up s 0 0) 8 0) 1 (s 1 + 1) ∧ sm A A' sto ∧ RI s' A' (up T (s 1).toNat res))))) := by
    intro l
    induction l with
    | zero =>
      intro i E h' t4 t5 hi2 v rr w
      have ir : i = r := by omega
      subst ir
      refine k525_83 (fun _ => ?_) (fun w => absurd w (by omega)) (c1 := by unfold In3; omega) (c2 := by unfold In3; omega)
      have v4 := RV_fld v (up (up s 0 0) 8 0) (rF_8 _ 0)
      have v5 := RV_fld v4 (up (up (up s 0 0) 8 0) 1 (s 1 + 1)) (rF_1 _ (s 1 + 1))
      have hN : newM A (up (keptM A m i c) 1296 E) m i c (fun i j => P (c * i + j)) := ⟨up A 1296 E, inM_mono w (fun x y _ _ w => w), kept_96 A m i c E⟩
      have hRN := RI_newM (s' := up (up (up s 0 0) 8 0) 1 (s 1 + 1)) hR em (by omega) (by rw [up_at]) ⟨by omega, by omega⟩ ⟨by omega, by omega⟩ hN
      have hg := k525_168 (P := sw_P) (d := d + 2) (Q := RA h (fun v s' A' => ∃ cc res, matS (s 1) n P i c cc res ∧ ((cc ≠ 0 ∧ v = vi 0 ∧ s' = up s 0 cc ∧ A' = A ∧ RI s' A' T) ∨ (cc = 0 ∧ v = vi (s 1) ∧ s' = up (up (up s 0 0) 8 0) 1 (s 1 + 1) ∧ sm A A' sto ∧ RI s' A' (up T (s 1).toNat res))))) (h := h') (kc := 0) (ks := 0) (r0 := .index 1290) (x1 := (i : Int)) (x2 := (c : Int)) (x3 := (i : Int)) (t4 := t4) (t5 := t5) (z9 := s 1) (z14 := s 1 + 1) v.1 v4.1 v5.1
      refine hg ?_
      rw [show s 1 + 1 - 1 = s 1 by omega]
      refine ⟨_, _, _, _, v5, FR_trans rr (FR_trans (FR_fld v _) (FR_fld v4 _)), ⟨0, _, ⟨fun w => absurd ok w, fun _ => ⟨fun w => absurd (by omega) q3, fun _ => ⟨rfl, rfl⟩⟩⟩, .inr ⟨rfl, rfl, rfl, ?_, ?_⟩⟩, rfl⟩
      · intro j hj
        have ne : ∀ k : Nat, sto.contains k = true → j ≠ k := fun k hk e => by rw [e, hk] at hj; exact Bool.noConfusion hj
        exact e1' j (ne 1296 rfl) (ne 1291 rfl) (ne 1294 rfl) (ne 1295 rfl) E
      · rw [rt', ct', show (s 1).toNat = m by omega]
        exact hRN.1
    | succ l ih =>
      intro i E h' t4 t5 hi2 v rr w
      refine k525_83 (fun w => absurd w (by omega)) (fun _ => k525_88 ?_) (c1 := by unfold In3; omega) (c2 := by unfold In3; omega)
      have inner : ∀ (l2 j : Nat) (E : Nat → Int) (h2 : s_H) (t5 : Term), j + l2 = c → RV h2 (up s 0 0) (up (keptM A m r c) 1296 E) → FR h h2 → inM A (up A 1296 E) m (fun a b => b < c ∧ (a < i ∨ (a = i ∧ b < j))) (fun i j => P (c * i + j)) → wr sw_P (d + 2) sw_c525 sw_h525 (91, [.index 1290, vi (r : Int), vi (c : Int), vi (i : Int), vi (j : Int), t5], [], h2, 0, 0) (RA h (fun v s' A' => ∃ cc res, matS (s 1) n P r c cc res ∧ ((cc ≠ 0 ∧ v = vi 0 ∧ s' = up s 0 cc ∧ A' = A ∧ RI s' A' T) ∨ (cc = 0 ∧ v = vi (s 1) ∧ s' = up (up (up s 0 0) 8 0) 1 (s 1 + 1) ∧ sm A A' sto ∧ RI s' A' (up T (s 1).toNat res))))) := by
        intro l2
        induction l2 with
        | zero =>
          intro j E h2 t5 hj v2 r2 w2
          exact k525_91 (fun _ => k525_162 (ih (i + 1) E h2 _ _ (by omega) v2 r2 (inM_mono w2 (fun x y _ _ w => ⟨w.2, by omega⟩)))) (fun w => absurd w (by omega)) (c1 := by unfold In3; omega) (c2 := by unfold In3; omega)
        | succ l2 ih2 =>
          intro j E h2 t5 hj v2 r2 w2
          refine k525_91 (fun w => absurd w (by omega)) (fun _ => k525_97 ?_) (c1 := by unfold In3; omega) (c2 := by unfold In3; omega)
          have lt := i2 i j (by omega) (by omega)
          have kk := hK.2.2 (c * i + j) lt
          have num : ∀ (l3 k : Nat) (h3 : s_H), k + l3 = 11 → RV h3 (up s 0 0) (up (keptM A m r c) 1296 (erk E (eb m i j) (cf (P (c * i + j))) k)) → FR h h3 → wr sw_P (d + 2) sw_c525 sw_h525 (100, [.index 1290, vi (r : Int), vi (c : Int), vi (i : Int), vi (j : Int), vi (k : Int)], [], h3, 0, 0) (RA h (fun v s' A' => ∃ cc res, matS (s 1) n P r c cc res ∧ ((cc ≠ 0 ∧ v = vi 0 ∧ s' = up s 0 cc ∧ A' = A ∧ RI s' A' T) ∨ (cc = 0 ∧ v = vi (s 1) ∧ s' = up (up (up s 0 0) 8 0) 1 (s 1 + 1) ∧ sm A A' sto ∧ RI s' A' (up T (s 1).toNat res))))) := by
            intro l3
            induction l3 with
            | zero =>
              intro k h3 hk v3 r3
              have k11 : k = 11 := by omega
              subst k11
              refine k525_100 (fun _ => k525_156 ?_) (fun w => absurd w (by omega))
              have st := inM_step w2 (i := i) (j := j) (by omega) (by omega) kk.1
              rw [up_up, up_at] at st
              exact ih2 (j + 1) _ h3 _ (by omega) v3 r3 (inM_mono st (fun x y _ _ w => by
                by_cases q5 : x = i ∧ y = j
                · exact .inr q5
                · exact .inl ⟨w.1, by omega⟩))
            | succ l3 ih3 =>
              intro k h3 hk v3 r3
              have gt : gi (mk 176 (up (keptM A m r c) 1296 (erk E (eb m i j) (cf (P (c * i + j))) k) 1297)) (11 * ((c : Int) * i + j) + k) = cf (P (c * i + j)) k := by
                rw [e1' 1297 (by decide) (by decide) (by decide) (by decide), cci, show 11 * (((c * i : Nat) : Int) + j) + k = ((11 * (c * i + j) + k : Nat) : Int) by omega, gi_mkn (by omega)]
                exact kk.2 k (by omega)
              have ej : 176 * s 1 + 11 * (4 * (i : Int) + j) + k = ((eb m i j + k : Nat) : Int) := by
                show _ = ((176 * m + 11 * (4 * i + j) + k : Nat) : Int)
                omega
              have el : eb m i j + k < 26400 := by show 176 * m + 11 * (4 * i + j) + k < 26400; omega
              refine k525_100 (fun w => absurd w (by omega)) (fun _ => ?_)
              refine k525_107 (z7 := s 1) v3.1 (Ra_takes v3) (Ra_entries v3) ?_ (c14 := by rw [mk_len, cci]; omega) (c15 := by rw [cci]; omega) (c16 := by rw [cci]; unfold In3; omega) (c20 := by rw [mk_len, ej]; omega) (c21 := by rw [ej]; omega) (c22 := by rw [ej]; unfold In3; omega)
              rw [gt, mk_set, ej, up_at, erk_s (k := k) (by omega) rfl]
              have v4 := Rp_entries v3 (erk E (eb m i j) (cf (P (c * i + j))) (k + 1))
              rw [up_up] at v4
              exact ih3 (k + 1) _ (by omega) v4 (FR_trans r3 (FR_put v3 (c := 1296) (by decide) (by decide) _))
          exact num 11 0 h2 rfl (by rw [erk_0]; exact v2) r2
      exact inner c 0 E h' _ (by omega) v rr (inM_mono w (fun x y _ _ w => ⟨by omega, w.1⟩))
  have eE : up (keptM A m r c) 1296 (A 1296) = keptM A m r c := up_self _ _ (by
    unfold keptM
    rw [up_ne _ _ (by decide), up_ne _ _ (by decide), up_ne _ _ (by decide)])
  exact outer r 0 (A 1296) _ _ _ (by omega) (by rw [eE]; exact w3) f3 (by rw [up_self A 1296 rfl]; exact ⟨sm_refl, fun _ _ => rfl, fun _ => .inl rfl, fun x y _ _ w => absurd w.1 (Nat.not_lt_zero x)⟩)
end
