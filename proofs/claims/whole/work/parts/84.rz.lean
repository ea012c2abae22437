/-! the reference: what is there, loading, keeping -/
theorem mk_inj {n : Nat} {g g' : Nat → Int} (h : ∀ i, i < n → g i = g' i) (t c : Nat) (hc : rl c = n) : rc c g = rc c g' := by
  unfold rc
  rw [hc, mk_congr h]
theorem RV_cg {h : s_H} {s : Nat → Int} {A : Nat → Nat → Int} (hv : RV h s A) {c : Nat} {g : Nat → Int} (e : ∀ i, i < rl c → A c i = g i) : RV h s (up A c g) := ⟨hv.1, fun j h1 h2 => by
  by_cases hj : j = c
  · subst hj
    rw [up_at, hv.2 j h1 h2, mk_inj e 0 j rfl]
  · rw [up_ne _ _ hj]; exact hv.2 j h1 h2⟩
theorem P9_ne {t j : Nat} (hc : P9 t = true) (h : P9 j = false) : j ≠ t := fun q => by rw [q, hc] at h; cases h
/-- row f of a table of rows of 41, as a polynomial's row -/
def fp (A : Nat → Nat → Int) (c f : Nat) : Nat → Int := fun k => if k ≤ 40 then A c (41 * f + k) else 0
/-- row m of a table of rows of 41 written -/
def wrow (g : Nat → Int) (m : Nat) (n : Nat → Int) : Nat → Int := fun i => if 41 * m ≤ i ∧ i < 41 * m + 41 then n (i - 41 * m) else g i
section
variable {d : Nat} {h : s_H} {s : Nat → Int} {A : Nat → Nat → Int}
theorem V_max {x y : Int} (hx : In3 x) (hy : In3 y) : wm sw_P (d + 1) 526 [vi x, vi y] h (qr (vi (if x > y then x else y)) h) := by
  refine wm_in (cd := sw_c526) (nL := 2) (hd := sw_h526) rfl rfl ?_
  refine k526_0 (fun q => k526_9 (k526_10 ?_)) (fun q => k526_5 (k526_10 ?_))
  · rw [if_neg (by omega)]
  · rw [if_pos (by omega)]
theorem V_raise (hv : RV h s A) {k : Int} : wm sw_P (d + 1) 570 [.index 1290, vi k] h (RA h (fun v s' A' => v = vi 0 ∧ s' = up s 0 k ∧ A' = A)) := by
  refine wm_in (cd := sw_c570) (nL := 2) (hd := sw_h570) rfl rfl ?_
  exact k570_0 hv.1 ⟨_, _, _, A, RV_fld hv (up s 0 k) (rF_0 s k), FR_fld hv _, ⟨rfl, rfl, rfl⟩, rfl⟩
theorem V_isGreat (hv : RV h s A) {N D : zp_R} (hN : A 1302 = cf N) (hD : A 1303 = cf D) : wm sw_P (d + 2) 479 [.index 1290] h (qr (vi (if 40 < hi N ∨ 40 < hi D then 1 else 0)) h) := by
  refine wm_in (cd := sw_c479) (nL := 1) (hd := sw_h479) rfl rfl ?_
  have bN := hi_b N
  have bD := hi_b D
  refine k479_0 hv.1 (wm_mono (wq_r (k479_7 (fun q => ?_) (fun q => ?_))) (V_high hv (c := 1302) rfl hN))
  · refine k479_24 (k479_29 ?_)
    rw [if_pos (.inl q)]
  · refine k479_12 hv.1 (wm_mono (wq_r (k479_19 (fun q2 => ?_) (fun q2 => ?_))) (V_high hv (c := 1303) rfl hD))
    · refine k479_28 (k479_29 ?_)
      rw [if_neg (by omega)]
    · refine k479_24 (k479_29 ?_)
      rw [if_pos (by omega)]
theorem V_isThere (hv : RV h s A) (hm : 0 ≤ s 1 ∧ s 1 ≤ 150) {x : Int} (hx : In3 x) : wm sw_P (d + 2) 492 [.index 1290, vi x] h (qr (vi (if 0 ≤ x ∧ x < s 1 then 1 else 0)) h) := by
  refine wm_in (cd := sw_c492) (nL := 2) (hd := sw_h492) rfl rfl ?_
  refine k492_0 (z6 := s 1) hv.1 (wm_mono (wq_r (k492_13 ?_ (c1 := by split <;> simp))) (t_in (by unfold In6; unfold In3 at hx; omega) (by decide) (by unfold In6; omega))) (c8 := by unfold In3; omega)
  by_cases q : 0 ≤ x ∧ x < s 1
  · rw [if_pos q, if_pos (by omega)]
  · rw [if_neg q, if_neg (by omega)]
theorem V_is (hv : RV h s A) {x k : Int} (hx : 0 ≤ x ∧ x < 150) (hA : In3 (A 1291 x.toNat)) (hk : In3 k) : wm sw_P (d + 1) 469 [.index 1290, vi x, vi k] h (qr (vi (if A 1291 x.toNat = k then 1 else 0)) h) := by
  refine wm_in (cd := sw_c469) (nL := 3) (hd := sw_h469) rfl rfl ?_
  have e : gi (mk 150 (A 1291)) x = A 1291 x.toNat := gi_mk hx.1 hx.2
  refine k469_0 hv.1 (Ra_kind hv) (fun q => k469_14 (k469_15 ?_)) (fun q => k469_10 (k469_15 ?_)) (c10 := by rw [mk_len]; omega) (c12 := by unfold In3; omega) (c13 := by rw [e]; exact hA)
  · rw [e] at q
    rw [if_neg q]
  · rw [e] at q
    rw [if_pos (by omega)]
theorem V_load (hv : RV h s A) {t b : Nat} (ht : P9 t = true) (hb : P9 b = true) (htb : t ≠ b) {x : Int} (hx : 0 ≤ x ∧ x < 150) (h1 : ∀ i, i < 6150 → In3 (A 1292 i)) (h2 : ∀ i, i < 6150 → In3 (A 1293 i)) : wm sw_P (d + 1) 505 [.index 1290, .index t, .index b, vi x] h (RQ h s (up (up A t (fp A 1292 x.toNat)) b (fp A 1293 x.toNat))) := by
  refine wm_in (cd := sw_c505) (nL := 5) (hd := sw_h505) rfl rfl ?_
  have t0 := P9_i ht
  have b0 := P9_i hb
  refine k505_0 ?_
  have t2 : (1292 : Nat) ≠ t := P9_ne ht rfl
  have t3 : (1293 : Nat) ≠ t := P9_ne ht rfl
  have b2 : (1292 : Nat) ≠ b := P9_ne hb rfl
  have b3 : (1293 : Nat) ≠ b := P9_ne hb rfl
  have loop : ∀ (l k : Nat) (B : Nat → Nat → Int) (h' : s_H), k + l = 176 → RV h' s B → FR h h' → (∀ j, j ≠ t → j ≠ b → B j = A j) → (∀ i, i < 176 → B t i = if i < k then fp A 1292 x.toNat i else A t i) → (∀ i, i < 176 → B b i = if i < k then fp A 1293 x.toNat i else A b i) → wr sw_P d sw_c505 sw_h505 (3, [.index 1290, .index t, .index b, vi x, vi (k : Int)], [], h', 0, 0) (RQ h s (up (up A t (fp A 1292 x.toNat)) b (fp A 1293 x.toNat))) := by
    intro l
    induction l with
    | zero =>
      intro k B h' hk v r m g1 g2
      refine k505_3 (fun q => k505_73 ?_) (fun q => absurd q (by omega))
      have v3 := RV_c (RV_c v ht (g := fp A 1292 x.toNat) (fun i hi2 => by rw [g1 i hi2, if_pos (by omega)])) hb (g := fp A 1293 x.toNat) (fun i hi2 => by rw [up_ne _ _ (Ne.symm htb), g2 i hi2, if_pos (by omega)])
      have e : up (up B t (fp A 1292 x.toNat)) b (fp A 1293 x.toNat) = up (up A t (fp A 1292 x.toNat)) b (fp A 1293 x.toNat) := by
        funext j
        by_cases hj : j = b
        · rw [hj, up_at, up_at]
        · rw [up_ne _ _ hj, up_ne _ _ hj]
          by_cases hj2 : j = t
          · rw [hj2, up_at, up_at]
          · rw [up_ne _ _ hj2, up_ne _ _ hj2, m j hj2 hj]
      rw [e] at v3
      exact ⟨h', s, _, v3, r, ⟨rfl, rfl⟩, rfl⟩
    | succ l ih =>
      intro k B h' hk v r m g1 g2
      refine k505_3 (fun q => absurd q (by omega)) (fun _ => ?_)
      -- the two writes
      have nxt : ∀ z1 z2 : Int, z1 = fp A 1292 x.toNat k → z2 = fp A 1293 x.toNat k → ∀ h2, h2 = hp (hp h' t (al 176 (fun i => if i = (k : Int).toNat then z1 else B t i))) b (al 176 (fun i => if i = (k : Int).toNat then z2 else B b i)) → wr sw_P d sw_c505 sw_h505 (3, [.index 1290, .index t, .index b, vi x, vi ((k : Int) + 1)], [], h2, 0, 0) (RQ h s (up (up A t (fp A 1292 x.toNat)) b (fp A 1293 x.toNat))) := by
        intro z1 z2 ez1 ez2 h2 eh
        subst eh
        have w1 := RV_w v ht (fun i => if i = (k : Int).toNat then z1 else B t i)
        have w2 := RV_w w1 hb (fun i => if i = (k : Int).toNat then z2 else B b i)
        refine ih (k + 1) _ _ (by omega) w2 (FR_trans r (FR_trans (FR_w v ht _) (FR_w w1 hb _))) (fun j hj1 hj2 => by rw [up_ne _ _ hj2, up_ne _ _ hj1, m j hj1 hj2]) (fun i hi2 => ?_) (fun i hi2 => ?_)
        · rw [up_ne _ _ htb, up_at]
          show (if i = (k : Int).toNat then z1 else B t i) = _
          by_cases h5 : i = k
          · rw [if_pos (by omega), if_pos (by omega), h5, ez1]
          · rw [if_neg (by omega), g1 i hi2]
            by_cases h6 : i < k
            · rw [if_pos h6, if_pos (by omega)]
            · rw [if_neg h6, if_neg (by omega)]
        · rw [up_at]
          show (if i = (k : Int).toNat then z2 else B b i) = _
          by_cases h5 : i = k
          · rw [if_pos (by omega), if_pos (by omega), h5, ez2]
          · rw [if_neg (by omega), g2 i hi2]
            by_cases h6 : i < k
            · rw [if_pos h6, if_pos (by omega)]
            · rw [if_neg h6, if_neg (by omega)]
      have gb : ∀ C, s_get (hp h' t C) b = some (al 176 (B b)) := fun C => (hp_ne (RV_l v ht) (Ne.symm htb)).trans (RV_l v hb)
      have go : ∀ C, s_get (hp h' t C) 1290 = some (1, 11, rF s) := fun C => (hp_ne (RV_l v ht) (by omega)).trans v.1
      have g3 : ∀ C, s_get (hp h' t C) 1293 = some (ai 6150 (A 1293)) := fun C => (hp_ne (RV_l v ht) t3).trans (by rw [← m 1293 t3 b3]; exact Ra_bottoms v)
      have g0 : s_get h' 1292 = some (ai 6150 (A 1292)) := by rw [← m 1292 t2 b2]; exact Ra_tops v
      refine k505_11 (fun q => ?_) (fun q => ?_)
      · refine k505_37 (k505_38 (RV_l v ht) (fun _ => ?_) (fun q2 => absurd q q2) (c4 := by rw [mk_len]; omega))
        refine k505_65 (k505_66 (gb _) ?_ (c4 := by rw [mk_len]; omega))
        rw [mk_set, mk_set]
        exact nxt 0 0 (if_neg (by omega)).symm (if_neg (by omega)).symm _ rfl
      · have e4 : gi (mk 6150 (A 1292)) (41 * x + k) = fp A 1292 x.toNat k := by
          rw [gi_mk (by omega) (by omega)]
          unfold fp
          rw [if_pos (by omega), show (41 * x + (k : Int)).toNat = 41 * x.toNat + k by omega]
        have e5 : gi (mk 6150 (A 1293)) (41 * x + k) = fp A 1293 x.toNat k := by
          rw [gi_mk (by omega) (by omega)]
          unfold fp
          rw [if_pos (by omega), show (41 * x + (k : Int)).toNat = 41 * x.toNat + k by omega]
        have e6 : In3 (gi (mk 6150 (A 1292)) (41 * x + k)) := by rw [gi_mk (by omega) (by omega)]; exact h1 _ (by omega)
        have e7 : In3 (gi (mk 6150 (A 1293)) (41 * x + k)) := by rw [gi_mk (by omega) (by omega)]; exact h2 _ (by omega)
        refine k505_21 v.1 g0 (k505_38 (RV_l v ht) (fun q2 => absurd q2 q) (fun _ => ?_) (c4 := by rw [mk_len]; omega)) (c10 := by rw [mk_len]; omega) (c12 := by unfold In3; omega) (c13 := e6)
        refine k505_49 (go _) (g3 _) (k505_66 (gb _) ?_ (c4 := by rw [mk_len]; omega)) (c10 := by rw [mk_len]; omega) (c12 := by unfold In3; omega) (c13 := e7)
        rw [mk_set, mk_set]
        exact nxt _ _ e4 e5 _ rfl
  exact loop 176 0 A h rfl hv (FR_refl h) (fun _ _ _ => rfl) (fun i _ => (if_neg (by omega)).symm) (fun i _ => (if_neg (by omega)).symm)
end
