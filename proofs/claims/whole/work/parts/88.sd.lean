/-! the reference: matrices' entries -/
/-- where entry i, j of matrix m begins -/
abbrev eb (m i j : Nat) : Nat := 176 * m + 11 * (4 * i + j)
def me (A : Nat → Nat → Int) (m i j : Nat) : Nat → Int := fun k => if k ≤ 10 then A 1296 (eb m i j + k) else 0
def erow (g : Nat → Int) (b : Nat) (n : Nat → Int) : Nat → Int := fun t => if b ≤ t ∧ t < b + 11 then n (t - b) else g t
section
variable {d : Nat} {h : s_H} {s : Nat → Int} {A : Nat → Nat → Int}
theorem V_empty (hv : RV h s A) {c : Nat} (hc : P9 c = true) : wm sw_P (d + 1) 438 [.index c] h (RQ h s (up A c (cf (zp_C 0)))) := by
  have e0 : (fun _ => (0 : Int)) = cf (zp_C 0) := by
    funext i
    unfold cf
    rw [zp_C00]; rfl
  rw [← e0]
  exact wm_mono (RQ_i (RV_w hv hc _) (FR_w hv hc _)) (t_empty (by have := P9_i hc; omega) (RV_l hv hc))
theorem V_loadEntry (hv : RV h s A) {p : Nat} (hp : P9 p = true) {m i j : Nat} (hm : m < 150) (hi2 : i < 4) (hj : j < 4) (hb : ∀ t, t < 26400 → In3 (A 1296 t)) : wm sw_P (d + 2) 508 [.index 1290, .index p, vi (m : Int), vi (i : Int), vi (j : Int)] h (RQ h s (up A p (me A m i j))) := by
  refine wm_in (cd := sw_c508) (nL := 6) (hd := sw_h508) rfl rfl ?_
  have p0 := P9_i hp
  have p6 : (1296 : Nat) ≠ p := P9_ne hp rfl
  refine k508_0 (wm_mono (wq_Q (fun h1 v1 r1 => ?_)) (V_empty hv hp))
  refine k508_4 ?_
  have loop : ∀ (l k : Nat) (B : Nat → Nat → Int) (h' : s_H), k + l = 11 → RV h' s B → FR h h' → (∀ x, x ≠ p → B x = A x) → (∀ x, x < 176 → B p x = if x < k then me A m i j x else 0) → wr sw_P (d + 1) sw_c508 sw_h508 (7, [.index 1290, .index p, vi (m : Int), vi (i : Int), vi (j : Int), vi (k : Int)], [], h', 0, 0) (RQ h s (up A p (me A m i j))) := by
    intro l
    induction l with
    | zero =>
      intro k B h' hk v r o g
      refine k508_7 (fun _ => k508_48 ?_) (fun z => absurd z (by omega))
      have v3 := RV_c v hp (g := me A m i j) (fun x hx => by
        rw [g x hx]
        by_cases h6 : x < k
        · rw [if_pos h6]
        · rw [if_neg h6]
          exact (if_neg (by omega)).symm)
      have e : up B p (me A m i j) = up A p (me A m i j) := by
        funext x
        by_cases hx : x = p
        · rw [hx, up_at, up_at]
        · rw [up_ne _ _ hx, up_ne _ _ hx, o x hx]
      rw [e] at v3
      exact ⟨h', s, _, v3, r, ⟨rfl, rfl⟩, rfl⟩
    | succ l ih =>
      intro k B h' hk v r o g
      refine k508_7 (fun z => absurd z (by omega)) (fun _ => ?_)
      have en : 176 * (m : Int) + 11 * (4 * (i : Int) + (j : Int)) + (k : Int) = ((eb m i j + k : Nat) : Int) := by show _ = ((176 * m + 11 * (4 * i + j) + k : Nat) : Int); omega
      have el : eb m i j + k < 26400 := by show 176 * m + 11 * (4 * i + j) + k < 26400; omega
      have eg : gi (mk 26400 (B 1296)) (176 * (m : Int) + 11 * (4 * (i : Int) + (j : Int)) + (k : Int)) = me A m i j k := by
        rw [en, gi_mkn el, o 1296 p6]
        exact (if_pos (by omega)).symm
      have e3 : In3 (me A m i j k) := by
        have : me A m i j k = A 1296 (eb m i j + k) := if_pos (by omega)
        rw [this]; exact hb _ el
      refine k508_14 v.1 (Ra_entries v) (RV_l v hp) ?_ (c11 := by rw [mk_len]; omega) (c12 := by omega) (c13 := by unfold In3; omega) (c14 := by rw [eg]; exact e3) (c18 := by rw [mk_len]; omega)
      rw [mk_set, eg]
      refine ih (k + 1) _ _ (by omega) (RV_w v hp _) (FR_trans r (FR_w v hp _)) (fun x hx => by rw [up_ne _ _ hx, o x hx]) (fun x hx => ?_)
      rw [up_at]
      show (if x = (k : Int).toNat then me A m i j k else B p x) = _
      by_cases h5 : x = k
      · rw [if_pos (by omega), if_pos (by omega), h5]
      · rw [if_neg (by omega), g x hx]
        by_cases h6 : x < k
        · rw [if_pos h6, if_pos (by omega)]
        · rw [if_neg h6, if_neg (by omega)]
  exact loop 11 0 _ _ rfl v1 r1 (fun x hx => up_ne _ _ hx) (fun x hx => by
    rw [up_at, if_neg (by omega)]
    unfold cf
    rw [zp_C00]; rfl)
theorem V_keepEntry (hv : RV h s A) {p : Nat} (hp : P9 p = true) {m i j : Nat} (hm : m < 150) (es : s 1 = m) (hi2 : i < 4) (hj : j < 4) {n : Nat → Int} (hn : A p = n) : wm sw_P (d + 1) 496 [.index 1290, .index p, vi (i : Int), vi (j : Int)] h (RQ h s (up A 1296 (erow (A 1296) (eb m i j) n))) := by
  refine wm_in (cd := sw_c496) (nL := 5) (hd := sw_h496) rfl rfl ?_
  have p0 := P9_i hp
  have p6 : p ≠ (1296 : Nat) := Ne.symm (P9_ne hp rfl)
  refine k496_0 ?_
  have loop : ∀ (l k : Nat) (B : Nat → Nat → Int) (h' : s_H), k + l = 11 → RV h' s B → FR h h' → (∀ x, x ≠ 1296 → B x = A x) → (∀ x, x < 26400 → B 1296 x = if eb m i j ≤ x ∧ x < eb m i j + k then n (x - eb m i j) else A 1296 x) → wr sw_P d sw_c496 sw_h496 (3, [.index 1290, .index p, vi (i : Int), vi (j : Int), vi (k : Int)], [], h', 0, 0) (RQ h s (up A 1296 (erow (A 1296) (eb m i j) n))) := by
    intro l
    induction l with
    | zero =>
      intro k B h' hk v r o g
      have k11 : k = 11 := by omega
      subst k11
      refine k496_3 (fun _ => k496_46 ?_) (fun z => absurd z (by omega))
      have v3 := RV_cg v (c := 1296) (g := erow (A 1296) (eb m i j) n) g
      have e : up B 1296 (erow (A 1296) (eb m i j) n) = up A 1296 (erow (A 1296) (eb m i j) n) := by
        funext x
        by_cases hx : x = 1296
        · rw [hx, up_at, up_at]
        · rw [up_ne _ _ hx, up_ne _ _ hx, o x hx]
      rw [e] at v3
      exact ⟨h', s, _, v3, r, ⟨rfl, rfl⟩, rfl⟩
    | succ l ih =>
      intro k B h' hk v r o g
      refine k496_3 (fun z => absurd z (by omega)) (fun _ => ?_)
      have en : 176 * s 1 + 11 * (4 * (i : Int) + (j : Int)) + (k : Int) = ((eb m i j + k : Nat) : Int) := by show _ = ((176 * m + 11 * (4 * i + j) + k : Nat) : Int); omega
      have el : eb m i j + k < 26400 := by show 176 * m + 11 * (4 * i + j) + k < 26400; omega
      have eg : gi (mk 176 (B p)) (k : Int) = n k := by rw [gi_mkn (by omega), o p p6, hn]
      refine k496_10 (z7 := s 1) v.1 (RV_l v hp) (Ra_entries v) ?_ (c13 := by rw [mk_len]; omega) (c19 := by rw [mk_len]; omega) (c20 := by omega) (c21 := by unfold In3; omega)
      rw [mk_set, eg]
      refine ih (k + 1) _ _ (by omega) (Rp_entries v _) (FR_trans r (FR_put v (c := 1296) (by decide) (by decide) _)) (fun x hx => by rw [up_ne _ _ hx, o x hx]) (fun x hx => ?_)
      rw [up_at, en]
      show (if x = ((eb m i j + k : Nat) : Int).toNat then n k else B 1296 x) = _
      by_cases h5 : x = eb m i j + k
      · rw [if_pos (by omega), if_pos (by omega), show x - eb m i j = k by omega]
      · rw [if_neg (by omega), g x hx]
        by_cases h6 : eb m i j ≤ x ∧ x < eb m i j + k
        · rw [if_pos h6, if_pos (by omega)]
        · rw [if_neg h6, if_neg (by omega)]
  exact loop 11 0 A h rfl hv (FR_refl h) (fun _ _ => rfl) (fun x _ => (if_neg (by omega)).symm)
/-- a matrix more: its kind and sizes -/
def keptM (A : Nat → Nat → Int) (m : Nat) (r c : Int) : Nat → Nat → Int := up (up (up A 1291 (fun i => if i = m then 2 else A 1291 i)) 1294 (fun i => if i = m then r else A 1294 i)) 1295 (fun i => if i = m then c else A 1295 i)
theorem RV_set (hv : RV h s A) {c : Nat} (h1 : 1291 ≤ c) (h2 : c ≤ 1374) {n : Nat} (hl : rl c = n) (ht : rt c = 0) (k : Nat) (z : Int) : RV (hp h c (0, 0, ((mk n (A c)).set k z).map vi)) s (up A c (fun i => if i = k then z else A c i)) := by
  have := RV_put hv h1 h2 (fun i => if i = k then z else A c i)
  unfold rc vf at this
  rw [ht, hl, if_neg (by decide), ← mk_set] at this
  exact this
theorem V_keepMatrix (hv : RV h s A) (hm : 0 ≤ s 1 ∧ s 1 < 150) {r c : Int} : wm sw_P (d + 1) 498 [.index 1290, vi r, vi c] h (RA h (fun v s' A' => v = vi (s 1) ∧ s' = up (up s 0 0) 1 (s 1 + 1) ∧ A' = keptM A (s 1).toNat r c)) := by
  refine wm_in (cd := sw_c498) (nL := 3) (hd := sw_h498) rfl rfl ?_
  have v0 := RV_fld hv (up s 0 0) (rF_0 s 0)
  have w1 := RV_set v0 (c := 1291) (by decide) (by decide) (n := 150) rfl rfl (s 1).toNat 2
  have w2 := RV_set w1 (c := 1294) (by decide) (by decide) (n := 150) rfl rfl (s 1).toNat r
  have w3 := RV_set w2 (c := 1295) (by decide) (by decide) (n := 150) rfl rfl (s 1).toNat c
  have w4 := RV_fld w3 (up (up s 0 0) 1 (s 1 + 1)) (rF_1 (up s 0 0) (s 1 + 1))
  refine k498_0 (z11 := s 1) (z24 := s 1) (z37 := s 1) (z48 := s 1) (z53 := s 1 + 1) hv.1 (hp_at hv.1) (Ra_kind v0) w1.1 (Ra_rows w1) w2.1 (Ra_columns w2) w3.1 (hp_at w3.1) ?_ (c16 := by rw [mk_len]; omega) (c17 := hm.1) (c18 := by unfold In3; omega) (c29 := by rw [mk_len]; omega) (c30 := hm.1) (c31 := by unfold In3; omega) (c42 := by rw [mk_len]; omega) (c43 := hm.1) (c44 := by unfold In3; omega)
  exact ⟨_, _, _, _, w4, FR_trans (FR_fld hv _) (FR_trans (FR_put v0 (c := 1291) (by decide) (by decide) _) (FR_trans (FR_put w1 (c := 1294) (by decide) (by decide) _) (FR_trans (FR_put w2 (c := 1295) (by decide) (by decide) _) (FR_fld w3 _)))), ⟨by rw [show s 1 + 1 - 1 = s 1 by omega], rfl, rfl⟩, rfl⟩
end
