/-! THE REFERENCE'S ROWS AS POLYNOMIALS -/
def cf (f : zp_R) (i : Nat) : Int := ((f.1 i).val : Int)
theorem cf_b (f : zp_R) (i : Nat) : 0 ≤ cf f i ∧ cf f i < 32003 := ⟨Int.natCast_nonneg _, by have := (f.1 i).isLt; unfold cf; omega⟩
def nF (z : Int) : zp_F := Fin.ofNat 32003 (z % 32003).toNat
theorem nF_v (z : Int) : ((nF z).val : Int) = z % 32003 := by
  have := md_lt z
  show (((z % 32003).toNat % 32003 : Nat) : Int) = z % 32003
  omega
theorem F_ext {a b : zp_F} (h : (a.val : Int) = b.val) : a = b := Fin.ext (by omega)
theorem nF_val (a : zp_F) : nF (a.val : Int) = a := F_ext (by rw [nF_v]; have := a.isLt; omega)
theorem nF_cf (f : zp_R) (i : Nat) : nF (cf f i) = f.1 i := nF_val _
theorem F_add (a b : zp_F) : ((a + b).val : Int) = ((a.val : Int) + b.val) % 32003 := by
  rw [Fin.val_add]; omega
theorem F_mul (a b : zp_F) : ((a * b).val : Int) = ((a.val : Int) * b.val) % 32003 := by
  rw [Fin.val_mul]
  rw [Int.natCast_emod, Int.natCast_mul]
  rfl
theorem nF_md (z : Int) : nF (z % 32003) = nF z := F_ext (by rw [nF_v, nF_v]; omega)
theorem nF_add (x y : Int) : nF (x + y) = nF x + nF y := F_ext (by rw [F_add, nF_v, nF_v, nF_v]; omega)
theorem nF_mul (x y : Int) : nF (x * y) = nF x * nF y := F_ext (by rw [F_mul, nF_v, nF_v, nF_v, ← Int.mul_emod])
theorem nF_0 : nF 0 = 0 := by decide +kernel
theorem nF_1 : nF 1 = 1 := by decide +kernel
theorem nF_neg (x : Int) : nF (-x) = -nF x := by
  have h : nF (-x) + nF x = 0 := by rw [← nF_add, show -x + x = 0 by omega, nF_0]
  generalize nF (-x) = a at *
  generalize nF x = b at *
  grind
theorem nF_sub (x y : Int) : nF (x - y) = nF x - nF y := by
  rw [show x - y = x + -y by omega, nF_add, nF_neg]
  generalize nF x = a
  generalize nF y = b
  grind
/-- a number as it lies in a row -/
theorem nF_is {z : Int} (h : 0 ≤ z ∧ z < 32003) : ((nF z).val : Int) = z := by rw [nF_v]; omega
abbrev pl (f : zp_R) : s_C := al 176 (cf f)
theorem pl_congr {f g : zp_R} (h : ∀ i, i < 176 → f.1 i = g.1 i) : pl f = pl g := al_congr (fun i hi => by unfold cf; rw [h i hi])
/-- a loop over a row, upward -/
theorem row_up {n : Nat} {g F : Nat → Int} {hd : Nat → s_C → Prop} (step : ∀ (k : Nat) (G : Nat → Int), k < n → (∀ i, i < k → G i = F i) → (∀ i, k ≤ i → i < n → G i = g i) → hd (k + 1) (al n (fun i => if i = k then F k else G i)) → hd k (al n G)) (fin : hd n (al n F)) : hd 0 (al n g) := by
  have loop : ∀ m k : Nat, k + m = n → ∀ G : Nat → Int, (∀ i, i < k → G i = F i) → (∀ i, k ≤ i → i < n → G i = g i) → hd k (al n G) := by
    intro m
    induction m with
    | zero =>
      intro k hk G h1 h2
      have : k = n := by omega
      subst this
      rw [al_congr h1]; exact fin
    | succ m ih =>
      intro k hk G h1 h2
      refine step k G (by omega) h1 h2 (ih (k + 1) (by omega) _ (fun i hi => ?_) (fun i h3 h4 => ?_))
      · show (if i = k then F k else G i) = F i
        by_cases q : i = k
        · rw [if_pos q, q]
        · rw [if_neg q]; exact h1 i (by omega)
      · show (if i = k then F k else G i) = g i
        rw [if_neg (by omega)]; exact h2 i (by omega) h4
  exact loop n 0 (Nat.zero_add n) g (fun i hi => absurd hi (by omega)) (fun i _ _ => rfl)
theorem t_copy {d : Nat} {h : s_H} {c e : Nat} {g F : Nat → Int} (hc : 0 < c) (hce : e ≠ c) (hg : s_get h c = some (al 176 g)) (he : s_get h e = some (al 176 F)) : wm sw_P (d + 1) 425 [.index c, .index e] h (qv (hp h c (al 176 F))) := by
  refine wm_in (cd := sw_c425) (nL := 3) (hd := sw_h425) rfl rfl ?_
  refine k425_0 ?_
  have loop := row_up (n := 176) (g := g) (F := F) (hd := fun k C => wr sw_P d sw_c425 sw_h425 (2, [.index c, .index e, vi k], [], hp h c C, 0, 0) (qv (hp h c (al 176 F)))) (fun k G hk h1 h2 hn => by
    refine k425_2 (fun q => absurd q (by omega)) (fun q => ?_)
    refine k425_9 (by rw [hp_ne hg hce]; exact he) (hp_at hg) ?_
    rw [hp_hp hg, mk_set, gi_mk (by omega) (by omega)]
    exact hn) (k425_2 (fun q => k425_21 rfl) (fun q => absurd q (by omega)))
  rw [hp_same hg] at loop
  exact loop
theorem t_become {d : Nat} {h : s_H} {c : Nat} {g : Nat → Int} {z : Int} (hc : 0 < c) (hg : s_get h c = some (al 176 g)) (hz : In6 z) : wm sw_P (d + 2) 405 [.index c, vl z] h (qv (hp h c (pl (zp_C (nF z))))) := by
  refine wm_in (cd := sw_c405) (nL := 4) (hd := sw_h405) rfl rfl ?_
  refine k405_0 ?_
  have e1 : ∀ i, cf (zp_C (nF z)) i = if i = 0 then z % 32003 else 0 := fun i => by
    show (((if i = 0 then nF z else 0 : zp_F)).val : Int) = _
    split
    · exact nF_v z
    · rfl
  have loop : ∀ m k : Nat, k + m = 176 → 1 ≤ k → ∀ (G : Nat → Int) (t : Term), (∀ i, i < k → 1 ≤ i → G i = 0) → wr sw_P (d + 1) sw_c405 sw_h405 (2, [.index c, vl z, t, vi k], [], hp h c (al 176 G), 0, 0) (qv (hp h c (pl (zp_C (nF z))))) := by
    intro m
    induction m with
    | zero =>
      intro k hk h1k G t hG
      refine k405_2 (fun q => ?_) (fun q => absurd q (by omega))
      refine k405_19 (wm_mono (wq_r ?_) (t_modulo hz))
      refine k405_25 (hp_at hg) ?_ (c4 := by rw [mk_len]; decide)
      have e2 : al 176 (fun i => if i = Int.toNat 0 then z % 32003 else G i) = pl (zp_C (nF z)) := al_congr (fun i hi => by
        rw [e1]
        show (if i = 0 then z % 32003 else G i) = _
        by_cases q : i = 0
        · rw [if_pos q, if_pos q]
        · rw [if_neg q, if_neg q]; exact hG i (by omega) (by omega))
      rw [hp_hp hg, mk_set]
      show (Sum.inl none, hp h c (al 176 (fun i => if i = Int.toNat 0 then z % 32003 else G i)), 0, 0) = _
      rw [e2]
    | succ m ih =>
      intro k hk h1k G t hG
      refine k405_2 (fun q => absurd q (by omega)) (fun q => ?_)
      refine k405_9 (hp_at hg) ?_
      rw [hp_hp hg, mk_set]
      exact ih (k + 1) (by omega) (by omega) _ _ (fun i hi h1 => by
        show (if i = (k : Int).toNat then 0 else G i) = 0
        by_cases q : i = k
        · rw [if_pos (by omega)]
        · rw [if_neg (by omega)]; exact hG i (by omega) h1)
  have := loop 175 1 rfl (Nat.le_refl _) g (s_uu .result) (fun i h1 h2 => absurd h1 (by omega))
  rw [hp_same hg] at this
  exact this
theorem in6_of {x : Int} (h1 : -4000000000000000000 ≤ x) (h2 : x ≤ 4000000000000000000) : In6 x := ⟨by omega, by omega⟩
theorem t_scale {d : Nat} {h : s_H} {c : Nat} {f : zp_R} {z : Int} (hc : 0 < c) (hg : s_get h c = some (pl f)) (hz : 0 ≤ z ∧ z < 32003) : wm sw_P (d + 1) 592 [.index c, vl z] h (qv (hp h c (pl (zp_mul (zp_C (nF z)) f)))) := by
  refine wm_in (cd := sw_c592) (nL := 4) (hd := sw_h592) rfl rfl ?_
  refine k592_0 ?_
  have e1 : ∀ i, cf (zp_mul (zp_C (nF z)) f) i = cf f i * z % 32003 := fun i => by
    show ((zp_c (fun j => if j = 0 then nF z else 0) f.1 i).val : Int) = _
    rw [zp_c_C, F_mul, nF_v, Int.emod_eq_of_lt hz.1 hz.2, Int.mul_comm]
    rfl
  have loop := row_up (n := 176) (g := cf f) (F := cf (zp_mul (zp_C (nF z)) f)) (hd := fun k C => ∀ t, wr sw_P d sw_c592 sw_h592 (2, [.index c, vl z, t, vi k], [], hp h c C, 0, 0) (qv (hp h c (pl (zp_mul (zp_C (nF z)) f))))) (fun k G hk h1 h2 hn t => by
    refine k592_2 (fun q => absurd q (by omega)) (fun q => ?_)
    have b := mm_le (cf_b f k) hz
    have e2 : gi (mk 176 G) k = cf f k := by rw [gi_mkn hk]; exact h2 k (Nat.le_refl _) hk
    refine k592_9 (hp_at hg) ?_ (c8 := by rw [e2]; exact in6_of (by omega) (by omega))
    rw [hp_hp hg, mk_set, e2, tmod_nn b.1, ← e1]
    exact hn _) (fun t => k592_2 (fun q => k592_27 rfl) (fun q => absurd q (by omega)))
  have := loop (s_uu .result)
  rw [hp_same hg] at this
  exact this
/-- p and so many times q -/
theorem t_more {d : Nat} {h : s_H} {c e : Nat} {f g : zp_R} {z : Int} (hc : 0 < c) (hce : e ≠ c) (hg : s_get h c = some (pl f)) (he : s_get h e = some (pl g)) (hz : In6 z) : wm sw_P (d + 2) 529 [.index c, .index e, vl z] h (qv (hp h c (pl (zp_add f (zp_mul (zp_C (nF z)) g))))) := by
  refine wm_in (cd := sw_c529) (nL := 7) (hd := sw_h529) rfl rfl ?_
  refine k529_0 (wm_mono (wq_r ?_) (t_modulo hz))
  refine k529_4 ?_
  have hm := md_lt z
  have e1 : ∀ i, cf (zp_add f (zp_mul (zp_C (nF z)) g)) i = (cf f i + z % 32003 * cf g i) % 32003 := fun i => by
    show ((f.1 i + zp_c (fun j => if j = 0 then nF z else 0) g.1 i).val : Int) = _
    rw [zp_c_C, F_add, F_mul, nF_v]
    show (cf f i + z % 32003 * cf g i % 32003) % 32003 = _
    omega
  have loop := row_up (n := 176) (g := cf f) (F := cf (zp_add f (zp_mul (zp_C (nF z)) g))) (hd := fun k C => ∀ t t', wr sw_P (d + 1) sw_c529 sw_h529 (9, [.index c, .index e, vl z, t, vl (z % 32003), t', vi k], [], hp h c C, 0, 0) (qv (hp h c (pl (zp_add f (zp_mul (zp_C (nF z)) g)))))) (fun k G hk h1 h2 hn t t' => by
    refine k529_9 (fun q => absurd q (by omega)) (fun q => ?_)
    have b := mm_le hm (cf_b g k)
    have b2 := cf_b f k
    have e2 : gi (mk 176 G) k = cf f k := by rw [gi_mkn hk]; exact h2 k (Nat.le_refl _) hk
    have e3 : gi (mk 176 (cf g)) k = cf g k := gi_mkn hk
    refine k529_17 (hp_at hg) (by rw [hp_ne hg hce]; exact he) ?_ (c13 := by rw [e2, e3]; exact in6_of (by omega) (by omega))
    rw [hp_hp hg, mk_set, e2, e3, tmod_nn (by omega), ← e1]
    exact hn _ _) (fun t t' => k529_9 (fun q => k529_43 rfl) (fun q => absurd q (by omega)))
  have := loop (s_uu .result) .result
  rw [hp_same hg] at this
  exact this
