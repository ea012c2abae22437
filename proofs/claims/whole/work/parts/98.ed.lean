/-! determinants by the first row of each set; the reference's loadMinor -/
def fst0 (r : Nat) : Nat := if r % 2 = 1 then 0 else if r / 2 % 2 = 1 then 1 else if r / 4 % 2 = 1 then 2 else 3
def sgc (c : Nat) : Nat → Int
  | 0 => 1
  | j + 1 => if bt c j = 0 then sgc c j else -sgc c j
noncomputable def lpp (row g : Nat → zp_R) (c : Nat) : Nat → zp_R
  | 0 => zp_C 0
  | j + 1 => if bt c j = 0 then lpp row g c j else zp_add (lpp row g c j) (zp_mul (zp_C (nF (sgc c j))) (zp_mul (row j) (g (c - 2 ^ j))))
noncomputable def mnf (M : Nat → Nat → zp_R) (k : Nat) : Nat → Nat → Nat → zp_R
  | 0 => fun _ _ => zp_C 1
  | n + 1 => fun r c => if r = 0 then zp_C 1 else lpp (M (fst0 r)) (mnf M k n (r - 2 ^ fst0 r)) c k
/-- the determinant of rows r and columns c, of k columns in all -/
noncomputable def mnq (M : Nat → Nat → zp_R) (k r c : Nat) : zp_R := mnf M k 4 r c
theorem sgc_b (c j : Nat) : sgc c j = 1 ∨ sgc c j = -1 := by
  induction j with
  | zero => exact .inl rfl
  | succ j ih =>
    show (if bt c j = 0 then sgc c j else -sgc c j) = 1 ∨ (if bt c j = 0 then sgc c j else -sgc c j) = -1
    by_cases q : bt c j = 0
    · rw [if_pos q]; exact ih
    · rw [if_neg q]; omega
theorem lpp_s (row g : Nat → zp_R) (c j : Nat) : lpp row g c (j + 1) = if bt c j = 0 then lpp row g c j else zp_add (lpp row g c j) (zp_mul (zp_C (nF (sgc c j))) (zp_mul (row j) (g (c - 2 ^ j)))) := rfl
theorem mnf_s (M : Nat → Nat → zp_R) (k n r c : Nat) : mnf M k (n + 1) r c = if r = 0 then zp_C 1 else lpp (M (fst0 r)) (mnf M k n (r - 2 ^ fst0 r)) c k := rfl
theorem bts_0 {r : Nat} (hr : r < 16) (h : bts r = 0) : r = 0 := lt16 (p := fun r => bts r = 0 → r = 0) (by decide +kernel) r hr h
theorem fst_b {r : Nat} (hr : r < 16) (h0 : r ≠ 0) : bts (r - 2 ^ fst0 r) + 1 = bts r ∧ 2 ^ fst0 r ≤ r ∧ fst0 r < 4 := by
  have := lt16 (p := fun r => r ≠ 0 → bts (r - 2 ^ fst0 r) + 1 = bts r ∧ 2 ^ fst0 r ≤ r ∧ fst0 r < 4) (by decide +kernel) r hr
  exact this h0
theorem fst_lt {r k : Nat} (hr : r < 2 ^ k) (hk : k ≤ 4) (h0 : r ≠ 0) : fst0 r < k := by
  have : ∀ k : Fin 5, ∀ r : Fin 16, r.val < 2 ^ k.val → r.val ≠ 0 → fst0 r.val < k.val := by decide +kernel
  have h16 : r < 16 := Nat.lt_of_lt_of_le hr (Nat.pow_le_pow_right (by decide) hk)
  exact this ⟨k, by omega⟩ ⟨r, h16⟩ hr h0
theorem mnf_up (M : Nat → Nat → zp_R) (k : Nat) (n : Nat) : ∀ r, r < 16 → bts r ≤ n → mnf M k n r = mnf M k (n + 1) r := by
  induction n with
  | zero =>
    intro r hr hb
    funext c
    have := bts_0 hr (by omega)
    rw [mnf_s, if_pos this]; rfl
  | succ n ih =>
    intro r hr hb
    funext c
    rw [mnf_s, mnf_s]
    by_cases q : r = 0
    · rw [if_pos q, if_pos q]
    · have f := fst_b hr q
      rw [if_neg q, if_neg q, ih _ (Nat.lt_of_le_of_lt (Nat.sub_le _ _) hr) (by omega)]
theorem mnq_0 (M : Nat → Nat → zp_R) (k c : Nat) : mnq M k 0 c = zp_C 1 := (mnf_s M k 3 0 c).trans (if_pos rfl)
theorem mnq_s (M : Nat → Nat → zp_R) (k : Nat) {r : Nat} (hr : r < 16) (h0 : r ≠ 0) (c : Nat) : mnq M k r c = lpp (M (fst0 r)) (mnq M k (r - 2 ^ fst0 r)) c k := by
  have f := fst_b hr h0
  have b : bts r ≤ 4 := lt16 (p := fun r => bts r ≤ 4) (by decide +kernel) r hr
  have e : mnf M k 3 (r - 2 ^ fst0 r) = mnq M k (r - 2 ^ fst0 r) := mnf_up M k 3 _ (Nat.lt_of_le_of_lt (Nat.sub_le _ _) hr) (by omega)
  show mnf M k 4 r c = _
  rw [mnf_s, if_neg h0, e]
theorem lpp_deg {row g : Nat → zp_R} {c n j : Nat} (hj : ∀ i, i < j → zp_deg (row i) 11) (hg : ∀ c, zp_deg (g c) (n + 1)) : zp_deg (lpp row g c j) (10 + n + 1) := by
  induction j with
  | zero => exact deg_le (zp_C_deg _) (by omega)
  | succ j ih =>
    rw [lpp_s]
    by_cases q : bt c j = 0
    · rw [if_pos q]; exact ih (fun i hi2 => hj i (by omega))
    · rw [if_neg q]
      exact deg_add (ih (fun i hi2 => hj i (by omega))) (deg_Cm _ (zp_deg_mul (n := 10) (m := n) (hj j (by omega)) (hg _)))
theorem mnf_deg {M : Nat → Nat → zp_R} {k R : Nat} (hR : R ≤ 4) (hM : ∀ i j, i < R → j < k → zp_deg (M i j) 11) (n : Nat) : ∀ r c, r < 2 ^ R → zp_deg (mnf M k n r c) (10 * n + 1) := by
  induction n with
  | zero => exact fun r c _ => zp_C_deg _
  | succ n ih =>
    intro r c hr
    rw [mnf_s]
    by_cases q : r = 0
    · rw [if_pos q]; exact deg_le (zp_C_deg _) (by omega)
    · rw [if_neg q]
      exact deg_le (lpp_deg (fun i hi2 => hM _ i (fst_lt hr hR q) hi2) (fun c => ih _ c (Nat.lt_of_le_of_lt (Nat.sub_le _ _) hr))) (by omega)
theorem mnq_deg {M : Nat → Nat → zp_R} {k R : Nat} (hR : R ≤ 4) (hM : ∀ i j, i < R → j < k → zp_deg (M i j) 11) {r c : Nat} (hr : r < 2 ^ R) : zp_deg (mnq M k r c) 41 := mnf_deg hR hM 4 r c hr
/-- what is kept of rows r and columns c -/
def mi (A : Nat → Nat → Int) (r c : Nat) : Nat → Int := fun k => if k ≤ 40 then A 1329 (41 * (16 * r + c) + k) else 0
section
variable {d : Nat} {h : s_H} {s : Nat → Int} {A : Nat → Nat → Int}
theorem V_loadMinor (hv : RV h s A) {p : Nat} (hp : P9 p = true) {r c : Nat} (hr : r < 16) (hc : c < 16) : wm sw_P (d + 2) 510 [.index 1290, .index p, vi (r : Int), vi (c : Int)] h (RQ h s (up A p (mi A r c))) := by
  refine wm_in (cd := sw_c510) (nL := 5) (hd := sw_h510) rfl rfl ?_
  have p0 := P9_i hp
  have p6 : (1329 : Nat) ≠ p := P9_ne hp rfl
  refine k510_0 (wm_mono (wq_Q (fun h1 v1 r1 => ?_)) (V_empty hv hp))
  refine k510_4 ?_
  have loop : ∀ (l k : Nat) (B : Nat → Nat → Int) (h' : s_H), k + l = 41 → RV h' s B → FR h h' → (∀ x, x ≠ p → B x = A x) → (∀ x, x < 176 → B p x = if x < k then mi A r c x else 0) → wr sw_P (d + 1) sw_c510 sw_h510 (7, [.index 1290, .index p, vi (r : Int), vi (c : Int), vi (k : Int)], [], h', 0, 0) (RQ h s (up A p (mi A r c))) := by
    intro l
    induction l with
    | zero =>
      intro k B h' hk v rr o g
      refine k510_7 (fun _ => k510_41 ?_) (fun z => absurd (by omega) z) (c1 := by unfold In3; omega)
      have v3 := RV_c v hp (g := mi A r c) (fun x hx => by
        rw [g x hx]
        by_cases h6 : x < k
        · rw [if_pos h6]
        · rw [if_neg h6]
          exact (if_neg (by omega)).symm)
      have e : up B p (mi A r c) = up A p (mi A r c) := by
        funext x
        by_cases hx : x = p
        · rw [hx, up_at, up_at]
        · rw [up_ne _ _ hx, up_ne _ _ hx, o x hx]
      rw [e] at v3
      exact ⟨h', s, _, v3, rr, ⟨rfl, rfl⟩, rfl⟩
    | succ l ih =>
      intro k B h' hk v rr o g
      refine k510_7 (fun z => absurd z (by omega)) (fun _ => ?_) (c1 := by unfold In3; omega)
      have g1 : gi (mk 10496 (B 1329)) (41 * (16 * (r : Int) + (c : Int)) + (k : Int)) = mi A r c k := by
        rw [show (41 * (16 * (r : Int) + (c : Int)) + (k : Int)) = ((41 * (16 * r + c) + k : Nat) : Int) by omega, gi_mkn (by omega), o 1329 p6]
        exact (if_pos (by omega)).symm
      refine k510_14 v.1 (Ra_minors v) (RV_l v hp) ?_ (c11 := by rw [mk_len]; omega) (c12 := by omega) (c13 := by unfold In3; omega) (c17 := by rw [mk_len]; omega) (c18 := by omega) (c19 := by unfold In3; omega)
      rw [g1, mk_set, Int.toNat_natCast]
      refine ih (k + 1) _ _ (by omega) (RV_w v hp _) (FR_trans rr (FR_w v hp _)) (fun x hx => by rw [up_ne _ _ hx]; exact o x hx) (fun x hx => ?_)
      rw [up_at]
      show (if x = k then _ else _) = _
      by_cases q5 : x = k
      · rw [if_pos q5, if_pos (by omega), q5]
      · rw [if_neg q5, g x hx]
        by_cases q6 : x < k
        · rw [if_pos q6, if_pos (by omega)]
        · rw [if_neg q6, if_neg (by omega)]
  exact loop 41 0 _ _ rfl v1 r1 (fun x hx => up_ne _ _ hx) (fun x hx => by
    rw [up_at, if_neg (by omega)]
    unfold cf
    rw [zp_C00]; rfl)
end
