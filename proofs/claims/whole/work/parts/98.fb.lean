/-! a table of n columns that depend on no others, and column 47: one answer -/
theorem sum_47 {f : Nat → zp_F} {n : Nat} (hn : n ≤ 47) (h : ∀ c, n ≤ c → c < 47 → f c = 0) : zp_sum f 48 = zp_sum f n + f 47 := by
  show zp_sum f 47 + f 47 = _
  have e1 : zp_sum f 47 = zp_sum (fun c => if c < n then f c else 0) 47 := zp_sum_congr (fun c hc => by
    by_cases q : c < n
    · rw [if_pos q]
    · rw [if_neg q]; exact h c (by omega) hc)
  have e2 : zp_sum f n = zp_sum (fun c => if c < n then f c else 0) n := zp_sum_congr (fun c hc => (if_pos hc).symm)
  rw [e1, e2, zp_sum_ext (n := n) (m := 47) (fun c hc => if_neg (by omega)) hn]
theorem sum_del {g : Nat → zp_F} {r : Nat} : ∀ n, zp_sum (fun c => (if r = c then 1 else 0) * g c) n = if r < n then g r else 0
  | 0 => (if_neg (Nat.not_lt_zero r)).symm
  | n + 1 => by
    show zp_sum (fun c => (if r = c then 1 else 0) * g c) n + (if r = n then 1 else 0) * g n = _
    rw [sum_del n]
    by_cases q : r = n
    · rw [if_pos q, if_neg (by omega), if_pos (by omega), q]; exact @sd_h1 zp_F _ _
    · rw [if_neg q]
      by_cases q2 : r < n
      · rw [if_pos q2, if_pos (by omega)]; exact @sd_h2 zp_F _ _ _
      · rw [if_neg q2, if_neg (by omega)]; exact @sd_h3 zp_F _ _
where
  sd_h1 : ∀ {R : Type} [Lean.Grind.CommRing R] (a : R), 0 + 1 * a = a := by intro R _ a; grind
  sd_h2 : ∀ {R : Type} [Lean.Grind.CommRing R] (a b : R), a + 0 * b = a := by intro R _ a b; grind
  sd_h3 : ∀ {R : Type} [Lean.Grind.CommRing R] (b : R), 0 + 0 * b = 0 := by intro R _ b; grind
/-- columns that depend on no others: each has its own row, and column 47 is their sum -/
theorem rr_sys {S : Nat → zp_R} {E : zp_R} {n : Nat} {B : Nat → Nat → zp_F} {R : Nat → Int} (n41 : n ≤ 41) (dS : ∀ c, c < n → zp_deg (S c) n) (dE : zp_deg E n) (a : rr (t47 (tc S n n 0) E n) B n n R) (ind : ∀ y : Nat → zp_F, (∀ c, n ≤ c → y c = 0) → @zp_sum zp_R zp_ring (fun c => zp_mul (zp_C (y c)) (S c)) n = zp_C 0 → ∀ c, c < n → y c = 0) : (∀ j, j < n → R j = (j : Int)) ∧ @zp_sum zp_R zp_ring (fun c => zp_mul (zp_C (B c 47)) (S c)) n = E := by
  have ne : ∀ j, j < n → R j ≠ -1 := fun j hj w => by
    have k := rr_ker a (by omega) hj w
    have hy : ∀ c, n ≤ c → (fun i => if i = j then (1 : zp_F) else if i < j ∧ R i ≠ -1 then -(B (pc R i) j) else 0) c = 0 := fun c hc => by
      show (if c = j then (1 : zp_F) else if c < j ∧ R c ≠ -1 then -(B (pc R c) j) else 0) = 0
      rw [if_neg (by omega), if_neg (fun w => by omega)]
    have k2 : ker (tc S n n 0) n (fun i => if i = j then (1 : zp_F) else if i < j ∧ R i ≠ -1 then -(B (pc R i) j) else 0) := fun r hr => by
      refine Eq.trans (zp_sum_congr (fun c hc => ?_)) (k r hr)
      show _ = t47 (tc S n n 0) E n r c * _
      by_cases q : c = 47
      · rw [hy c (by omega), zp_ml0, zp_ml0]
      · unfold t47
        rw [if_neg (fun w => q w.1)]
    have z := ind _ hy ((tc_ker (by omega) dS hy).mp k2) j hj
    have z2 : (if j = j then (1 : zp_F) else if j < j ∧ R j ≠ -1 then -(B (pc R j) j) else 0) = 0 := z
    rw [if_pos rfl] at z2
    exact zp_F10 z2
  have pcj : ∀ j, j ≤ n → pc R j = j := fun j hj => pc_all (fun i hi2 => ne i (by omega))
  have own : ∀ j, j < n → R j = (j : Int) := fun j hj => by
    rcases a.2 j hj with ⟨z, _⟩ | ⟨z, _⟩
    · exact absurd z (ne j hj)
    · rw [z, pcj j (by omega)]
  refine ⟨own, ?_⟩
  have diag : ∀ r c, r < n → c < n → B r c = if r = c then 1 else 0 := fun r c hr hc => by
    rcases a.2 c hc with ⟨z, _⟩ | ⟨z1, z2, z3, z4⟩
    · exact absurd z (ne c hc)
    · rw [pcj c (by omega)] at z3 z4
      by_cases q : r = c
      · rw [if_pos q, q]; exact z3
      · rw [if_neg q]; exact z4 r hr q
  have kB : ker B n (fun i => if i < n then B i 47 else if i = 47 then -1 else 0) := fun r hr => by
    show zp_sum (fun c => B r c * (if c < n then B c 47 else if c = 47 then -1 else 0)) 48 = 0
    rw [sum_47 (n := n) (by omega) (fun c h1 h2 => by rw [if_neg (by omega), if_neg (by omega)]; exact zp_ml0 _)]
    have e1 : zp_sum (fun c => B r c * (if c < n then B c 47 else if c = 47 then -1 else 0)) n = zp_sum (fun c => (if r = c then 1 else 0) * B c 47) n := zp_sum_congr (fun c hc => by rw [if_pos hc, diag r c hr hc])
    rw [e1, sum_del, if_pos hr, if_neg (by omega), if_pos rfl]
    exact @rs_h zp_F _ _
  have kM := (a.1 _).mpr kB
  refine zp_ext (fun r => ?_)
  rw [sum_cf]
  by_cases hr : r < n
  · have k := kM r hr
    rw [sum_47 (n := n) (by omega) (fun c h1 h2 => by
      show t47 (tc S n n 0) E n r c * (if c < n then B c 47 else if c = 47 then -1 else 0) = 0
      rw [if_neg (by omega), if_neg (by omega)]; exact zp_ml0 _)] at k
    have e1 : zp_sum (fun c => t47 (tc S n n 0) E n r c * (if c < n then B c 47 else if c = 47 then -1 else 0)) n = zp_sum (fun c => (zp_mul (zp_C (B c 47)) (S c)).1 r) n := zp_sum_congr (fun c hc => by
      have t : t47 (tc S n n 0) E n r c = (S c).1 r := by
        unfold t47 tc
        rw [if_neg (fun w => by omega), if_pos ⟨hr, .inl hc⟩]
      rw [if_pos hc, t, zp_C_mul1]
      exact @zp_h20 zp_F _ _ _)
    have t2 : t47 (tc S n n 0) E n r 47 = E.1 r := if_pos ⟨rfl, hr⟩
    have k' : zp_sum (fun c => t47 (tc S n n 0) E n r c * (if c < n then B c 47 else if c = 47 then -1 else 0)) n + t47 (tc S n n 0) E n r 47 * (if 47 < n then B 47 47 else if 47 = 47 then -1 else 0) = 0 := k
    rw [e1, t2, if_neg (by omega), if_pos rfl] at k'
    exact @rs_h2 zp_F _ _ _ k'
  · rw [dE r (by omega)]
    exact zp_sum_zero (fun c hc => by rw [zp_C_mul1, dS c hc r (by omega), zp_ml0])
where
  rs_h : ∀ {R : Type} [Lean.Grind.CommRing R] (a : R), a + a * -1 = 0 := by intro R _ a; grind
  rs_h2 : ∀ {R : Type} [Lean.Grind.CommRing R] {a b : R} (_ : a + b * -1 = 0), a = b := by intro R _ a b e; grind
