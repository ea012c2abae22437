/-! a column that others come to: the numbers by which -/
theorem neg_self {x : zp_R} (h : x = zp_neg x) : x = zp_C 0 := zp_ext (fun i => by
  have e : x.1 i = -(x.1 i) := congrArg (fun f : zp_R => f.1 i) h
  rw [zp_C00]
  have l := (x.1 i).isLt
  have e2 : (x.1 i).val = (-(x.1 i)).val := congrArg Fin.val e
  by_cases z : x.1 i = 0
  · exact z
  · have := neg_v z
    omega)
theorem zp_nn (x : zp_R) : zp_neg (zp_neg x) = x := zp_ext (fun i => by
  show - -(x.1 i) = x.1 i
  grind)
theorem dneg_0 {x : zp_R} (h : x = zp_C 0) : zp_neg x = zp_C 0 := by
  rw [h]
  exact zp_ext (fun i => by
    show -((zp_C 0).1 i) = (zp_C 0).1 i
    rw [zp_C00]
    decide)
theorem rep_f {r p : Nat} (hr : r < 16) (hp : p < 4) (on : bt r p = 1) : 2 ^ p ≤ r ∧ bt (r - 2 ^ p) p = 0 ∧ r - 2 ^ p + 2 ^ p = r := by
  have : ∀ p : Fin 4, ∀ r : Fin 16, bt r.val p.val = 1 → 2 ^ p.val ≤ r.val ∧ bt (r.val - 2 ^ p.val) p.val = 0 ∧ r.val - 2 ^ p.val + 2 ^ p.val = r.val := by decide +kernel
  exact this ⟨p, hp⟩ ⟨r, hr⟩ on
/-- a row that is there once more -/
theorem mnq_rep (M : Nat → Nat → zp_R) {k p r c : Nat} (hk : k ≤ 4) (hp : p < 4) (hr : r < 16) (on : bt r p = 1) (hc : c < 16) : @lpR zp_R zp_ring (M p) (mnq M k r) c k = zp_C 0 := by
  obtain ⟨a1, a2, a3⟩ := rep_f hr hp on
  have X := neg_self (@lpR_anti zp_R zp_ring (M p) (M p) (mnq M k (r - 2 ^ p)) k c hk hc)
  rcases mnq_ins M hk hp (r - 2 ^ p) (r - 2 ^ p) (Nat.le_refl _) (Nat.lt_of_le_of_lt (Nat.sub_le _ _) hr) a2 with w | w
  · rw [a3] at w
    rw [@lpR_cg zp_R zp_ring _ _ _ _ (fun c' hc' => w c' (by omega))]
    exact X
  · rw [a3] at w
    rw [@lpR_cg zp_R zp_ring _ _ _ _ (fun c' hc' => w c' (by omega))]
    exact (@lpR_ng zp_R zp_ring _ _ _ _).trans (dneg_0 X)
/-- the numbers: of columns c and rows r, one row fewer -/
noncomputable def yv (M : Nat → Nat → zp_R) (k r c : Nat) : Nat → zp_R := fun j => if bt c j = 0 then zp_C 0 else if sgc c j = 1 then mnq M k r (c - 2 ^ j) else zp_neg (mnq M k r (c - 2 ^ j))
theorem yv_1 {R : Type} [Lean.Grind.CommRing R] {a b x : R} (h : x = 0) : a + b * x = a := by grind
theorem yv_2 {R : Type} [Lean.Grind.CommRing R] {a b x : R} : a + b * -x = a - b * x := by grind
theorem yv_d (M : Nat → Nat → zp_R) (k r c : Nat) (row : Nat → zp_R) : ∀ j, @dtR zp_R zp_ring row (yv M k r c) j = @lpR zp_R zp_ring row (mnq M k r) c j
  | 0 => rfl
  | j + 1 => by
    have e : @dtR zp_R zp_ring row (yv M k r c) (j + 1) = zp_add (@dtR zp_R zp_ring row (yv M k r c) j) (zp_mul (row j) (yv M k r c j)) := rfl
    rw [e, yv_d M k r c row j, @lpR_s zp_R zp_ring]
    unfold yv
    by_cases q : bt c j = 0
    · rw [if_pos q, if_pos q]
      exact @yv_1 zp_R zp_ring _ _ _ (rfl : zp_C 0 = zp_C (zp_nat 0))
    · rw [if_neg q, if_neg q]
      by_cases q2 : sgc c j = 1
      · rw [if_pos q2, if_pos q2]
        rfl
      · rw [if_neg q2, if_neg q2]
        exact @yv_2 zp_R zp_ring _ _ _
/-- if no determinant of one row more is left, those numbers make all rows 0 -/
theorem yv_0 (M : Nat → Nat → zp_R) {R k r c : Nat} (hk : k ≤ 4) (hR : R ≤ 4) (hr : r < 16) (hc : c < 16) (no : ∀ p, p < R → bt r p = 0 → mnq M k (r + 2 ^ p) c = zp_C 0) {p : Nat} (hp : p < R) : @dtR zp_R zp_ring (M p) (yv M k r c) k = zp_C 0 := by
  rw [yv_d]
  have b := bt_01 r p
  by_cases q : bt r p = 1
  · exact mnq_rep M hk (by omega) hr q hc
  · have off : bt r p = 0 := by omega
    have z := no p hp off
    rcases mnq_ins M hk (show p < 4 by omega) r r (Nat.le_refl _) hr off with w | w
    · rw [← w c hc]
      exact z
    · have e := w c hc
      rw [z] at e
      have := dneg_0 e.symm
      exact (zp_nn _).symm.trans this
