/-! least polynomials: what they are, and that a cleared table tells one -/
theorem sum_cf (f : Nat → zp_R) (i : Nat) : ∀ N, (@zp_sum zp_R zp_ring f N).1 i = zp_sum (fun k => (f k).1 i) N
  | 0 => zp_C00 i
  | N + 1 => by
    show (zp_add (@zp_sum zp_R zp_ring f N) (f N)).1 i = zp_sum (fun k => (f k).1 i) N + (f N).1 i
    rw [← sum_cf f i N]; rfl
theorem sum_dg {f : Nat → zp_R} {n : Nat} : ∀ {N}, (∀ k, k < N → zp_deg (f k) n) → zp_deg (@zp_sum zp_R zp_ring f N) n
  | 0, _ => fun i _ => zp_C00 i
  | N + 1, h => deg_add (sum_dg (fun k hk => h k (by omega))) (h N (by omega))
theorem sum_cg {W : zp_R} {f g : Nat → zp_R} : ∀ {N}, (∀ k, k < N → cg W (f k) (g k)) → cg W (@zp_sum zp_R zp_ring f N) (@zp_sum zp_R zp_ring g N)
  | 0, _ => cg_refl W _
  | N + 1, h => cg_add (sum_cg (fun k hk => h k (by omega))) (h N (by omega))
/-- L at V, its first N numbers -/
def cmo (L V : zp_R) (N : Nat) : zp_R := @zp_sum zp_R zp_ring (fun k => zp_mul (zp_C (L.1 k)) (zp_npow V k)) N
/-- the least polynomial of V modulo W -/
def isL (W V L : zp_R) (d : Nat) : Prop := L.1 d = 1 ∧ zp_deg L (d + 1) ∧ cg W (cmo L V (d + 1)) (zp_C 0) ∧ ∀ L', zp_deg L' d → cg W (cmo L' V d) (zp_C 0) → L' = zp_C 0
/-- a table whose columns are polynomials: K columns, and e numbers of the next one -/
def tc (S : Nat → zp_R) (n K e : Nat) : Nat → Nat → zp_F := fun r c => if r < n ∧ (c < K ∨ (c = K ∧ r < e)) then (S c).1 r else 0
theorem tc_put {S : Nat → zp_R} {n K e : Nat} (he : e < n) : put1 (tc S n K e) e K ((S K).1 e) = tc S n K (e + 1) := by
  funext r c
  unfold put1 tc
  by_cases h1 : r = e ∧ c = K
  · rw [if_pos h1, if_pos (show r < n ∧ (c < K ∨ (c = K ∧ r < e + 1)) by omega), h1.1, h1.2]
  · rw [if_neg h1]
    by_cases h2 : r < n ∧ (c < K ∨ (c = K ∧ r < e))
    · rw [if_pos h2, if_pos (show r < n ∧ (c < K ∨ (c = K ∧ r < e + 1)) by omega)]
    · rw [if_neg h2, if_neg (show ¬ (r < n ∧ (c < K ∨ (c = K ∧ r < e + 1))) by omega)]
theorem tc_s {S : Nat → zp_R} {n K : Nat} : tc S n K n = tc S n (K + 1) 0 := by
  funext r c
  unfold tc
  by_cases h2 : r < n ∧ (c < K ∨ (c = K ∧ r < n))
  · rw [if_pos h2, if_pos (show r < n ∧ (c < K + 1 ∨ (c = K + 1 ∧ r < 0)) by omega)]
  · rw [if_neg h2, if_neg (show ¬ (r < n ∧ (c < K + 1 ∨ (c = K + 1 ∧ r < 0))) by omega)]
theorem tc_0 (S : Nat → zp_R) (n : Nat) : tc S n 0 0 = fun _ _ => 0 := by
  funext r c
  unfold tc
  rw [if_neg (by omega)]
/-- what the rows of such a table tell: the sum of the columns is 0 -/
theorem tc_ker {S : Nat → zp_R} {n K : Nat} (hK : K ≤ 48) (dS : ∀ c, c < K → zp_deg (S c) n) {y : Nat → zp_F} (hy : ∀ c, K ≤ c → y c = 0) : ker (tc S n K 0) n y ↔ @zp_sum zp_R zp_ring (fun c => zp_mul (zp_C (y c)) (S c)) K = zp_C 0 := by
  have e1 : ∀ r, r < n → zp_sum (fun c => tc S n K 0 r c * y c) 48 = (@zp_sum zp_R zp_ring (fun c => zp_mul (zp_C (y c)) (S c)) K).1 r := fun r hr => by
    rw [sum_cf, zp_sum_ext (n := K) (fun i hi2 => by rw [hy i hi2, zp_ml0]) hK]
    refine zp_sum_congr (fun c hc => ?_)
    show (if r < n ∧ (c < K ∨ (c = K ∧ r < 0)) then (S c).1 r else 0) * y c = (zp_mul (zp_C (y c)) (S c)).1 r
    rw [if_pos ⟨hr, .inl hc⟩, zp_C_mul1]
    exact zp_h20
  have dd : zp_deg (@zp_sum zp_R zp_ring (fun c => zp_mul (zp_C (y c)) (S c)) K) n := sum_dg (fun k hk => deg_Cm _ (dS k hk))
  refine ⟨fun a => zp_ext (fun i => ?_), fun a r hr => ?_⟩
  · rw [zp_C00]
    by_cases hi2 : i < n
    · rw [← e1 i hi2]; exact a i hi2
    · exact dd i (by omega)
  · rw [e1 r hr, a, zp_C00]
theorem cg_small {W E : zp_R} (h0 : 0 ≤ hi W) (dW : zp_deg W 176) (dE : zp_deg E (hi W).toNat) (h : cg W E (zp_C 0)) : E = zp_C 0 := by
  have a := md_cg h0 dW h (fun i _ => zp_C00 i)
  rw [← a]
  exact (md_cg h0 dW (cg_refl W E) dE).symm
theorem cmo_md {W V L : zp_R} (h0 : 0 ≤ hi W) (dW : zp_deg W 176) (N : Nat) : cg W (cmo L V N) (@zp_sum zp_R zp_ring (fun c => zp_mul (zp_C (L.1 c)) (md W (zp_npow V c))) N) := sum_cg (fun k _ => cg_mul (cg_refl W _) (md_c h0 dW _))
theorem cmo_0 {W V L : zp_R} (h0 : 0 ≤ hi W) (dW : zp_deg W 176) {K : Nat} (hK : K ≤ 48) (dL : zp_deg L K) : cg W (cmo L V K) (zp_C 0) ↔ ker (tc (fun c => md W (zp_npow V c)) (hi W).toNat K 0) (hi W).toNat L.1 := by
  rw [tc_ker hK (fun c _ => md_deg h0 dW _) (fun c hc => dL c hc)]
  refine ⟨fun a => ?_, fun a => ?_⟩
  · exact cg_small h0 dW (sum_dg (fun k _ => deg_Cm _ (md_deg h0 dW _))) (cg_tr (cg_symm (cmo_md h0 dW K)) a)
  · have := cmo_md (V := V) (L := L) h0 dW K
    rw [a] at this
    exact this
/-- a table of fewer columns is the wider one's beginning -/
theorem ker_less {S : Nat → zp_R} {n K K' : Nat} (hK : K ≤ K') (hK' : K' ≤ 48) (dS : ∀ c, zp_deg (S c) n) {y : Nat → zp_F} (hy : ∀ c, K ≤ c → y c = 0) : ker (tc S n K' 0) n y ↔ ker (tc S n K 0) n y := by
  rw [tc_ker hK' (fun c _ => dS c) (fun c hc => hy c (by omega)), tc_ker (by omega) (fun c _ => dS c) hy]
  rw [@zp_sum_ext zp_R zp_ring (fun c => zp_mul (zp_C (y c)) (S c)) K K' (fun i hi2 => by
    show zp_mul (zp_C (y i)) (S i) = zp_C 0
    rw [hy i hi2]
    exact (zp_h20R).trans (zp_mul0 _)) hK]
theorem pc_all {R : Nat → Int} : ∀ {j : Nat}, (∀ i, i < j → R i ≠ -1) → pc R j = j
  | 0, _ => rfl
  | j + 1, h => by
    show pc R j + (if R j = -1 then 0 else 1) = j + 1
    rw [pc_all (fun i hi2 => h i (by omega)), if_neg (h j (by omega))]
theorem row_fin (B : Nat → Nat → zp_F) (d : Nat) : zp_fin (fun k => if k = d then 1 else if k < d then -(B k d) else 0) := ⟨d + 1, fun i hi2 => by
  show (if i = d then (1 : zp_F) else if i < d then -(B i d) else 0) = 0
  rw [if_neg (by omega), if_neg (by omega)]⟩
def lst (B : Nat → Nat → zp_F) (d : Nat) : zp_R := ⟨fun k => if k = d then 1 else if k < d then -(B k d) else 0, row_fin B d⟩
theorem isL_rr {W V : zp_R} (h0 : 0 ≤ hi W) (dW : zp_deg W 42) {B : Nat → Nat → zp_F} {R : Nat → Int} {n d : Nat} (hn : (hi W).toNat = n) (a : rr (tc (fun c => md W (zp_npow V c)) n (n + 1) 0) B n (n + 1) R) (hd : d < n + 1) (e : R d = -1) (ne : ∀ i, i < d → R i ≠ -1) : isL W V (lst B d) d := by
  have dW6 := deg_le dW (show 42 ≤ 176 by decide)
  have bW := hi_lt dW (Nat.le_refl _)
  have dS : ∀ c, zp_deg (md W (zp_npow V c)) n := fun c => by rw [← hn]; exact md_deg h0 dW6 _
  have dL : zp_deg (lst B d) (d + 1) := fun i hi2 => by
    show (if i = d then 1 else if i < d then -(B i d) else 0) = 0
    rw [if_neg (by omega), if_neg (by omega)]
  refine ⟨if_pos rfl, dL, ?_, fun L' dL' hL' => ?_⟩
  · rw [cmo_0 h0 dW6 (by omega) dL, hn, ← ker_less (K := d + 1) (K' := n + 1) (by omega) (by omega) dS dL]
    have k := rr_ker a (by omega) hd e
    refine Eq.mp (congrArg (ker _ n) ?_) k
    funext i
    show (if i = d then (1 : zp_F) else if i < d ∧ R i ≠ -1 then -(B (pc R i) d) else 0) = if i = d then 1 else if i < d then -(B i d) else 0
    by_cases q : i = d
    · rw [if_pos q, if_pos q]
    · rw [if_neg q, if_neg q]
      by_cases q2 : i < d
      · rw [if_pos ⟨q2, ne i q2⟩, if_pos q2, pc_all (fun k hk => ne k (by omega))]
      · rw [if_neg (fun w => q2 w.1), if_neg q2]
  · rw [cmo_0 h0 dW6 (by omega) dL', hn, ← ker_less (K := d) (K' := n + 1) (by omega) (by omega) dS dL'] at hL'
    refine Classical.byContradiction (fun w => ?_)
    have hL6 := deg_le dL' (show d ≤ 176 by omega)
    have p := hi_ge hL6 w
    obtain ⟨t1, t2⟩ := hi_top p hL6
    have lt := hi_lt dL' (Nat.le_refl _)
    exact t1 (rr_tell a (by omega) hL' (j := (hi L').toNat) (by omega) (ne _ (by omega)) (fun i h1 _ => t2 i h1))
