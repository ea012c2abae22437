/-! the reference's tables: emptyTable and clearTable -/
/-- a table's rows of 48 as the source's one row -/
def fl (M : Nat → Nat → zp_F) : Nat → Int := fun t => ((M (t / 48) (t % 48)).val : Int)
theorem fl_congr {M M' : Nat → Nat → zp_F} (e : ∀ n i, i < 48 → M n i = M' n i) : fl M = fl M' := by
  funext t
  unfold fl
  rw [e _ _ (Nat.mod_lt t (by decide))]
theorem fl_at (M : Nat → Nat → zp_F) {n i : Nat} (hi2 : i < 48) : fl M (48 * n + i) = ((M n i).val : Int) := by
  unfold fl
  rw [show (48 * n + i) / 48 = n by omega, show (48 * n + i) % 48 = i by omega]
/-- one number put -/
def put1 (M : Nat → Nat → zp_F) (n i : Nat) (z : zp_F) : Nat → Nat → zp_F := fun a b => if a = n ∧ b = i then z else M a b
theorem fl_put (M : Nat → Nat → zp_F) {n i : Nat} (hi2 : i < 48) (z : zp_F) {t0 : Nat} (ht : t0 = 48 * n + i) {x : Int} (hx : x = (z.val : Int)) : (fun t => if t = t0 then x else fl M t) = fl (put1 M n i z) := by
  funext t
  unfold fl put1
  subst hx
  subst ht
  by_cases h1 : t = 48 * n + i
  · rw [if_pos h1, if_pos ⟨by omega, by omega⟩]
  · rw [if_neg h1, if_neg (fun w => h1 (by omega))]
theorem gi_fl {A : Nat → Nat → Int} {M : Nat → Nat → zp_F} (e : A 1317 = fl M) {n i : Nat} (hi2 : i < 48) (hn : n < 42) {x : Int} (hx : x = 48 * (n : Int) + i) : gi (mk 2048 (A 1317)) x = ((M n i).val : Int) := by
  rw [gi_mk (by omega) (by omega), e, show x.toNat = 48 * n + i by omega, fl_at M hi2]
theorem tm_mul (a b : zp_F) : Int.tmod ((a.val : Int) * b.val) 32003 = ((a * b : zp_F).val : Int) := by
  rw [tmod_nn (Int.mul_nonneg (by omega) (by omega)), F_mul]
theorem in_mul (a b : zp_F) : In6 ((a.val : Int) * b.val) := by
  have h1 := a.isLt
  have h2 := b.isLt
  have h3 : a.val * b.val ≤ 32003 * 32003 := Nat.mul_le_mul (by omega) (by omega)
  have h4 : (a.val : Int) * b.val = ((a.val * b.val : Nat) : Int) := rfl
  rw [h4]
  exact in6_of (by omega) (by omega)
theorem in_dif (a b c : zp_F) : In6 ((a.val : Int) - (b.val : Int) * c.val) := by
  have h0 := a.isLt
  have h1 := b.isLt
  have h2 := c.isLt
  have h3 : b.val * c.val ≤ 32003 * 32003 := Nat.mul_le_mul (by omega) (by omega)
  have h4 : (b.val : Int) * c.val = ((b.val * c.val : Nat) : Int) := rfl
  rw [h4]
  exact in6_of (by omega) (by omega)
theorem md_dif (a b c : zp_F) : ((a.val : Int) - (b.val : Int) * c.val) % 32003 = ((a - b * c : zp_F).val : Int) := by
  rw [← nF_v, nF_sub, nF_mul, nF_val, nF_val, nF_val]
section
variable {d : Nat} {h : s_H} {s : Nat → Int} {A : Nat → Nat → Int}
theorem RV_t (hv : RV h s A) {M : Nat → Nat → zp_F} {g : Nat → Int} (e : g = fl M) : RV (hp h 1317 (al 2048 g)) s (up A 1317 (fl M)) := by
  rw [← e]; exact Rp_table hv g
theorem FR_t (hv : RV h s A) (C : s_C) : FR h (hp h 1317 C) := FR_put hv (c := 1317) (by decide) (by decide) C
theorem up_up {α : Type} (A : Nat → α) (c : Nat) (f g : α) : up (up A c f) c g = up A c g := by
  funext x
  by_cases hx : x = c
  · rw [hx, up_at, up_at]
  · rw [up_ne _ _ hx, up_ne _ _ hx, up_ne _ _ hx]
theorem up_self {α : Type} (A : Nat → α) (c : Nat) {g : α} (e : A c = g) : up A c g = A := by
  funext x
  by_cases hx : x = c
  · rw [hx, up_at, e]
  · rw [up_ne _ _ hx]
theorem V_emptyTable (hv : RV h s A) : wm sw_P (d + 1) 439 [.index 1290] h (RQ h s (up A 1317 (fl (fun _ _ => 0)))) := by
  refine wm_in (cd := sw_c439) (nL := 2) (hd := sw_h439) rfl rfl ?_
  refine k439_0 ?_
  have loop : ∀ (l k : Nat) (B : Nat → Nat → Int) (h' : s_H), k + l = 2048 → RV h' s B → FR h h' → (∀ x, x ≠ 1317 → B x = A x) → (∀ t, t < k → B 1317 t = 0) → wr sw_P d sw_c439 sw_h439 (2, [.index 1290, vi (k : Int)], [], h', 0, 0) (RQ h s (up A 1317 (fl (fun _ _ => 0)))) := by
    intro l
    induction l with
    | zero =>
      intro k B h' hk v r o g
      refine k439_2 (fun _ => k439_22 ?_) (fun w => absurd w (by omega))
      have v3 := RV_cg v (c := 1317) (g := fl (fun _ _ => 0)) (fun t ht => by
        have : rl 1317 = 2048 := rfl
        rw [g t (by omega)]; rfl)
      have e : up B 1317 (fl (fun _ _ => 0)) = up A 1317 (fl (fun _ _ => 0)) := by
        funext x
        by_cases hx : x = 1317
        · rw [hx, up_at, up_at]
        · rw [up_ne _ _ hx, up_ne _ _ hx, o x hx]
      rw [e] at v3
      exact ⟨h', s, _, v3, r, ⟨rfl, rfl⟩, rfl⟩
    | succ l ih =>
      intro k B h' hk v r o g
      refine k439_2 (fun w => absurd w (by omega)) (fun _ => ?_)
      refine k439_9 v.1 (Ra_table v) ?_ (c10 := by rw [mk_len]; omega)
      rw [mk_set]
      refine ih (k + 1) _ _ (by omega) (Rp_table v _) (FR_trans r (FR_t v _)) (fun x hx => by rw [up_ne _ _ hx, o x hx]) (fun t ht => ?_)
      rw [up_at]
      show (if t = (k : Int).toNat then 0 else B 1317 t) = 0
      by_cases h5 : t = k
      · rw [if_pos (by omega)]
      · rw [if_neg (by omega), g t (by omega)]
  exact loop 2048 0 A h rfl hv (FR_refl h) (fun _ _ => rfl) (fun t ht => absurd ht (Nat.not_lt_zero t))
/-- columns ahead of i from the one, the others from the other -/
def mix (M N : Nat → Nat → zp_F) (i : Nat) : Nat → Nat → zp_F := fun n e => if e < i then N n e else M n e
theorem mix_put2 {M : Nat → Nat → zp_F} {k r i : Nat} {b : zp_F} : put1 (put1 (mix M (op1 M k r b) i) k i (M r i)) r i (M k i * b) = mix M (op1 M k r b) (i + 1) := by
  funext n e
  unfold put1 mix op1
  by_cases h1 : e = i
  · subst h1
    rw [if_pos (Nat.lt_succ_self e), if_neg (Nat.lt_irrefl e)]
    by_cases h2 : n = r
    · rw [if_pos ⟨h2, rfl⟩, if_pos h2]
    · rw [if_neg (fun w => h2 w.1), if_neg h2]
      by_cases h3 : n = k
      · rw [if_pos ⟨h3, rfl⟩, if_pos h3]
      · rw [if_neg (fun w => h3 w.1), if_neg h3]
  · rw [if_neg (fun w => h1 w.2), if_neg (fun w => h1 w.2)]
    by_cases h2 : e < i
    · rw [if_pos h2, if_pos (show e < i + 1 by omega)]
    · rw [if_neg h2, if_neg (show ¬ e < i + 1 by omega)]
theorem clr_swap {x1 x2 x4 : Int} {M : Nat → Nat → zp_F} {k r : Nat} (hk : k < 42) (hr : r < 42) {b : zp_F} {Q : s_O → Prop} (hv : RV h s A) (hM : A 1317 = fl M) (K : ∀ (h' : s_H) (t7 t9 t10 t11 : Term), RV h' s (up A 1317 (fl (op1 M k r b))) → FR h h' → wr sw_P d sw_c417 sw_h417 (181, [.index 1290, vi x1, vi x2, vi (r : Int), vi x4, vi (k : Int), vl (b.val : Int), t7, vi 48, t9, t10, t11], [], h', 0, 0) Q) : ∀ (l i : Nat) (B : Nat → Nat → Int) (h' : s_H) (t7 t9 t10 t11 : Term), i + l = 48 → RV h' s B → FR h h' → (∀ x, x ≠ 1317 → B x = A x) → B 1317 = fl (mix M (op1 M k r b) i) → wr sw_P d sw_c417 sw_h417 (107, [.index 1290, vi x1, vi x2, vi (r : Int), vi x4, vi (k : Int), vl (b.val : Int), t7, vi (i : Int), t9, t10, t11], [], h', 0, 0) Q := by
  intro l
  induction l with
  | zero =>
    intro i B h' t7 t9 t10 t11 hi2 v rr' o g
    refine k417_107 (fun _ => ?_) (fun w => absurd w (by omega))
    have i48 : i = 48 := by omega
    subst i48
    refine K h' t7 t9 t10 t11 ?_ rr'
    have e : up A 1317 (fl (op1 M k r b)) = B := by
      funext x
      by_cases hx : x = 1317
      · rw [hx, up_at, g]
        exact fl_congr (fun n i hi3 => (if_pos hi3).symm)
      · rw [up_ne _ _ hx, o x hx]
    rw [e]; exact v
  | succ l ih =>
    intro i B h' t7 t9 t10 t11 hi2 v rr' o g
    refine k417_107 (fun w => absurd w (by omega)) (fun _ => ?_)
    have mlt : ∀ n, mix M (op1 M k r b) i n i = M n i := fun n => if_neg (Nat.lt_irrefl i)
    have g1 : gi (mk 2048 (B 1317)) (48 * (k : Int) + i) = ((M k i).val : Int) := by rw [gi_fl g (n := k) (i := i) (by omega) hk rfl, mlt]
    have g2 : gi (mk 2048 (B 1317)) (48 * (r : Int) + i) = ((M r i).val : Int) := by rw [gi_fl g (n := r) (i := i) (by omega) hr rfl, mlt]
    refine k417_114 v.1 (Ra_table v) ((hp_ne (Ra_table v) (by decide)).trans v.1) (hp_at (Ra_table v)) ?_ (c10 := by rw [mk_len]; omega) (c11 := by omega) (c12 := by unfold In3; omega) (c13 := by rw [g1]; exact in_mul _ _) (c14 := by rw [mk_len]; omega) (c15 := by omega) (c16 := by unfold In3; omega) (c25 := by rw [List.length_set, mk_len]; omega)
    rw [g1, g2, tm_mul, mk_set]
    have e1 := fl_put (mix M (op1 M k r b) i) (n := k) (i := i) (by omega) (M r i) (t0 := (48 * (k : Int) + i).toNat) (by omega) rfl
    have e2 := fl_put (put1 (mix M (op1 M k r b) i) k i (M r i)) (n := r) (i := i) (by omega) (M k i * b) (t0 := (48 * (r : Int) + i).toNat) (by omega) rfl
    rw [g, e1, mk_set, e2, mix_put2]
    have v1 := RV_t v (M := put1 (mix M (op1 M k r b) i) k i (M r i)) rfl
    have v2 := RV_t v1 (M := mix M (op1 M k r b) (i + 1)) rfl
    exact ih (i + 1) _ _ _ _ _ _ (by omega) v2 (FR_trans rr' (FR_trans (FR_t v _) (FR_t v1 _))) (fun x hx => by rw [up_ne _ _ hx, up_ne _ _ hx, o x hx]) (up_at _ _ _)
/-- so many times row r taken from row n -/
def rowop (M : Nat → Nat → zp_F) (n r : Nat) (z : zp_F) : Nat → Nat → zp_F := fun a e => if a = n then M a e - z * M r e else M a e
theorem mix_put {M : Nat → Nat → zp_F} {n r i : Nat} {z : zp_F} : put1 (mix M (rowop M n r z) i) n i (M n i - z * M r i) = mix M (rowop M n r z) (i + 1) := by
  funext a e
  unfold put1 mix rowop
  by_cases h1 : e = i
  · subst h1
    rw [if_pos (Nat.lt_succ_self e), if_neg (Nat.lt_irrefl e)]
    by_cases h2 : a = n
    · rw [if_pos ⟨h2, rfl⟩, if_pos h2, h2]
    · rw [if_neg (fun w => h2 w.1), if_neg h2]
  · rw [if_neg (fun w => h1 w.2)]
    by_cases h2 : e < i
    · rw [if_pos h2, if_pos (show e < i + 1 by omega)]
    · rw [if_neg h2, if_neg (show ¬ e < i + 1 by omega)]
theorem row_0 {M : Nat → Nat → zp_F} {n r : Nat} : rowop M n r 0 = M := by
  funext a e
  unfold rowop
  split
  · exact @row_h zp_F _ _ _
  · rfl
where row_h : ∀ {R : Type} [Lean.Grind.CommRing R] (a b : R), a - 0 * b = a := by intro R _ a b; grind
theorem clr_row {x1 x2 x4 x5 x6 : Int} {M : Nat → Nat → zp_F} {n r : Nat} (hn : n < 42) (hr : r < 42) {z : zp_F} (nz : z ≠ 0 → n ≠ r) {t7 : Term} {Q : s_O → Prop} (hv : RV h s A) (hM : A 1317 = fl M) (K : ∀ (h' : s_H) (t10 : Term) (u : Int), RV h' s (up A 1317 (fl (rowop M n r z))) → FR h h' → wr sw_P (d + 1) sw_c417 sw_h417 (283, [.index 1290, vi x1, vi x2, vi (r : Int), vi x4, vi x5, vl x6, t7, vi (n : Int), vl (z.val : Int), t10, vi u], [], h', 0, 0) Q) : ∀ (l i : Nat) (B : Nat → Nat → Int) (h' : s_H) (t10 : Term), i + l = 48 → RV h' s B → FR h h' → (∀ x, x ≠ 1317 → B x = A x) → B 1317 = fl (mix M (rowop M n r z) i) → wr sw_P (d + 1) sw_c417 sw_h417 (218, [.index 1290, vi x1, vi x2, vi (r : Int), vi x4, vi x5, vl x6, t7, vi (n : Int), vl (z.val : Int), t10, vi (i : Int)], [], h', 0, 0) Q := by
  have zl := z.isLt
  intro l
  induction l with
  | zero =>
    intro i B h' t10 hi2 v rr' o g
    refine k417_218 (fun _ => ?_) (fun w => absurd w (by omega))
    have i48 : i = 48 := by omega
    subst i48
    refine K h' t10 _ ?_ rr'
    have e : up A 1317 (fl (rowop M n r z)) = B := by
      funext x
      by_cases hx : x = 1317
      · rw [hx, up_at, g]
        exact fl_congr (fun n i hi3 => (if_pos hi3).symm)
      · rw [up_ne _ _ hx, o x hx]
    rw [e]; exact v
  | succ l ih =>
    intro i B h' t10 hi2 v rr' o g
    refine k417_218 (fun w => absurd w (by omega)) (fun _ => ?_)
    refine k417_225 (fun w => ?_) (fun w => ?_) (c1 := in6_of (by omega) (by omega))
    · have z0 : z = 0 := F_ext (by show (z.val : Int) = 0; omega)
      refine K h' t10 _ ?_ rr'
      have e : up A 1317 (fl (rowop M n r z)) = B := by
        funext x
        by_cases hx : x = 1317
        · rw [hx, up_at, g, z0, row_0]
          refine fl_congr (fun n i _ => ?_)
          unfold mix
          split <;> rfl
        · rw [up_ne _ _ hx, o x hx]
      rw [e]; exact v
    · have z0 : z ≠ 0 := fun q => w (by rw [q]; decide)
      have mlt : ∀ n', mix M (rowop M n r z) i n' i = M n' i := fun n' => if_neg (Nat.lt_irrefl i)
      have g1 : gi (mk 2048 (B 1317)) (48 * (n : Int) + i) = ((M n i).val : Int) := by rw [gi_fl g (n := n) (i := i) (by omega) hn rfl, mlt]
      have g2 : gi (mk 2048 (B 1317)) (48 * (r : Int) + i) = ((M r i).val : Int) := by rw [gi_fl g (n := r) (i := i) (by omega) hr rfl, mlt]
      refine k417_232 v.1 (Ra_table v) (wm_mono (wq_r ?_) (t_modulo (by rw [g1, g2]; exact in_dif _ _ _))) (c10 := by rw [mk_len]; omega) (c11 := by omega) (c12 := by unfold In3; omega) (c13 := by rw [mk_len]; omega) (c14 := by omega) (c15 := by unfold In3; omega)
      rw [g1, g2, md_dif]
      refine k417_276 (Ra_table v) ?_ (c4 := by rw [mk_len]; omega) (c5 := by omega) (c6 := by unfold In3; omega)
      have e1 := fl_put (mix M (rowop M n r z) i) (n := n) (i := i) (by omega) (M n i - z * M r i) (t0 := (48 * (n : Int) + i).toNat) (by omega) rfl
      rw [mk_set, g, e1, mix_put]
      exact ih (i + 1) _ _ _ (by omega) (RV_t v (M := mix M (rowop M n r z) (i + 1)) rfl) (FR_trans rr' (FR_t v _)) (fun x hx => by rw [up_ne _ _ hx, o x hx]) (up_at _ _ _)
/-- rows ahead of m from the one, the others from the other -/
def mixr (M N : Nat → Nat → zp_F) (m : Nat) : Nat → Nat → zp_F := fun n e => if n < m then N n e else M n e
theorem mixr_s {M : Nat → Nat → zp_F} {H r c m : Nat} (hm : m < H) : rowop (mixr M (op2 M H r c) m) m r (if m = r then 0 else M m c) = mixr M (op2 M H r c) (m + 1) := by
  funext n e
  unfold rowop mixr
  by_cases h1 : n = m
  · subst h1
    rw [if_pos rfl, if_neg (Nat.lt_irrefl n), if_pos (Nat.lt_succ_self n)]
    show _ = if n < H ∧ n ≠ r then M n e - M n c * M r e else M n e
    by_cases h2 : n = r
    · rw [if_pos h2, if_neg (show ¬ (n < H ∧ n ≠ r) from fun w => w.2 h2)]
      exact @row_0.row_h zp_F _ _ _
    · rw [if_neg h2, if_pos (show n < H ∧ n ≠ r from ⟨hm, h2⟩)]
      by_cases h3 : r < n
      · rw [if_pos h3]
        show M n e - M n c * (if r < H ∧ r ≠ r then M r e - M r c * M r e else M r e) = _
        rw [if_neg (fun w => w.2 rfl)]
      · rw [if_neg h3]
  · rw [if_neg h1]
    by_cases h2 : n < m
    · rw [if_pos h2, if_pos (show n < m + 1 by omega)]
    · rw [if_neg h2, if_neg (show ¬ n < m + 1 by omega)]
theorem clr_rows {x2 x5 x6 : Int} {M : Nat → Nat → zp_F} {H r c : Nat} (hH : H ≤ 42) (hr : r < 42) (hc : c < 48) {Q : s_O → Prop} (hv : RV h s A) (hM : A 1317 = fl M) (K : ∀ (h' : s_H) (t7 t9 t10 t11 : Term), RV h' s (up A 1317 (fl (op2 M H r c))) → FR h h' → wr sw_P (d + 1) sw_c417 sw_h417 (289, [.index 1290, vi (H : Int), vi x2, vi (r : Int), vi (c : Int), vi x5, vl x6, t7, vi (H : Int), t9, t10, t11], [], h', 0, 0) Q) : ∀ (l m : Nat) (B : Nat → Nat → Int) (h' : s_H) (t7 t9 t10 t11 : Term), m + l = H → RV h' s B → FR h h' → (∀ x, x ≠ 1317 → B x = A x) → B 1317 = fl (mixr M (op2 M H r c) m) → wr sw_P (d + 1) sw_c417 sw_h417 (184, [.index 1290, vi (H : Int), vi x2, vi (r : Int), vi (c : Int), vi x5, vl x6, t7, vi (m : Int), t9, t10, t11], [], h', 0, 0) Q := by
  intro l
  induction l with
  | zero =>
    intro m B h' t7 t9 t10 t11 hm v rr' o g
    refine k417_184 (fun _ => ?_) (fun w => absurd w (by omega)) (c2 := by unfold In3; omega)
    have mH : m = H := by omega
    subst mH
    refine K h' t7 t9 t10 t11 ?_ rr'
    have e : up A 1317 (fl (op2 M m r c)) = B := by
      funext x
      by_cases hx : x = 1317
      · rw [hx, up_at, g]
        refine fl_congr (fun n i _ => ?_)
        unfold mixr
        by_cases hn : n < m
        · rw [if_pos hn]
        · rw [if_neg hn]
          exact if_neg (fun w => hn w.1)
      · rw [up_ne _ _ hx, o x hx]
    rw [e]; exact v
  | succ l ih =>
    intro m B h' t7 t9 t10 t11 hm v rr' o g
    refine k417_184 (fun w => absurd w (by omega)) (fun _ => ?_) (c1 := by unfold In3; omega) (c2 := by unfold In3; omega)
    have body : ∀ (t7 t9 t10 t11 : Term) (z : zp_F), z = (if m = r then 0 else M m c) → wr sw_P (d + 1) sw_c417 sw_h417 (213, [.index 1290, vi (H : Int), vi x2, vi (r : Int), vi (c : Int), vi x5, vl x6, t7, vi (m : Int), t9, t10, t11], [vl (z.val : Int)], h', 0, 0) Q := by
      intro t7 t9 t10 t11 z ez
      refine k417_213 ?_
      refine clr_row (d := d) (M := mixr M (op2 M H r c) m) (n := m) (r := r) (z := z) (by omega) hr (fun w q => w (by rw [ez, if_pos q])) v g (fun h2 t10' u v2 r2 => ?_) 48 0 B h' _ rfl v (FR_refl h') (fun _ _ => rfl) (by rw [g]; refine fl_congr (fun _ _ _ => ?_); rfl)
      refine k417_283 ?_
      rw [ez, mixr_s (by omega)] at v2
      exact ih (m + 1) _ h2 _ _ _ _ (by omega) v2 (FR_trans rr' r2) (fun x hx => by rw [up_ne _ _ hx, o x hx]) (up_at _ _ _)
    refine k417_190 (fun w => ?_) (fun w => ?_) (c1 := by unfold In3; omega) (c2 := by unfold In3; omega)
    · have g1 : gi (mk 2048 (B 1317)) (48 * (m : Int) + c) = ((M m c).val : Int) := by
        rw [gi_fl g (n := m) (i := c) hc (by omega) rfl]
        show ((if m < m then op2 M H r c m c else M m c : zp_F).val : Int) = _
        rw [if_neg (Nat.lt_irrefl m)]
      refine k417_200 v.1 (Ra_table v) ?_ (c10 := by rw [mk_len]; omega) (c11 := by omega) (c12 := by unfold In3; omega)
      rw [g1]
      exact body _ _ _ _ _ (if_neg (by omega)).symm
    · exact k417_196 (body _ _ _ _ 0 (if_pos (by omega)).symm)
theorem clr_find {x2 : Int} {M : Nat → Nat → zp_F} {H r c : Nat} (hH : H ≤ 42) (hc : c < 48) {t6 t7 t8 t9 t10 t11 : Term} {Q : s_O → Prop} (hv : RV h s A) (hM : A 1317 = fl M) (K : ∀ k, r ≤ k → k ≤ H → (∀ n, r ≤ n → n < k → M n c = 0) → (k < H → M k c ≠ 0) → wr sw_P d sw_c417 sw_h417 (49, [.index 1290, vi (H : Int), vi x2, vi (r : Int), vi (c : Int), vi (k : Int), t6, t7, t8, t9, t10, t11], [], h, 0, 0) Q) : ∀ (l k : Nat), k + l = H → r ≤ k → (∀ n, r ≤ n → n < k → M n c = 0) → wr sw_P d sw_c417 sw_h417 (19, [.index 1290, vi (H : Int), vi x2, vi (r : Int), vi (c : Int), vi (k : Int), t6, t7, t8, t9, t10, t11], [], h, 0, 0) Q := by
  intro l
  induction l with
  | zero =>
    intro k hk rk z
    exact k417_19 (fun _ => K k rk (by omega) z (fun w => absurd w (by omega))) (fun w => absurd w (by omega)) (c1 := by unfold In3; omega) (c2 := by unfold In3; omega)
  | succ l ih =>
    intro k hk rk z
    refine k417_19 (fun w => absurd w (by omega)) (fun _ => ?_) (c1 := by unfold In3; omega) (c2 := by unfold In3; omega)
    have g1 := gi_fl hM (n := k) (i := c) hc (by omega) (x := 48 * (k : Int) + c) rfl
    have bz := (M k c).isLt
    refine k417_25 hv.1 (Ra_table hv) (fun w => ?_) (fun w => ?_) (c10 := by rw [mk_len]; omega) (c11 := by omega) (c12 := by unfold In3; omega) (c13 := by rw [g1]; exact in6_of (by omega) (by omega))
    · rw [g1] at w
      exact K k rk (by omega) z (fun _ q => w (by rw [q]; rfl))
    · rw [g1] at w
      have z0 : M k c = 0 := F_ext (by show ((M k c).val : Int) = 0; omega)
      refine k417_43 (ih (k + 1) (by omega) (by omega) (fun n h1 h2 => ?_))
      by_cases e : n = k
      · rw [e, z0]
      · exact z n h1 (by omega)
/-- the table is cleared -/
def clr (s : Nat → Int) (A : Nat → Nat → Int) (M : Nat → Nat → zp_F) (H w : Nat) : (Nat → Int) → (Nat → Nat → Int) → Prop := fun s' A' => ∃ B, s' = up (up s 32 ((w : Int) - pc (A' 1318) w)) 37 (pc (A' 1318) w) ∧ sm A A' [1317, 1318] ∧ A' 1317 = fl B ∧ rr M B H w (A' 1318)
theorem V_clearTable (hv : RV h s A) {M : Nat → Nat → zp_F} (hM : A 1317 = fl M) {H w : Nat} (hH : H ≤ 42) (hw : w ≤ 48) : wm sw_P (d + 4) 417 [.index 1290, vi (H : Int), vi (w : Int)] h (RN h (clr s A M H w)) := by
  refine wm_in (cd := sw_c417) (nL := 12) (hd := sw_h417) rfl rfl ?_
  refine k417_0 hv.1 ?_
  have v0 := RV_fld hv (up s 32 0) (rF_32 s 0)
  have outer : ∀ (l c : Nat) (B : Nat → Nat → Int) (N : Nat → Nat → zp_F) (h' : s_H) (t5 t6 t7 t8 t9 t10 t11 : Term), c + l = w → RV h' (up s 32 ((c : Int) - pc (B 1318) c)) B → FR h h' → sm A B [1317, 1318] → B 1317 = fl N → rr M N H c (B 1318) → wr sw_P (d + 3) sw_c417 sw_h417 (10, [.index 1290, vi (H : Int), vi (w : Int), vi (pc (B 1318) c : Int), vi (c : Int), t5, t6, t7, t8, t9, t10, t11], [], h', 0, 0) (RN h (clr s A M H w)) := by
    intro l
    induction l with
    | zero =>
      intro c B N h' t5 t6 t7 t8 t9 t10 t11 hc v r m g a
      have cw : c = w := by omega
      subst cw
      have b1 := pc_b (B 1318) c
      refine k417_10 (fun _ => ?_) (fun q => absurd q (by omega)) (c1 := by unfold In3; omega) (c2 := by unfold In3; omega)
      refine k417_298 v.1 ?_
      exact ⟨_, _, _, RV_fld v (up (up s 32 ((c : Int) - pc (B 1318) c)) 37 (pc (B 1318) c)) (rF_37 _ _), FR_trans r (FR_fld v _), ⟨N, rfl, m, g, a⟩, rfl⟩
    | succ l ih =>
      intro c B N h' t5 t6 t7 t8 t9 t10 t11 hc v r m g a
      have b1 := pc_b (B 1318) c
      refine k417_10 (fun q => absurd q (by omega)) (fun _ => ?_) (c1 := by unfold In3; omega) (c2 := by unfold In3; omega)
      refine k417_16 ?_
      by_cases hrH : pc (B 1318) c ≤ H
      · refine clr_find (d := d + 3) (r := pc (B 1318) c) (c := c) hH (by omega) v g (fun k rk kH z nz => ?_) (H - pc (B 1318) c) (pc (B 1318) c) (by omega) (Nat.le_refl _) (fun n h1 h2 => absurd h1 (by omega))
        have bw : ∀ z : Int, (∀ j, j < c → (fun i => if i = (c : Int).toNat then z else B 1318 i) j = B 1318 j) := fun z j hj => if_neg (by omega)
        have w1 : ∀ z : Int, RV (hp h' 1318 (ai 48 (fun i => if i = (c : Int).toNat then z else B 1318 i))) (up s 32 ((c : Int) - pc (B 1318) c)) (up B 1318 (fun i => if i = (c : Int).toNat then z else B 1318 i)) := fun z => Rp_row v _
        have fr1 : ∀ C, FR h (hp h' 1318 C) := fun C => FR_trans r (FR_put v (c := 1318) (by decide) (by decide) C)
        have setc : ∀ z : Int, (fun i => if i = (c : Int).toNat then z else B 1318 i) c = z := fun z => if_pos (by omega)
        by_cases q : k = H
        · refine k417_49 v.1 (fun w => absurd q (by omega)) (fun _ => k417_61 ?_) (c7 := by unfold In3; omega) (c8 := by unfold In3; omega)
          refine k417_66 (Ra_row v) (fun w => absurd q (by omega)) (fun _ => ?_) (c4 := by rw [mk_len]; omega) (c5 := by omega) (c6 := by unfold In3; omega) (c8 := by unfold In3; omega) (c9 := by unfold In3; omega)
          rw [mk_set]
          refine k417_73 (z5 := (c : Int) - pc (B 1318) c) (w1 (-1)).1 ?_
          refine k417_292 ?_
          have pe : pc (up B 1318 (fun i => if i = (c : Int).toNat then -1 else B 1318 i) 1318) (c + 1) = pc (B 1318) c := by
            rw [up_at]
            show pc (fun i => if i = (c : Int).toNat then -1 else B 1318 i) c + (if (fun i => if i = (c : Int).toNat then (-1 : Int) else B 1318 i) c = -1 then 0 else 1) = _
            rw [setc, if_pos rfl, pc_congr (bw (-1))]; rfl
          have v2 := RV_fld (w1 (-1)) (up s 32 (((c + 1 : Nat) : Int) - pc (up B 1318 (fun i => if i = (c : Int).toNat then -1 else B 1318 i) 1318) (c + 1))) (l := (rF (up s 32 ((c : Int) - pc (B 1318) c))).set 32 (vi ((c : Int) - pc (B 1318) c + 1))) (by
            rw [rF_32, up_up, pe]
            congr 2
            omega)
          have := ih (c + 1) (up B 1318 (fun i => if i = (c : Int).toNat then -1 else B 1318 i)) N _ (vi (k : Int)) t6 t7 t8 t9 t10 t11 (by omega) v2 (FR_trans (fr1 _) (FR_fld (w1 (-1)) _)) (sm_up m _ rfl) (by rw [up_ne _ _ (by decide), g]) (by
            rw [up_at]
            exact rr_free a (bw (-1)) (setc (-1)) (fun n hn hp' => z n hp' (by omega)))
          rw [pe] at this
          exact this
        · have kH' : k < H := by omega
          have n0 := nz kH'
          refine k417_49 v.1 (fun _ => k417_65 ?_) (fun w => absurd (Decidable.byContradiction w) (by omega)) (c7 := by unfold In3; omega) (c8 := by unfold In3; omega)
          refine k417_66 (Ra_row v) (fun _ => ?_) (fun w => absurd (Decidable.byContradiction w) (by omega)) (c4 := by rw [mk_len]; omega) (c5 := by omega) (c6 := by unfold In3; omega) (c8 := by unfold In3; omega) (c9 := by unfold In3; omega)
          rw [mk_set]
          have v1 := w1 (pc (B 1318) c : Int)
          have g1 : up B 1318 (fun i => if i = (c : Int).toNat then (pc (B 1318) c : Int) else B 1318 i) 1317 = fl N := by rw [up_ne _ _ (by decide), g]
          have e1 := gi_fl g1 (n := k) (i := c) (by omega) (by omega) (x := 48 * (k : Int) + c) rfl
          have bz := (N k c).isLt
          refine k417_86 v1.1 (Ra_table v1) (wm_mono (wq_r ?_) (t_inverse (by rw [e1]; exact in6_of (by omega) (by omega)))) (c10 := by rw [mk_len]; omega) (c11 := by omega) (c12 := by unfold In3; omega)
          rw [e1, nF_val]
          refine k417_102 ?_
          refine clr_swap (d := d + 3) (M := N) (k := k) (r := pc (B 1318) c) (b := N k c ^ 32001) (by omega) (by omega) v1 g1 (fun h2 t7' t9' t10' t11' v2 r2 => ?_) 48 0 _ _ _ _ _ _ rfl v1 (FR_refl _) (fun _ _ => rfl) (by rw [g1]; exact fl_congr (fun _ _ _ => rfl))
          refine k417_181 ?_
          refine clr_rows (d := d + 2) (M := op1 N k (pc (B 1318) c) (N k c ^ 32001)) (H := H) (r := pc (B 1318) c) (c := c) hH (by omega) (by omega) v2 (up_at _ _ _) (fun h3 t7' t9' t10' t11' v3 r3 => ?_) H 0 _ _ _ _ _ _ (by omega) v2 (FR_refl _) (fun _ _ => rfl) (by rw [up_at]; exact fl_congr (fun _ _ _ => rfl))
          refine k417_289 (k417_292 ?_)
          have pe : pc (up (up (up B 1318 (fun i => if i = (c : Int).toNat then (pc (B 1318) c : Int) else B 1318 i)) 1317 (fl (op1 N k (pc (B 1318) c) (N k c ^ 32001)))) 1317 (fl (op2 (op1 N k (pc (B 1318) c) (N k c ^ 32001)) H (pc (B 1318) c) c)) 1318) (c + 1) = pc (B 1318) c + 1 := by
            rw [up_ne _ _ (by decide), up_ne _ _ (by decide), up_at]
            show pc (fun i => if i = (c : Int).toNat then (pc (B 1318) c : Int) else B 1318 i) c + (if (fun i => if i = (c : Int).toNat then (pc (B 1318) c : Int) else B 1318 i) c = -1 then 0 else 1) = _
            rw [setc, if_neg (by omega), pc_congr (bw _)]
          have := ih (c + 1) (up (up (up B 1318 (fun i => if i = (c : Int).toNat then (pc (B 1318) c : Int) else B 1318 i)) 1317 (fl (op1 N k (pc (B 1318) c) (N k c ^ 32001)))) 1317 (fl (op2 (op1 N k (pc (B 1318) c) (N k c ^ 32001)) H (pc (B 1318) c) c))) _ h3 (vi (k : Int)) (vl ((N k c ^ 32001 : zp_F).val : Int)) t7' (vi (H : Int)) t9' t10' t11' (by omega) (by
            rw [pe]
            rw [show ((c + 1 : Nat) : Int) - ((pc (B 1318) c + 1 : Nat) : Int) = (c : Int) - pc (B 1318) c by omega]
            exact v3) (FR_trans (fr1 _) (FR_trans r2 r3)) (sm_up (sm_up (sm_up m _ rfl) _ rfl) _ rfl) (up_at _ _ _) (by
            rw [up_ne _ _ (by decide), up_ne _ _ (by decide), up_at]
            exact rr_piv a (bw _) rfl (setc _) kH' rk n0)
          rw [pe] at this
          exact this
      · exfalso
        -- the rows that are there bound the columns that have one
        have lt : ∀ j, j ≤ c → pc (B 1318) j ≤ H := by
          intro j
          induction j with
          | zero => intro _; exact Nat.zero_le _
          | succ j ihj =>
            intro hj
            rcases a.2 j (by omega) with ⟨x1, _⟩ | ⟨x1, x2, _⟩
            · show pc (B 1318) j + (if B 1318 j = -1 then 0 else 1) ≤ H
              rw [if_pos x1]; exact ihj (by omega)
            · show pc (B 1318) j + (if B 1318 j = -1 then 0 else 1) ≤ H
              split <;> omega
        exact hrH (lt c (Nat.le_refl _))
  exact outer w 0 A M _ _ _ _ _ _ _ _ (by omega) v0 (FR_fld hv _) sm_refl hM (rr_0 M H _)
end
