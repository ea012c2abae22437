/-! the reference's parts and factors, one by one: loadPart, loadFactor, push, isGone -/
/-- the polynomial at place k of a row of 42 each -/
def pt (A : Nat → Nat → Int) (c k : Nat) : Nat → Int := fun i => if i ≤ 41 then A c (42 * k + i) else 0
theorem pt_deg {A : Nat → Nat → Int} {c k : Nat} {f : zp_R} (e : pt A c k = cf f) : zp_deg f 42 := fun i hi2 => cf_0 (by rw [← e]; exact if_neg (by omega))
section
variable {d : Nat} {h : s_H} {s : Nat → Int} {A : Nat → Nat → Int}
theorem V_loadPart (hv : RV h s A) {k : Nat} (hk : k < 41) : wm sw_P (d + 2) 511 [.index 1290, vi (k : Int)] h (RQ h s (up A 1312 (pt A 1319 k))) := by
  refine wm_in (cd := sw_c511) (nL := 3) (hd := sw_h511) rfl rfl ?_
  refine k511_0 hv.1 (wm_mono (wq_Q (fun h1 v1 r1 => ?_)) (V_empty hv (c := 1312) rfl))
  have loop : ∀ (l i : Nat) (B : Nat → Nat → Int) (h' : s_H), i + l = 42 → RV h' s B → FR h h' → (∀ x, x ≠ 1312 → B x = A x) → (∀ x, x < 176 → B 1312 x = if x < i then pt A 1319 k x else 0) → wr sw_P (d + 1) sw_c511 sw_h511 (9, [.index 1290, vi (k : Int), vi (i : Int)], [], h', 0, 0) (RQ h s (up A 1312 (pt A 1319 k))) := by
    intro l
    induction l with
    | zero =>
      intro i B h' hi2 v rr o g
      refine k511_9 (fun _ => k511_38 ?_) (fun z => absurd (by omega) z) (c1 := by unfold In3; omega)
      have v3 := RV_c v (c := 1312) rfl (g := pt A 1319 k) (fun x hx => by
        rw [g x hx]
        by_cases h6 : x < i
        · rw [if_pos h6]
        · rw [if_neg h6]
          exact (if_neg (by omega)).symm)
      have e : up B 1312 (pt A 1319 k) = up A 1312 (pt A 1319 k) := by
        funext x
        by_cases hx : x = 1312
        · rw [hx, up_at, up_at]
        · rw [up_ne _ _ hx, up_ne _ _ hx, o x hx]
      rw [e] at v3
      exact ⟨h', s, _, v3, rr, ⟨rfl, rfl⟩, rfl⟩
    | succ l ih =>
      intro i B h' hi2 v rr o g
      have g1 : gi (mk 1722 (B 1319)) (42 * (k : Int) + (i : Int)) = pt A 1319 k i := by
        rw [show (42 * (k : Int) + (i : Int)) = ((42 * k + i : Nat) : Int) by omega, gi_mkn (by omega), o 1319 (by decide)]
        exact (if_pos (by omega)).symm
      refine k511_9 (fun z => absurd z (by omega)) (fun _ => ?_) (c1 := by unfold In3; omega)
      refine k511_15 v.1 (Ra_partAt v) (Ra_w v) ?_ (c12 := by rw [mk_len]; omega) (c13 := by omega) (c14 := by unfold In3; omega) (c18 := by rw [mk_len]; omega) (c19 := by omega) (c20 := by unfold In3; omega)
      rw [g1, mk_set, Int.toNat_natCast]
      refine ih (i + 1) _ _ (by omega) (RV_w v (c := 1312) rfl _) (FR_trans rr (FR_w v (c := 1312) rfl _)) (fun x hx => by rw [up_ne _ _ hx]; exact o x hx) (fun x hx => ?_)
      rw [up_at]
      show (if x = i then _ else _) = _
      by_cases q5 : x = i
      · rw [if_pos q5, if_pos (by omega), q5]
      · rw [if_neg q5, g x hx]
        by_cases q6 : x < i
        · rw [if_pos q6, if_pos (by omega)]
        · rw [if_neg q6, if_neg (by omega)]
  exact k511_7 (loop 42 0 _ _ rfl v1 r1 (fun x hx => up_ne _ _ hx) (fun x hx => by
    rw [up_at, if_neg (by omega)]
    unfold cf
    rw [zp_C00]; rfl))
theorem V_loadFactor (hv : RV h s A) {p : Nat} (hp : P9 p = true) {k : Nat} (hk : k < 41) : wm sw_P (d + 2) 509 [.index 1290, .index p, vi (k : Int)] h (RQ h s (up A p (pt A 1315 k))) := by
  refine wm_in (cd := sw_c509) (nL := 4) (hd := sw_h509) rfl rfl ?_
  have p0 := P9_i hp
  have p6 : (1315 : Nat) ≠ p := P9_ne hp rfl
  refine k509_0 (wm_mono (wq_Q (fun h1 v1 r1 => ?_)) (V_empty hv hp))
  have loop : ∀ (l i : Nat) (B : Nat → Nat → Int) (h' : s_H), i + l = 42 → RV h' s B → FR h h' → (∀ x, x ≠ p → B x = A x) → (∀ x, x < 176 → B p x = if x < i then pt A 1315 k x else 0) → wr sw_P (d + 1) sw_c509 sw_h509 (6, [.index 1290, .index p, vi (k : Int), vi (i : Int)], [], h', 0, 0) (RQ h s (up A p (pt A 1315 k))) := by
    intro l
    induction l with
    | zero =>
      intro i B h' hi2 v rr o g
      refine k509_6 (fun _ => k509_32 ?_) (fun z => absurd (by omega) z) (c1 := by unfold In3; omega)
      have v3 := RV_c v hp (g := pt A 1315 k) (fun x hx => by
        rw [g x hx]
        by_cases h6 : x < i
        · rw [if_pos h6]
        · rw [if_neg h6]
          exact (if_neg (by omega)).symm)
      have e : up B p (pt A 1315 k) = up A p (pt A 1315 k) := by
        funext x
        by_cases hx : x = p
        · rw [hx, up_at, up_at]
        · rw [up_ne _ _ hx, up_ne _ _ hx, o x hx]
      rw [e] at v3
      exact ⟨h', s, _, v3, rr, ⟨rfl, rfl⟩, rfl⟩
    | succ l ih =>
      intro i B h' hi2 v rr o g
      have g1 : gi (mk 1722 (B 1315)) (42 * (k : Int) + (i : Int)) = pt A 1315 k i := by
        rw [show (42 * (k : Int) + (i : Int)) = ((42 * k + i : Nat) : Int) by omega, gi_mkn (by omega), o 1315 p6]
        exact (if_pos (by omega)).symm
      refine k509_6 (fun z => absurd z (by omega)) (fun _ => ?_) (c1 := by unfold In3; omega)
      refine k509_12 v.1 (Ra_factorAt v) (RV_l v hp) ?_ (c11 := by rw [mk_len]; omega) (c12 := by omega) (c13 := by unfold In3; omega) (c17 := by rw [mk_len]; omega) (c18 := by omega) (c19 := by unfold In3; omega)
      rw [g1, mk_set, Int.toNat_natCast]
      refine ih (i + 1) _ _ (by omega) (RV_w v hp _) (FR_trans rr (FR_w v hp _)) (fun x hx => by rw [up_ne _ _ hx]; exact o x hx) (fun x hx => ?_)
      rw [up_at]
      show (if x = i then _ else _) = _
      by_cases q5 : x = i
      · rw [if_pos q5, if_pos (by omega), q5]
      · rw [if_neg q5, g x hx]
        by_cases q6 : x < i
        · rw [if_pos q6, if_pos (by omega)]
        · rw [if_neg q6, if_neg (by omega)]
  exact k509_4 (loop 42 0 _ _ rfl v1 r1 (fun x hx => up_ne _ _ hx) (fun x hx => by
    rw [up_at, if_neg (by omega)]
    unfold cf
    rw [zp_C00]; rfl))
theorem V_push (hv : RV h s A) {p n : Nat} (hp : P9 p = true) (hn : s 33 = n) (n41 : n < 41) {f : zp_R} (hf : A p = cf f) (df : zp_deg f 42) : wm sw_P (d + 1) 565 [.index 1290, .index p] h (RN h (fun s' A' => s' = up s 33 ((n : Int) + 1) ∧ (∀ x, x ≠ 1319 → A' x = A x) ∧ pt A' 1319 n = cf f ∧ ∀ k, k ≠ n → pt A' 1319 k = pt A 1319 k)) := by
  refine wm_in (cd := sw_c565) (nL := 3) (hd := sw_h565) rfl rfl ?_
  have p6 : p ≠ (1319 : Nat) := Ne.symm (P9_ne hp rfl)
  have loop : ∀ (l i : Nat) (B : Nat → Nat → Int) (h' : s_H), i + l = 42 → RV h' s B → FR h h' → (∀ x, x ≠ 1319 → B x = A x) → (∀ t, B 1319 t = if 42 * n ≤ t ∧ t < 42 * n + i then cf f (t - 42 * n) else A 1319 t) → wr sw_P d sw_c565 sw_h565 (2, [.index 1290, .index p, vi (i : Int)], [], h', 0, 0) (RN h (fun s' A' => s' = up s 33 ((n : Int) + 1) ∧ (∀ x, x ≠ 1319 → A' x = A x) ∧ pt A' 1319 n = cf f ∧ ∀ k, k ≠ n → pt A' 1319 k = pt A 1319 k)) := by
    intro l
    induction l with
    | zero =>
      intro i B h' hi2 v rr o g
      have e42 : i = 42 := by omega
      subst e42
      have v2 := RV_fld v (up s 33 ((n : Int) + 1)) (rF_33 s ((n : Int) + 1))
      refine k565_2 (fun _ => ?_) (fun z => absurd (by omega) z) (c1 := by decide)
      have hg := k565_31 (P := sw_P) (d := d) (Q := RN h (fun s' A' => s' = up s 33 ((n : Int) + 1) ∧ (∀ x, x ≠ 1319 → A' x = A x) ∧ pt A' 1319 n = cf f ∧ ∀ k, k ≠ n → pt A' 1319 k = pt A 1319 k)) (h := h') (kc := 0) (ks := 0) (r0 := .index 1290) (r1 := .index p) (x2 := ((42 : Nat) : Int)) (z5 := s 33) v.1
      rw [hn] at hg
      refine hg ⟨_, _, B, v2, FR_trans rr (FR_fld v _), ⟨rfl, o, ?_, fun k hk => ?_⟩, rfl⟩
      · funext x
        unfold pt
        by_cases q : x ≤ 41
        · rw [if_pos q, g, if_pos (by omega), show 42 * n + x - 42 * n = x by omega]
        · rw [if_neg q]
          unfold cf
          rw [df x (by omega)]; rfl
      · funext x
        unfold pt
        by_cases q : x ≤ 41
        · rw [if_pos q, if_pos q, g, if_neg (by omega)]
        · rw [if_neg q, if_neg q]
    | succ l ih =>
      intro i B h' hi2 v rr o g
      have g1 : gi (mk 176 (B p)) (i : Int) = cf f i := by rw [o p p6, hf]; exact gi_mkn (by omega)
      refine k565_2 (fun z => absurd z (by omega)) (fun _ => ?_) (c1 := by unfold In3; omega)
      refine k565_8 (z7 := s 33) v.1 (RV_l v hp) (Ra_partAt v) ?_ (c13 := by rw [mk_len]; omega) (c14 := by omega) (c15 := by unfold In3; omega) (c19 := by rw [mk_len, hn]; omega) (c20 := by rw [hn]; omega) (c21 := by rw [hn]; unfold In3; omega)
      rw [g1, mk_set, hn, show (42 * (n : Int) + (i : Int)).toNat = 42 * n + i by omega]
      refine ih (i + 1) _ _ (by omega) (Rp_partAt v _) (FR_trans rr (FR_put v (c := 1319) (by decide) (by decide) _)) (fun x hx => by rw [up_ne _ _ hx]; exact o x hx) (fun t => ?_)
      rw [up_at]
      show (if t = 42 * n + i then _ else _) = _
      by_cases q : t = 42 * n + i
      · rw [if_pos q, if_pos (by omega), show t - 42 * n = i by omega]
      · rw [if_neg q, g]
        by_cases q2 : 42 * n ≤ t ∧ t < 42 * n + i
        · rw [if_pos q2, if_pos (by omega)]
        · rw [if_neg q2, if_neg (by omega)]
  exact k565_0 (loop 42 0 A h rfl hv (FR_refl h) (fun _ _ => rfl) (fun t => by rw [if_neg (by omega)]))
theorem V_isGone (hv : RV h s A) {k : Nat} (hk : k < 41) {f : zp_R} (hf : pt A 1319 k = cf f) : wm sw_P (d + 1) 478 [.index 1290, vi (k : Int)] h (fun out => ∃ z : Int, ((z = 1 ∧ f = zp_C 0) ∨ (z = 0 ∧ f ≠ zp_C 0)) ∧ qr (vi z) h out) := by
  refine wm_in (cd := sw_c478) (nL := 3) (hd := sw_h478) rfl rfl ?_
  have df := pt_deg hf
  have loop : ∀ (l i : Nat), i + l = 42 → (∀ j, j < i → f.1 j = 0) → wr sw_P d sw_c478 sw_h478 (2, [.index 1290, vi (k : Int), vi (i : Int)], [], h, 0, 0) (fun out => ∃ z : Int, ((z = 1 ∧ f = zp_C 0) ∨ (z = 0 ∧ f ≠ zp_C 0)) ∧ qr (vi z) h out) := by
    intro l
    induction l with
    | zero =>
      intro i hi2 g
      refine k478_2 (fun _ => k478_32 ⟨1, .inl ⟨rfl, zp_zero_of (fun j _ => ?_)⟩, rfl⟩) (fun z => absurd (by omega) z) (c1 := by unfold In3; omega)
      by_cases q : j < 42
      · exact g j (by omega)
      · exact df j (by omega)
    | succ l ih =>
      intro i hi2 g
      have g1 : gi (mk 1722 (A 1319)) (42 * (k : Int) + (i : Int)) = cf f i := by
        rw [show (42 * (k : Int) + (i : Int)) = ((42 * k + i : Nat) : Int) by omega, gi_mkn (by omega), ← hf]
        exact (if_pos (by omega)).symm
      have bz := cf_b f i
      refine k478_2 (fun z => absurd z (by omega)) (fun _ => ?_) (c1 := by unfold In3; omega)
      refine k478_8 hv.1 (Ra_partAt hv) (fun w => k478_26 (ih (i + 1) (by omega) (fun j hj => ?_))) (fun w => k478_24 ⟨0, .inr ⟨rfl, fun e => w ?_⟩, rfl⟩) (c10 := by rw [mk_len]; omega) (c11 := by omega) (c12 := by unfold In3; omega) (c13 := by rw [g1]; exact in6_of (by omega) (by omega))
      · rw [g1] at w
        by_cases q : j = i
        · rw [q]; exact cf_0 w
        · exact g j (by omega)
      · rw [g1, e]
        unfold cf
        rw [zp_C00]; rfl
  exact k478_0 (loop 42 0 rfl (fun j hj => absurd hj (by omega)))
end
