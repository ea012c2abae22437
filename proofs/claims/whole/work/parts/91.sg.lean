/-! THE COMMON PICTURE: a store of things; the reference's rows tied to it -/
abbrev th : Type := Sum (zp_R × zp_R) (Sum zp_R (Sum (Nat × Nat × (Nat → Nat → zp_R)) (Nat × (Nat → Int) × (Nat → Int))))
abbrev th_fr (N D : zp_R) : th := .inl (N, D)
abbrev th_se (f : zp_R) : th := .inr (.inl f)
abbrev th_ma (r c : Nat) (M : Nat → Nat → zp_R) : th := .inr (.inr (.inl (r, c, M)))
abbrev th_fo (n : Nat) (so va : Nat → Int) : th := .inr (.inr (.inr (n, so, va)))
def co (N D : zp_R) : Prop := ∃ u v, zp_add (zp_mul u N) (zp_mul v D) = zp_C 1
/-- how many parts a node of a sort has -/
def npa (k : Int) : Int := if k = 6 ∨ k = 7 then 1 else if k < 2 then 0 else 2
/-- how many pieces are still wanted behind so many nodes of a row that tells a tree, the whole first -/
def nwd (so : Nat → Int) : Nat → Int
  | 0 => 1
  | k + 1 => nwd so k + npa (so k) - 1
/-- a row of n nodes that is a tree -/
def tro (n : Nat) (so va : Nat → Int) : Prop := (∀ k, k < n → (0 ≤ so k ∧ so k ≤ 7) ∧ (0 ≤ va k ∧ va k < 32003) ∧ (so k = 7 → va k ≤ 99)) ∧ (∀ k, k < n → 0 < nwd so k) ∧ nwd so n = 0
/-- thing i of the reference is t -/
def isT (A : Nat → Nat → Int) (i : Nat) : th → Prop
  | .inl (N, D) => A 1291 i = 0 ∧ fp A 1292 i = cf N ∧ fp A 1293 i = cf D ∧ mo D ∧ co N D
  | .inr (.inl f) => A 1291 i = 1 ∧ fp A 1292 i = cf f ∧ fp A 1293 i = cf (zp_C 0) ∧ zp_deg f 25
  | .inr (.inr (.inl (r, c, M))) => A 1291 i = 2 ∧ (1 ≤ r ∧ r ≤ 4) ∧ (1 ≤ c ∧ c ≤ 4) ∧ mat A i r c M
  | .inr (.inr (.inr (n, so, va))) => A 1291 i = 3 ∧ ((1 ≤ n ∧ n ≤ 200) ∧ tro n so va) ∧ A 1349 i = n ∧ ∀ k, k < n → A 1350 (200 * i + k) = so k ∧ A 1351 (200 * i + k) = va k
theorem isT_same {A B : Nat → Nat → Int} {i : Nat} {t : th} (h : isT A i t) (e0 : B 1291 i = A 1291 i) (e1 : fp B 1292 i = fp A 1292 i) (e2 : fp B 1293 i = fp A 1293 i) (e3 : B 1294 i = A 1294 i) (e4 : B 1295 i = A 1295 i) (e5 : ∀ a b, a < 4 → b < 4 → me B i a b = me A i a b) (e6 : B 1349 = A 1349) (e7 : B 1350 = A 1350) (e8 : B 1351 = A 1351) : isT B i t := by
  rcases t with ⟨N, D⟩ | f | ⟨r, c, M⟩ | ⟨n, so, va⟩
  · obtain ⟨h1, h2, h3, h4⟩ := h
    exact ⟨e0.trans h1, e1.trans h2, e2.trans h3, h4⟩
  · obtain ⟨h1, h2, h3, h4⟩ := h
    exact ⟨e0.trans h1, e1.trans h2, e2.trans h3, h4⟩
  · obtain ⟨h1, h2, h3, h4, h5, h6⟩ := h
    exact ⟨e0.trans h1, h2, h3, e3.trans h4, e4.trans h5, fun a b ha hb => (e5 a b (by omega) (by omega)).trans (h6 a b ha hb)⟩
  · obtain ⟨h1, h2, h3, h4⟩ := h
    exact ⟨e0.trans h1, h2, (congrFun e6 i).trans h3, fun k hk => by rw [e7, e8]; exact h4 k hk⟩
/-- rows that no thing speaks of: the polynomials that are worked with -/
def scr : List Nat := [1298, 1299, 1300, 1301, 1302, 1303, 1304, 1305, 1306, 1307, 1308, 1309, 1310, 1311, 1312]
def sto : List Nat := [1291, 1292, 1293, 1294, 1295, 1296, 1349, 1350, 1351]
def RI (s : Nat → Int) (A : Nat → Nat → Int) (T : Nat → th) : Prop := RB s A ∧ (∀ t, t < 26400 → 0 ≤ A 1296 t ∧ A 1296 t < 32003) ∧ ∀ i : Nat, (i : Int) < s 1 → isT A i (T i)
theorem RI_sc {s s' : Nat → Int} {A B : Nat → Nat → Int} {T : Nat → th} (h : RI s A T) (m : sm A B scr) (es : s' 1 = s 1) : RI s' B T := by
  have a0 : B 1291 = A 1291 := m 1291 rfl
  have a1 : B 1292 = A 1292 := m 1292 rfl
  have a2 : B 1293 = A 1293 := m 1293 rfl
  have a3 : B 1294 = A 1294 := m 1294 rfl
  have a4 : B 1295 = A 1295 := m 1295 rfl
  have a5 : B 1296 = A 1296 := m 1296 rfl
  refine ⟨?_, by rw [a5]; exact h.2.1, fun i hi2 => ?_⟩
  · unfold RB
    rw [es, a0, a1, a2]
    exact h.1
  · rw [es] at hi2
    exact isT_same (h.2.2 i hi2) (by rw [a0]) (by unfold fp; rw [a1]) (by unfold fp; rw [a2]) (by rw [a3]) (by rw [a4]) (fun _ _ _ _ => by unfold me; rw [a5]) (m 1349 rfl) (m 1350 rfl) (m 1351 rfl)
theorem fp_wrow {A B : Nat → Nat → Int} {c m i : Nat} {n : Nat → Int} (e : B c = wrow (A c) m n) : fp B c i = if i = m then (fun k => if k ≤ 40 then n k else 0) else fp A c i := by
  unfold fp
  rw [e]
  funext k
  by_cases hi2 : i = m
  · rw [if_pos hi2]
    subst hi2
    by_cases hk : k ≤ 40
    · rw [if_pos hk, if_pos hk]
      unfold wrow
      rw [if_pos (by omega), show 41 * i + k - 41 * i = k by omega]
    · rw [if_neg hk, if_neg hk]
  · rw [if_neg hi2]
    by_cases hk : k ≤ 40
    · rw [if_pos hk, if_pos hk]
      unfold wrow
      rw [if_neg (by omega)]
    · rw [if_neg hk, if_neg hk]
theorem row_cf {f : zp_R} (hd : zp_deg f 41) : (fun k => if k ≤ 40 then cf f k else 0) = cf f := by
  funext k
  by_cases hk : k ≤ 40
  · rw [if_pos hk]
  · rw [if_neg hk]
    unfold cf
    rw [hd k (by omega)]; rfl
theorem wrow_b {g n : Nat → Int} {m : Nat} (hg : ∀ i, i < 6150 → 0 ≤ g i ∧ g i < 32003) (hn : ∀ k, k ≤ 40 → 0 ≤ n k ∧ n k < 32003) (i : Nat) (hi2 : i < 6150) : 0 ≤ wrow g m n i ∧ wrow g m n i < 32003 := by
  unfold wrow
  split
  · exact hn _ (by omega)
  · exact hg i hi2
/-- what kept does to the picture, whichever the thing -/
theorem RI_kept {s s' : Nat → Int} {A : Nat → Nat → Int} {T : Nat → th} {m : Nat} {k : Int} {n e : Nat → Int} {t : th} (h : RI s A T) (em : s 1 = m) (hm : m < 150) (es : s' 1 = s 1 + 1) (hk : 0 ≤ k ∧ k ≤ 3) (hn : ∀ k, k ≤ 40 → 0 ≤ n k ∧ n k < 32003) (he : ∀ k, k ≤ 40 → 0 ≤ e k ∧ e k < 32003) (ht : ∀ B : Nat → Nat → Int, B 1291 m = k → fp B 1292 m = (fun k => if k ≤ 40 then n k else 0) → fp B 1293 m = (fun k => if k ≤ 40 then e k else 0) → isT B m t) : RI s' (kept A m k n e) (up T m t) := by
  have a0 : kept A m k n e 1291 = fun i => if i = m then k else A 1291 i := by unfold kept; rw [up_ne _ _ (by decide), up_ne _ _ (by decide), up_at]
  have a1 : kept A m k n e 1292 = wrow (A 1292) m n := by unfold kept; rw [up_ne _ _ (by decide), up_at]
  have a2 : kept A m k n e 1293 = wrow (A 1293) m e := by unfold kept; rw [up_at]
  have o : ∀ j, j ≠ 1291 → j ≠ 1292 → j ≠ 1293 → kept A m k n e j = A j := fun j h1 h2 h3 => by unfold kept; rw [up_ne _ _ h3, up_ne _ _ h2, up_ne _ _ h1]
  obtain ⟨⟨b0, b1, b2, b3⟩, b4, b5⟩ := h
  refine ⟨⟨by omega, fun i hi2 => ?_, ?_, ?_⟩, ?_, fun i hi2 => ?_⟩
  · rw [a0]
    show 0 ≤ (if i = m then k else A 1291 i) ∧ (if i = m then k else A 1291 i) ≤ 3
    split
    · exact hk
    · exact b1 i hi2
  · rw [a1]; exact wrow_b b2 hn
  · rw [a2]; exact wrow_b b3 he
  · rw [o 1296 (by decide) (by decide) (by decide)]; exact b4
  · by_cases q : i = m
    · subst q
      rw [up_at]
      exact ht _ (by rw [a0]; exact if_pos rfl) (by rw [fp_wrow a1, if_pos rfl]) (by rw [fp_wrow a2, if_pos rfl])
    · rw [up_ne _ _ q]
      exact isT_same (b5 i (by omega)) (by rw [a0]; exact if_neg q) (by rw [fp_wrow a1, if_neg q]) (by rw [fp_wrow a2, if_neg q]) (by rw [o 1294 (by decide) (by decide) (by decide)]) (by rw [o 1295 (by decide) (by decide) (by decide)]) (fun _ _ _ _ => by unfold me; rw [o 1296 (by decide) (by decide) (by decide)]) (o 1349 (by decide) (by decide) (by decide)) (o 1350 (by decide) (by decide) (by decide)) (o 1351 (by decide) (by decide) (by decide))
theorem kept_sm {A B : Nat → Nat → Int} {m : Nat} {k : Int} {n e : Nat → Int} {L : List Nat} (a : sm A B L) (h1 : L.contains 1291 = true) (h2 : L.contains 1292 = true) (h3 : L.contains 1293 = true) : sm A (kept B m k n e) L := sm_up (sm_up (sm_up a _ h1) _ h2) _ h3
/-- a call's end told by the picture: a thing more, or a code and nothing more -/
def ends (s : Nat → Int) (A : Nat → Nat → Int) (T : Nat → th) (res : Sum th Int) : Term → (Nat → Int) → (Nat → Nat → Int) → Prop := fun v s' A' => sm A A' (sto ++ scr) ∧ match res with
  | .inl t => v = vi (s 1) ∧ s' = up (up s 0 0) 1 (s 1 + 1) ∧ RI s' A' (up T (s 1).toNat t)
  | .inr k => v = vi 0 ∧ s' = up s 0 k ∧ RI s' A' T
theorem up2 {s : Nat → Int} (a b : Int) : up (up s 0 a) 0 b = up s 0 b := by
  funext j
  by_cases hj : j = 0
  · rw [hj, up_at, up_at]
  · rw [up_ne _ _ hj, up_ne _ _ hj, up_ne _ _ hj]
/-- keep's end in the picture -/
theorem ends_kQ {s : Nat → Int} {A B : Nat → Nat → Int} {T : Nat → th} {bad : Int} {N D : zp_R} (c0 : Int) (h : RI s A T) (m : sm A B scr) (hN : zp_deg N 176) (hD : zp_deg D 176) (mD : mo D) (hc : co N D) {v : Term} {s' : Nat → Int} {A' : Nat → Nat → Int} (φ : kQ (up s 0 c0) B bad N D v s' A') : ∃ res, (full s N D → res = .inr bad) ∧ (¬ full s N D → res = .inl (th_fr N D)) ∧ ends s A T res v s' A' := by
  have h2 := RI_sc (s' := up s 0 c0) h m rfl
  by_cases q : full s N D
  · refine ⟨.inr bad, fun _ => rfl, fun w => absurd q w, ?_⟩
    obtain ⟨e1, e2, e3⟩ := φ.1 q
    rw [e1, e2, e3, up2]
    exact ⟨sm_sub m rfl, rfl, rfl, RI_sc h m rfl⟩
  · refine ⟨.inl (th_fr N D), fun w => absurd w q, fun _ => rfl, ?_⟩
    obtain ⟨e1, e2, e3⟩ := φ.2 q
    obtain ⟨k, ek⟩ : ∃ k : Nat, s 1 = k := ⟨(s 1).toNat, by have := h.1.1; omega⟩
    have e4 : up (up (up s 0 c0) 0 0) 1 (up s 0 c0 1 + 1) = up (up s 0 0) 1 (s 1 + 1) := by rw [up2]; rfl
    rw [e4] at e2
    have e5 : up s 0 c0 1 = s 1 := rfl
    rw [e5] at e1 e3
    have q' : ¬ (s 1 = 150 ∨ 40 < hi N ∨ 40 < hi D) := q
    have dN : zp_deg N 41 := fun x hx => hi_deg hN x (by omega)
    have dD : zp_deg D 41 := fun x hx => hi_deg hD x (by omega)
    have b0 := h.1.1
    rw [e1, e2, e3, show (s 1).toNat = k by omega]
    refine ⟨kept_sm (sm_sub m rfl) rfl rfl rfl, rfl, rfl, ?_⟩
    rw [show (s 1).toNat = k by omega]
    refine RI_kept (s := s) (s' := up (up s 0 0) 1 (s 1 + 1)) (A := B) (T := T) (m := k) (k := 0) (n := cf N) (e := cf D) (t := th_fr N D) (RI_sc h m rfl) ek (by omega) rfl (by decide) (fun x _ => cf_b N x) (fun x _ => cf_b D x) (fun C c1 c2 c3 => ?_)
    rw [row_cf dN] at c2
    rw [row_cf dD] at c3
    exact ⟨c1, c2, c3, mD, hc⟩
theorem ends_ksQ {s : Nat → Int} {A B : Nat → Nat → Int} {T : Nat → th} {bad : Int} {f g : zp_R} (c0 : Int) (h : RI s A T) (m : sm A B scr) (hg : zp_deg g 25) (hfg : c25 f = cf g) {v : Term} {s' : Nat → Int} {A' : Nat → Nat → Int} (φ : ksQ (up s 0 c0) B bad f v s' A') : ∃ res, (s 1 = 150 → res = .inr bad) ∧ (s 1 ≠ 150 → res = .inl (th_se g)) ∧ ends s A T res v s' A' := by
  have h2 := RI_sc (s' := up s 0 c0) h m rfl
  by_cases q : s 1 = 150
  · refine ⟨.inr bad, fun _ => rfl, fun w => absurd q w, ?_⟩
    obtain ⟨e1, e2, e3⟩ := φ.1 q
    rw [e1, e2, e3, up2]
    exact ⟨sm_sub m rfl, rfl, rfl, RI_sc h m rfl⟩
  · refine ⟨.inl (th_se g), fun w => absurd w q, fun _ => rfl, ?_⟩
    obtain ⟨e1, e2, e3⟩ := φ.2 q
    obtain ⟨k, ek⟩ : ∃ k : Nat, s 1 = k := ⟨(s 1).toNat, by have := h.1.1; omega⟩
    have e4 : up (up (up s 0 c0) 0 0) 1 (up s 0 c0 1 + 1) = up (up s 0 0) 1 (s 1 + 1) := by rw [up2]; rfl
    rw [e4] at e2
    have e5 : up s 0 c0 1 = s 1 := rfl
    rw [e5] at e1 e3
    have b0 := h.1.1
    rw [e1, e2, e3, hfg, show (s 1).toNat = k by omega]
    refine ⟨kept_sm (sm_sub m rfl) rfl rfl rfl, rfl, rfl, ?_⟩
    rw [show (s 1).toNat = k by omega]
    refine RI_kept (s := s) (s' := up (up s 0 0) 1 (s 1 + 1)) (A := B) (T := T) (m := k) (k := 1) (n := cf g) (e := fun _ => 0) (t := th_se g) (RI_sc h m rfl) ek (by omega) rfl (by decide) (fun x _ => cf_b g x) (fun x _ => by decide) (fun C c1 c2 c3 => ?_)
    rw [row_cf (deg_le hg (by decide))] at c2
    refine ⟨c1, c2, ?_, hg⟩
    rw [c3]
    funext x
    unfold cf
    rw [zp_C00]
    split <;> rfl
