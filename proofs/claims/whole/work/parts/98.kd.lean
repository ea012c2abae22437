/-! THE CLASS'S PICTURE: what is kept. Kept things lie from 1376 on and never change; the polynomial 1 lies at 1276 -/
/-- nothing old has changed but where P says -/
def CF (P : Nat → Prop) (h h' : s_H) : Prop := h.1 ≤ h'.1 ∧ ∀ j, ¬ P j → (j < h.1 ∨ h'.1 ≤ j) → s_get h' j = s_get h j
theorem CF_refl (P : Nat → Prop) (h : s_H) : CF P h h := ⟨Nat.le_refl _, fun _ _ _ => rfl⟩
theorem CF_trans {P : Nat → Prop} {h h' h'' : s_H} (a : CF P h h') (b : CF P h' h'') : CF P h h'' := ⟨Nat.le_trans a.1 b.1, fun j p w => (b.2 j p (by have := a.1; have := b.1; omega)).trans (a.2 j p (by have := b.1; omega))⟩
theorem CF_sub {P P' : Nat → Prop} {h h' : s_H} (a : CF P h h') (s : ∀ j, P j → P' j) : CF P' h h' := ⟨a.1, fun j p w => a.2 j (fun q => p (s j q)) w⟩
theorem CF_FA {P : Nat → Prop} {S : List Nat} {k : Nat} {h h' : s_H} (a : FA S k h h') (s : ∀ p, p ∈ S → P p ∧ P (p + 1)) (p5 : ∀ j, 5 ≤ j → j < 39 → P j) : CF P h h' := ⟨Nat.le_of_eq a.1.symm, fun j p _ => a.2 j (fun q hq => ⟨fun e => p (by rw [e]; exact (s q hq).1), fun e => p (by rw [e]; exact (s q hq).2)⟩) (by
  by_cases w : 5 ≤ j ∧ j < 39
  · exact absurd (p5 j w.1 w.2) p
  · omega) (fun e => p (by rw [e]; exact p5 5 (by decide) (by decide)))⟩
theorem CF_FU {P : Nat → Prop} {S : List Nat} {h h' : s_H} (a : FU S h h') (s : ∀ p, p ∈ S → P p ∧ P (p + 1)) : CF P h h' := ⟨Nat.le_of_eq a.1.symm, fun j p _ => a.2 j (fun q hq => ⟨fun e => p (by rw [e]; exact (s q hq).1), fun e => p (by rw [e]; exact (s q hq).2)⟩)⟩
/-- room for m cells more -/
def RM (h : s_H) (m : Nat) : Prop := ∀ j, h.1 ≤ j → j < h.1 + m → ∃ c, s_get h j = some c
theorem RM_CF {P : Nat → Prop} {h h' : s_H} {m m' : Nat} (r : RM h m) (a : CF P h h') (hP : ∀ j, P j → j < 1376) (lo : 1376 ≤ h.1) (hm : h'.1 + m' ≤ h.1 + m) : RM h' m' := fun j j1 j2 => by
  rw [a.2 j (fun q => by have := hP j q; have := a.1; omega) (.inr j1)]
  exact r j (by have := a.1; omega) (by omega)
theorem RM_le {h : s_H} {m m' : Nat} (r : RM h m) (hm : m' ≤ m) : RM h m' := fun j j1 j2 => r j j1 (by omega)
/-- where a kept polynomial and a kept cell lie -/
def kp (h : s_H) (q : Nat) : Prop := q = 1276 ∨ (1376 ≤ q ∧ q + 1 < h.1)
def kt (h : s_H) (q : Nat) : Prop := 1376 ≤ q ∧ q < h.1
theorem PF_same {h h' : s_H} {q L : Nat} {f : zp_R} (H : PF h q L f) (e1 : s_get h' q = s_get h q) (e2 : s_get h' (q + 1) = s_get h (q + 1)) : PF h' q L f := by
  obtain ⟨d, g, ⟨p0, p1, p2⟩, b⟩ := H
  exact ⟨d, g, ⟨p0, e1.trans p1, e2.trans p2⟩, b⟩
theorem PE_same {h h' : s_H} {q L : Nat} (H : PE h q L) (e1 : s_get h' q = s_get h q) (e2 : s_get h' (q + 1) = s_get h (q + 1)) : PE h' q L := by
  obtain ⟨⟨d, g, ⟨p0, p1, p2⟩, b⟩, e⟩ := H
  exact ⟨⟨d, g, ⟨p0, e1.trans p1, e2.trans p2⟩, b⟩, e⟩
/-- what no call changes -/
def FX (P : Nat → Prop) : Prop := ∀ j, P j → j < 1376 ∧ j ≠ 1276 ∧ j ≠ 1277
theorem PF_kp {P : Nat → Prop} {h h' : s_H} {q L : Nat} {f : zp_R} (H : PF h q L f) (k : kp h q) (a : CF P h h') (x : FX P) (lo : 1376 ≤ h.1) : PF h' q L f := by
  refine PF_same H (a.2 q (fun p => ?_) (.inl ?_)) (a.2 (q + 1) (fun p => ?_) (.inl ?_))
  · have := x _ p
    rcases k with k | k <;> omega
  · rcases k with k | k <;> omega
  · have := x _ p
    rcases k with k | k <;> omega
  · rcases k with k | k <;> omega
theorem kp_le {h h' : s_H} {q : Nat} (k : kp h q) (a : h.1 ≤ h'.1) : kp h' q := by
  rcases k with k | k
  · exact .inl k
  · exact .inr ⟨k.1, by omega⟩
theorem kt_get {P : Nat → Prop} {h h' : s_H} {q : Nat} (k : kt h q) (a : CF P h h') (x : FX P) : s_get h' q = s_get h q := a.2 q (fun p => by have := x _ p; have := k.1; omega) (.inl k.2)
theorem kt_le {h h' : s_H} {q : Nat} (k : kt h q) (a : h.1 ≤ h'.1) : kt h' q := ⟨k.1, Nat.lt_of_lt_of_le k.2 a⟩
/-- the thing that is kept at c -/
def KT (h : s_H) (c : Nat) : th → Prop
  | .inl (N, Dn) => ∃ q lq r lr, s_get h c = some (1, 8, [vi 0, .index q, .index r, vi 0, vi 0, .null, .null, vi 0]) ∧ kp h q ∧ kp h r ∧ PF h q lq N ∧ PF h r lr Dn ∧ zp_deg N 41 ∧ zp_deg Dn 41 ∧ mo Dn ∧ co N Dn
  | .inr (.inl f) => ∃ a, s_get h c = some (1, 8, [vi 1, .null, .null, vi 0, vi 0, .null, .index a, vi 0]) ∧ kt h a ∧ s_get h a = some (ai 25 (cf f)) ∧ zp_deg f 25
  | .inr (.inr (.inl (r, w, M))) => ∃ e l, s_get h c = some (1, 8, [vi 2, .null, .null, vi (r : Int), vi (w : Int), .index e, .null, vi 0]) ∧ kt h e ∧ s_get h e = some (0, 2, l) ∧ l.length = r * w ∧ (1 ≤ r ∧ r ≤ 4) ∧ (1 ≤ w ∧ w ≤ 4) ∧ ∀ i j, i < r → j < w → ∃ q lq, s_nth l (i * w + j) = some (.index q) ∧ kp h q ∧ PF h q lq (M i j) ∧ zp_deg (M i j) 11
  | .inr (.inr (.inr (n, so, va))) => ∃ a, s_get h c = some (1, 8, [vi 3, .null, .null, vi 0, vi 0, .null, .index a, vi 0]) ∧ kt h a ∧ s_get h a = some (ai n (fun k => va k * 8 + so k)) ∧ (1 ≤ n ∧ n ≤ 200) ∧ tro n so va
theorem KT_keep {P : Nat → Prop} {h h' : s_H} {c : Nat} {t : th} (H : KT h c t) (k : kt h c) (a : CF P h h') (x : FX P) (lo : 1376 ≤ h.1) : KT h' c t := by
  have ec := kt_get k a x
  rcases t with ⟨N, Dn⟩ | f | ⟨r, w, M⟩ | ⟨n, so, va⟩
  · obtain ⟨q, lq, r, lr, h1, h2, h3, h4, h5, h6⟩ := H
    exact ⟨q, lq, r, lr, ec.trans h1, kp_le h2 a.1, kp_le h3 a.1, PF_kp h4 h2 a x lo, PF_kp h5 h3 a x lo, h6⟩
  · obtain ⟨b, h1, h2, h3, h4⟩ := H
    exact ⟨b, ec.trans h1, kt_le h2 a.1, (kt_get h2 a x).trans h3, h4⟩
  · obtain ⟨e, l, h1, h2, h3, h4, h5, h6, h7⟩ := H
    refine ⟨e, l, ec.trans h1, kt_le h2 a.1, (kt_get h2 a x).trans h3, h4, h5, h6, fun i j hi2 hj => ?_⟩
    obtain ⟨q, lq, g1, g2, g3, g4⟩ := h7 i j hi2 hj
    exact ⟨q, lq, g1, kp_le g2 a.1, PF_kp g3 g2 a x lo, g4⟩
  · obtain ⟨b, h1, h2, h3, h4⟩ := H
    exact ⟨b, ec.trans h1, kt_le h2 a.1, (kt_get h2 a x).trans h3, h4⟩
/-- the fields of the class -/
def C1 (n tx lf lp tk : Int) : s_C := (1, 10, [.index 2, vi n, .index 3, vi tx, vi lf, vi lp, .index 4, vi tk, .index 5, .index 107, .index 354, .index 390, .index 391, .index 400, .index 926, .index 1276, .index 1278, .index 1280, .index 1285])
def CT (h : s_H) (n : Nat) (T : Nat → th) : Prop := ∃ tl, s_get h 2 = some (0, 3, tl) ∧ tl.length = 150 ∧ n ≤ 150 ∧ ∀ i, i < n → ∃ c, s_nth tl i = some (.index c) ∧ kt h c ∧ KT h c (T i)
theorem CT_keep {P : Nat → Prop} {h h' : s_H} {n : Nat} {T : Nat → th} (H : CT h n T) (a : CF P h h') (x : FX P) (lo : 1376 ≤ h.1) (p2 : s_get h' 2 = s_get h 2) : CT h' n T := by
  obtain ⟨tl, h1, h2, h3, h4⟩ := H
  refine ⟨tl, p2.trans h1, h2, h3, fun i hi2 => ?_⟩
  obtain ⟨c, g1, g2, g3⟩ := h4 i hi2
  exact ⟨c, g1, kt_le g2 a.1, KT_keep g3 g2 a x lo⟩
/-- the class's picture but for its workers' own state -/
def CA (h : s_H) (n : Nat) (T : Nat → th) (tx lf lp tk : Int) : Prop := (s_get h 1 = some (C1 n tx lf lp tk) ∧ 1376 ≤ h.1) ∧ CT h n T ∧ AL h 0 ∧ PF h 1276 1 (zp_C 1) ∧ PE h 1278 192 ∧ (∃ z, OE h 1280 z) ∧ ∃ z, OE h 1285 z
/-- what a call on fractions may change: its own number and row of things, the rows lent, wide, result, spare -/
def PA (j : Nat) : Prop := j = 1 ∨ j = 2 ∨ (5 ≤ j ∧ j < 39) ∨ (1278 ≤ j ∧ j < 1290)
/-- what a call's workers may change -/
def PB (j : Nat) : Prop := (5 ≤ j ∧ j < 39) ∨ (1278 ≤ j ∧ j < 1290)
theorem FX_A : FX PA := fun j p => by unfold PA at p; omega
theorem FX_B : FX PB := fun j p => by unfold PB at p; omega
theorem CF_BA {h h' : s_H} (a : CF PB h h') : CF PA h h' := CF_sub a (fun j p => by unfold PB at p; unfold PA; omega)
/-- which exception a code stands for, by the order in which a call names them -/
def exl (l : List Nat) (k : Int) : Nat := l.getD (k.toNat - 1) 9
/-- the end of a call that keeps a thing or throws; at most a objects or arrays, b elements and g cells are made -/
def CE (a b g : Nat) (l : List Nat) (h : s_H) (n : Nat) (T : Nat → th) (tx lf lp tk : Int) (res : Sum th Int) : s_O → Prop := fun out => ∃ h' kc ks, kc ≤ a ∧ ks ≤ b ∧ CF PA h h' ∧ h'.1 ≤ h.1 + g ∧ match res with
  | .inl t => out = (.inl (some (vi (n : Int))), h', kc, ks) ∧ CA h' (n + 1) (up T n t) tx lf lp tk
  | .inr k => out = (.inr (exl l k), h', kc, ks) ∧ CA h' n T tx lf lp tk
theorem wq_CE {P : s_P} {d : Nat} {cd : s_Cd} {nx : Nat} {ls rest : List Term} {kc ks : Nat} {Q : s_O → Prop} {a b g a' b' g' : Nat} {l : List Nat} {h h0 : s_H} {n : Nat} {T : Nat → th} {tx lf lp tk : Int} {res : Sum th Int} (ret : ∀ (v : Int) (h' : s_H) (x y : Nat), Q (.inl (some (vi v)), h', x, y) → wr P d cd [] (nx, ls, vi v :: rest, h', x, y) Q) (E : CF PA h0 h) (hg : h.1 + g ≤ h0.1 + g') (ka : kc + a ≤ a') (kb : ks + b ≤ b') (φ : ∀ out, CE a' b' g' l h0 n T tx lf lp tk res out → Q out) : ∀ out, CE a b g l h n T tx lf lp tk res out → wq P d cd [] nx ls rest kc ks Q out := by
  intro out ⟨h', x, y, hx, hy, F, hh, w⟩
  have F' := CF_trans E F
  rcases res with t | k
  · obtain ⟨eo, c⟩ := w
    rw [eo]
    exact ret n h' (kc + x) (ks + y) (φ _ ⟨h', kc + x, ks + y, by omega, by omega, F', by omega, rfl, c⟩)
  · obtain ⟨eo, c⟩ := w
    rw [eo]
    exact ⟨rfl, φ _ ⟨h', kc + x, ks + y, by omega, by omega, F', by omega, rfl, c⟩⟩
theorem CE_t {a b g : Nat} {l : List Nat} {h h0 : s_H} {n : Nat} {T : Nat → th} {tx lf lp tk : Int} (H : CA h n T tx lf lp tk) (E : CF PA h0 h) (k : Int) {e : Nat} (ek : exl l k = e) (hg : h.1 ≤ h0.1 + g) {x y : Nat} (hx : x ≤ a) (hy : y ≤ b) : CE a b g l h0 n T tx lf lp tk (.inr k) (.inr e, h, x, y) := ⟨h, x, y, hx, hy, E, hg, by rw [ek], H⟩
theorem CA_keep {h h' : s_H} {n : Nat} {T : Nat → th} {tx lf lp tk : Int} (H : CA h n T tx lf lp tk) (a : CF PB h h') (A : AL h' 0) (w : PE h' 1278 192) (o1 : ∃ z, OE h' 1280 z) (o2 : ∃ z, OE h' 1285 z) : CA h' n T tx lf lp tk := by
  obtain ⟨⟨h1, lo⟩, h2, _, h3, _⟩ := H
  have e : ∀ j, ¬ PB j → j < 1376 → s_get h' j = s_get h j := fun j p w => a.2 j p (.inl (by omega))
  exact ⟨⟨(e 1 (by unfold PB; omega) (by decide)).trans h1, Nat.le_trans lo a.1⟩, CT_keep h2 a FX_B lo (e 2 (by unfold PB; omega) (by decide)), A, PF_kp h3 (.inl rfl) a FX_B lo, w, o1, o2⟩
section
variable {D : Nat} {h : s_H} {n : Nat} {T : Nat → th} {tx lf lp tk : Int}
theorem u_needRoom {c : s_C} (e : c = C1 n tx lf lp tk) (n1 : n ≤ 150) (g : s_get h 1 = some c) : wm sw_P (D + 1) 54 [.index 1] h (fun out => (n < 150 ∧ qv h out) ∨ (n = 150 ∧ out = (.inr 0, h, 1, 6))) := by
  subst e
  refine wm_in (cd := sw_c54) (nL := 1) (hd := sw_h54) rfl rfl ?_
  refine k54_0 (z5 := (n : Int)) g (fun w => k54_18 (.inl ⟨by omega, rfl⟩)) (fun w => k54_10 (.inr ⟨by omega, rfl⟩)) (c7 := by unfold In3; omega)
/-- a handle -/
theorem u_thing (H : CA h n T tx lf lp tk) {x : Int} (hx : In3 x) : wm sw_P (D + 1) 93 [.index 1, vi x] h (fun out => (∃ c, (0 ≤ x ∧ x < n) ∧ kt h c ∧ KT h c (T x.toNat) ∧ qr (.index c) h out) ∨ (¬ (0 ≤ x ∧ x < n) ∧ out = (.inr 3, h, 1, 6))) := by
  refine wm_in (cd := sw_c93) (nL := 3) (hd := sw_h93) rfl rfl ?_
  obtain ⟨⟨g1, lo⟩, ⟨tl, g2, g3, g4, g5⟩, _⟩ := H
  refine k93_0 (fun w => k93_12 (.inr ⟨by omega, rfl⟩)) (fun w => ?_) (c1 := hx)
  refine k93_4 (z5 := (n : Int)) g1 (fun w2 => ?_) (fun w2 => k93_12 (.inr ⟨by omega, rfl⟩)) (c7 := hx) (c8 := by unfold In3; omega)
  obtain ⟨c, c1, c2, c3⟩ := g5 x.toNat (by omega)
  refine k93_20 (v11 := .index c) g1 g2 (fun q e => k93_39 (.inl ⟨c, ⟨by omega, w2⟩, c2, c3, rfl⟩)) (fun e => nomatch e) (n12 := c1) (c14 := hx) (c15 := by omega)
theorem CA_1 (H : CA h n T tx lf lp tk) : s_get h 1 = some (C1 n tx lf lp tk) := H.1.1
theorem nth_set {l : List Term} {i j : Nat} {t : Term} (hj : j < l.length) : s_nth (l.set j t) i = if i = j then some t else s_nth l i := by
  rw [s_nth_eq, s_nth_eq, List.getElem?_set]
  by_cases e : i = j
  · rw [if_pos e.symm, if_pos hj, if_pos e]
  · rw [if_neg (fun w => e w.symm), if_neg e]
/-- keep: a thing made behind all that was there -/
theorem u_keep (H : CA h n T tx lf lp tk) {c : Nat} {t : th} (k : kt h c) (K : KT h c t) {fs : List Term} (gc : s_get h c = some (1, 8, fs)) : wm sw_P (D + 2) 35 [.index 1, .index c] h (fun out => (n < 150 ∧ ∃ h', CA h' (n + 1) (up T n t) tx lf lp tk ∧ CF PA h h' ∧ h'.1 = h.1 ∧ out = (.inl (some (vi (n : Int))), h', 0, 0)) ∨ (n = 150 ∧ out = (.inr 0, h, 1, 6))) := by
  refine wm_in (cd := sw_c35) (nL := 2) (hd := sw_h35) rfl rfl ?_
  obtain ⟨⟨g1, lo⟩, ⟨tl, g2, g3, g4, g5⟩, A, o1, wd, r1, s1⟩ := id H
  refine k35_0 g1 (wm_mono (fun out => ?_) (u_needRoom rfl g4 g1))
  intro w
  rcases w with ⟨n1, w⟩ | ⟨n1, w⟩
  · refine wq_v ?_ out w
    have t1 := (hp_ne (cc := (0, 3, tl.set (Int.toNat (n : Int)) (.index c))) g2 (show 1 ≠ 2 by decide)).trans g1
    refine k35_4 (z7 := (n : Int)) (z22 := (n : Int)) (z28 := (n : Int) + 1) g1 g2 (s_okA_at (.inr rfl) gc) t1 (hp_at t1) ?_ (c16 := by rw [g3]; omega) (c17 := by omega) (c18 := by unfold In3; omega)
    rw [show (n : Int) + 1 - 1 = n by omega, show (Int.toNat (n : Int)) = n by omega]
    rw [show (Int.toNat (n : Int)) = n by omega] at t1
    refine .inl ⟨n1, (hp (hp h 2 (0, 3, tl.set n (.index c))) 1 (1, 10, [.index 2, vi ((n : Int) + 1), .index 3, vi tx, vi lf, vi lp, .index 4, vi tk, .index 5, .index 107, .index 354, .index 390, .index 391, .index 400, .index 926, .index 1276, .index 1278, .index 1280, .index 1285])), ?_, ?_, rfl, rfl⟩
    · have nn : ∀ j, j ≠ 1 → j ≠ 2 → s_get (hp (hp h 2 (0, 3, tl.set n (.index c))) 1 (1, 10, [.index 2, vi ((n : Int) + 1), .index 3, vi tx, vi lf, vi lp, .index 4, vi tk, .index 5, .index 107, .index 354, .index 390, .index 391, .index 400, .index 926, .index 1276, .index 1278, .index 1280, .index 1285])) j = s_get h j := fun j j1 j2 => (hp_ne t1 j1).trans (hp_ne g2 j2)
      have cf : CF PA h (hp (hp h 2 (0, 3, tl.set n (.index c))) 1 (1, 10, [.index 2, vi ((n : Int) + 1), .index 3, vi tx, vi lf, vi lp, .index 4, vi tk, .index 5, .index 107, .index 354, .index 390, .index 391, .index 400, .index 926, .index 1276, .index 1278, .index 1280, .index 1285])) := ⟨Nat.le_refl _, fun j p _ => nn j (fun e => p (.inl e)) (fun e => p (.inr (.inl e)))⟩
      refine ⟨⟨(by
        show _ = some (C1 ((n + 1 : Nat) : Int) tx lf lp tk)
        rw [show ((n + 1 : Nat) : Int) = (n : Int) + 1 by omega]
        exact hp_at t1), lo⟩, ⟨_, (hp_ne t1 (show 2 ≠ 1 by decide)).trans (hp_at g2), by rw [List.length_set]; exact g3, n1, fun i hi2 => ?_⟩, ?_, PF_same o1 (nn _ (by decide) (by decide)) (nn _ (by decide) (by decide)), PE_same wd (nn _ (by decide) (by decide)) (nn _ (by decide) (by decide)), ?_, ?_⟩
      · by_cases e : i = n
        · subst e
          exact ⟨c, by rw [nth_set (by omega), if_pos rfl], k, by rw [up_at]; exact KT_keep K k cf FX_A lo⟩
        · obtain ⟨c', a1, a2, a3⟩ := g5 i (by omega)
          exact ⟨c', by rw [nth_set (by omega), if_neg e]; exact a1, a2, by rw [up_ne _ _ e]; exact KT_keep a3 a2 cf FX_A lo⟩
      · exact ⟨(nn 5 (by decide) (by decide)).trans A.1, (nn 6 (by decide) (by decide)).trans A.2.1, fun i hi2 => PE_same (A.2.2 i hi2) (nn _ (by omega) (by omega)) (nn _ (by omega) (by omega))⟩
      · obtain ⟨z, r1⟩ := r1
        exact ⟨z, ⟨r1.1.1, (nn _ (by decide) (by decide)).trans r1.1.2⟩, PE_same r1.2.1 (nn _ (by decide) (by decide)) (nn _ (by decide) (by decide)), PE_same r1.2.2 (nn _ (by decide) (by decide)) (nn _ (by decide) (by decide))⟩
      · obtain ⟨z, s1⟩ := s1
        exact ⟨z, ⟨s1.1.1, (nn _ (by decide) (by decide)).trans s1.1.2⟩, PE_same s1.2.1 (nn _ (by decide) (by decide)) (nn _ (by decide) (by decide)), PE_same s1.2.2 (nn _ (by decide) (by decide)) (nn _ (by decide) (by decide))⟩
    · exact ⟨Nat.le_refl _, fun j p _ => (hp_ne t1 (fun e => p (.inl e))).trans (hp_ne g2 (fun e => p (.inr (.inl e))))⟩
  · rw [w]
    exact ⟨rfl, .inr ⟨n1, rfl⟩⟩
end
