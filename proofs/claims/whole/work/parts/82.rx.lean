/-! the reference: the divisor of two -/
theorem RV_c {h : s_H} {s : Nat → Int} {A : Nat → Nat → Int} (hv : RV h s A) {c : Nat} (hc : P9 c = true) {g : Nat → Int} (e : ∀ i, i < 176 → A c i = g i) : RV h s (up A c g) := ⟨hv.1, fun j h1 h2 => by
  by_cases hj : j = c
  · subst hj
    rw [up_at, rc_9 hc, ← al_congr e]
    exact RV_l hv hc
  · rw [up_ne _ _ hj]; exact hv.2 j h1 h2⟩
/-- the same rows but for the listed -/
def sm (A B : Nat → Nat → Int) (L : List Nat) : Prop := ∀ j, L.contains j = false → B j = A j
theorem sm_refl {A : Nat → Nat → Int} {L : List Nat} : sm A A L := fun _ _ => rfl
theorem sm_tr {A B C : Nat → Nat → Int} {L : List Nat} (a : sm A B L) (b : sm B C L) : sm A C L := fun j hj => (b j hj).trans (a j hj)
theorem sm_up {A B : Nat → Nat → Int} {L : List Nat} (a : sm A B L) {c : Nat} (g : Nat → Int) (hc : L.contains c = true) : sm A (up B c g) L := fun j hj => by
  rw [up_ne _ _ (fun q => by rw [q, hc] at hj; cases hj)]
  exact a j hj
theorem sm_more {A B : Nat → Nat → Int} {L M : List Nat} (a : sm A B L) (hc : ∀ j, L.contains j = true → M.contains j = true) : sm A B M := fun j hj => a j (by
  cases e : L.contains j with
  | false => rfl
  | true => rw [hc j e] at hj; cases hj)
theorem sm_sub {A B : Nat → Nat → Int} {L M : List Nat} (a : sm A B L) (hc : L.all (fun j => M.contains j) = true) : sm A B M := sm_more a (fun j hj => by
  rw [List.all_eq_true] at hc
  exact hc j (List.contains_iff_mem.mp hj))
def dv (g f : zp_R) : Prop := ∃ q, f = zp_mul g q
def lin (f g a : zp_R) : Prop := ∃ u v, a = zp_add (zp_mul u f) (zp_mul v g)
def mo (f : zp_R) : Prop := ∃ n, f.1 n = 1 ∧ zp_deg f (n + 1)
/-- G is the monic divisor of f and g (or 0) -/
def isG (f g G : zp_R) : Prop := dv G f ∧ dv G g ∧ lin f g G ∧ (G = zp_C 0 ∨ mo G)
theorem lin_h1 {R : Type} [Lean.Grind.CommRing R] {f g a b Q r u v p q : R} (e : a = b * Q + r) (e1 : a = u * f + v * g) (e2 : b = p * f + q * g) : r = (u - p * Q) * f + (v - q * Q) * g := by grind
theorem lin_h2 {R : Type} [Lean.Grind.CommRing R] {f a b Q r u v : R} (e : a = b * Q + r) (e1 : f = u * a + v * b) : f = (u * Q + v) * b + u * r := by grind
theorem lin_h3 {R : Type} [Lean.Grind.CommRing R] {f a b u v c l : R} (e : c * l = 1) (e1 : f = u * a + v * b) (eb : b = 0) : f = (c * a) * (l * u) := by grind
theorem lin_h4 {R : Type} [Lean.Grind.CommRing R] {f g a u v c : R} (e : a = u * f + v * g) : c * a = (c * u) * f + (c * v) * g := by grind
theorem lin_h5 {R : Type} [Lean.Grind.CommRing R] (f g : R) : f = 1 * f + 0 * g := by grind
theorem lin_h6 {R : Type} [Lean.Grind.CommRing R] (f g : R) : g = 0 * f + 1 * g := by grind
theorem lin_h7 {R : Type} [Lean.Grind.CommRing R] {f a b u v : R} (e1 : f = u * a + v * b) (eb : b = 0) : f = a * u := by grind
theorem lin_step {f g a b Q r : zp_R} (e : a = zp_add (zp_mul b Q) r) (h1 : lin f g a) (h2 : lin f g b) : lin f g r := by
  obtain ⟨u, v, e1⟩ := h1
  obtain ⟨p, q, e2⟩ := h2
  exact ⟨_, _, @lin_h1 zp_R zp_ring f g a b Q r u v p q e e1 e2⟩
theorem lin_back {f a b Q r : zp_R} (e : a = zp_add (zp_mul b Q) r) (h1 : lin a b f) : lin b r f := by
  obtain ⟨u, v, e1⟩ := h1
  exact ⟨_, _, @lin_h2 zp_R zp_ring f a b Q r u v e e1⟩
theorem lin_l (f g : zp_R) : lin f g f := ⟨_, _, @lin_h5 zp_R zp_ring f g⟩
theorem lin_r (f g : zp_R) : lin f g g := ⟨_, _, @lin_h6 zp_R zp_ring f g⟩
theorem hi_0 {f : zp_R} (hd : zp_deg f 176) (h : hi f < 0) : f = zp_C 0 := zp_zero_of (fun i _ => hi_deg hd i (by omega))
theorem zp_C_mul1 (c : zp_F) (f : zp_R) (n : Nat) : (zp_mul (zp_C c) f).1 n = c * f.1 n := zp_c_C c f.1 n
/-- made monic -/
def mkm (f : zp_R) : zp_R := if hi f < 0 then f else zp_mul (zp_C ((f.1 (hi f).toNat) ^ 32001)) f
theorem mkm_c {f : zp_R} (h : ¬ hi f < 0) : mkm f = zp_mul (zp_C ((f.1 (hi f).toNat) ^ 32001)) f := if_neg h
theorem hi_lead {f : zp_R} (h : ¬ hi f < 0) : f.1 (hi f).toNat * f.1 (hi f).toNat ^ 32001 = 1 := zp_inv (hi_ne (by omega))
theorem zp_h20 {R : Type} [Lean.Grind.CommRing R] {a b : R} : a * b = b * a := by grind
theorem mkm_mo {f : zp_R} (hd : zp_deg f 176) (h : ¬ hi f < 0) : (mkm f).1 (hi f).toNat = 1 ∧ zp_deg (mkm f) ((hi f).toNat + 1) := by
  rw [mkm_c h]
  refine ⟨?_, fun i hi2 => ?_⟩
  · rw [zp_C_mul1, zp_h20]; exact hi_lead h
  · rw [zp_C_mul1, hi_deg hd i (by omega)]; exact zp_h15 _
theorem mkm_deg {f : zp_R} (hd : zp_deg f 176) : zp_deg (mkm f) 176 := by
  have := hi_b f
  by_cases h : hi f < 0
  · unfold mkm; rw [if_pos h]; exact hd
  · exact fun i hi2 => (mkm_mo hd h).2 i (by omega)
theorem mkm_G {f g a b : zp_R} (hda : zp_deg a 176) (hb : b = zp_C 0) (h1 : lin f g a) (h2 : lin a b f) (h3 : lin a b g) : isG f g (mkm a) := by
  obtain ⟨u, v, e1⟩ := h1
  obtain ⟨p, q, e2⟩ := h2
  obtain ⟨x, y, e3⟩ := h3
  by_cases h : hi a < 0
  · have ea := hi_0 hda h
    have em : mkm a = a := if_pos h
    rw [em]
    exact ⟨⟨_, @lin_h7 zp_R zp_ring f a b p q e2 hb⟩, ⟨_, @lin_h7 zp_R zp_ring g a b x y e3 hb⟩, ⟨_, _, e1⟩, .inl ea⟩
  · have el : zp_mul (zp_C ((a.1 (hi a).toNat) ^ 32001)) (zp_C (a.1 (hi a).toNat)) = (letI := zp_ring; (1 : zp_R)) := by
      rw [zp_C_mul, zp_h20, hi_lead h, zp_C1]
    have hm := mkm_mo hda h
    have em := mkm_c h
    refine ⟨?_, ?_, ?_, .inr ⟨_, hm⟩⟩
    · rw [em]; exact ⟨_, @lin_h3 zp_R zp_ring f a b p q _ _ el e2 hb⟩
    · rw [em]; exact ⟨_, @lin_h3 zp_R zp_ring g a b x y _ _ el e3 hb⟩
    · rw [em]; exact ⟨_, _, @lin_h4 zp_R zp_ring f g a u v _ e1⟩
theorem hi_lt {R : zp_R} {n m : Nat} (hR : zp_deg R n) (hn : n ≤ m) : hi R < m := by
  have b := hi_b R
  refine Int.not_le.mp (fun q => ?_)
  exact hi_ne (f := R) (n := (hi R).toNat) (by omega) (hR _ (by omega))
theorem V_findCommon {d : Nat} {h : s_H} {s : Nat → Int} {A : Nat → Nat → Int} {f g : zp_R} (hv : RV h s A) (hf : A 1306 = cf f) (hg : A 1307 = cf g) (hdf : zp_deg f 176) (hdg : zp_deg g 176) : wm sw_P (d + 4) 448 [.index 1290] h (RN h (fun s' A' => s' = s ∧ (∃ G, isG f g G ∧ zp_deg G 176 ∧ A' 1306 = cf G) ∧ sm A A' [1305, 1306, 1307])) := by
  refine wm_in (cd := sw_c448) (nL := 4) (hd := sw_h448) rfl rfl ?_
  have fin : ∀ (a b : zp_R) (B : Nat → Nat → Int) (h' : s_H) (t1 t2 t3 : Term), hi b < 0 → RV h' s B → FR h h' → sm A B [1305, 1306, 1307] → B 1306 = cf a → zp_deg a 176 → zp_deg b 176 → lin f g a → lin a b f → lin a b g → wr sw_P (d + 3) sw_c448 sw_h448 (66, [.index 1290, t1, t2, t3], [], h', 0, 0) (RN h (fun s' A' => s' = s ∧ (∃ G, isG f g G ∧ zp_deg G 176 ∧ A' 1306 = cf G) ∧ sm A A' [1305, 1306, 1307])) := by
    intro a b B h' t1 t2 t3 hb v r m e1 da db l1 l2 l3
    refine k448_66 v.1 (wm_mono (wq_Q (fun h2 v2 r2 => ?_)) (V_makeMonic v (c := 1306) rfl e1))
    exact k448_73 ⟨h2, s, _, v2, FR_trans r r2, ⟨rfl, ⟨mkm a, mkm_G da (hi_0 db hb) l1 l2 l3, mkm_deg da, up_at _ _ _⟩, sm_up m _ rfl⟩, rfl⟩
  have main : ∀ (m : Nat) (a b : zp_R) (B : Nat → Nat → Int) (h' : s_H) (t1 t2 t3 : Term), hi b < m → RV h' s B → FR h h' → sm A B [1305, 1306, 1307] → B 1306 = cf a → B 1307 = cf b → zp_deg a 176 → zp_deg b 176 → lin f g a → lin f g b → lin a b f → lin a b g → wr sw_P (d + 3) sw_c448 sw_h448 (0, [.index 1290, t1, t2, t3], [], h', 0, 0) (RN h (fun s' A' => s' = s ∧ (∃ G, isG f g G ∧ zp_deg G 176 ∧ A' 1306 = cf G) ∧ sm A A' [1305, 1306, 1307])) := by
    intro m
    induction m with
    | zero =>
      intro a b B h' t1 t2 t3 hm v r sB e1 e2 da db l1 l2 l3 l4
      have bb := hi_b b
      exact k448_0 v.1 (wm_mono (wq_r (k448_7 (fun q => fin a b B h' t1 t2 t3 q v r sB e1 da db l1 l3 l4) (fun q => absurd hm (by omega)))) (V_high v (c := 1307) rfl e2))
    | succ m ih =>
      intro a b B h' t1 t2 t3 hm v r sB e1 e2 da db l1 l2 l3 l4
      have bb := hi_b b
      refine k448_0 v.1 (wm_mono (wq_r (k448_7 (fun q => fin a b B h' t1 t2 t3 q v r sB e1 da db l1 l3 l4) (fun q => ?_))) (V_high v (c := 1307) rfl e2))
      refine k448_10 v.1 (wm_mono (wq_N (fun h1 s1 B1 v1 r1 φ => ?_)) (V_divide v (p := 1306) (q := 1307) rfl rfl (by decide) (by decide) (by decide) e1 e2 da db (by omega)))
      obtain ⟨es, Q, R, e, dR, dR6, dQ6, eB⟩ := φ
      rw [es] at v1
      have f1 : B1 1306 = cf R := by rw [eB, up_at]
      have f2 : B1 1307 = cf b := by rw [eB, up_ne _ _ (by decide), up_ne _ _ (by decide), e2]
      have sB1 : sm A B1 [1305, 1306, 1307] := by rw [eB]; exact sm_up (sm_up sB _ rfl) _ rfl
      refine k448_22 ?_
      have swp : ∀ (l k : Nat) (C : Nat → Nat → Int) (h2 : s_H) (t2 t3 : Term), k + l = 176 → RV h2 s C → FR h h2 → sm A C [1305, 1306, 1307] → (∀ i, i < 176 → C 1306 i = if i < k then cf b i else cf R i) → (∀ i, i < 176 → C 1307 i = if i < k then cf R i else cf b i) → wr sw_P (d + 3) sw_c448 sw_h448 (24, [.index 1290, vi (k : Int), t2, t3], [], h2, 0, 0) (RN h (fun s' A' => s' = s ∧ (∃ G, isG f g G ∧ zp_deg G 176 ∧ A' 1306 = cf G) ∧ sm A A' [1305, 1306, 1307])) := by
        intro l
        induction l with
        | zero =>
          intro k C h2 t2 t3 hk v2 r2 sC g1 g2
          refine k448_24 (fun _ => k448_63 ?_) (fun q => absurd q (by omega))
          have v3 := RV_c (RV_c v2 (c := 1306) rfl (g := cf b) (fun i hi2 => by rw [g1 i hi2, if_pos (by omega)])) (c := 1307) rfl (g := cf R) (fun i hi2 => by rw [up_ne _ _ (by decide), g2 i hi2, if_pos (by omega)])
          have hR := hi_deg dR6
          exact ih b R _ h2 _ t2 t3 (hi_lt dR (by omega)) v3 r2 (sm_up (sm_up sC _ rfl) _ rfl) (by rw [up_ne _ _ (by decide), up_at]) (up_at _ _ _) db dR6 l2 (lin_step e l1 l2) (lin_back e l3) (lin_back e l4)
        | succ l ih2 =>
          intro k C h2 t2 t3 hk v2 r2 sC g1 g2
          refine k448_24 (fun q => absurd q (by omega)) (fun _ => ?_)
          refine k448_31 v2.1 (RV_l v2 (c := 1306) rfl) (RV_l v2 (c := 1307) rfl) ((hp_ne (RV_l v2 (c := 1306) rfl) (by decide)).trans v2.1) ((hp_ne (RV_l v2 (c := 1306) rfl) (by decide)).trans (RV_l v2 (c := 1307) rfl)) ?_ (c10 := by rw [mk_len]; omega) (c18 := by rw [mk_len]; omega) (c27 := by rw [mk_len]; omega)
          rw [mk_set, mk_set]
          have w1 := RV_w v2 (c := 1306) rfl (fun i => if i = (k : Int).toNat then gi (mk 176 (C 1307)) k else C 1306 i)
          have w2 := RV_w w1 (c := 1307) rfl (fun i => if i = (k : Int).toNat then gi (mk 176 (C 1306)) k else C 1307 i)
          refine ih2 (k + 1) _ _ _ _ (by omega) w2 (FR_trans r2 (FR_trans (FR_w v2 (c := 1306) rfl _) (FR_w w1 (c := 1307) rfl _))) (sm_up (sm_up sC _ rfl) _ rfl) (fun i hi2 => ?_) (fun i hi2 => ?_)
          · rw [up_ne _ _ (by decide), up_at]
            show (if i = (k : Int).toNat then gi (mk 176 (C 1307)) k else C 1306 i) = _
            by_cases h5 : i = k
            · rw [if_pos (by omega), if_pos (by omega), gi_mkn (by omega), g2 k (by omega), if_neg (by omega), h5]
            · rw [if_neg (by omega), g1 i hi2]
              by_cases h6 : i < k
              · rw [if_pos h6, if_pos (by omega)]
              · rw [if_neg h6, if_neg (by omega)]
          · rw [up_at]
            show (if i = (k : Int).toNat then gi (mk 176 (C 1306)) k else C 1307 i) = _
            by_cases h5 : i = k
            · rw [if_pos (by omega), if_pos (by omega), gi_mkn (by omega), g1 k (by omega), if_neg (by omega), h5]
            · rw [if_neg (by omega), g2 i hi2]
              by_cases h6 : i < k
              · rw [if_pos h6, if_pos (by omega)]
              · rw [if_neg h6, if_neg (by omega)]
      exact swp 176 0 B1 h1 t2 t3 rfl v1 (FR_trans r r1) sB1 (fun i hi2 => by rw [f1, if_neg (by omega)]) (fun i hi2 => by rw [f2, if_neg (by omega)])
  have bg := hi_b g
  exact main 176 f g A h _ _ _ bg.2 hv (FR_refl h) sm_refl hf hg hdf hdg (lin_l f g) (lin_r f g) (lin_l f g) (lin_r f g)
theorem V_commonOf {d : Nat} {h : s_H} {s : Nat → Int} {A : Nat → Nat → Int} {p q : Nat} {f g : zp_R} (hv : RV h s A) (hp : P9 p = true) (hq : P9 q = true) (hp1 : p ≠ 1306) (hq1 : q ≠ 1307) (hq2 : q ≠ 1306) (hf : A p = cf f) (hg : A q = cf g) (hdf : zp_deg f 176) (hdg : zp_deg g 176) : wm sw_P (d + 5) 423 [.index 1290, .index p, .index q] h (RN h (fun s' A' => s' = s ∧ (∃ G, isG f g G ∧ zp_deg G 176 ∧ A' 1306 = cf G) ∧ sm A A' [1305, 1306, 1307])) := by
  refine wm_in (cd := sw_c423) (nL := 3) (hd := sw_h423) rfl rfl ?_
  refine k423_0 hv.1 (wm_mono (wq_Q (fun h1 v1 r1 => ?_)) (V_copy hv (c := 1306) rfl hp hp1))
  refine k423_8 v1.1 (wm_mono (wq_Q (fun h2 v2 r2 => ?_)) (V_copy v1 (c := 1307) rfl hq hq1))
  refine k423_16 v2.1 (wm_mono (wq_N (fun h3 s3 A3 v3 r3 φ => ?_)) (V_findCommon v2 (f := f) (g := g) (by rw [up_ne _ _ (by decide), up_at, hf]) (by rw [up_at, up_ne _ _ hq2, hg]) hdf hdg))
  obtain ⟨e1, e2, e3⟩ := φ
  exact k423_20 ⟨h3, s3, A3, v3, FR_trans r1 (FR_trans r2 r3), ⟨e1, e2, sm_tr (sm_up (sm_up sm_refl _ rfl) _ rfl) e3⟩, rfl⟩
