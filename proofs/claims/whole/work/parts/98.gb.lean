/-! the reference's printRow, printAll -/
/-- a term of a row in letters: n is the row's degree -/
def tmN (z k : Nat) (n : Int) : List Int := if z = 0 then [] else (if (k : Int) < n then [43] else []) ++ ((if z ≠ 1 ∨ k = 0 then dgl z else []) ++ ((if z ≠ 1 ∧ 0 < k then [42] else []) ++ ((if 0 < k then [120] else []) ++ ((if 1 < k then [94] else []) ++ (if 1 < k then dgl k else [])))))
def rwL (f : zp_R) (n : Int) : Nat → List Int
  | 0 => []
  | k + 1 => tmN (f.1 k).val k n ++ rwL f n k
/-- a row in letters -/
def rwp (f : zp_R) : List Int := if hi f < 0 then [48] else rwL f (hi f) ((hi f).toNat + 1)
/-- a fraction in letters -/
def frp (a b : zp_R) : List Int := if hi b = 0 ∧ cf b 0 = 1 then rwp a else 40 :: (rwp a ++ (41 :: 47 :: 40 :: (rwp b ++ [41])))
theorem tmN_len (z k : Nat) (n : Int) : (tmN z k n).length ≤ 15 := by
  have a := dgl_len z
  have b := dgl_len k
  have l0 : ([] : List Int).length = 0 := rfl
  unfold tmN
  split
  · exact Nat.zero_le _
  · rw [List.length_append, List.length_append, List.length_append, List.length_append, List.length_append]
    have c1 : (if (k : Int) < n then [(43 : Int)] else []).length ≤ 1 := by split <;> decide
    have c2 : (if z ≠ 1 ∨ k = 0 then dgl z else []).length ≤ 5 := by
      split
      · exact a
      · exact Nat.zero_le _
    have c3 : (if z ≠ 1 ∧ 0 < k then [(42 : Int)] else []).length ≤ 1 := by split <;> decide
    have c4 : (if 0 < k then [(120 : Int)] else []).length ≤ 1 := by split <;> decide
    have c5 : (if 1 < k then [(94 : Int)] else []).length ≤ 1 := by split <;> decide
    have c6 : (if 1 < k then dgl k else []).length ≤ 5 := by
      split
      · exact b
      · exact Nat.zero_le _
    omega
theorem rwL_len (f : zp_R) (n : Int) : ∀ k, (rwL f n k).length ≤ 15 * k
  | 0 => Nat.le_refl _
  | k + 1 => by
    show (tmN (f.1 k).val k n ++ rwL f n k).length ≤ _
    rw [List.length_append]
    have a := tmN_len (f.1 k).val k n
    have b := rwL_len f n k
    omega
theorem rwp_len (f : zp_R) (d : zp_deg f 41) : (rwp f).length ≤ 700 := by
  have b := hi_lt d (Nat.le_refl _)
  unfold rwp
  split
  · exact (by decide : 1 ≤ 700)
  · have := rwL_len f (hi f) ((hi f).toNat + 1)
    omega
/-- from label L on the letters g are printed, and that is all -/
def prP (d : Nat) (h : s_H) (s : Nat → Int) (A : Nat → Nat → Int) (p : Nat) (all : List Int) (c : Nat) (n x : Int) (B L : Nat) (g : List Int) : Prop := ∀ h1 s1 A1 l, RV h1 s1 A1 → FR h h1 → prQ s A p l s1 A1 → l.length ≤ B → l ++ g = all → wr sw_P (d + 2) sw_c561 sw_h561 (L, [.index 1290, .index c, vi n, vi x], [], h1, 0, 0) (RN h (prQ s A p all))
section
variable {d : Nat} {h : s_H} {s : Nat → Int} {A : Nat → Nat → Int} {p : Nat} {all : List Int} {c : Nat} {n x : Int}
theorem prP_let {B L1 L2 : Nat} {ch : Int} {g : List Int} (pb : p + B ≤ 50000) (e : prP d h s A p all c n x (B + 1) L2 g) (st : ∀ h1 s1 A1 l, RV h1 s1 A1 → prQ s A p l s1 A1 → wm sw_P (d + 2) 558 [.index 1290, vi ch] h1 (wq sw_P (d + 2) sw_c561 sw_h561 L2 [.index 1290, .index c, vi n, vi x] [] 0 0 (RN h (prQ s A p all))) → wr sw_P (d + 2) sw_c561 sw_h561 (L1, [.index 1290, .index c, vi n, vi x], [], h1, 0, 0) (RN h (prQ s A p all))) : prP d h s A p all c n x B L1 (ch :: g) := fun h1 s1 A1 l v r q lb eq => by
  refine st h1 s1 A1 l v q (wm_mono (wq_N (fun h2 s2 A2 v2 r2 φ => e h2 s2 A2 (l ++ [ch]) v2 (FR_trans r r2) φ ?_ ?_)) (V_pr1 v q (by omega)))
  · rw [List.length_append]
    exact Nat.add_le_add_right lb 1
  · rw [List.append_assoc]
    exact eq
theorem prP_num {B L1 L2 z : Nat} {g : List Int} (pb : p + B ≤ 50000) (hz : z < 100000) (e : prP d h s A p all c n x (B + 5) L2 g) (st : ∀ h1 s1 A1 l, RV h1 s1 A1 → prQ s A p l s1 A1 → wm sw_P (d + 2) 560 [.index 1290, vl (z : Int)] h1 (wq sw_P (d + 2) sw_c561 sw_h561 L2 [.index 1290, .index c, vi n, vi x] [] 0 0 (RN h (prQ s A p all))) → wr sw_P (d + 2) sw_c561 sw_h561 (L1, [.index 1290, .index c, vi n, vi x], [], h1, 0, 0) (RN h (prQ s A p all))) : prP d h s A p all c n x B L1 (dgl z ++ g) := fun h1 s1 A1 l v r q lb eq => by
  refine st h1 s1 A1 l v q (wm_mono (wq_N (fun h2 s2 A2 v2 r2 φ => e h2 s2 A2 (l ++ dgl z) v2 (FR_trans r r2) (prQ_tr q φ) ?_ ?_)) (V_printNumber v (prQ_p q) (by omega) hz))
  · rw [List.length_append]
    exact Nat.add_le_add lb (dgl_len z)
  · rw [List.append_assoc]
    exact eq
theorem prP_le {B B' L : Nat} {g : List Int} (hB : B ≤ B') (e : prP d h s A p all c n x B' L g) : prP d h s A p all c n x B L g := fun h1 s1 A1 l v r q lb eq => e h1 s1 A1 l v r q (Nat.le_trans lb hB) eq
theorem prP_by {B L1 L2 : Nat} {g g' : List Int} (eg : g' = g) (e : prP d h s A p all c n x B L2 g) (st : ∀ h1 s1 A1 l, RV h1 s1 A1 → prQ s A p l s1 A1 → wr sw_P (d + 2) sw_c561 sw_h561 (L2, [.index 1290, .index c, vi n, vi x], [], h1, 0, 0) (RN h (prQ s A p all)) → wr sw_P (d + 2) sw_c561 sw_h561 (L1, [.index 1290, .index c, vi n, vi x], [], h1, 0, 0) (RN h (prQ s A p all))) : prP d h s A p all c n x B L1 g' := fun h1 s1 A1 l v r q lb eq => st h1 s1 A1 l v q (e h1 s1 A1 l v r q lb (by rw [← eg]; exact eq))
/-- one term -/
theorem prP_tm (hc : P9 c = true) (hc2 : c ≠ 1348) {f : zp_R} (hf : A c = cf f) {k B : Nat} {R : List Int} (hk : k < 41) (hn : hi f = n) (pb : p + B ≤ 40000) (e : prP d h s A p all c n (k : Int) (B + 15) 112 R) : prP d h s A p all c n (k : Int) B 21 (tmN (f.1 k).val k n ++ R) := by
  obtain ⟨z, ez⟩ : ∃ z, (f.1 k).val = z := ⟨_, rfl⟩
  have zb : z < 32003 := by rw [← ez]; exact (f.1 k).isLt
  have bn := hi_b f
  have i3 : In3 (k : Int) := by unfold In3; omega
  have gz : ∀ s1 A1 l, prQ s A p l s1 A1 → gi (mk 176 (A1 c)) (k : Int) = (z : Int) := fun s1 A1 l q => by
    rw [gi_mkn (by omega), q.2, prA_ne l A p c hc2, hf]
    unfold cf
    rw [ez]
  rw [ez]
  have L : ∀ {h1 : s_H} {s1 : Nat → Int} {A1 : Nat → Nat → Int}, RV h1 s1 A1 → s_get h1 c = some (0, 1, (mk 176 (A1 c)).map vl) := fun v => RV_l v hc
  have len : ∀ g : Nat → Int, (k : Int) < ((mk 176 g).length : Nat) := fun g => by rw [mk_len]; omega
  by_cases z0 : z = 0
  · have et : tmN z k n = [] := if_pos z0
    rw [et]
    refine prP_by rfl (prP_le (by omega) e) (fun h1 s1 A1 l v q w => ?_)
    have g1 := gz s1 A1 l q
    exact k561_21 (a3 := mk 176 (A1 c)) (L v) (fun x => absurd (by rw [g1]; omega) x) (fun _ => k561_29 w) (c5 := len _) (c6 := by omega) (c7 := i3) (c8 := by rw [g1]; exact in6n (by omega))
  have et : tmN z k n = (if (k : Int) < n then [43] else []) ++ ((if z ≠ 1 ∨ k = 0 then dgl z else []) ++ ((if z ≠ 1 ∧ 0 < k then [42] else []) ++ ((if 0 < k then [120] else []) ++ ((if 1 < k then [94] else []) ++ (if 1 < k then dgl k else []))))) := if_neg z0
  rw [et, List.append_assoc, List.append_assoc, List.append_assoc, List.append_assoc, List.append_assoc]
  have e101 : prP d h s A p all c n (k : Int) (B + 10) 101 ((if 1 < k then dgl k else []) ++ R) := by
    by_cases w : 1 < k
    · rw [if_pos w]
      refine prP_num (by omega) (by omega) (prP_le (by omega) e) (fun h1 s1 A1 l v q x => ?_)
      exact k561_101 (fun y => by omega) (fun _ => k561_106 v.1 x (c2 := i3)) (c1 := i3)
    · rw [if_neg w]
      exact prP_by rfl (prP_le (by omega) e) (fun h1 s1 A1 l v q x => k561_101 (fun _ => x) (fun y => by omega) (c1 := i3))
  have e90 : prP d h s A p all c n (k : Int) (B + 9) 90 ((if 1 < k then [94] else []) ++ ((if 1 < k then dgl k else []) ++ R)) := by
    by_cases w : 1 < k
    · rw [if_pos w] at e101 ⊢
      rw [if_pos w]
      refine prP_let (by omega) (prP_le (by omega) e101) (fun h1 s1 A1 l v q x => ?_)
      exact k561_90 (fun y => by omega) (fun _ => k561_95 v.1 x) (c1 := i3)
    · rw [if_neg w] at e101 ⊢
      rw [if_neg w]
      exact prP_by rfl (prP_le (by omega) e101) (fun h1 s1 A1 l v q x => k561_90 (fun _ => x) (fun y => by omega) (c1 := i3))
  obtain ⟨g90, eg90⟩ : ∃ g, (if 1 < k then [(94 : Int)] else []) ++ ((if 1 < k then dgl k else []) ++ R) = g := ⟨_, rfl⟩
  rw [eg90] at e90 ⊢
  have e80 : prP d h s A p all c n (k : Int) (B + 8) 80 ((if 0 < k then [120] else []) ++ g90) := by
    by_cases w : 0 < k
    · rw [if_pos w]
      refine prP_let (by omega) e90 (fun h1 s1 A1 l v q x => ?_)
      exact k561_80 (fun y => by omega) (fun _ => k561_84 v.1 x) (c1 := i3)
    · rw [if_neg w]
      exact prP_by rfl (prP_le (by omega) e90) (fun h1 s1 A1 l v q x => k561_80 (fun _ => x) (fun y => by omega) (c1 := i3))
  have e62 : prP d h s A p all c n (k : Int) (B + 7) 62 ((if z ≠ 1 ∧ 0 < k then [42] else []) ++ ((if 0 < k then [120] else []) ++ g90)) := by
    obtain ⟨g80, eg80⟩ : ∃ g, (if 0 < k then [(120 : Int)] else []) ++ g90 = g := ⟨_, rfl⟩
    rw [eg80] at e80 ⊢
    by_cases w : z ≠ 1 ∧ 0 < k
    · rw [if_pos w]
      refine prP_let (by omega) e80 (fun h1 s1 A1 l v q x => ?_)
      have g1 := gz s1 A1 l q
      refine k561_62 (a3 := mk 176 (A1 c)) (L v) (fun y => ?_) (fun _ => k561_70 (fun y => by omega) (fun _ => k561_74 v.1 x) (c1 := i3)) (c5 := len _) (c6 := by omega) (c7 := i3) (c8 := by rw [g1]; exact in6n (by omega))
      rw [g1] at y
      exact absurd (by omega) w.1
    · rw [if_neg w]
      refine prP_by rfl (prP_le (by omega) e80) (fun h1 s1 A1 l v q x => ?_)
      have g1 := gz s1 A1 l q
      refine k561_62 (a3 := mk 176 (A1 c)) (L v) (fun _ => x) (fun y => k561_70 (fun _ => x) (fun y2 => ?_) (c1 := i3)) (c5 := len _) (c6 := by omega) (c7 := i3) (c8 := by rw [g1]; exact in6n (by omega))
      rw [g1] at y
      exact absurd ⟨by omega, by omega⟩ w
  obtain ⟨g62, eg62⟩ : ∃ g, (if z ≠ 1 ∧ 0 < k then [(42 : Int)] else []) ++ ((if 0 < k then [120] else []) ++ g90) = g := ⟨_, rfl⟩
  rw [eg62] at e62 ⊢
  have e43 : prP d h s A p all c n (k : Int) (B + 1) 43 ((if z ≠ 1 ∨ k = 0 then dgl z else []) ++ g62) := by
    by_cases w : z ≠ 1 ∨ k = 0
    · rw [if_pos w]
      refine prP_num (by omega) (by omega) (prP_le (by omega) e62) (fun h1 s1 A1 l v q x => ?_)
      have g1 := gz s1 A1 l q
      have at55 : wr sw_P (d + 2) sw_c561 sw_h561 (55, [.index 1290, .index c, vi n, vi (k : Int)], [], h1, 0, 0) (RN h (prQ s A p all)) := by
        refine k561_55 (a4 := mk 176 (A1 c)) (L v) v.1 ?_ (c6 := len _) (c7 := by omega) (c8 := i3)
        rw [g1]
        exact x
      refine k561_43 (a3 := mk 176 (A1 c)) (L v) (fun _ => at55) (fun y => k561_51 (fun y2 => ?_) (fun _ => at55) (c1 := i3)) (c5 := len _) (c6 := by omega) (c7 := i3) (c8 := by rw [g1]; exact in6n (by omega))
      rw [g1] at y
      rcases w with w | w
      · exact absurd (Classical.byContradiction y) (by omega)
      · exact absurd (by omega) y2
    · rw [if_neg w]
      refine prP_by rfl (prP_le (by omega) e62) (fun h1 s1 A1 l v q x => ?_)
      have g1 := gz s1 A1 l q
      have z1 : z = 1 := Classical.byContradiction (fun y => w (.inl y))
      have k0 : k ≠ 0 := fun y => w (.inr y)
      exact k561_43 (a3 := mk 176 (A1 c)) (L v) (fun y => absurd (by rw [g1, z1]; rfl) y) (fun _ => k561_51 (fun _ => x) (fun y => absurd (by omega) y) (c1 := i3)) (c5 := len _) (c6 := by omega) (c7 := i3) (c8 := by rw [g1]; exact in6n (by omega))
  obtain ⟨g43, eg43⟩ : ∃ g, (if z ≠ 1 ∨ k = 0 then dgl z else []) ++ g62 = g := ⟨_, rfl⟩
  rw [eg43] at e43 ⊢
  have e32 : prP d h s A p all c n (k : Int) B 32 ((if (k : Int) < n then [43] else []) ++ g43) := by
    by_cases w : (k : Int) < n
    · rw [if_pos w]
      refine prP_let (by omega) e43 (fun h1 s1 A1 l v q x => ?_)
      exact k561_32 (fun y => by omega) (fun _ => k561_37 v.1 x) (c1 := i3) (c2 := by unfold In3; omega)
    · rw [if_neg w]
      exact prP_by rfl (prP_le (by omega) e43) (fun h1 s1 A1 l v q x => k561_32 (fun _ => x) (fun y => by omega) (c1 := i3) (c2 := by unfold In3; omega))
  refine prP_by rfl e32 (fun h1 s1 A1 l v q x => ?_)
  have g1 := gz s1 A1 l q
  exact k561_21 (a3 := mk 176 (A1 c)) (L v) (fun _ => x) (fun y => absurd (by rw [g1]; omega) y) (c5 := len _) (c6 := by omega) (c7 := i3) (c8 := by rw [g1]; exact in6n (by omega))
theorem V_printRow (hv : RV h s A) (hp2 : s 77 = (p : Int)) (pb : p ≤ 30000) (hc : P9 c = true) (hc2 : c ≠ 1348) {f : zp_R} (hf : A c = cf f) (df : zp_deg f 41) : wm sw_P (d + 3) 561 [.index 1290, .index c] h (RN h (prQ s A p (rwp f))) := by
  refine wm_in (cd := sw_c561) (nL := 4) (hd := sw_h561) rfl rfl ?_
  have bn := hi_b f
  have b41 := hi_lt df (Nat.le_refl _)
  obtain ⟨n, en⟩ : ∃ n, hi f = n := ⟨_, rfl⟩
  rw [en] at bn b41
  have loop : ∀ k : Nat, k ≤ 41 → ∀ all : List Int, prP d h s A p all c n ((k : Int) - 1) (700 - 15 * k) 17 (rwL f n k) := by
    intro k
    induction k with
    | zero =>
      intro _ all h1 s1 A1 l v r q lb eq
      refine k561_17 (fun _ => k561_118 ⟨h1, s1, A1, v, r, ?_, rfl⟩) (fun w => absurd (by decide) w) (c1 := by decide)
      have : l = all := by
        rw [← eq]
        exact (List.append_nil l).symm
      rw [← this]
      exact q
    | succ k ih =>
      intro hk all
      have ih' := ih (by omega) all
      have e112 : prP d h s A p all c n (k : Int) (700 - 15 * (k + 1) + 15) 112 (rwL f n k) := fun h1 s1 A1 l v r q lb eq => k561_112 (ih' h1 s1 A1 l v r q (by omega) eq)
      have e21 := prP_tm hc hc2 hf (k := k) (by omega) en (by omega) e112
      intro h1 s1 A1 l v r q lb eq
      rw [show ((k + 1 : Nat) : Int) - 1 = (k : Int) by omega]
      exact k561_17 (fun w => by omega) (fun _ => e21 h1 s1 A1 l v r q lb eq) (c1 := by unfold In3; omega)
  refine k561_0 (wm_mono (wq_r ?_) (V_high hv hc hf))
  rw [en]
  refine k561_4 (fun w => ?_) (fun w => ?_) (c2 := by unfold In3; omega)
  · have e : rwp f = rwL f n (n.toNat + 1) := by
      unfold rwp
      rw [en, if_neg (by omega)]
    rw [e]
    have := loop (n.toNat + 1) (by omega) (rwL f n (n.toNat + 1)) h s A [] hv (FR_refl h) (prQ_0 hp2) (Nat.zero_le _) rfl
    rw [show ((n.toNat + 1 : Nat) : Int) - 1 = n by omega] at this
    exact k561_15 this
  · have e : rwp f = [48] := by
      unfold rwp
      rw [en, if_pos (by omega)]
    rw [e]
    refine k561_9 hv.1 (wm_mono (wq_N (fun h1 s1 A1 v1 r1 φ => k561_15 ?_)) (V_print hv hp2 (by omega)))
    exact k561_17 (fun _ => k561_118 ⟨h1, s1, A1, v1, r1, φ, rfl⟩) (fun w2 => by omega) (c1 := by unfold In3; omega)
theorem V_printAll (hv : RV h s A) {a b : zp_R} (ha : A 1298 = cf a) (hb : A 1299 = cf b) (da : zp_deg a 41) (db : zp_deg b 41) : wm sw_P (d + 4) 559 [.index 1290] h (RN h (prQ s A 0 (frp a b))) := by
  refine wm_in (cd := sw_c559) (nL := 2) (hd := sw_h559) rfl rfl ?_
  have v1 := RV_fld hv (up s 77 0) (rF_77 s 0)
  have la := rwp_len a da
  have lb := rwp_len b db
  have R1 : FR h _ := FR_fld hv (1, 11, rF (up s 77 0))
  -- the count begins at 0
  have st : ∀ {l : List Int} {s' : Nat → Int} {A' : Nat → Nat → Int}, prQ (up s 77 0) A 0 l s' A' → prQ s A 0 l s' A' := fun q => ⟨by rw [q.1, upUp], q.2⟩
  have q0 : prQ (up s 77 0) A 0 [] (up s 77 0) A := prQ_0 (up_at _ _ _)
  have keep_ : ∀ {l : List Int} {s' : Nat → Int} {A' : Nat → Nat → Int}, prQ (up s 77 0) A 0 l s' A' → A' 1298 = cf a ∧ A' 1299 = cf b := fun q => ⟨by rw [q.2, prA_ne _ _ _ _ (by decide)]; exact ha, by rw [q.2, prA_ne _ _ _ _ (by decide)]; exact hb⟩
  refine k559_0 hv.1 v1.1 (wm_mono (wq_r ?_) (V_isOne v1 (c := 1299) rfl hb))
  by_cases w : hi b = 0 ∧ cf b 0 = 1
  · rw [if_pos w]
    have e : frp a b = rwp a := if_pos w
    rw [e]
    refine k559_12 (fun _ => k559_23 v1.1 (wm_mono (wq_N (fun h2 s2 A2 v2 r2 φ => ?_)) (V_printRow v1 (p := 0) (up_at _ _ _) (by decide) (c := 1298) rfl (by decide) ha da))) (fun x => absurd (by decide) x) (c2 := by decide)
    exact k559_31 (fun x => absurd x (by decide)) (fun _ => k559_35 ⟨h2, s2, A2, v2, FR_trans R1 r2, st φ, rfl⟩) (c1 := by decide)
  · rw [if_neg w]
    have e : frp a b = 40 :: (rwp a ++ (41 :: 47 :: 40 :: (rwp b ++ [41]))) := if_neg w
    rw [e]
    refine k559_12 (fun x => absurd rfl x) (fun _ => ?_) (c2 := by decide)
    refine k559_17 v1.1 (wm_mono (wq_N (fun h2 s2 A2 v2 r2 q2 => ?_)) (V_pr1 v1 q0 (by decide)))
    have p2 := prQ_p q2
    refine k559_23 v2.1 (wm_mono (wq_N (fun h3 s3 A3 v3 r3 φ => ?_)) (V_printRow v2 (p := 1) p2 (by decide) (c := 1298) rfl (by decide) (keep_ q2).1 da))
    have q3 := prQ_tr q2 φ
    refine k559_31 (fun _ => ?_) (fun x => absurd rfl x) (c1 := by decide)
    refine k559_36 v3.1 (wm_mono (wq_N (fun h4 s4 A4 v4 r4 q4 => ?_)) (V_pr1 v3 q3 (by rw [List.length_append]; show 0 + (1 + _) ≤ _; omega)))
    refine k559_42 v4.1 (wm_mono (wq_N (fun h5 s5 A5 v5 r5 q5 => ?_)) (V_pr1 v4 q4 (by rw [List.length_append, List.length_append]; show 0 + (1 + _ + 1) ≤ _; omega)))
    refine k559_48 v5.1 (wm_mono (wq_N (fun h6 s6 A6 v6 r6 q6 => ?_)) (V_pr1 v5 q5 (by rw [List.length_append, List.length_append, List.length_append]; show 0 + (1 + _ + 1 + 1) ≤ _; omega)))
    refine k559_54 v6.1 (wm_mono (wq_N (fun h7 s7 A7 v7 r7 φ7 => ?_)) (V_printRow v6 (prQ_p q6) (by rw [List.length_append, List.length_append, List.length_append, List.length_append]; show 0 + (1 + _ + 1 + 1 + 1) ≤ _; omega) (c := 1299) rfl (by decide) (keep_ q6).2 db))
    have q7 := prQ_tr q6 φ7
    refine k559_62 v7.1 (wm_mono (wq_N (fun h8 s8 A8 v8 r8 q8 => k559_68 ⟨h8, s8, A8, v8, ?_, st ?_, rfl⟩)) (V_pr1 v7 q7 (by rw [List.length_append, List.length_append, List.length_append, List.length_append, List.length_append]; show 0 + (1 + _ + 1 + 1 + 1 + _) ≤ _; omega)))
    · exact FR_trans R1 (FR_trans r2 (FR_trans r3 (FR_trans r4 (FR_trans r5 (FR_trans r6 (FR_trans r7 r8))))))
    · have el : [] ++ [40] ++ rwp a ++ [41] ++ [47] ++ [40] ++ rwp b ++ [41] = 40 :: (rwp a ++ (41 :: 47 :: 40 :: (rwp b ++ [41]))) := by
        simp
      rw [← el]
      exact q8
end
