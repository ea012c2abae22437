/-! the reference's isPrinted, printed, letter -/
theorem dgl_2 {k : Nat} (h : k ≤ 40) : (dgl k).length ≤ 2 := by
  unfold dgl
  rw [digs_len]
  unfold dtop
  split
  · decide
  · rw [if_pos (by omega)]
    exact Nat.le_refl _
theorem tmN_2 (z : Nat) {k : Nat} (n : Int) (hk : k ≤ 40) : (tmN z k n).length ≤ 12 := by
  have a := dgl_len z
  have b := dgl_2 hk
  unfold tmN
  split
  · exact Nat.zero_le _
  · rw [List.length_append, List.length_append, List.length_append, List.length_append, List.length_append]
    have c1 : (if (k : Int) < n then [(43 : Int)] else []).length ≤ 1 := by split <;> decide
    have c2 : (if z ≠ 1 ∨ k = 0 then dgl z else []).length ≤ 5 := by
      split
      · exact a
      · exact Nat.zero_le _
    have c3 : (if z ≠ 1 ∧ 0 < k then [(42 : Int)] else []).length ≤ 1 := by split <;> decide
    have c4 : (if 0 < k then [(120 : Int)] else []).length ≤ 1 := by split <;> decide
    have c5 : (if 1 < k then [(94 : Int)] else []).length ≤ 1 := by split <;> decide
    have c6 : (if 1 < k then dgl k else []).length ≤ 2 := by
      split
      · exact b
      · exact Nat.zero_le _
    omega
theorem rwL_2 (f : zp_R) (n : Int) : ∀ k, k ≤ 41 → (rwL f n k).length ≤ 12 * k
  | 0, _ => Nat.le_refl _
  | k + 1, h => by
    show (tmN (f.1 k).val k n ++ rwL f n k).length ≤ _
    rw [List.length_append]
    have a := tmN_2 (f.1 k).val n (show k ≤ 40 by omega)
    have b := rwL_2 f n k (by omega)
    omega
theorem rwp_2 (f : zp_R) (d : zp_deg f 41) : (rwp f).length ≤ 492 := by
  have b := hi_lt d (Nat.le_refl _)
  unfold rwp
  split
  · exact (by decide : 1 ≤ 492)
  · have := rwL_2 f (hi f) ((hi f).toNat + 1) (by omega)
    omega
theorem frp_2 {a b : zp_R} (da : zp_deg a 41) (db : zp_deg b 41) : (frp a b).length ≤ 989 := by
  have x := rwp_2 a da
  have y := rwp_2 b db
  unfold frp
  split
  · omega
  · rw [List.length_cons, List.length_append, List.length_cons, List.length_cons, List.length_cons, List.length_append]
    have z : ([41] : List Int).length = 1 := rfl
    omega
theorem shT_cg {g g' : Nat → nod} : ∀ (f n m : Nat), wlk (pce g n m) 1 0 → gds g n (n + m) → m ≤ f → (∀ k, n ≤ k → k < n + m → g' k = g k) → shT g' f n = shT g f n
  | 0, n, m, h, _, h1, _ => by
    have := wlk_ne h
    rw [pce_len] at this
    omega
  | f + 1, n, m, h, G, h1, a => by
    have m1 := wlk_ne h
    rw [pce_len] at m1
    have gn := G n (Nat.le_refl _) (by omega)
    obtain ⟨p0, p1, p2⟩ := npa_s gn.1
    have an := a n (Nat.le_refl _) (by omega)
    by_cases w0 : (g n).1 = 0
    · rw [shT_0 w0, shT_0 (by rw [an]; exact w0), an]
    by_cases w1 : (g n).1 = 1
    · rw [shT_1 w1, shT_1 (by rw [an]; exact w1)]
    by_cases w6 : (g n).1 = 6
    · obtain ⟨k, ek, hk⟩ := sub_1 h (p1 (.inl w6))
      have k1 := wlk_ne hk
      rw [pce_len] at k1
      rw [shT_6 w6, shT_6 (by rw [an]; exact w6), a (n + 1) (by omega) (by omega), shT_cg f (n + 1) k hk (fun j x y => G j (by omega) (by omega)) (by omega) (fun j x y => a j (by omega) (by omega))]
    by_cases w7 : (g n).1 = 7
    · obtain ⟨k, ek, hk⟩ := sub_1 h (p1 (.inr w7))
      have k1 := wlk_ne hk
      rw [pce_len] at k1
      rw [shT_7 w7, shT_7 (by rw [an]; exact w7), a (n + 1) (by omega) (by omega), an, shT_cg f (n + 1) k hk (fun j x y => G j (by omega) (by omega)) (by omega) (fun j x y => a j (by omega) (by omega))]
    obtain ⟨k, k2, ek, hk, hk2⟩ := sub_2 h (p2 ⟨w0, w1, w6, w7⟩)
    have k1 := wlk_ne hk
    rw [pce_len] at k1
    have k3 := wlk_ne hk2
    rw [pce_len] at k3
    have hk' : wlk (pce g' (n + 1) k) 1 0 := by
      rw [pce_eq (g := g') (g' := g) k (n + 1) (n + 1) (fun j hj => a _ (by omega) (by omega))]
      exact hk
    rw [shT_b ⟨w0, w1, w6, w7⟩ hk, shT_b (by rw [an]; exact ⟨w0, w1, w6, w7⟩) hk', an, a (n + 1) (by omega) (by omega), a (n + 1 + k) (by omega) (by omega), shT_cg f (n + 1) k hk (fun j x y => G j (by omega) (by omega)) (by omega) (fun j x y => a j (by omega) (by omega)), shT_cg f (n + 1 + k) k2 hk2 (fun j x y => G j (by omega) (by omega)) (by omega) (fun j x y => a j (by omega) (by omega))]
/-- a thing in letters -/
noncomputable def txt : th → List Int
  | .inl (a, b) => frp a b
  | .inr (.inr (.inr (n, so, va))) => shT (fun k => (so k, va k)) n 0
  | _ => []
def prnQ (s : Nat → Int) (A : Nat → Nat → Int) (T : Nat → th) (x : Int) (v : Term) (s' : Nat → Int) (A' : Nat → Nat → Int) : Prop := (¬ (0 ≤ x ∧ x < s 1) → v = vi 0 ∧ s' = up s 0 1 ∧ A' = A) ∧ ((0 ≤ x ∧ x < s 1) → ((kd (T x.toNat) = 1 ∨ kd (T x.toNat) = 2) → v = vi 0 ∧ s' = up s 0 2 ∧ A' = A) ∧ ((kd (T x.toNat) = 0 ∨ kd (T x.toNat) = 3) → v = vi 1 ∧ s' 0 = 0 ∧ s' 77 = ((txt (T x.toNat)).length : Int) ∧ (txt (T x.toNat)).length ≤ 1000 ∧ (∀ i, i < (txt (T x.toNat)).length → A' 1348 i = (txt (T x.toNat)).getD i 0) ∧ sq s s' ∧ sm A A' scrA))
theorem kd_4 (t : th) : kd t = 0 ∨ kd t = 1 ∨ kd t = 2 ∨ kd t = 3 := by
  rcases t with ⟨N, D⟩ | f | ⟨r, c, M⟩ | ⟨n, so, va⟩
  · exact .inl rfl
  · exact .inr (.inl rfl)
  · exact .inr (.inr (.inl rfl))
  · exact .inr (.inr (.inr rfl))
section
variable {d : Nat} {h : s_H} {s : Nat → Int} {A : Nat → Nat → Int}
theorem V_isPrinted (hv : RV h s A) {T : Nat → th} (hR : RI s A T) {x : Int} (hx : In3 x) : wm sw_P (d + 5) 485 [.index 1290, vi x] h (RA h (prnQ s A T x)) := by
  refine wm_in (cd := sw_c485) (nL := 2) (hd := sw_h485) rfl rfl ?_
  have b0 := hR.1.1
  have code : ∀ z : Int, RV (hp h 1290 (1, 11, rF (up s 0 z))) (up s 0 z) A := fun z => RV_fld hv (up s 0 z) (rF_0 s z)
  have rd0 : ∀ z : Int, s_nth (rF (up s 0 z)) 0 = some (vi z) := fun z => by
    show some (vi (up s 0 z 0)) = _
    rw [up_at]
  have bad : ∀ z : Int, 0 < z → z < 3 → prnQ s A T x (vi 0) (up s 0 z) A → wr sw_P (d + 4) sw_c485 sw_h485 (36, [.index 1290, vi x], [vi z, .index 1290], h, 0, 0) (RA h (prnQ s A T x)) := fun z z0 z3 hz => by
    refine k485_36 (z10 := z) hv.1 (code z).1 (fun w => absurd w (by omega)) (fun _ => k485_46 ⟨_, _, _, _, code z, FR_fld hv _, hz, rfl⟩) (n11 := rd0 z) (c12 := by unfold In3; omega)
  refine k485_0 hv.1 (wm_mono (wq_r ?_) (V_isThere hv b0 hx))
  by_cases q : 0 ≤ x ∧ x < s 1
  rotate_left
  · rw [if_neg q]
    refine k485_6 (fun w => absurd rfl w) (fun _ => k485_9 (bad 1 (by decide) (by decide) ⟨fun _ => ⟨rfl, rfl, rfl⟩, fun w => absurd w q⟩)) (c1 := by decide)
  rw [if_pos q]
  obtain ⟨f, ef⟩ : ∃ f : Nat, x = f := ⟨x.toNat, by omega⟩
  subst ef
  have xf : (f : Int).toNat = f := by omega
  have lf : (f : Int) < s 1 := q.2
  have hf := hR.2.2 f lf
  have kf := isT_kd hf
  have k3 : In3 (A 1291 (f : Int).toNat) := by rw [xf]; exact RB_k hR.1 f (by omega)
  have isk : ∀ k : Int, In3 k → wm sw_P (d + 4) 469 [.index 1290, vi (f : Int), vi k] h (qr (vi (if kd (T f) = k then 1 else 0)) h) := fun k hk => by
    have := V_is (d := d + 3) hv (x := (f : Int)) (k := k) (by omega) k3 hk
    rw [xf, kf] at this
    exact this
  refine k485_6 (fun _ => ?_) (fun w => absurd (by decide) w) (c1 := by decide)
  refine k485_13 hv.1 (wm_mono (wq_r ?_) (isk 0 (by decide)))
  have v2 := code 0
  have R2 : FR h _ := FR_fld hv (1, 11, rF (up s 0 0))
  have isq : sq s (up s 0 0) := sq_up (sq_refl s) _ rfl
  have fin : ∀ (h3 : s_H) (s3 : Nat → Int) (A3 : Nat → Nat → Int), RV h3 s3 A3 → FR h h3 → (kd (T f) = 0 ∨ kd (T f) = 3) → s3 0 = 0 → s3 77 = ((txt (T f)).length : Int) → (txt (T f)).length ≤ 1000 → (∀ i, i < (txt (T f)).length → A3 1348 i = (txt (T f)).getD i 0) → sq s s3 → sm A A3 scrA → RA h (prnQ s A T (f : Int)) (.inl (some (vi 1)), h3, 0, 0) := fun h3 s3 A3 v3 r3 c y0 y1 y2 y3 y4 y5 => ⟨_, h3, s3, A3, v3, r3, ⟨fun w => absurd q w, fun _ => by rw [xf]; exact ⟨fun w => by omega, fun _ => ⟨rfl, y0, y1, y2, y3, y4, y5⟩⟩⟩, rfl⟩
  have at48 : (kd (T f) = 0 ∨ kd (T f) = 3) → wr sw_P (d + 4) sw_c485 sw_h485 (48, [.index 1290, vi (f : Int)], [], _, 0, 0) (RA h (prnQ s A T (f : Int))) := fun c => by
    have is2 := V_is (d := d + 3) v2 (x := (f : Int)) (k := 0) (by omega) k3 (by decide)
    rw [xf, kf] at is2
    refine k485_48 v2.1 (wm_mono (wq_r ?_) is2)
    rcases ef1 : T f with ⟨a, b⟩ | a | ⟨r, c', M⟩ | ⟨n, so, va⟩
    · have k0 : kd (T f) = 0 := by rw [ef1]; rfl
      rw [ef1] at hf
      obtain ⟨_, p1, p2, p3, p4⟩ := hf
      have d1 := fr_deg p1
      have d2 := fr_deg p2
      refine k485_54 (fun w => absurd w (by rw [if_pos (show kd (Sum.inl (a, b)) = 0 from rfl)]; decide)) (fun _ => ?_) (c1 := by split <;> decide)
      have ld := V_load (d := d + 3) v2 (t := 1298) (b := 1299) rfl rfl (by decide) (x := (f : Int)) (by omega) (fun i hi2 => by have := hR.1.2.2.1 i hi2; unfold In3; omega) (fun i hi2 => by have := hR.1.2.2.2 i hi2; unfold In3; omega)
      rw [xf, p1, p2] at ld
      refine k485_57 v2.1 (wm_mono (wq_Q (fun h3 v3 r3 => ?_)) ld)
      refine k485_70 v3.1 (wm_mono (wq_N (fun h4 s4 A4 v4 r4 φ => k485_74 (k485_86 ?_))) (V_printAll v3 (a := a) (b := b) (by rw [up_ne _ _ (by decide), up_at]) (by rw [up_at]) d1 d2))
      have tx : txt (T f) = frp a b := by rw [ef1]; rfl
      have fl := frp_2 d1 d2
      obtain ⟨u1, u2⟩ := φ
      refine fin h4 s4 A4 v4 (FR_trans R2 (FR_trans r3 r4)) c ?_ ?_ (by rw [tx]; omega) ?_ ?_ ?_
      · rw [u1, up_ne _ _ (by decide), up_at]
      · rw [u1, up_at, tx, Nat.zero_add]
      · rw [tx, u2]
        exact pr_out (frp a b) [] _ (by show 0 + _ ≤ _; omega) (fun i hi2 => absurd hi2 (Nat.not_lt_zero _))
      · rw [u1]
        exact sq_up isq _ rfl
      · rw [u2]
        exact fun y hy => by
          rw [prA_ne _ _ _ _ (fun e => by rw [e] at hy; exact absurd hy (by decide)), up_ne _ _ (fun e => by rw [e] at hy; exact absurd hy (by decide)), up_ne _ _ (fun e => by rw [e] at hy; exact absurd hy (by decide))]
    · rw [ef1] at c
      exact (c.elim (fun y => kdn y rfl) (fun y => kdn y rfl)).elim
    · rw [ef1] at c
      exact (c.elim (fun y => kdn y rfl) (fun y => kdn y rfl)).elim
    · rw [ef1] at hf
      have ht := (tro_L.mp hf.2.1.2)
      have n200 := hf.2.1.1.2
      refine k485_54 (fun _ => ?_) (fun w => absurd rfl w) (c1 := by split <;> decide)
      refine k485_77 v2.1 (wm_mono (wq_N (fun h3 s3 A3 v3 r3 χ => ?_)) (V_loadT v2 (by omega) hf))
      obtain ⟨x1, x2⟩ := ld_sm χ
      have ag : ∀ k, k < n → gr A3 1352 1353 k = (so k, va k) := fun k hk => by
        obtain ⟨z1, z2⟩ := χ.2.2 k hk
        unfold gr
        rw [z1, z2]
      have G : gds (fun k => (so k, va k)) 0 (0 + n) := fun k _ hk => by
        have := ht.1 _ (pce_in (g := fun k => (so k, va k)) (a := 0) (show k < n by omega))
        rw [Nat.zero_add] at this
        exact this
      have pe := ld_pce χ (a := 0) (m := n) (by omega)
      have sh := shT_cg (g := fun k => (so k, va k)) (g' := gr A3 1352 1353) n 0 n ht.2 G (Nat.le_refl _) (fun k _ hk => ag k (by omega))
      have tl := (shT_len n 0 n ht.2 G (Nat.le_refl _)).1
      refine k485_82 v3.1 (wm_mono (wq_N (fun h4 s4 A4 v4 r4 φ => k485_86 ?_)) (V_printTree v3 (N := n) (by rw [pe]; exact ht.2) (fun k a b => by rw [ag k b]; exact G k a (by omega)) n200))
      rw [sh] at φ
      have tx : txt (T f) = shT (fun k => (so k, va k)) n 0 := by rw [ef1]; rfl
      refine fin h4 s4 A4 v4 (FR_trans R2 (FR_trans r3 r4)) c ?_ ?_ (by rw [tx]; omega) (by rw [tx]; exact φ.2.2) ?_ ?_
      · rw [φ.1, χ.1, up_ne _ _ (by decide), up_ne _ _ (by decide), up_at]
      · rw [φ.1, up_at, tx]
      · rw [φ.1]
        exact sq_up (sq_tr isq x1) _ rfl
      · intro y hy
        rw [φ.2.1 y (fun e => by rw [e] at hy; exact absurd hy (by decide)) (fun e => by rw [e] at hy; exact absurd hy (by decide))]
        exact x2 y hy
  have at31 : (kd (T f) = 0 ∨ kd (T f) = 3) → wr sw_P (d + 4) sw_c485 sw_h485 (31, [.index 1290, vi (f : Int)], [.index 1290], h, 0, 0) (RA h (prnQ s A T (f : Int))) := fun c => by
    refine k485_31 ?_
    exact k485_36 (z10 := 0) hv.1 v2.1 (fun _ => at48 c) (fun w => absurd (by decide) w) (n11 := rd0 0) (c12 := by decide)
  by_cases c0 : kd (T f) = 0
  · rw [if_pos c0]
    exact k485_19 (fun _ => at31 (.inl c0)) (fun w => absurd (by decide) w) (c1 := by decide)
  rw [if_neg c0]
  refine k485_19 (fun w => absurd rfl w) (fun _ => k485_22 hv.1 (wm_mono (wq_r ?_) (isk 3 (by decide)))) (c1 := by decide)
  by_cases c3 : kd (T f) = 3
  · rw [if_pos c3]
    exact k485_28 (fun w => absurd w (by decide)) (fun _ => at31 (.inr c3)) (c1 := by decide)
  · rw [if_neg c3]
    refine k485_28 (fun _ => k485_35 (bad 2 (by decide) (by decide) ⟨fun w => absurd q w, fun _ => by rw [xf]; exact ⟨fun _ => ⟨rfl, rfl, rfl⟩, fun w => absurd w (fun y => y.elim c0 c3)⟩⟩)) (fun w => absurd rfl w) (c1 := by decide)
/-- printed's and letter's answers -/
def prnA (cnt : Int) (T : Nat → th) (x : Int) (F : List Int → Int) (c a : Int) : Prop := (¬ (0 ≤ x ∧ x < cnt) → c = 1 ∧ a = 0) ∧ ((0 ≤ x ∧ x < cnt) → ((kd (T x.toNat) = 1 ∨ kd (T x.toNat) = 2) → c = 2 ∧ a = 0) ∧ ((kd (T x.toNat) = 0 ∨ kd (T x.toNat) = 3) → c = 0 ∧ a = F (txt (T x.toNat))))
theorem prn_cases {s : Nat → Int} {A : Nat → Nat → Int} {T : Nat → th} {x : Int} {v : Term} {s' : Nat → Int} {A' : Nat → Nat → Int} (hR : RI s A T) (φ : prnQ s A T x v s' A') : (v = vi 0 ∧ ∃ c, (∀ F, prnA (s 1) T x F c 0) ∧ askE s A T c 0 (vi 0) s' A') ∨ (v = vi 1 ∧ (0 ≤ x ∧ x < s 1) ∧ s' 77 = ((txt (T x.toNat)).length : Int) ∧ (txt (T x.toNat)).length ≤ 1000 ∧ (∀ i, i < (txt (T x.toNat)).length → A' 1348 i = (txt (T x.toNat)).getD i 0) ∧ (∀ F, prnA (s 1) T x F 0 (F (txt (T x.toNat)))) ∧ ∀ a, askE s A T 0 a (vi a) s' A') := by
  have bE : ∀ z : Int, askE s A T z 0 (vi 0) (up s 0 z) A := fun z => ⟨rfl, up_at _ _ _, sq_up (sq_refl s) _ rfl, sm_refl, RI_sc hR sm_refl rfl⟩
  by_cases q : 0 ≤ x ∧ x < s 1
  · obtain ⟨y1, y2⟩ := φ.2 q
    have k4 := kd_4 (T x.toNat)
    by_cases w : kd (T x.toNat) = 1 ∨ kd (T x.toNat) = 2
    · obtain ⟨e1, e2, e3⟩ := y1 w
      subst e1 e2 e3
      exact .inl ⟨rfl, 2, fun F => ⟨fun w2 => absurd q w2, fun _ => ⟨fun _ => ⟨rfl, rfl⟩, fun w2 => by omega⟩⟩, bE 2⟩
    · have w2 : kd (T x.toNat) = 0 ∨ kd (T x.toNat) = 3 := by omega
      obtain ⟨e1, e2, e3, e4, e5, e6, e7⟩ := y2 w2
      subst e1
      exact .inr ⟨rfl, q, e3, e4, e5, fun F => ⟨fun w2 => absurd q w2, fun _ => ⟨fun w3 => absurd w3 w, fun _ => ⟨rfl, rfl⟩⟩⟩, fun a => ⟨rfl, e2, e6, e7, RI_a hR e7 e6⟩⟩
  · obtain ⟨e1, e2, e3⟩ := φ.1 q
    subst e1 e2 e3
    exact .inl ⟨rfl, 1, fun F => ⟨fun _ => ⟨rfl, rfl⟩, fun w2 => absurd w2 q⟩, bE 1⟩
theorem V_printed (hv : RV h s A) {T : Nat → th} (hR : RI s A T) {x : Int} (hx : In3 x) : wm sw_P (d + 6) 563 [.index 1290, vi x] h (RA h (fun v s' A' => ∃ c a, prnA (s 1) T x (fun l => (l.length : Int)) c a ∧ askE s A T c a v s' A')) := by
  refine wm_in (cd := sw_c563) (nL := 2) (hd := sw_h563) rfl rfl ?_
  refine k563_0 hv.1 (wm_mono (wq_A (fun v h1 s1 A1 v1 r1 φ => ?_)) (V_isPrinted hv hR hx))
  rcases prn_cases hR φ with ⟨ev, c, hc, he⟩ | ⟨ev, q, e77, _, _, hc, he⟩
  · subst ev
    exact k563_5 (fun _ => k563_15 (k563_16 ⟨_, _, _, _, v1, r1, ⟨c, 0, hc _, he⟩, rfl⟩)) (fun w => absurd rfl w) (c1 := by decide)
  · subst ev
    refine k563_5 (fun w => absurd w (by decide)) (fun _ => k563_8 (z5 := s1 77) v1.1 (k563_16 ?_)) (c1 := by decide)
    refine ⟨_, _, _, _, v1, r1, ⟨0, _, hc _, he _⟩, ?_⟩
    rw [e77]
theorem V_letter (hv : RV h s A) {T : Nat → th} (hR : RI s A T) {x i : Int} (hx : In3 x) (hi3 : In3 i) : wm sw_P (d + 6) 504 [.index 1290, vi x, vi i] h (RA h (fun v s' A' => ∃ c a, prnA (s 1) T x (fun l => if 0 ≤ i ∧ i < (l.length : Int) then l.getD i.toNat 0 else -1) c a ∧ askE s A T c a v s' A')) := by
  refine wm_in (cd := sw_c504) (nL := 3) (hd := sw_h504) rfl rfl ?_
  refine k504_0 hv.1 (wm_mono (wq_A (fun v h1 s1 A1 v1 r1 φ => ?_)) (V_isPrinted hv hR hx))
  rcases prn_cases hR φ with ⟨ev, c, hc, he⟩ | ⟨ev, q, e77, l1000, out, hc, he⟩
  · subst ev
    exact k504_5 (fun w => absurd rfl w) (fun _ => k504_8 ⟨_, _, _, _, v1, r1, ⟨c, 0, hc _, he⟩, rfl⟩) (c1 := by decide)
  · subst ev
    refine k504_5 (fun _ => ?_) (fun w => absurd (by decide) w) (c1 := by decide)
    obtain ⟨l, el⟩ : ∃ l, txt (T x.toNat) = l := ⟨_, rfl⟩
    rw [el] at e77 l1000 out hc
    refine k504_10 (z6 := s1 77) v1.1 (wm_mono (wq_r ?_) (t_in (by unfold In6; unfold In3 at hi3; omega) (by decide) (by rw [e77]; unfold In6; omega))) (c1 := hi3) (c8 := by rw [e77]; unfold In3; omega)
    rw [e77]
    by_cases w : 0 ≤ i ∧ i ≤ (l.length : Int) - 1
    · rw [if_pos w]
      obtain ⟨k, ek⟩ : ∃ k : Nat, i = k := ⟨i.toNat, by omega⟩
      subst ek
      have g0 : gi (mk 1200 (A1 1348)) (k : Int) = l.getD k 0 := by rw [gi_mkn (by omega)]; exact out k (by omega)
      refine k504_23 (fun w => absurd w (by decide)) (fun _ => k504_26 (a8 := mk 1200 (A1 1348)) v1.1 (Ra_out v1) (k504_36 ?_) (c10 := by rw [mk_len]; omega) (c11 := by omega) (c12 := by unfold In3; omega)) (c1 := by decide)
      rw [g0]
      have := hc (fun l => if 0 ≤ (k : Int) ∧ (k : Int) < (l.length : Int) then l.getD (k : Int).toNat 0 else -1)
      refine ⟨_, _, _, _, v1, r1, ⟨0, _, this, he _⟩, ?_⟩
      rw [if_pos (by omega), show ((k : Int)).toNat = k by omega]
    · rw [if_neg w]
      refine k504_23 (fun _ => k504_35 (k504_36 ?_)) (fun w => absurd rfl w) (c1 := by decide)
      have := hc (fun l => if 0 ≤ i ∧ i < (l.length : Int) then l.getD i.toNat 0 else -1)
      refine ⟨_, _, _, _, v1, r1, ⟨0, _, this, he _⟩, ?_⟩
      rw [if_neg (by omega)]
end
