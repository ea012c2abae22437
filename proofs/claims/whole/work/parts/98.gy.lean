/-! a tree's nodes in a row; the reference's nodes and node -/
theorem sub_ex {g : Nat → nod} {N n : Nat} (h : wlk (pce g 0 N) 1 0) (hn : n < N) : ∃ m, n + m ≤ N ∧ wlk (pce g n m) 1 0 := by
  obtain ⟨r, er⟩ : ∃ r, N = n + (r + 1) := ⟨N - n - 1, by omega⟩
  rw [er, pce_app, Nat.zero_add] at h
  obtain ⟨i, h1, h2⟩ := wlk_app.mp h
  have i0 : 0 < i := h2.1
  rw [show i = 1 + (i - 1) by omega] at h2
  obtain ⟨l1, l2, e, a, _⟩ := wlk_cut h2 (by omega) (by omega) (by decide)
  obtain ⟨z1, z2, _⟩ := pce_cut e
  refine ⟨l1.length, by omega, ?_⟩
  rw [← z2]
  exact a
theorem sub_0 {g : Nat → nod} {n m : Nat} (h : wlk (pce g n m) 1 0) (e : npa (g n).1 = 0) : m = 1 := by
  cases m with
  | zero => exact absurd (show (1 : Int) = 0 from h) (by decide)
  | succ m =>
    have := congrArg List.length (wlk_0 (x := g n) (l := pce g (n + 1) m) h e)
    rw [pce_len] at this
    have z : ([] : List nod).length = 0 := rfl
    omega
theorem sub_1 {g : Nat → nod} {n m : Nat} (h : wlk (pce g n m) 1 0) (e : npa (g n).1 = 1) : ∃ m1, m = 1 + m1 ∧ wlk (pce g (n + 1) m1) 1 0 := by
  cases m with
  | zero => exact absurd (show (1 : Int) = 0 from h) (by decide)
  | succ m => exact ⟨m, by omega, wlk_1 (x := g n) h e⟩
theorem sub_2 {g : Nat → nod} {n m : Nat} (h : wlk (pce g n m) 1 0) (e : npa (g n).1 = 2) : ∃ m1 m2, m = 1 + m1 + m2 ∧ wlk (pce g (n + 1) m1) 1 0 ∧ wlk (pce g (n + 1 + m1) m2) 1 0 := by
  cases m with
  | zero => exact absurd (show (1 : Int) = 0 from h) (by decide)
  | succ m =>
    obtain ⟨l1, l2, q, a, b⟩ := wlk_2 (x := g n) (l := pce g (n + 1) m) h e
    obtain ⟨z1, z2, z3⟩ := pce_cut q
    refine ⟨l1.length, l2.length, by omega, ?_, ?_⟩
    · rw [← z2]
      exact a
    · rw [← z3]
      exact b
/-- no two trees begin at one place -/
theorem sub_one {g : Nat → nod} {n m m' : Nat} (h : wlk (pce g n m) 1 0) (h' : wlk (pce g n m') 1 0) : m = m' := by
  have le : ∀ {a b : Nat}, wlk (pce g n a) 1 0 → wlk (pce g n b) 1 0 → a ≤ b → a = b := fun {a b} x y w => by
    obtain ⟨r, er⟩ : ∃ r, b = a + r := ⟨b - a, by omega⟩
    rw [er, pce_app] at y
    have := congrArg List.length (wlk_end x y)
    rw [pce_len] at this
    have z : ([] : List nod).length = 0 := rfl
    omega
  rcases Nat.le_total m m' with w | w
  · exact le h h' w
  · exact (le h' h w).symm
theorem npa_012 (k : Int) : npa k = 0 ∨ npa k = 1 ∨ npa k = 2 := by
  unfold npa
  split
  · exact .inr (.inl rfl)
  · split
    · exact .inl rfl
    · exact .inr (.inr rfl)
/-- a call that asks something of a thing of kind k: code and answer -/
def askS (cnt : Int) (T : Nat → th) (k x : Int) (F : th → Int → Int → Prop) (c a : Int) : Prop := (¬ (0 ≤ x ∧ x < cnt) → c = 1 ∧ a = 0) ∧ ((0 ≤ x ∧ x < cnt) → kd (T x.toNat) ≠ k → c = 2 ∧ a = 0) ∧ ((0 ≤ x ∧ x < cnt) → kd (T x.toNat) = k → F (T x.toNat) c a)
theorem ask_bad {s : Nat → Int} {T : Nat → th} {x k : Int} {F : th → Int → Int → Prop} (q : one s T x k ≠ 0) : askS (s 1) T k x F (one s T x k) 0 := by
  refine ⟨fun w => ⟨if_pos w, rfl⟩, fun w w2 => ⟨?_, rfl⟩, fun w w2 => ?_⟩
  · have : one s T x k = if kd (T x.toNat) = k then 0 else 2 := if_neg (fun w2 => w2 w)
    rw [this, if_neg w2]
  · have : one s T x k = if kd (T x.toNat) = k then 0 else 2 := if_neg (fun w2 => w2 w)
    rw [if_pos w2] at this
    exact absurd this q
/-- how such a call ends -/
def askE (s : Nat → Int) (A : Nat → Nat → Int) (T : Nat → th) (c a : Int) (v : Term) (s' : Nat → Int) (A' : Nat → Nat → Int) : Prop := v = vi a ∧ s' 0 = c ∧ sq s s' ∧ sm A A' scrA ∧ RI s' A' T
def nodF (t : th) (c a : Int) : Prop := match t with
  | .inr (.inr (.inr (n, _, _))) => c = 0 ∧ a = n
  | _ => True
def nodG (i w : Int) (t : th) (c a : Int) : Prop := match t with
  | .inr (.inr (.inr (n, so, va))) => (¬ (0 ≤ i ∧ i < n) → c = 1 ∧ a = 0) ∧ ((0 ≤ i ∧ i < n) → ¬ (0 ≤ w ∧ w ≤ 3) → c = 2 ∧ a = 0) ∧ ((0 ≤ i ∧ i < n) → (0 ≤ w ∧ w ≤ 3) → c = 0 ∧ (w = 0 → a = so i.toNat) ∧ (w = 1 → a = va i.toNat) ∧ (w = 2 → a = if npa (so i.toNat) = 0 then -1 else i + 1) ∧ (w = 3 → (npa (so i.toNat) ≠ 2 → a = -1) ∧ (npa (so i.toNat) = 2 → ∃ m : Nat, wlk (pce (fun k => (so k, va k)) (i.toNat + 1) m) 1 0 ∧ i.toNat + 1 + m < n ∧ a = i + 1 + m)))
  | _ => True
/-- a tree is loaded -/
def ldQ (s : Nat → Int) (A : Nat → Nat → Int) (n : Nat) (so va : Nat → Int) (s' : Nat → Int) (A' : Nat → Nat → Int) : Prop := s' = up s 82 (n : Int) ∧ (∀ x, x ≠ 1352 → x ≠ 1353 → A' x = A x) ∧ ∀ k, k < n → A' 1352 k = so k ∧ A' 1353 k = va k
theorem ld_sm {s s' : Nat → Int} {A A' : Nat → Nat → Int} {n : Nat} {so va : Nat → Int} (h : ldQ s A n so va s' A') : sq s s' ∧ sm A A' scrA := by
  obtain ⟨h1, h2, _⟩ := h
  refine ⟨?_, fun x hx => ?_⟩
  · rw [h1]
    exact sq_up (sq_refl s) _ rfl
  · have n1 : ∀ c, scrA.contains c = true → x ≠ c := fun c hc q => by
      rw [q, hc] at hx
      cases hx
    exact h2 x (n1 1352 rfl) (n1 1353 rfl)
theorem ld_pce {s s' : Nat → Int} {A A' : Nat → Nat → Int} {n : Nat} {so va : Nat → Int} (h : ldQ s A n so va s' A') {a m : Nat} (am : a + m ≤ n) : pce (gr A' 1352 1353) a m = pce (fun k => (so k, va k)) a m := pce_eq m a a (fun k hk => by
  obtain ⟨x, y⟩ := h.2.2 (a + k) (by omega)
  unfold gr
  rw [x, y])
section
variable {d : Nat} {h : s_H} {s : Nat → Int} {A : Nat → Nat → Int}
theorem V_loadT (hv : RV h s A) {f n : Nat} {so va : Nat → Int} (f150 : f < 150) (hf : isT A f (th_fo n so va)) : wm sw_P (d + 1) 512 [.index 1290, vi (f : Int)] h (RN h (ldQ s A n so va)) := by
  obtain ⟨_, ⟨hn, _⟩, en, hk⟩ := hf
  refine wm_mono (fun out ⟨h', s', A', v, r, ⟨e, o, g⟩, eo⟩ => ⟨h', s', A', v, r, ⟨e, o, fun k hk2 => ?_⟩, eo⟩) (V_loadTree hv f150 en hn.2)
  obtain ⟨x, y⟩ := g k hk2
  obtain ⟨z, w⟩ := hk k hk2
  exact ⟨x.trans z, y.trans w⟩
theorem V_nodes (hv : RV h s A) {T : Nat → th} (hR : RI s A T) {x : Int} (hx : In3 x) : wm sw_P (d + 4) 538 [.index 1290, vi x] h (RA h (fun v s' A' => ∃ c a, askS (s 1) T 3 x nodF c a ∧ askE s A T c a v s' A')) := by
  refine wm_in (cd := sw_c538) (nL := 2) (hd := sw_h538) rfl rfl ?_
  have b0 := hR.1.1
  refine k538_0 hv.1 (wm_mono (wq_A (fun v1 h1 s1 A1 w1 r1 φ => ?_)) (V_isOf hv hR hx (k := 3) (by decide)))
  rcases φ with ⟨ev, e1, q, eA⟩ | ⟨ev, e1, q, f, ef, lf, kf, m1, _, gA⟩
  · rw [ev]
    refine k538_6 (fun _ => k538_18 (k538_19 ?_)) (fun w => absurd rfl w)
    refine ⟨_, h1, s1, A1, w1, r1, ⟨one s T x 3, 0, ask_bad q, rfl, ?_, ?_, ?_, ?_⟩, rfl⟩
    · rw [e1, up_at]
    · rw [e1]; exact sq_up (sq_refl s) _ rfl
    · rw [eA]; exact sm_refl
    · rw [e1, eA]; exact RI_sc hR sm_refl rfl
  rw [ev]
  subst ef
  have xf : (f : Int).toNat = f := by omega
  have eA := gA (by decide)
  rw [eA] at w1
  have hf := hR.2.2 f lf
  refine k538_6 (fun w => absurd w (by decide)) (fun _ => ?_)
  rcases ef1 : T f with ⟨a, b⟩ | a | ⟨r, c, M⟩ | ⟨n, so, va⟩
  · rw [ef1] at kf; exact (kdn kf rfl).elim
  · rw [ef1] at kf; exact (kdn kf rfl).elim
  · rw [ef1] at kf; exact (kdn kf rfl).elim
  rw [ef1] at hf
  have g1 : gi (mk 150 (A 1349)) (f : Int) = (n : Int) := by rw [gi_mkn (by omega)]; exact hf.2.2.1
  refine k538_9 (a8 := mk 150 (A 1349)) w1.1 (Ra_sizes w1) (k538_19 ?_) (c10 := by rw [mk_len]; omega) (c11 := by omega) (c12 := by unfold In3; omega)
  rw [g1]
  refine ⟨_, h1, s1, A, w1, r1, ⟨0, (n : Int), ⟨fun w => absurd ⟨by omega, lf⟩ w, fun _ w2 => absurd (by rw [xf]; exact kf) w2, fun _ _ => ?_⟩, rfl, ?_, ?_, sm_refl, ?_⟩, rfl⟩
  · rw [xf, ef1]
    exact ⟨rfl, rfl⟩
  · rw [e1, up_at]
  · rw [e1]; exact sq_up (sq_refl s) _ rfl
  · rw [e1]; exact RI_sc hR sm_refl rfl
theorem V_node (hv : RV h s A) {T : Nat → th} (hR : RI s A T) {x i w : Int} (hx : In3 x) (hi3 : In3 i) (hw : In3 w) : wm sw_P (d + 4) 537 [.index 1290, vi x, vi i, vi w] h (RA h (fun v s' A' => ∃ c a, askS (s 1) T 3 x (nodG i w) c a ∧ askE s A T c a v s' A')) := by
  refine wm_in (cd := sw_c537) (nL := 5) (hd := sw_h537) rfl rfl ?_
  have b0 := hR.1.1
  refine k537_0 hv.1 (wm_mono (wq_A (fun v1 h1 s1 A1 w1 r1 φ => ?_)) (V_isOf hv hR hx (k := 3) (by decide)))
  rcases φ with ⟨ev, e1, q, eA⟩ | ⟨ev, e1, q, f, ef, lf, kf, m1, _, gA⟩
  · rw [ev]
    refine k537_6 (fun w => absurd rfl w) (fun _ => k537_9 ?_)
    refine ⟨_, h1, s1, A1, w1, r1, ⟨one s T x 3, 0, ask_bad q, rfl, ?_, ?_, ?_, ?_⟩, rfl⟩
    · rw [e1, up_at]
    · rw [e1]; exact sq_up (sq_refl s) _ rfl
    · rw [eA]; exact sm_refl
    · rw [e1, eA]; exact RI_sc hR sm_refl rfl
  rw [ev]
  subst ef
  have xf : (f : Int).toNat = f := by omega
  have eA := gA (by decide)
  rw [eA] at w1
  have hf := hR.2.2 f lf
  refine k537_6 (fun _ => ?_) (fun w => absurd (by decide) w)
  rcases ef1 : T f with ⟨a, b⟩ | a | ⟨r, c, M⟩ | ⟨n, so, va⟩
  · rw [ef1] at kf; exact (kdn kf rfl).elim
  · rw [ef1] at kf; exact (kdn kf rfl).elim
  · rw [ef1] at kf; exact (kdn kf rfl).elim
  rw [ef1] at hf
  obtain ⟨_, ⟨hn, ht⟩, en, _⟩ := id hf
  have g1 : gi (mk 150 (A 1349)) (f : Int) = (n : Int) := by rw [gi_mkn (by omega)]; exact en
  have sp : ∀ c a, nodG i w (th_fo n so va) c a → askS (s 1) T 3 f (nodG i w) c a := fun c a z => ⟨fun w => absurd ⟨by omega, lf⟩ w, fun _ w2 => absurd (by rw [xf]; exact kf) w2, fun _ _ => by rw [xf, ef1]; exact z⟩
  have badE : ∀ z : Int, 0 < z → z < 3 → nodG i w (th_fo n so va) z 0 → wr sw_P (d + 3) sw_c537 sw_h537 (51, [.index 1290, vi (f : Int), vi i, vi w, .result], [vi z, .index 1290], h1, 0, 0) (RA h (fun v s' A' => ∃ c a, askS (s 1) T 3 f (nodG i w) c a ∧ askE s A T c a v s' A')) := fun z z0 z3 hz => by
    have v2 := RV_fld w1 (up s1 0 z) (rF_0 s1 z)
    refine k537_51 (z10 := z) w1.1 v2.1 (fun w => absurd w (by omega)) (fun _ => k537_61 ?_) (n11 := by
      show some (vi (up s1 0 z 0)) = _
      rw [up_at]) (c12 := by unfold In3; omega)
    refine ⟨_, _, _, A, v2, FR_trans r1 (FR_fld w1 _), ⟨z, 0, sp z 0 hz, rfl, up_at _ _ _, ?_, sm_refl, ?_⟩, rfl⟩
    · rw [e1]; exact sq_up (sq_up (sq_refl s) _ rfl) _ rfl
    · rw [e1]; exact RI_sc hR sm_refl rfl
  refine k537_11 (a9 := mk 150 (A 1349)) w1.1 (Ra_sizes w1) (wm_mono (wq_r ?_) (t_in (by unfold In6; unfold In3 at hi3; omega) (by decide) (by rw [g1]; unfold In6; omega))) (c2 := hi3) (c11 := by rw [mk_len]; omega) (c12 := by omega) (c13 := by unfold In3; omega) (c14 := by rw [g1]; unfold In3; omega)
  rw [g1]
  by_cases q1 : 0 ≤ i ∧ i ≤ (n : Int) - 1
  rotate_left
  · rw [if_neg q1]
    refine k537_27 (fun x => absurd rfl x) (fun _ => k537_30 (badE 1 (by decide) (by decide) ⟨fun _ => ⟨rfl, rfl⟩, fun x => absurd ⟨x.1, by omega⟩ q1, fun x => absurd ⟨x.1, by omega⟩ q1⟩)) (c1 := by decide)
  rw [if_pos q1]
  refine k537_27 (fun _ => k537_34 ?_ (c1 := hw)) (fun x => absurd (by decide) x) (c1 := by decide)
  refine wm_mono (wq_r ?_) (t_in (by unfold In6; unfold In3 at hw; omega) (by decide) (by decide))
  by_cases q2 : 0 ≤ w ∧ w ≤ 3
  rotate_left
  · rw [if_neg q2]
    refine k537_43 (fun x => absurd rfl x) (fun _ => k537_46 (badE 2 (by decide) (by decide) ⟨fun x => absurd ⟨q1.1, by omega⟩ x, fun _ _ => ⟨rfl, rfl⟩, fun _ x => absurd x q2⟩)) (c1 := by decide)
  rw [if_pos q2]
  have v2 := RV_fld w1 (up s1 0 0) (rF_0 s1 0)
  have R2 : FR h _ := FR_trans r1 (FR_fld w1 (1, 11, rF (up s1 0 0)))
  obtain ⟨j, ej⟩ : ∃ j : Nat, i = j := ⟨i.toNat, by omega⟩
  subst ej
  have jj : (j : Int).toNat = j := by omega
  refine k537_43 (fun _ => k537_50 ?_) (fun x => absurd (by decide) x) (c1 := by decide)
  refine k537_51 (z10 := 0) w1.1 v2.1 (fun _ => ?_) (fun x => absurd (by decide) x) (n11 := by
    show some (vi (up s1 0 0 0)) = _
    rw [up_at]) (c12 := by decide)
  refine k537_63 v2.1 (wm_mono (wq_N (fun h3 s3 A3 v3 r3 χ => ?_)) (V_loadT v2 (by omega) hf))
  obtain ⟨x1, x2⟩ := ld_sm χ
  have so_j : A3 1352 j = so j := (χ.2.2 j (by omega)).1
  have va_j : A3 1353 j = va j := (χ.2.2 j (by omega)).2
  have bs : ∀ k, k < n → In3 (so k) ∧ In3 (va k) := fun k hk => by
    have := (ht.1 k hk).1
    have := (ht.1 k hk).2.1
    unfold In3
    omega
  have t1 := (tro_L.mp ht).2
  obtain ⟨m, jm, hm⟩ := sub_ex t1 (n := j) (by omega)
  have isq : sq s s3 := sq_tr (by rw [e1]; exact sq_up (sq_up (sq_refl s) _ rfl) _ rfl) x1
  have s30 : s3 0 = 0 := by rw [χ.1, up_ne _ _ (by decide), up_at]
  have fin : ∀ a : Int, nodG (j : Int) w (th_fo n so va) 0 a → RA h (fun v s' A' => ∃ c a, askS (s 1) T 3 f (nodG (j : Int) w) c a ∧ askE s A T c a v s' A') (.inl (some (vi a)), h3, 0, 0) := fun a ha => ⟨_, h3, s3, A3, v3, FR_trans R2 r3, ⟨0, a, sp 0 a ha, rfl, s30, isq, x2, RI_a hR x2 isq⟩, rfl⟩
  have ans : ∀ a : Int, ((w = 0 → a = so j) ∧ (w = 1 → a = va j) ∧ (w = 2 → a = if npa (so j) = 0 then -1 else (j : Int) + 1) ∧ (w = 3 → (npa (so j) ≠ 2 → a = -1) ∧ (npa (so j) = 2 → ∃ m : Nat, wlk (pce (fun k => (so k, va k)) (j + 1) m) 1 0 ∧ j + 1 + m < n ∧ a = (j : Int) + 1 + m))) → nodG (j : Int) w (th_fo n so va) 0 a := fun a ha => ⟨fun x => absurd ⟨by omega, by omega⟩ x, fun _ x => absurd q2 x, fun _ _ => ⟨rfl, by rw [jj]; exact ha⟩⟩
  have g0 : ∀ u : Nat → Int, gi (mk 420 u) (j : Int) = u j := fun u => gi_mkn (by omega)
  refine k537_68 (a8 := mk 420 (A3 1352)) v3.1 (Ra_nodeSort v3) (wm_mono (wq_r ?_) (V_partsOf (by rw [g0, so_j]; exact (bs j (by omega)).1))) (c10 := by rw [mk_len]; omega) (c11 := by omega) (c12 := by unfold In3; omega)
  rw [g0, so_j]
  have nb := npa_012 (so j)
  refine k537_77 (fun y0 => ?_) (fun y0 => ?_) (c1 := hw)
  rotate_left
  · refine k537_83 (a8 := mk 420 (A3 1352)) v3.1 (Ra_nodeSort v3) (fin _ (ans _ ?_)) (c10 := by rw [mk_len]; omega) (c11 := by omega) (c12 := by unfold In3; omega)
    rw [g0, so_j]
    exact ⟨fun _ => rfl, fun y => by omega, fun y => by omega, fun y => by omega⟩
  refine k537_90 (fun y1 => ?_) (fun y1 => ?_) (c1 := hw)
  rotate_left
  · refine k537_95 (a8 := mk 420 (A3 1353)) v3.1 (Ra_nodeValue v3) (fin _ (ans _ ?_)) (c10 := by rw [mk_len]; omega) (c11 := by omega) (c12 := by unfold In3; omega)
    rw [g0, va_j]
    exact ⟨fun y => by omega, fun _ => rfl, fun y => by omega, fun y => by omega⟩
  refine k537_102 (fun y2 => ?_) (fun y2 => ?_) (c1 := hw)
  rotate_left
  · refine k537_107 (fun z => k537_118 (k537_139 (fin _ (ans _ ?_)))) (fun z => k537_112 (k537_139 (fin _ (ans _ ?_)))) (c1 := by unfold In3; omega)
    · exact ⟨fun y => by omega, fun y => by omega, fun _ => (if_pos (by omega)).symm, fun y => by omega⟩
    · exact ⟨fun y => by omega, fun y => by omega, fun _ => (if_neg (by omega)).symm, fun y => by omega⟩
  · refine k537_122 (fun z => k537_138 (k537_139 (fin _ (ans _ ?_)))) (fun z => ?_) (c1 := by unfold In3; omega)
    · exact ⟨fun y => by omega, fun y => by omega, fun y => by omega, fun _ => ⟨fun _ => rfl, fun y => by omega⟩⟩
    · obtain ⟨m1, m2, em, a1, a2⟩ := sub_2 hm (by show npa (so j) = 2; omega)
      have m2p := wlk_ne a2
      rw [pce_len] at m2p
      have := ld_pce χ (a := j + 1) (m := m1) (by omega)
      refine k537_128 v3.1 ?_
      have z1 := V_behind (d := d + 1) v3 (n := j + 1) (m := m1) (by rw [this]; exact a1) (by omega) (fun k hk => by rw [(χ.2.2 (j + 1 + k) (by omega)).1]; exact (bs _ (by omega)).1)
      rw [show ((j + 1 : Nat) : Int) = (j : Int) + 1 by omega] at z1
      refine wm_mono (wq_r (k537_135 (k537_139 (fin _ (ans _ ?_))))) z1
      exact ⟨fun y => by omega, fun y => by omega, fun y => by omega, fun _ => ⟨fun y => by omega, fun _ => ⟨m1, a1, by omega, rfl⟩⟩⟩
end
