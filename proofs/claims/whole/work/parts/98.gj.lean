/-! the reference's workCells -/
def wkN (T : Nat → th) : List Nat → (Nat → Int) → (Nat → Nat → Int) → (Nat → Int) → (Nat → Nat → Int) → Prop
  | [], s, A, s', A' => s' = s ∧ A' = A
  | c :: l, s, A, s', A' => ∃ s1 A1, wcR T s A c s1 A1 ∧ wkN T l s1 A1 s' A'
theorem wkN_app {T : Nat → th} {k : Nat} {s2 : Nat → Int} {A2 : Nat → Nat → Int} : ∀ (l : List Nat) (s : Nat → Int) (A : Nat → Nat → Int) (s1 : Nat → Int) (A1 : Nat → Nat → Int), wkN T l s A s1 A1 → wcR T s1 A1 k s2 A2 → wkN T (l ++ [k]) s A s2 A2
  | [], s, A, s1, A1, h, w => by
    obtain ⟨e1, e2⟩ := h
    subst e1 e2
    exact ⟨s2, A2, w, rfl, rfl⟩
  | c :: l, s, A, s1, A1, h, w => by
    obtain ⟨s3, A3, h1, h2⟩ := h
    exact ⟨s3, A3, h1, wkN_app l s3 A3 s1 A1 h2 w⟩
/-- the cells l have been worked, S are still to be worked, of C -/
def wkI (T : Nat → th) (C : Nat) (s : Nat → Int) (A : Nat → Nat → Int) (l : List Nat) (S : Nat) (st : Nat → Int) (At : Nat → Nat → Int) : Prop := wkN T l s A st At ∧ rdE st At T ∧ ckB st At ∧ (0 ≤ st 107 ∧ st 107 + (cbt S 16 : Int) ≤ s 107 + 16) ∧ (∀ x, x = 1367 ∨ x = 1368 ∨ x = 1373 → At x = A x) ∧ S < 2 ^ 16 ∧ (∀ j, S.testBit j = true → C.testBit j = true) ∧ (∀ j, due At j ↔ (due A j ∧ (C.testBit j = true → S.testBit j = true))) ∧ ∀ k, k ∈ l ↔ (C.testBit k = true ∧ S.testBit k ≠ true)
theorem nms_to {A B : Nat → Nat → Int} (e1 : B 1367 = A 1367) (e2 : B 1368 = A 1368) (c : Nat) : nms B c = nms A c := by
  have n1 : ∀ c k, nmd B c k = nmd A c k := fun c k => by
    induction k with
    | zero => rfl
    | succ k ih => unfold nmd; rw [ih, e2]
  unfold nms
  rw [n1, e1]
theorem wkI_step {T : Nat → th} {C S S' k : Nat} {s st s2 : Nat → Int} {A At A2 : Nat → Nat → Int} {l : List Nat} (sb : s 107 ≤ 1900000000) (hk : k < 16) (I : wkI T C s A l S st At) (w : S.testBit k = true) (hS' : S' < 2 ^ 16) (out : ∀ j, S'.testBit j = true ↔ (S.testBit j = true ∧ j ≠ k)) (φ : wcR T st At k s2 A2) : wkI T C s A (l ++ [k]) S' s2 A2 ∧ cbt S' 16 < cbt S 16 := by
  obtain ⟨i1, i2, i3, i4, i5, i6, i7, i8, i9⟩ := I
  obtain ⟨a1, a2, a3, a4, a5, a6⟩ := wc_after i2 hk i3 ⟨i4.1, by omega⟩ φ
  have lt : cbt S' 16 < cbt S 16 := cbt_lt 16 (fun j _ x => ((out j).mp x).1) k hk (fun x => ((out k).mp x).2 rfl) w
  refine ⟨⟨wkN_app l s A st At i1 φ, a1, a2, ⟨by omega, by omega⟩, fun x hx => (a4 x hx).trans (i5 x hx), hS', fun j x => i7 j ((out j).mp x).1, fun j => ?_, fun j => ?_⟩, lt⟩
  · by_cases q : j = k
    · subst q
      exact ⟨fun x => absurd x a5, fun x => absurd rfl ((out j).mp (x.2 (i7 j w))).2⟩
    · rw [a6 j q, i8 j]
      exact ⟨fun x => ⟨x.1, fun y => (out j).mpr ⟨x.2 y, q⟩⟩, fun x => ⟨x.1, fun y => ((out j).mp (x.2 y)).1⟩⟩
  · rw [List.mem_append, i9 j, List.mem_singleton]
    by_cases q : j = k
    · subst q
      exact ⟨fun _ => ⟨i7 j w, fun x => ((out j).mp x).2 rfl⟩, fun _ => .inr rfl⟩
    · exact ⟨fun x => ⟨(x.resolve_right q).1, fun y => (x.resolve_right q).2 ((out j).mp y).1⟩, fun x => .inl ⟨x.1, fun y => x.2 ((out j).mpr ⟨y, q⟩)⟩⟩
/-- what workCells comes to -/
def wksR (T : Nat → th) (s : Nat → Int) (A : Nat → Nat → Int) (c : Nat) (s' : Nat → Int) (A' : Nat → Nat → Int) : Prop := (¬ due A c → s' = s ∧ A' = A) ∧ (due A c → ∃ l, wkI T (clo A c) s A l 0 s' A')
section
variable {d : Nat} {h : s_H} {s : Nat → Int} {A : Nat → Nat → Int}
theorem V_workCells (hv : RV h s A) {T : Nat → th} (E : rdE s A T) (cb : ckB s A) (c0 : 0 ≤ s 107 ∧ s 107 ≤ 1900000000) {c : Nat} (hc : c < 16) : wm sw_P (d + 13) 616 [.index 1290, vi (c : Int)] h (RN h (wksR T s A c)) := by
  refine wm_in (cd := sw_c616) (nL := 7) (hd := sw_h616) rfl rfl ?_
  have b31 : ∀ {x : Nat}, x < 2 ^ 16 → x < 2 ^ 31 := fun hx => Nat.lt_trans hx (by decide)
  refine k616_0 hv.1 (wm_mono (fun out ⟨z, hz, ho⟩ => wq_r ?_ out ho) (V_isDue hv E.2.1 hc))
  rcases hz with ⟨ez, du⟩ | ⟨ez, du⟩
  rotate_left
  · subst ez
    exact k616_5 (fun x => absurd rfl x) (fun _ => k616_8 ⟨h, s, A, hv, FR_refl h, ⟨fun _ => ⟨rfl, rfl⟩, fun x => absurd x du⟩, rfl⟩) (c1 := by decide)
  subst ez
  obtain ⟨C, eC⟩ : ∃ C, clo A c = C := ⟨_, rfl⟩
  have lC : C < 2 ^ 16 := by rw [← eC]; exact clo_lt A hc
  have dC : ∀ k, C.testBit k = true → due A k := fun k hk => clo_due A du k (by rw [eC]; exact hk)
  have outer : ∀ (n : Nat) (l : List Nat) (S : Nat) (st : Nat → Int) (At : Nat → Nat → Int) (h1 : s_H) (x3 : Int) (t4 t5 t6 : Term), cbt S 16 < n → wkI T C s A l S st At → RV h1 st At → FR h h1 → wr sw_P (d + 12) sw_c616 sw_h616 (108, [.index 1290, vi (c : Int), vi (S : Int), vi x3, t4, t5, t6], [], h1, 0, 0) (RN h (wksR T s A c)) := by
    intro n
    induction n with
    | zero => exact fun _ _ _ _ _ _ _ _ _ w => absurd w (Nat.not_lt_zero _)
    | succ n ih =>
      intro l S0 st At h1 x3 t4 t5 t6 hn I v r
      have I6 := I.2.2.2.2.2.1
      refine k616_108 (fun w => k616_161 ?_) (fun w => k616_112 ?_) (c1 := by unfold In3; omega)
      · have e0 : S0 = 0 := by omega
        subst e0
        exact ⟨h1, st, At, v, r, ⟨fun x => absurd du x, fun _ => ⟨l, by rw [eC]; exact I⟩⟩, rfl⟩
      have I7 := I.2.2.2.2.2.2.1
      obtain ⟨i, i1, i2⟩ := clo_first A I6 (fun k hk => dC k (I7 k hk)) (fun x => w (by omega))
      have i16 : i < 16 := Classical.byContradiction (fun x => by
        have := Nat.testBit_lt_two_pow (Nat.lt_of_lt_of_le I6 (Nat.pow_le_pow_right (by decide) (show 16 ≤ i by omega)))
        rw [this] at i1
        exact Bool.noConfusion i1)
      have lap : ∀ (m k : Nat) (l : List Nat) (S : Nat) (st : Nat → Int) (At : Nat → Nat → Int) (h1 : s_H) (t4 t5 t6 : Term), k + m = 16 → wkI T C s A l S st At → RV h1 st At → FR h h1 → (∀ j, S.testBit j = true → S0.testBit j = true) → (i < k → S.testBit i ≠ true) → wr sw_P (d + 12) sw_c616 sw_h616 (114, [.index 1290, vi (c : Int), vi (S : Int), vi (k : Int), t4, t5, t6], [], h1, 0, 0) (RN h (wksR T s A c)) := by
        intro m
        induction m with
        | zero =>
          intro k l S st At h1 t4 t5 t6 hk I v r sub gone
          have ek : k = 16 := by omega
          subst ek
          refine k616_114 (fun _ => k616_158 ?_) (fun w => absurd (by decide) w) (c1 := by decide)
          have := cbt_lt (x := S) (y := S0) 16 (fun j _ x => sub j x) i i16 (gone i16) i1
          exact ih l S st At h1 _ _ _ _ (by omega) I v r
        | succ m ih2 =>
          intro k l S st At h1 t4 t5 t6 hk I v r sub gone
          have J := I
          obtain ⟨j1, j2, j3, j4, j5, j6, j7, j8, j9⟩ := J
          have eb := bit_in (x := S) (k := k) (b31 j6) (by omega)
          have eN : nms At k = nms A k := nms_to (j5 1367 (.inl rfl)) (j5 1368 (.inr (.inl rfl))) k
          refine k616_114 (fun w => absurd w (by omega)) (fun _ => ?_) (c1 := by unfold In3; omega)
          by_cases w : S.testBit k = true
          · rw [if_pos w] at eb
            refine k616_120 (fun x => absurd x (by rw [eb]; decide)) (fun _ => ?_) (c1 := by rw [eb]; decide)
            refine k616_128 v.1 (wm_mono (wq_r ?_) (V_named v j2.2.1 (c := k) (by omega)))
            have lN := nms_lt At k
            have ea := zi_and (b31 lN) (b31 j6)
            have la : nms At k &&& S < 2 ^ 16 := Nat.lt_of_le_of_lt Nat.and_le_left lN
            refine k616_133 (fun x => ?_) (fun x => k616_138 (k616_152 ?_)) (c1 := by rw [ea]; unfold In3; omega)
            · rw [ea] at x
              have z : nms At k &&& S = 0 := by omega
              have nob : ∀ j, (nms At k).testBit j = true → S.testBit j ≠ true := fun j y1 y2 => by
                have : (nms At k &&& S).testBit j = true := by rw [Nat.testBit_and, y1, y2]; rfl
                rw [z, Nat.zero_testBit] at this
                exact Bool.noConfusion this
              have hN : ∀ j, j < 16 → (nms At k).testBit j = true → ¬ due At j := fun j hj y1 y2 => by
                have dj := (j8 j).mp y2
                have Cj : C.testBit j = true := by
                  rw [← eC]
                  exact clo_cl A (k := k) hc (by omega) hj (by rw [eC]; exact j7 k w) (by rw [← eN]; exact y1) dj.1
                exact nob j y1 (dj.2 Cj)
              obtain ⟨S', eS, out⟩ := out_bit w
              have lS' : S' < 2 ^ 16 := Nat.lt_of_le_of_lt (by rw [← eS]; exact Nat.le_add_right _ _) j6
              refine k616_141 v.1 (wm_mono (wq_N (fun h2 s2 A2 v2 r2 φ => k616_146 (k616_152 ?_))) (V_workCell v j2 (c := k) (by omega) hN))
              have e2 : (S : Int) - zi 27 1 (k : Int) = (S' : Int) := by
                rw [zi_shl (by omega), ← eS]
                omega
              rw [e2]
              obtain ⟨I2, _⟩ := wkI_step c0.2 (by omega) I w lS' out φ
              exact ih2 (k + 1) (l ++ [k]) S' s2 A2 h2 _ _ _ (by omega) I2 v2 (FR_trans r r2) (fun j x => sub j ((out j).mp x).1) (fun y x => by
                by_cases q : i = k
                · exact ((out i).mp x).2 q
                · exact gone (by omega) ((out i).mp x).1)
            · refine ih2 (k + 1) l S st At h1 _ _ _ (by omega) I v r sub (fun y z => ?_)
              by_cases q : i = k
              · subst q
                refine x ?_
                rw [ea]
                have : nms At i &&& S = 0 := Nat.eq_of_testBit_eq (fun j => by
                  rw [Nat.testBit_and, Nat.zero_testBit, eN]
                  cases y1 : (nms A i).testBit j with
                  | false => rfl
                  | true =>
                    cases y2 : S.testBit j with
                    | false => rfl
                    | true => exact absurd (sub j y2) (i2 j y1))
                rw [this]
                rfl
              · exact gone (by omega) z
          · rw [if_neg w] at eb
            refine k616_120 (fun _ => k616_152 ?_) (fun x => absurd eb x) (c1 := by rw [eb]; decide)
            refine ih2 (k + 1) l S st At h1 _ _ _ (by omega) I v r sub (fun y z => ?_)
            by_cases q : i = k
            · subst q
              exact w z
            · exact gone (by omega) z
      exact lap 16 0 l S0 st At h1 _ _ _ (by decide) I v r (fun _ x => x) (fun x => absurd x (Nat.not_lt_zero _))
  refine k616_5 (fun _ => ?_) (fun x => absurd (by decide) x) (c1 := by decide)
  refine W_clo (d := d + 6) hv E.2.1 hc (fun x3 t4 t5 t6 => ?_) _ _ _ _ _
  rw [eC]
  exact outer (cbt C 16 + 1) [] C s A h x3 t4 t5 t6 (by omega) ⟨⟨rfl, rfl⟩, E, cb, ⟨c0.1, by have := cbt_le C 16; omega⟩, fun _ _ => rfl, lC, fun _ x => x, fun j => ⟨fun x => ⟨x, fun y => y⟩, fun x => x.1⟩, fun k => ⟨fun x => absurd x List.not_mem_nil, fun x => absurd x.1 x.2⟩⟩ hv (FR_refl h)
end
