/-! the reference's isBracketed, signOf, pileExponent -/
/-- a pile of items, its top first -/
def pili (R : Nat → Int) : List Int → Prop
  | [] => True
  | p :: P => R P.length = p ∧ pili R P
theorem pili_eq {R R' : Nat → Int} : ∀ {P : List Int}, (∀ j, j < P.length → R' j = R j) → pili R P → pili R' P
  | [], _, _ => trivial
  | p :: P, h, w => by
    refine ⟨?_, pili_eq (fun j hj => h j (by show j < P.length + 1; omega)) w.2⟩
    rw [h P.length (by show P.length < P.length + 1; omega)]
    exact w.1
/-- one item more -/
theorem pili_put {R : Nat → Int} {P : List Int} (h : pili R P) (z : Int) : pili (fun j => if j = P.length then z else R j) (z :: P) := ⟨if_pos rfl, pili_eq (fun j hj => if_neg (by omega)) h⟩
/-- letters l are printed, over s and A; the pile may have changed -/
def PT (s : Nat → Int) (A : Nat → Nat → Int) (st : Nat → Int) (B : Nat → Nat → Int) (l : List Int) : Prop := st = up s 77 (l.length : Int) ∧ (∀ x, x ≠ 1348 → x ≠ 1360 → B x = A x) ∧ ∀ i, i < l.length → B 1348 i = l.getD i 0
theorem getD_app1 {α : Type} {x : α} {m : List α} : ∀ {l : List α} {k : Nat}, k < l.length → (l ++ m).getD k x = l.getD k x
  | [], _, h => absurd h (Nat.not_lt_zero _)
  | _ :: _, 0, _ => rfl
  | a :: l, k + 1, h => by
    have h : k + 1 < l.length + 1 := h
    have := getD_app1 (x := x) (m := m) (l := l) (k := k) (by omega)
    exact this
theorem getD_app2 {α : Type} {x : α} {m : List α} : ∀ {l : List α}, (l ++ m).getD l.length x = m.getD 0 x
  | [] => rfl
  | a :: l => getD_app2 (l := l)
theorem pr_out : ∀ (m l : List Int) (A : Nat → Nat → Int), l.length + m.length ≤ 1200 → (∀ i, i < l.length → A 1348 i = l.getD i 0) → ∀ i, i < (l ++ m).length → prA A l.length m 1348 i = (l ++ m).getD i 0
  | [], l, A, _, h, i, hi2 => by
    rw [List.append_nil] at hi2 ⊢
    exact h i hi2
  | c :: m, l, A, hb, h, i, hi2 => by
    rw [List.length_cons] at hb
    have lc : (l ++ [c]).length = l.length + 1 := by rw [List.length_append]; rfl
    have := pr_out m (l ++ [c]) (if l.length < 1200 then pa A 1348 l.length c else A) (by rw [lc]; omega) (fun j hj => by
      rw [if_pos (by omega), pa_if]
      rw [lc] at hj
      by_cases q : j = l.length
      · rw [if_pos q, q, getD_app2]
        rfl
      · rw [if_neg q, getD_app1 (by omega)]
        exact h j (by omega)) i (by rw [List.append_assoc]; exact hi2)
    rw [List.append_assoc, lc] at this
    exact this
theorem PT_pr {s st s2 : Nat → Int} {A B B2 : Nat → Nat → Int} {l m : List Int} (h : PT s A st B l) (hb : l.length + m.length ≤ 1200) (q : prQ st B l.length m s2 B2) : PT s A s2 B2 (l ++ m) ∧ B2 1360 = B 1360 := by
  obtain ⟨h1, h2, h3⟩ := h
  obtain ⟨q1, q2⟩ := q
  refine ⟨⟨?_, fun x x1 x2 => ?_, ?_⟩, ?_⟩
  · rw [q1, h1, upUp, List.length_append]
  · rw [q2, prA_ne _ _ _ _ x1]
    exact h2 x x1 x2
  · rw [q2]
    exact pr_out m l B hb h3
  · rw [q2, prA_ne _ _ _ _ (by decide)]
theorem PT_put {s st : Nat → Int} {A B : Nat → Nat → Int} {l : List Int} (h : PT s A st B l) (g : Nat → Int) : PT s A st (up B 1360 g) l := by
  obtain ⟨h1, h2, h3⟩ := h
  refine ⟨h1, fun x x1 x2 => ?_, fun i hi2 => ?_⟩
  · rw [up_ne _ _ x2]
    exact h2 x x1 x2
  · rw [up_ne _ _ (by decide)]
    exact h3 i hi2
section
variable {d : Nat} {h : s_H} {s : Nat → Int} {A : Nat → Nat → Int}
theorem V_prT {h1 : s_H} {st : Nat → Int} {B : Nat → Nat → Int} {l : List Int} (v : RV h1 st B) (q : PT s A st B l) (hb : l.length + 1 ≤ 1200) {c : Int} : wm sw_P (d + 1) 558 [.index 1290, vi c] h1 (RN h1 (fun s' A' => PT s A s' A' (l ++ [c]) ∧ A' 1360 = B 1360)) := wm_mono (fun _ ⟨h2, s2, A2, v2, r2, q2, e⟩ => ⟨h2, s2, A2, v2, r2, PT_pr q hb q2, e⟩) (V_print v (p := l.length) (by rw [q.1, up_at]) (by omega))
theorem V_prN {h1 : s_H} {st : Nat → Int} {B : Nat → Nat → Int} {l : List Int} (v : RV h1 st B) (q : PT s A st B l) {n : Nat} (hn : n < 100000) (hb : l.length + 5 ≤ 1200) : wm sw_P (d + 2) 560 [.index 1290, vl (n : Int)] h1 (RN h1 (fun s' A' => PT s A s' A' (l ++ dgl n) ∧ A' 1360 = B 1360)) := wm_mono (fun _ ⟨h2, s2, A2, v2, r2, q2, e⟩ => ⟨h2, s2, A2, v2, r2, PT_pr q (by have := dgl_len n; omega) q2, e⟩) (V_printNumber v (p := l.length) (by rw [q.1, up_at]) (by omega) hn)
theorem V_signOf {x : Int} (hx : In3 x) : wm sw_P (d + 1) 594 [vi x] h (qr (vi (sgn x)) h) := by
  refine wm_in (cd := sw_c594) (nL := 1) (hd := sw_h594) rfl rfl ?_
  unfold sgn
  refine k594_0 (fun a => k594_10 (fun b => k594_20 (fun c => k594_30 (k594_32 ?_)) (fun c => k594_25 (k594_32 ?_))) (fun b => k594_15 (k594_32 ?_))) (fun a => k594_5 (k594_32 ?_))
  · rw [if_neg a, if_neg b, if_neg c]
  · rw [if_neg a, if_neg b, if_pos (Classical.byContradiction c)]
  · rw [if_neg a, if_pos (Classical.byContradiction b)]
  · rw [if_pos (Classical.byContradiction a)]
theorem V_isBracketed {so w pa : Int} (h1 : In3 so) (h2 : In3 w) (h3 : In3 pa) : wm sw_P (d + 1) 472 [vi so, vi w, vi pa] h (qr (vi (@ite _ (isb so w pa) (Classical.propDecidable _) 1 0)) h) := by
  refine wm_in (cd := sw_c472) (nL := 5) (hd := sw_h472) rfl rfl ?_
  obtain ⟨S, eS⟩ : ∃ S : Int, S = if pa = 2 ∨ pa = 3 ∨ pa = 6 then 1 else 0 := ⟨_, rfl⟩
  obtain ⟨M, eM⟩ : ∃ M : Int, M = if pa = 4 ∨ pa = 5 then 1 else 0 := ⟨_, rfl⟩
  have S1 : (pa = 2 ∨ pa = 3 ∨ pa = 6) ↔ S = 1 := by
    by_cases w : pa = 2 ∨ pa = 3 ∨ pa = 6
    · rw [eS, if_pos w]; exact ⟨fun _ => rfl, fun _ => w⟩
    · rw [eS, if_neg w]; exact ⟨fun x => absurd x w, fun x => absurd x (by decide)⟩
  have M1 : (pa = 4 ∨ pa = 5) ↔ M = 1 := by
    by_cases w : pa = 4 ∨ pa = 5
    · rw [eM, if_pos w]; exact ⟨fun _ => rfl, fun _ => w⟩
    · rw [eM, if_neg w]; exact ⟨fun x => absurd x w, fun x => absurd x (by decide)⟩
  have S01 : S = 0 ∨ S = 1 := by rw [eS]; split <;> omega
  have M01 : M = 0 ∨ M = 1 := by rw [eM]; split <;> omega
  have iS : In3 S := by unfold In3; omega
  have iM : In3 M := by unfold In3; omega
  have ans : ∀ z : Int, (z = 0 ∨ z = 1) → (isb so w pa ↔ z = 1) → @ite _ (isb so w pa) (Classical.propDecidable _) (1 : Int) 0 = z := fun z hz e => by
    by_cases q : isb so w pa
    · rw [if_pos q]
      exact (e.mp q).symm
    · rw [if_neg q]
      rcases hz with y | y
      · exact y.symm
      · exact absurd (e.mpr y) q
  have done : ∀ z : Int, (z = 0 ∨ z = 1) → (isb so w pa ↔ z = 1) → qr (vi (@ite _ (isb so w pa) (Classical.propDecidable _) 1 0)) h (.inl (some (vi z)), h, 0, 0) := fun z hz e => by
    rw [ans z hz e]
  have at37 : wr sw_P d sw_c472 sw_h472 (37, [vi so, vi w, vi pa, vi S, .result], [vi M], h, 0, 0) (qr (vi (@ite _ (isb so w pa) (Classical.propDecidable _) 1 0)) h) := by
    refine k472_37 (fun a => ?_) (fun a => ?_) (c1 := h1)
    rotate_left
    · have e : isb so w pa ↔ 1 < pa := by
        unfold isb
        rw [if_pos (Classical.byContradiction a)]
      refine k472_45 (fun b => k472_54 (k472_55 (done 0 (.inl rfl) (e.trans ⟨fun x => by omega, fun x => absurd x (by decide)⟩)) (c1 := .inl rfl))) (fun b => k472_50 (k472_55 (done 1 (.inr rfl) (e.trans ⟨fun _ => rfl, fun _ => by omega⟩)) (c1 := .inr rfl))) (c1 := h3)
    refine k472_56 (fun b => ?_) (fun b => k472_62 (done S S01 ?_) (c1 := S01)) (c1 := h1)
    rotate_left
    · unfold isb
      rw [if_neg a, if_pos (Classical.byContradiction b)]
      exact S1
    have at74 : (so = 2 ∨ so = 3) → wr sw_P d sw_c472 sw_h472 (74, [vi so, vi w, vi pa, vi S, vi M], [], h, 0, 0) (qr (vi (@ite _ (isb so w pa) (Classical.propDecidable _) 1 0)) h) := fun c => by
      have e : isb so w pa ↔ (w = 1 ∧ S = 1) := by
        unfold isb
        rw [if_neg a, if_neg b, if_pos c, S1]
      refine k472_74 (fun q => k472_87 (k472_88 (done 0 (.inl rfl) (e.trans ⟨fun x => absurd x.1 q, fun x => absurd x (by decide)⟩)) (c1 := .inl rfl))) (fun q => ?_) (c1 := h2)
      refine k472_79 (fun y => k472_87 (k472_88 (done 0 (.inl rfl) (e.trans ⟨fun x => by omega, fun x => absurd x (by decide)⟩)) (c1 := .inl rfl))) (fun y => k472_83 (k472_88 (done 1 (.inr rfl) (e.trans ⟨fun _ => rfl, fun _ => ⟨Classical.byContradiction q, by omega⟩⟩)) (c1 := .inr rfl))) (c1 := iS)
    refine k472_64 (fun c => at74 (.inl c)) (fun c => k472_69 (fun c2 => ?_) (fun c2 => at74 (.inr (Classical.byContradiction c2))) (c1 := h1)) (c1 := h1)
    have e : isb so w pa ↔ (S = 1 ∨ (w = 1 ∧ M = 1)) := by
      unfold isb
      rw [if_neg a, if_neg b, if_neg (fun y => y.elim c c2), S1, M1]
    refine k472_89 (fun q => k472_103 (k472_108 (done 1 (.inr rfl) (e.trans ⟨fun _ => rfl, fun _ => .inl (by omega)⟩)) (c1 := .inr rfl))) (fun q => ?_) (c1 := iS)
    have S0 : S = 0 := Classical.byContradiction q
    refine k472_93 (fun y => k472_107 (k472_108 (done 0 (.inl rfl) (e.trans ⟨fun x => by omega, fun x => absurd x (by decide)⟩)) (c1 := .inl rfl))) (fun y => ?_) (c1 := h2)
    refine k472_98 (fun z => k472_107 (k472_108 (done 0 (.inl rfl) (e.trans ⟨fun x => by omega, fun x => absurd x (by decide)⟩)) (c1 := .inl rfl))) (fun z => k472_103 (k472_108 (done 1 (.inr rfl) (e.trans ⟨fun _ => rfl, fun _ => .inr ⟨Classical.byContradiction y, by omega⟩⟩)) (c1 := .inr rfl))) (c1 := iM)
  have at21 : wr sw_P d sw_c472 sw_h472 (21, [vi so, vi w, vi pa, .result, .result], [vi S], h, 0, 0) (qr (vi (@ite _ (isb so w pa) (Classical.propDecidable _) 1 0)) h) := by
    have y1 : (pa = 4 ∨ pa = 5) → wr sw_P d sw_c472 sw_h472 (32, [vi so, vi w, vi pa, vi S, .result], [], h, 0, 0) (qr (vi (@ite _ (isb so w pa) (Classical.propDecidable _) 1 0)) h) := fun q => by
      refine k472_32 ?_
      have y := at37
      rw [M1.mp q] at y
      exact y
    refine k472_21 (fun q => y1 (.inl q)) (fun q => k472_27 (fun q2 => k472_36 ?_) (fun q2 => y1 (.inr (Classical.byContradiction q2))) (c1 := h3)) (c1 := h3)
    have : M = 0 := by rw [eM, if_neg (fun y => y.elim q q2)]
    have y := at37
    rw [this] at y
    exact y
  have y1 : (pa = 2 ∨ pa = 3 ∨ pa = 6) → wr sw_P d sw_c472 sw_h472 (16, [vi so, vi w, vi pa, .result, .result], [], h, 0, 0) (qr (vi (@ite _ (isb so w pa) (Classical.propDecidable _) 1 0)) h) := fun q => by
    refine k472_16 ?_
    have y := at21
    rw [S1.mp q] at y
    exact y
  refine k472_0 (fun q => y1 (.inl q)) (fun q => k472_5 (fun q2 => y1 (.inr (.inl q2))) (fun q2 => k472_10 (fun q3 => k472_20 ?_) (fun q3 => y1 (.inr (.inr (Classical.byContradiction q3)))) (c1 := h3)) (c1 := h3)) (c1 := h3)
  have : S = 0 := by rw [eS, if_neg (by omega)]
  have y := at21
  rw [this] at y
  exact y
theorem V_pileExponent (hv : RV h s A) {P : List Int} (hp2 : pili (A 1360) P) (pb : P.length ≤ 997) {e : Nat} (e99 : e ≤ 99) : wm sw_P (d + 1) 548 [.index 1290, vi (P.length : Int), vi (e : Int)] h (RA h (fun v s' A' => v = vi (((exL e).map (fun c => -c) ++ P).length : Int) ∧ s' = s ∧ ∃ g, A' = up A 1360 g ∧ pili g ((exL e).map (fun c => -c) ++ P))) := by
  refine wm_in (cd := sw_c548) (nL := 4) (hd := sw_h548) rfl rfl ?_
  obtain ⟨p, ep⟩ : ∃ p, P.length = p := ⟨_, rfl⟩
  rw [ep] at pb ⊢
  have em : Int.tmod (e : Int) 10 = ((e % 10 : Nat) : Int) := rfl
  have ed : Int.tdiv (e : Int) 10 = ((e / 10 : Nat) : Int) := rfl
  have st : ∀ (g : Nat → Int) (x : Int) (k : Nat) (z : Int), x = k → (mk 1000 g).set (Int.toNat x) z = mk 1000 (fun t => if t = k then z else g t) := fun g x k z hx => by
    rw [hx, mk_set]
    rfl
  have p1 := pili_put hp2 (-(48 + ((e % 10 : Nat) : Int)))
  have v1 := Rp_pile hv (fun j => if j = P.length then -(48 + ((e % 10 : Nat) : Int)) else A 1360 j)
  refine k548_0 (a9 := mk 1000 (A 1360)) hv.1 (Ra_pile hv) (fun w => ?_) (fun w => ?_) (c7 := by unfold In3; omega) (c11 := by rw [mk_len]; omega) (c12 := by omega) (c13 := by unfold In3; omega)
  · rw [em, st _ _ p _ rfl, ← ep]
    have v2 := Rp_pile v1 (fun j => if j = P.length + 1 then -94 else if j = P.length then -(48 + ((e % 10 : Nat) : Int)) else A 1360 j)
    refine k548_42 (a8 := mk 1000 (fun j => if j = P.length then -(48 + ((e % 10 : Nat) : Int)) else A 1360 j)) v1.1 (by
      have := Ra_pile v1
      rw [up_at] at this
      exact this) ?_ (c10 := by rw [mk_len]; omega) (c11 := by omega) (c12 := by unfold In3; omega)
    rw [st _ _ (P.length + 1) _ (by omega)]
    have el : exL e = [94, 48 + ((e % 10 : Nat) : Int)] := if_pos (by omega)
    refine ⟨_, _, _, _, v2, FR_trans (FR_put hv (c := 1360) (by decide) (by decide) _) (FR_put v1 (c := 1360) (by decide) (by decide) _), ⟨?_, rfl, _, up_up _ _ _ _, ?_⟩, rfl⟩
    · rw [el]
      show vi ((P.length : Int) + 1 + 1) = vi ((P.length + 1 + 1 : Nat) : Int)
      congr 1
    · rw [el]
      exact pili_put p1 (-94)
  · rw [em, st _ _ p _ rfl, ← ep]
    have p2 := pili_put p1 (-(48 + ((e / 10 : Nat) : Int)))
    have v2 := Rp_pile v1 (fun j => if j = P.length + 1 then -(48 + ((e / 10 : Nat) : Int)) else if j = P.length then -(48 + ((e % 10 : Nat) : Int)) else A 1360 j)
    refine k548_25 (a9 := mk 1000 (fun j => if j = P.length then -(48 + ((e % 10 : Nat) : Int)) else A 1360 j)) v1.1 (by
      have := Ra_pile v1
      rw [up_at] at this
      exact this) ?_ (c7 := by unfold In3; omega) (c11 := by rw [mk_len]; omega) (c12 := by omega) (c13 := by unfold In3; omega)
    rw [ed, st _ _ (P.length + 1) _ (by omega)]
    have v3 := Rp_pile v2 (fun j => if j = P.length + 1 + 1 then -94 else if j = P.length + 1 then -(48 + ((e / 10 : Nat) : Int)) else if j = P.length then -(48 + ((e % 10 : Nat) : Int)) else A 1360 j)
    refine k548_42 (a8 := mk 1000 (fun j => if j = P.length + 1 then -(48 + ((e / 10 : Nat) : Int)) else if j = P.length then -(48 + ((e % 10 : Nat) : Int)) else A 1360 j)) v2.1 (by
      have := Ra_pile v2
      rw [up_at] at this
      exact this) ?_ (c10 := by rw [mk_len]; omega) (c11 := by omega) (c12 := by unfold In3; omega)
    rw [st _ _ (P.length + 1 + 1) _ (by omega)]
    have el : exL e = [94, 48 + ((e / 10 : Nat) : Int), 48 + ((e % 10 : Nat) : Int)] := if_neg (by omega)
    refine ⟨_, _, _, _, v3, FR_trans (FR_put hv (c := 1360) (by decide) (by decide) _) (FR_trans (FR_put v1 (c := 1360) (by decide) (by decide) _) (FR_put v2 (c := 1360) (by decide) (by decide) _)), ⟨?_, rfl, _, (up_up _ _ _ _).trans (up_up _ _ _ _), ?_⟩, rfl⟩
    · rw [el]
      show vi ((P.length : Int) + 1 + 1 + 1) = vi ((P.length + 1 + 1 + 1 : Nat) : Int)
      congr 1
    · rw [el]
      exact pili_put p2 (-94)
end
