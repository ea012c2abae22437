/-! what a law makes is a tree -/
section
variable {g : Nat → nod} {N n : Nat} {law : Int} {Q : List nod}
theorem T_tr (C : ctx g N) {k m : Nat} (h : wlk (pce g k m) 1 0) (km : k + m ≤ N) : trL (trT g k) := by
  rw [trT_eq h]
  refine ⟨fun x hx => ?_, h⟩
  obtain ⟨j, hj, e⟩ := pce_mem hx
  rw [e]
  exact C.2.1 (k + j) (Nat.zero_le _) (by omega)
theorem gd_0 {x : Int} (h : 0 ≤ x ∧ x ≤ 6) : gdn (x, 0) := gdn_mk (by omega) (by decide) (fun _ => by decide)
theorem some_tr {o : Option (List nod)} {V : List nod} (h : o = some V) (hV : trL V) (e : o = some Q) : trL Q := by
  rw [h] at e
  rw [← Option.some.inj e]
  exact hV
theorem oneQ_tr (C : ctx g N) {m : Nat} (hm : wlk (pce g n m) 1 0) (nm : n + m ≤ N) (e : oneQ g n law = some Q) : trL Q := by
  have m1 := wlk_ne hm
  rw [pce_len] at m1
  have gn := C.2.1 n (Nat.zero_le _) (by omega)
  have p := npa_s gn.1
  unfold oneQ at e
  by_cases w7 : law = 7
  · rw [if_pos w7] at e
    by_cases w : (g n).1 = 6 ∧ (g (n + 1)).1 = 6
    · rw [if_pos w] at e
      obtain ⟨ma, em, ha⟩ := sub_1 hm (p.2.1 (.inl w.1))
      obtain ⟨mb, em2, hb⟩ := sub_1 ha (by rw [w.2]; rfl)
      rw [← Option.some.inj e]
      exact T_tr C (k := n + 2) hb (by omega)
    · rw [if_neg w] at e
      cases e
  · rw [if_neg w7] at e
    by_cases w : (g n).1 = 7 ∧ (g n).2 ≠ 1
    · rw [if_pos w] at e
      obtain ⟨ma, em, ha⟩ := sub_1 hm (p.2.1 (.inr w.1))
      have t := T_tr C ha (by omega)
      have v99 := gn.2.2 w.1
      by_cases w0 : (g n).2 = 0
      · rw [if_pos w0] at e
        rw [← Option.some.inj e]
        exact trL_0 ⟨by decide, by decide, fun w => absurd w (by decide)⟩ rfl
      · rw [if_neg w0] at e
        rw [← Option.some.inj e]
        have vb := gn.2.1
        exact trL_app2 (gd_0 (by decide)) rfl t (trL_app1 (gdn_mk (by decide) (by omega) (fun _ => by omega)) rfl t)
    · rw [if_neg w] at e
      cases e
theorem numQ_tr (e : numQ g n = some Q) : trL Q := by
  unfold numQ at e
  split at e
  · cases e
  · split at e
    · cases e
    · rw [← Option.some.inj e]
      refine trL_0 (gdn_mk (by decide) ?_ (fun w => absurd w (by decide))) rfl
      have := (numV (g n).1 (g (n + 1)).2 (g (n + 2)).2 (g n).2).isLt
      show 0 ≤ ((numV (g n).1 (g (n + 1)).2 (g (n + 2)).2 (g n).2).val : Int) ∧ ((numV (g n).1 (g (n + 1)).2 (g (n + 2)).2 (g n).2).val : Int) < 32003
      omega
theorem lawQ_tr (C : ctx g N) {m : Nat} (hm : wlk (pce g n m) 1 0) (nm : n + m ≤ N) (e : lawQ g n law = some Q) : trL Q := by
  have m1 := wlk_ne hm
  rw [pce_len] at m1
  have gn := C.2.1 n (Nat.zero_le _) (by omega)
  have p := npa_s gn.1
  unfold lawQ at e
  by_cases w79 : law = 7 ∨ law = 9
  · rw [if_pos w79] at e
    exact oneQ_tr C hm nm e
  rw [if_neg w79] at e
  by_cases w10 : law = 10
  · rw [if_pos w10] at e
    exact numQ_tr e
  rw [if_neg w10] at e
  by_cases w87 : law = 8 ∧ (g n).1 = 7
  · rw [if_pos w87] at e
    obtain ⟨ma, em, ha⟩ := sub_1 hm (p.2.1 (.inr w87.2))
    split at e
    · rw [← Option.some.inj e]
      exact T_tr C ha (by omega)
    · cases e
  rw [if_neg w87] at e
  by_cases n2 : npa (g n).1 ≠ 2
  · rw [if_pos n2] at e
    cases e
  rw [if_neg n2] at e
  have n2 : npa (g n).1 = 2 := Classical.byContradiction n2
  obtain ⟨ma, mb, em, ha, hb⟩ := sub_2 hm n2
  have a1 := wlk_ne ha
  rw [pce_len] at a1
  have b1 := wlk_ne hb
  rw [pce_len] at b1
  have ta := T_tr C ha (by omega)
  have tb := T_tr C hb (by omega)
  rw [snd_eq ha] at e
  have so2 : 2 ≤ (g n).1 ∧ (g n).1 ≤ 5 := by
    have q0 : ¬ ((g n).1 = 0 ∨ (g n).1 = 1) := fun y => by have := p.1 y; omega
    have q1 : ¬ ((g n).1 = 6 ∨ (g n).1 = 7) := fun y => by have := p.2.1 y; omega
    have := gn.1
    omega
  have gs : gdn ((g n).1, 0) := gd_0 (by omega)
  by_cases l0 : law = 0
  · rw [if_pos l0] at e
    split at e
    · rw [← Option.some.inj e]
      exact trL_app2 gs n2 tb ta
    · cases e
  rw [if_neg l0] at e
  by_cases l1 : law = 1
  · rw [if_pos l1] at e
    by_cases w : ((g n).1 = 2 ∨ (g n).1 = 4) ∧ (g (n + 1)).1 = (g n).1
    · rw [if_pos w] at e
      obtain ⟨ma1, ma2, ema, ha1, ha2⟩ := sub_2 ha (by rw [w.2]; exact n2)
      rw [snd_eq ha1] at e
      rw [← Option.some.inj e]
      exact trL_app2 gs n2 (T_tr C ha1 (by omega)) (trL_app2 gs n2 (T_tr C ha2 (by omega)) tb)
    · rw [if_neg w] at e
      cases e
  rw [if_neg l1] at e
  by_cases l2 : law = 2
  · rw [if_pos l2] at e
    by_cases w : ((g n).1 = 2 ∨ (g n).1 = 4) ∧ (g (n + 1 + ma)).1 = (g n).1
    · rw [if_pos w] at e
      obtain ⟨mb1, mb2, emb, hb1, hb2⟩ := sub_2 hb (by rw [w.2]; exact n2)
      rw [snd_eq hb1] at e
      rw [← Option.some.inj e]
      have := trL_app2 gs n2 (trL_app2 gs n2 ta (T_tr C hb1 (by omega))) (T_tr C hb2 (by omega))
      rw [List.cons_append, List.append_assoc] at this
      exact this
    · rw [if_neg w] at e
      cases e
  rw [if_neg l2] at e
  by_cases l5 : law = 5
  · rw [if_pos l5] at e
    split at e
    · rw [← Option.some.inj e]
      exact trL_app2 (gd_0 (by decide)) rfl ta (trL_app1 (gd_0 (by decide)) rfl tb)
    · cases e
  rw [if_neg l5] at e
  by_cases l6 : law = 6
  · rw [if_pos l6] at e
    by_cases w : (g n).1 = 2 ∧ (g (n + 1 + ma)).1 = 6
    · rw [if_pos w] at e
      obtain ⟨mt, emt, ht⟩ := sub_1 hb (by rw [w.2]; rfl)
      rw [← Option.some.inj e]
      exact trL_app2 (gd_0 (by decide)) rfl ta (T_tr C ht (by omega))
    · rw [if_neg w] at e
      cases e
  rw [if_neg l6] at e
  by_cases l8 : law = 8
  · rw [if_pos l8] at e
    unfold samQ at e
    rw [snd_eq ha] at e
    obtain ⟨z, ez⟩ : ∃ z : Int, (if (g n).1 = 2 ∨ (g n).1 = 3 then (0 : Int) else 1) = z := ⟨_, rfl⟩
    rw [ez] at e
    split at e
    · rw [← Option.some.inj e]
      exact ta
    · split at e
      · rw [← Option.some.inj e]
        split
        · exact trL_app1 (gd_0 (by decide)) rfl tb
        · exact tb
      · cases e
  rw [if_neg l8] at e
  unfold morQ at e
  rw [snd_eq ha] at e
  by_cases l3 : law = 3
  · rw [if_pos l3] at e
    by_cases w : (g n).1 = 4 ∧ ((g (n + 1 + ma)).1 = 2 ∨ (g (n + 1 + ma)).1 = 3)
    · rw [if_pos w] at e
      have nb : npa (g (n + 1 + ma)).1 = 2 := npa_2 (by omega)
      obtain ⟨mb1, mb2, emb, hb1, hb2⟩ := sub_2 hb nb
      rw [snd_eq hb1] at e
      rw [← Option.some.inj e]
      have := trL_app2 (x := ((g (n + 1 + ma)).1, 0)) (gd_0 (by omega)) nb (trL_app2 (x := (4, 0)) (gd_0 (by decide)) rfl ta (T_tr C hb1 (by omega))) (trL_app2 (x := (4, 0)) (gd_0 (by decide)) rfl ta (T_tr C hb2 (by omega)))
      rw [List.cons_append, List.append_assoc] at this
      exact this
    · rw [if_neg w] at e
      cases e
  rw [if_neg l3] at e
  by_cases l4 : law = 4
  · rw [if_pos l4] at e
    by_cases w : ((g n).1 = 2 ∨ (g n).1 = 3) ∧ (g (n + 1)).1 = 4 ∧ (g (n + 1 + ma)).1 = 4 ∧ trT g (n + 1 + 1) = trT g (n + 1 + ma + 1)
    · rw [if_pos w] at e
      obtain ⟨ma1, ma2, ema, ha1, ha2⟩ := sub_2 ha (npa_2 (by omega))
      obtain ⟨mb1, mb2, emb, hb1, hb2⟩ := sub_2 hb (npa_2 (by omega))
      rw [snd_eq ha1, snd_eq hb1] at e
      rw [← Option.some.inj e]
      exact trL_app2 (gd_0 (by decide)) rfl (T_tr C ha1 (by omega)) (trL_app2 gs n2 (T_tr C ha2 (by omega)) (T_tr C hb2 (by omega)))
    · rw [if_neg w] at e
      cases e
  rw [if_neg l4] at e
  by_cases w : ((g n).1 = 4 ∨ (g n).1 = 5) ∧ (g (n + 1)).1 = 5
  · rw [if_pos w] at e
    obtain ⟨ma1, ma2, ema, ha1, ha2⟩ := sub_2 ha (npa_2 (by omega))
    rw [snd_eq ha1] at e
    rw [← Option.some.inj e]
    split
    · have := trL_app2 (x := (5, 0)) (gd_0 (by decide)) rfl (trL_app2 (x := (4, 0)) (gd_0 (by decide)) rfl (T_tr C ha1 (by omega)) tb) (T_tr C ha2 (by omega))
      rw [List.cons_append, List.append_assoc] at this
      exact this
    · exact trL_app2 (gd_0 (by decide)) rfl (T_tr C ha1 (by omega)) (trL_app2 (gd_0 (by decide)) rfl (T_tr C ha2 (by omega)) tb)
  · rw [if_neg w] at e
    cases e
/-- a tree changed by a law at a node -/
noncomputable def chg (g : Nat → nod) (N n : Nat) (law : Int) : Option (List nod) := match lawQ g n law with
  | none => none
  | some Q => some (pce g 0 n ++ (Q ++ pce g (n + siz g n) (N - (n + siz g n))))
theorem chg_tr (C : ctx g N) (hn : n < N) {V : List nod} (e : chg g N n law = some V) : trL V := by
  obtain ⟨m, nm, hm⟩ := sub_ex C.1 hn
  unfold chg at e
  cases eq : lawQ g n law with
  | none => rw [eq] at e; cases e
  | some Q =>
    rw [eq] at e
    replace e : some (pce g 0 n ++ (Q ++ pce g (n + siz g n) (N - (n + siz g n)))) = some V := e
    have tQ := lawQ_tr C hm nm eq
    have h := C.1
    rw [show N = n + (m + (N - (n + m))) by omega, pce_app, pce_app, Nat.zero_add] at h
    obtain ⟨i, h1, h2⟩ := wlk_app.mp h
    obtain ⟨j, h3, h4⟩ := wlk_app.mp h2
    have ej := wlk_dif h3 hm
    have i1 : 1 ≤ i := by
      have m1 := wlk_ne hm
      rw [pce_len] at m1
      obtain ⟨r, er⟩ : ∃ r, m = r + 1 := ⟨m - 1, by omega⟩
      rw [er] at h3
      exact h3.1
    rw [← Option.some.inj e, siz_eq hm]
    refine ⟨fun x hx => ?_, wlk_app.mpr ⟨i, h1, wlk_app.mpr ⟨i - 1, wlk_one tQ.2 i1, by rw [show i - 1 = j by omega]; exact h4⟩⟩⟩
    have inr : ∀ {a b : Nat}, x ∈ pce g a b → a + b ≤ N → gdn x := fun {a b} hx ab => by
      obtain ⟨k, hk, ex⟩ := pce_mem hx
      rw [ex]
      exact C.2.1 (a + k) (Nat.zero_le _) (by omega)
    rcases List.mem_append.mp hx with q | q
    · exact inr q (by omega)
    · rcases List.mem_append.mp q with q | q
      · exact tQ.1 x q
      · exact inr q (by omega)
end
