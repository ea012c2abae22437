/-! the class: isWhole, factored; a new polynomial -/
section
variable {D : Nat} {h : s_H}
theorem u_isWhole {a : Nat} {N B : zp_R} {f : Int} (ha : TRD h a N B) (bf : dgp B f) : wm sw_P (D + 1) 267 [.index a] h (qr (vi (if f = 0 then 1 else 0)) h) := by
  refine wm_in (cd := sw_c267) (nL := 1) (hd := sw_h267) rfl rfl ?_
  obtain ⟨q, lq, r, lr, za, a0, q0, r0, ca, _, ⟨f', _, Pb, bb, _, lb, lb'⟩⟩ := ha
  have e2 := dgp_one bb bf
  subst e2
  have b2 := bb.1
  refine k267_0 (z10 := f') ca Pb.2.1 (fun w => k267_14 (k267_15 ?_)) (fun w => k267_10 (k267_15 ?_)) (c12 := by unfold In3; omega)
  · rw [if_neg w]
  · rw [if_pos (Classical.byContradiction w)]
theorem rep_mk (L : Nat) : List.replicate L (Term.int 0) = (mk L (fun _ => 0)).map vi := by
  unfold mk
  rw [List.map_map]
  have e : (vi ∘ fun (_ : Nat) => (0 : Int)) = fun _ => Term.int 0 := rfl
  rw [e, List.map_const', List.length_range]
/-- a new polynomial: its object lies there, its numbers are made behind it -/
theorem u_initPoly {q : Nat} {x y : Term} {c0 : s_C} (q0 : 0 < q) (eq : q + 1 = h.1) (c : s_get h q = some (1, 4, [x, y])) (room : s_get h h.1 = some c0) {n : Int} (hn : -1000 ≤ n ∧ n ≤ 1000) : wm sw_P (D + 1) 166 [.index q, vi n] h (fun out => ∃ h', PO h' q (if 1 ≤ n then n.toNat else 1) (-1) (fun _ => 0) ∧ h'.1 = h.1 + 1 ∧ (∀ j, j ≠ q → j ≠ q + 1 → s_get h' j = s_get h j) ∧ out = (.inl none, h', 1, (if 1 ≤ n then n.toNat else 1))) := by
  refine wm_in (cd := sw_c166) (nL := 2) (hd := sw_h166) rfl rfl ?_
  have go : ∀ m : Int, 1 ≤ m → m ≤ 1000 → wr sw_P D sw_c166 sw_h166 (15, [.index q, vi n], [vi m, .index q], h, 0, 0) (fun out => ∃ h', PO h' q m.toNat (-1) (fun _ => 0) ∧ h'.1 = h.1 + 1 ∧ (∀ j, j ≠ q → j ≠ q + 1 → s_get h' j = s_get h j) ∧ out = (.inl none, h', 1, m.toNat)) := fun m m1 m2 => by
    have c1 : s_get (hq h (0, 0, List.replicate m.toNat (.int 0))) q = some (1, 4, [x, y]) := by
      rw [hq_get room, if_neg (by omega)]
      exact c
    have c2 := hp_at (cc := (1, 4, [.index h.1, y])) c1
    have a1 : s_get (hq h (0, 0, List.replicate m.toNat (.int 0))) (q + 1) = some (ai m.toNat (fun _ => 0)) := by
      rw [hq_get room, if_pos eq, rep_mk]
    refine k166_15 room c1 c2 ?_ (c3 := by omega) (c4 := by unfold In3; omega) (c5 := by omega)
    refine ⟨hp (hp (hq h (0, 0, List.replicate m.toNat (.int 0))) q (1, 4, [.index h.1, y])) q (1, 4, [.index h.1, vi (-1)]), ⟨q0, ?_, ?_⟩, rfl, fun j h1 h2 => ?_, ?_⟩
    · rw [eq]
      exact hp_at c2
    · exact (hp_ne c2 (by omega)).trans ((hp_ne c1 (by omega)).trans a1)
    · refine (hp_ne c2 h1).trans ((hp_ne c1 h1).trans ?_)
      rw [hq_get room, if_neg (by omega)]
    · rw [Nat.zero_add, Nat.zero_add]
      rfl
  refine k166_0 (fun w => k166_14 ?_) (fun w => k166_10 ?_) (c3 := by unfold In3; omega)
  · rw [if_pos w]
    exact go n w hn.2
  · rw [if_neg w]
    exact go 1 (by decide) (by decide)
end
