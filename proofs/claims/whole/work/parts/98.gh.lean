/-! what a working leaves -/
/-- the clock is no less than every time -/
def ckB (s : Nat → Int) (A : Nat → Nat → Int) : Prop := ∀ k, k < 16 → A 1373 k ≤ s 107
theorem pfn_b {A B : Nat → Nat → Int} {c x : Nat} {a : zp_R} (h : pfn A B x c a) (hA : ∀ i, i < 656 → In3 (A x i)) : ∀ i, i < 656 → In3 (B x i) := fun i hi2 => by
  obtain ⟨h1, h2⟩ := h
  have ei : i = 41 * (i / 41) + i % 41 := (Nat.div_add_mod i 41).symm
  have r : i % 41 ≤ 40 := by omega
  have e : ∀ C : Nat → Nat → Int, C x i = fp C x (i / 41) (i % 41) := fun C => by
    unfold fp
    rw [if_pos r, ← ei]
  rw [e B]
  by_cases q : i / 41 = c
  · rw [q, h1]
    unfold cf In3
    have := (a.1 (i % 41)).isLt
    omega
  · rw [h2 _ q, ← e A]
    exact hA i hi2
theorem wc_after {T : Nat → th} {s s' : Nat → Int} {A A' : Nat → Nat → Int} {c : Nat} (E : rdE s A T) (hc : c < 16) (cb : ckB s A) (c0 : 0 ≤ s 107 ∧ s 107 ≤ 2000000000) (φ : wcR T s A c s' A') : rdE s' A' T ∧ ckB s' A' ∧ s' 107 = s 107 + 1 ∧ (∀ x, x = 1367 ∨ x = 1368 ∨ x = 1373 → A' x = A x) ∧ ¬ due A' c ∧ ∀ j, j ≠ c → (due A' j ↔ due A j) := by
  obtain ⟨s1, A1, φ, w76, es, o, e71, e72, e74, n1, n2⟩ := φ
  have E1 : rdE s1 A1 T := rdE_to (rdE_m (wc_E hc E) 2) φ.2.2.1 φ.2.1
  have r1 : ∀ x, rdL.contains x = false → x ≠ 1334 → A1 x = A x := fun x y0 y1 => (φ.2.2.1 x y0).trans (up_ne _ _ y1)
  have e67 : A' 1367 = A 1367 := (o 1367 (by decide) (by decide) (by decide) (by decide) (by decide)).trans (r1 1367 rfl (by decide))
  have e68 : A' 1368 = A 1368 := (o 1368 (by decide) (by decide) (by decide) (by decide) (by decide)).trans (r1 1368 rfl (by decide))
  have e73 : A' 1373 = A 1373 := (o 1373 (by decide) (by decide) (by decide) (by decide) (by decide)).trans (r1 1373 rfl (by decide))
  have s107 : s' 107 = s 107 + 1 := by rw [es, up_at]
  obtain ⟨hS, hB, hV, hF, hR⟩ := E
  have hN := hng_to e67 e68
  have i55 : (0 ≤ s1 55 ∧ s1 55 ≤ 100) ∧ In3 (s1 56) := by
    unfold In3
    rcases φ.2.2.2 with x | x | x
    · omega
    · have := x.1.1; have := x.1.2.1; omega
    · have := x.1; have := x.2.1; omega
  refine ⟨⟨?_, ⟨fun k hk => ?_, fun i hi2 => ?_⟩, fun i hi2 => ?_, ?_, ?_⟩, fun k hk => ?_, s107, ?_, ?_, fun j hj => ?_⟩
  · have h := E1.1
    unfold SX at *
    rw [es, up_ne _ _ (by decide), o 1334 (by decide) (by decide) (by decide) (by decide) (by decide)]
    exact h
  · have b := hB.1 k hk
    rw [e67, e71, e72, e73, e74]
    refine ⟨b.1, ?_, ?_, b.2.2.2.1, ?_⟩
    · show 0 ≤ (if k = c then s1 55 else A 1371 k) ∧ (if k = c then s1 55 else A 1371 k) ≤ 100
      split
      · exact i55.1
      · exact b.2.1
    · show In3 (if k = c then s1 56 else A 1372 k)
      split
      · exact i55.2
      · exact b.2.2.1
    · show In3 (if k = c then s 107 + 1 else A 1374 k)
      split
      · unfold In3; omega
      · exact b.2.2.2.2
  · rw [e68]
    exact hB.2 i hi2
  · by_cases w : s1 55 = 0
    · obtain ⟨a, b, _, p1, p2⟩ := n2 w
      exact ⟨pfn_b p1 (fun i hi2 => (hV i hi2).1) i hi2, pfn_b p2 (fun i hi2 => (hV i hi2).2) i hi2⟩
    · obtain ⟨z1, z2⟩ := n1 w
      rw [z1, z2]
      exact hV i hi2
  · intro k hk y1 y2
    by_cases q : k = c
    · subst q
      rw [e71] at y2
      replace y2 : (if k = k then s1 55 else A 1371 k) = 0 := y2
      rw [if_pos rfl] at y2
      obtain ⟨a, b, f, p1, p2⟩ := n2 y2
      exact ⟨a, b, p1.1, p2.1, f.2.2⟩
    · rw [e73, e74] at y1
      replace y1 : A 1373 k < (if k = c then s 107 + 1 else A 1374 k) := y1
      rw [if_neg q] at y1
      rw [e71] at y2
      replace y2 : (if k = c then s1 55 else A 1371 k) = 0 := y2
      rw [if_neg q] at y2
      obtain ⟨a, b, z1, z2, z3⟩ := hF k hk y1 y2
      by_cases w : s1 55 = 0
      · obtain ⟨_, _, _, p1, p2⟩ := n2 w
        exact ⟨a, b, (p1.2 k q).trans z1, (p2.2 k q).trans z2, z3⟩
      · obtain ⟨x1, x2⟩ := n1 w
        refine ⟨a, b, ?_, ?_, z3⟩
        · unfold fp at *
          rw [x1]
          exact z1
        · unfold fp at *
          rw [x2]
          exact z2
  · refine RI_st E1.2.2.2.2 (fun j hj => ?_) (by rw [es, up_ne _ _ (by decide)])
    have : sto.all (fun j => decide (j < 1369)) = true := rfl
    rw [List.all_eq_true] at this
    have w := of_decide_eq_true (this j (List.contains_iff_mem.mp hj))
    exact o j (by omega) (by omega) (by omega) (by omega) (by omega)
  · have := cb k hk
    rw [e73, s107]
    omega
  · intro x hx
    rcases hx with q | q | q <;> subst q
    · exact e67
    · exact e68
    · exact e73
  · intro w
    refine w.2 ?_
    unfold wkd
    rw [e73, e74]
    have := cb c hc
    refine ⟨?_, fun k hk _ => ?_⟩
    · show A 1373 c < (if c = c then s 107 + 1 else A 1374 c)
      rw [if_pos rfl]
      omega
    · show A 1373 k < (if c = c then s 107 + 1 else A 1374 c)
      rw [if_pos rfl]
      have := cb k hk
      omega
  · unfold due wkb wkd
    rw [hN, e67, e73, e74]
    show _ ∧ ¬ (A 1373 j < (if j = c then s 107 + 1 else A 1374 j) ∧ ∀ k, k < 16 → (hng A j).testBit k = true → A 1373 k < (if j = c then s 107 + 1 else A 1374 j)) ↔ _
    rw [if_neg hj]
