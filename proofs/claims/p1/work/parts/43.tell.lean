/-! THE SCRIPT TOLD ANEW, AND THE CALL'S NUMBER -/
theorem s_h1_0 {n : Nat} {c0 : s_C} {a : List s_C} {b : List (List s_C)} {t : List (List (List s_C))} : s_get (s_h1 n c0 a b t) 0 = some c0 := rfl
theorem s_retell {s : State} {dC : Nat → ClassId} {dI : Nat → Nat → Nat} {ρ : Nat → Int32} {base n nL : Nat} {ad : List Nat} {a : List s_C} {b9 : List (List s_C)} {t : List (List (List s_C))} {H : Heap} {ts ts' L st : List Term} {ls : Array Slot} {vs : List Value} {locs : List Loc} (h : ∀ v0, s_DS ρ ad ts v0 → s_DS ρ ad ts' v0) (hS : s_SR s dC dI ρ base nL ad L st (s_h1 n (2, 0, ts) a b9 t) H ls vs locs) : s_SR s dC dI ρ base nL ad L st (s_h1 n (2, 0, ts') a b9 t) H ls vs locs := by
  obtain ⟨hL, hD, hH, hF⟩ := hS
  refine ⟨hL, hD, ⟨hH.1, hH.2.1, hH.2.2.1, fun k c hk => ?_⟩, hF⟩
  rcases s_h1_get (c1 := ((2, 0, ts) : s_C)) hk with ⟨rfl, rfl⟩ | hk'
  · right
    rcases hH.2.2.2 0 _ s_h1_0 with q | ⟨a1, q1, q2⟩
    · cases q
    · refine ⟨a1, q1, ?_⟩
      rcases q2 with ⟨q, -⟩ | ⟨-, cell, g1, g2, g3, g4, g5⟩
      · cases q
      · exact Or.inr ⟨Or.inr rfl, cell, g1, g2, g3, h _ g4, g5⟩
  · exact hH.2.2.2 k c hk'
theorem s_i32_nat (y : Int32) : Int32.ofNat y.toBitVec.toNat = y := by
  apply Int32.toBitVec_inj.mp
  simp [Int32.ofNat]
theorem s_and127 (x : Int32) : ∃ k, k < 128 ∧ x &&& 127 = Int32.ofNat k := by
  refine ⟨(x &&& 127).toBitVec.toNat, ?_, (s_i32_nat _).symm⟩
  rw [Int32.toBitVec_and, BitVec.toNat_and]
  exact Nat.lt_of_le_of_lt Nat.and_le_right (by decide)
