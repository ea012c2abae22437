/-! the class: kept -/
section
variable {D : Nat} {h : s_H}
theorem u_kept {p L : Nat} {f : zp_R} {d : Int} (hf : PF h p L f) (bf : dgp f d) (np : p ≠ h.1 ∧ p + 1 ≠ h.1 ∧ p ≠ h.1 + 1) (h0 : 0 < h.1) {c0 c1 : s_C} (r0 : s_get h h.1 = some c0) (r1 : s_get h (h.1 + 1) = some c1) : wm sw_P (D + 2) 170 [.index p] h (fun out => ∃ h', PF h' h.1 (if 1 ≤ d + 1 then (d + 1).toNat else 1) f ∧ h'.1 = h.1 + 2 ∧ (∀ j, j ≠ h.1 → j ≠ h.1 + 1 → s_get h' j = s_get h j) ∧ out = (.inl (some (.index h.1)), h', 2, 2 + (if 1 ≤ d + 1 then (d + 1).toNat else 1))) := by
  obtain ⟨d', g, P, b, cg, eL, lL⟩ := id hf
  have ed := dgp_one b bf
  subst ed
  have b1 := b.1
  refine wm_in (cd := sw_c170) (nL := 2) (hd := sw_h170) rfl rfl ?_
  have k1 : ∀ j, j ≠ h.1 → s_get (hq h (1, 4, s_df 4)) j = s_get h j := fun j hj => by rw [hq_get r0, if_neg hj]
  have c : s_get (hq h (1, 4, s_df 4)) h.1 = some (1, 4, s_df 4) := by rw [hq_get r0, if_pos rfl]
  have hL : d' < ((if 1 ≤ d' + 1 then (d' + 1).toNat else 1 : Nat) : Int) := by split <;> omega
  have hL2 : (if 1 ≤ d' + 1 then (d' + 1).toNat else 1) ≤ 1000 := by split <;> omega
  refine k170_0 (z7 := d') r0 ((k1 p np.1).trans P.2.1) (wm_mono (fun out => ?_) (u_initPoly (q := h.1) (x := .null) (y := .int 0) (c0 := c1) h0 rfl c ((k1 (h.1 + 1) (by omega)).trans r1) (n := d' + 1) (by omega)))
  intro ⟨h3, P3, e1, fr, eo⟩
  rw [eo]
  refine ⟨rfl, ?_⟩
  have pf3 : PF h3 p L f := ⟨d', g, ⟨P.1, (fr p np.1 np.2.2).trans ((k1 p np.1).trans P.2.1), (fr (p + 1) np.2.1 (by omega)).trans ((k1 (p + 1) np.2.1).trans P.2.2)⟩, b, cg, eL, lL⟩
  refine k170_13 P3.2.1 (wm_mono (wq_U (fun h4 R4 F4 => k170_19 ⟨h4, R4, ?_, fun j j1 j2 => ?_, ?_⟩)) (u_setCopy ⟨⟨-1, _, P3, by decide, by omega⟩, hL2⟩ pf3 (by unfold apt; omega) b hL))
  · rw [F4.1, e1]
    rfl
  · exact (F4.2 j (fun q hq' => by rw [List.mem_singleton.mp hq']; exact ⟨j1, j2⟩)).trans ((fr j j1 j2).trans (k1 j j1))
  · rw [Nat.zero_add, Nat.zero_add]
    rfl
end
