/-! the reference's kind in the picture -/
def kinS (cnt : Int) (T : Nat → th) (x : Int) (c a : Int) : Prop := (¬ (0 ≤ x ∧ x < cnt) → c = 1 ∧ a = 0) ∧ ((0 ≤ x ∧ x < cnt) → c = 0 ∧ a = kd (T x.toNat))
section
variable {d : Nat} {h : s_H} {s : Nat → Int} {A : Nat → Nat → Int}
theorem V_kind (hv : RV h s A) {T : Nat → th} (hR : RI s A T) {x : Int} (hx : In3 x) : wm sw_P (d + 3) 501 [.index 1290, vi x] h (RA h (fun v s' A' => ∃ c a, kinS (s 1) T x c a ∧ v = vi a ∧ s' = up s 0 c ∧ A' = A)) := by
  refine wm_in (cd := sw_c501) (nL := 2) (hd := sw_h501) rfl rfl ?_
  have b0 := hR.1.1
  have v0 : ∀ z : Int, RV (hp h 1290 (1, 11, (rF s).set 0 (vi z))) (up s 0 z) A := fun z => RV_fld hv (up s 0 z) (rF_0 s z)
  refine k501_0 hv.1 (wm_mono (wq_r ?_) (V_isThere hv b0 hx))
  by_cases hin : 0 ≤ x ∧ x < s 1
  · rw [if_pos hin]
    refine k501_6 (fun w => absurd w (by decide)) (fun _ => ?_)
    have e : gi (mk 150 (A 1291)) x = kd (T x.toNat) := by
      rw [gi_mk hin.1 (by omega)]
      exact isT_kd (hR.2.2 x.toNat (by omega))
    refine k501_9 (k501_14 (z10 := 0) hv.1 (hp_at hv.1) (fun _ => ?_) (fun w => absurd (by decide) w))
    refine k501_28 (v0 0).1 (Ra_kind (v0 0)) (k501_34 ?_) (c10 := by rw [mk_len]; omega) (c11 := hin.1) (c12 := hx)
    rw [e]
    exact ⟨_, _, _, A, v0 0, FR_fld hv _, ⟨0, _, ⟨fun w => absurd hin w, fun _ => ⟨rfl, rfl⟩⟩, rfl, rfl, rfl⟩, rfl⟩
  · rw [if_neg hin]
    refine k501_6 (fun _ => ?_) (fun w => absurd rfl w)
    refine k501_13 (k501_14 (z10 := 1) hv.1 (hp_at hv.1) (fun w => absurd w (by decide)) (fun _ => ?_))
    exact k501_24 (k501_34 ⟨_, _, _, A, v0 1, FR_fld hv _, ⟨1, 0, ⟨fun _ => ⟨rfl, rfl⟩, fun w => absurd w hin⟩, rfl, rfl, rfl⟩, rfl⟩)
end
