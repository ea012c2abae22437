/-! the class: what was found is kept, or -1 -/
section
variable {D : Nat} {h : s_H} {n : Nat} {T : Nat → th} {tx lf lp tk : Int}
theorem u_keepFoundNo (H : CA h n T tx lf lp tk) {t : Nat} (O : TO h t 9) : wm sw_P (D + 4) 36 [.index 1, .index t] h (fun out => (n < 150 ∧ out = (.inl (some (vi (-1))), h, 0, 0)) ∨ (n = 150 ∧ out = (.inr 0, h, 1, 6))) := by
  refine wm_in (cd := sw_c36) (nL := 2) (hd := sw_h36) rfl rfl ?_
  refine k36_0 H.1.1 (wm_mono (fun out => ?_) (u_needRoom rfl (CA_n H) H.1.1))
  intro w
  rcases w with ⟨n1, w⟩ | ⟨n1, w⟩
  · refine wq_v ?_ out w
    exact k36_4 (z5 := 9) O.2 (fun q => absurd rfl q) (fun _ => k36_13 (k36_22 (.inl ⟨n1, rfl⟩))) (c7 := by decide)
  · rw [w]
    exact ⟨rfl, .inr ⟨n1, rfl⟩⟩
theorem u_keepFoundOut (H : CA h n T tx lf lp tk) (r : RM h 10) {t : Nat} {N Dn : zp_R} (O : OUT h t N Dn) (ot : 39 ≤ t) (th1 : t + 4 < h.1) (lN : ∀ e, dgp N e → e ≤ 40) (lD : ∀ e, dgp Dn e → e ≤ 40) (mD : mo Dn) (cND : co N Dn) {bad : Int} {l : List Nat} (eb : exl l bad = 0) : wm sw_P (D + 4) 36 [.index 1, .index t] h (fun out => ∃ res, fkR n N Dn bad res ∧ CE 10 200 10 l h n T tx lf lp tk res out) := by
  refine wm_in (cd := sw_c36) (nL := 2) (hd := sw_h36) rfl rfl ?_
  refine k36_0 H.1.1 (wm_mono (fun out => ?_) (u_needRoom rfl (CA_n H) H.1.1))
  intro w
  rcases w with ⟨n1, w⟩ | ⟨n1, w⟩
  · refine wq_v ?_ out w
    refine k36_4 (z5 := 0) O.1.2 (fun _ => k36_17 H.1.1 (wm_mono (fun out => ?_) (u_keepOut H r O ot th1 lN lD mD cND eb))) (fun q => absurd (by decide) q) (c7 := by decide)
    intro ⟨res, r1, r2⟩
    exact wq_CE (fun v h' x y q => k36_22 q) (CF_refl _ _) (by omega) (by omega) (by omega) (fun out c => ⟨res, r1, c⟩) out r2
  · rw [w]
    exact ⟨rfl, .inr bad, ⟨fun _ => rfl, fun q => absurd (.inl (by omega)) q⟩, CE_t H (CF_refl _ _) bad eb (by omega) (by omega) (by omega)⟩
theorem u_keepFoundBad (H : CA h n T tx lf lp tk) {t : Nat} (O : OE h t 5) {bad : Int} {l : List Nat} (eb : exl l bad = 0) : wm sw_P (D + 3) 36 [.index 1, .index t] h (fun out => ∃ res : Sum th Int, res = .inr bad ∧ CE 5 100 10 l h n T tx lf lp tk res out) := by
  refine wm_in (cd := sw_c36) (nL := 2) (hd := sw_h36) rfl rfl ?_
  refine k36_0 H.1.1 (wm_mono (fun out => ?_) (u_needRoom rfl (CA_n H) H.1.1))
  intro w
  rcases w with ⟨n1, w⟩ | ⟨n1, w⟩
  · refine wq_v ?_ out w
    refine k36_4 (z5 := 5) O.1.2 (fun _ => k36_17 H.1.1 (wm_mono (fun out => ?_) (u_keepBad H O eb))) (fun q => absurd (by decide) q) (c7 := by decide)
    intro r2
    exact wq_CE (fun v h' x y q => k36_22 q) (CF_refl _ _) (by omega) (by omega) (by omega) (fun out c => ⟨.inr bad, rfl, c⟩) out r2
  · rw [w]
    exact ⟨rfl, .inr bad, rfl, CE_t H (CF_refl _ _) bad eb (by omega) (by omega) (by omega)⟩
end
