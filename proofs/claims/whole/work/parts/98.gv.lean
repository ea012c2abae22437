/-! the reference's formula -/
def formR (T : Nat → th) (s : Nat → Int) (A : Nat → Nat → Int) (v : Term) (s' : Nat → Int) (A' : Nat → Nat → Int) : Prop := (s 1 = 150 → v = vi 0 ∧ s' = up s 0 1 ∧ A' = A) ∧ (s 1 ≠ 150 → ∃ s1 s2 A2, rtR T s A 1 s1 s2 A2 ∧ (s1 55 ≠ 0 → v = vi 0 ∧ s' = up s2 0 2 ∧ A' = A2) ∧ (s1 55 = 0 → ∃ (e : Nat) (t : List nod), s1 88 = (e : Int) ∧ pzf (pce (gr A2 1356 1357) 0 e) [] = some [t] ∧ trL t ∧ t.length ≤ 200 ∧ endz s2 A2 T (.inl (th_L t)) v s' A'))
theorem tu_sm {s s' : Nat → Int} {A A' : Nat → Nat → Int} {t : List nod} (h : tuQ s A t s' A') : sq s s' ∧ sm A A' scrA := by
  obtain ⟨h1, _, h3⟩ := h
  refine ⟨?_, fun x hx => ?_⟩
  · rw [h1]
    exact sq_up (sq_refl s) _ rfl
  · have n1 : ∀ c, scrA.contains c = true → x ≠ c := fun c hc q => by
      rw [q, hc] at hx
      cases hx
    exact h3 x (n1 1354 rfl) (n1 1355 rfl) (n1 1358 rfl) (n1 1359 rfl) (n1 1360 rfl)
section
variable {d : Nat} {h : s_H} {s : Nat → Int} {A : Nat → Nat → Int}
theorem V_formula (hv : RV h s A) {T : Nat → th} (hT : TX s A) (E : rdE s A T) : wm sw_P (d + 13) 456 [.index 1290] h (RA h (formR T s A)) := by
  refine wm_in (cd := sw_c456) (nL := 1) (hd := sw_h456) rfl rfl ?_
  have hm := E.2.2.2.2.1.1
  refine k456_0 (z5 := s 1) hv.1 (fun w => ?_) (fun w => ?_) (c7 := by unfold In3; omega)
  rotate_left
  · have e1 : s 1 = 150 := Classical.byContradiction w
    refine k456_10 hv.1 (wm_mono (wq_A (fun v h1 s1 A1 v1 r1 φ => ?_)) (V_raise hv))
    obtain ⟨ev, φ2⟩ := φ
    subst ev
    exact k456_15 ⟨_, _, _, _, v1, r1, ⟨fun _ => ⟨rfl, φ2⟩, fun w2 => absurd e1 w2⟩, rfl⟩
  refine k456_16 hv.1 (wm_mono (wq_A (fun v h1 s1 A1 v1 r1 φ => ?_)) (V_readText hv hT E (m := 1) (by decide)))
  obtain ⟨s0, φ, ev⟩ := φ
  subst ev
  refine k456_21 (fun w2 => ?_) (fun w2 => ?_) (c1 := by split <;> decide)
  · have e55 : s0 55 = 0 := Classical.byContradiction (fun x => w2 (if_neg x))
    obtain ⟨e, t, x88, e200, hst, ht, hg⟩ := fr_end (tk_E hT E) φ.1 e55
    have kf1 := (rt_kf φ).1 1 rfl (by decide) (by decide) (by decide) (by decide) (by decide)
    have y88 : s1 88 = (e : Int) := by
      rw [φ.2, up_ne _ _ (by decide), up_ne _ _ (by decide), up_ne _ _ (by decide)]
      exact x88
    have tl : t.length = e := by
      have := pzf_len hst
      rw [pce_len] at this
      have z : ([t] : List (List nod)).flatten = t := by
        show t ++ [] = t
        exact List.append_nil t
      rw [z] at this
      have z2 : ([] : List (List nod)).flatten.length = 0 := rfl
      omega
    refine k456_30 v1.1 (wm_mono (wq_N (fun h2 s2 A2 v2 r2 χ => ?_)) (V_turnEmitted v1 y88 e200 hst hg))
    obtain ⟨q1, q2⟩ := tu_sm χ
    have R2 : RI s2 A2 T := RI_a (rt_RI E.2.2.2.2 φ) q2 q1
    refine k456_34 v2.1 (wm_mono (wq_A (fun v h3 s3 A3 v3 r3 ψ => ?_)) (V_keepTree v2 R2 (W := t) (by rw [χ.1, up_at]) χ.2.1 (by omega) ht))
    obtain ⟨res, z1, z2, z3⟩ := ψ
    have e21 : s2 1 = s 1 := (sq_1 q1).trans kf1
    have nf : ¬ (s2 1 = 150 ∨ 200 < t.length) := by omega
    rw [z2 nf] at z3
    have fin := endz_of z3 q1 q2
    obtain ⟨x, ex⟩ := endz_vi fin
    subst ex
    exact k456_39 ⟨_, _, _, _, v3, FR_trans r1 (FR_trans r2 r3), ⟨fun x => absurd x w, fun _ => ⟨s0, s1, A1, φ, fun x => absurd e55 x, fun _ => ⟨e, t, x88, hst, ht, by omega, fin⟩⟩⟩, rfl⟩
  · have e55 : s0 55 ≠ 0 := fun x => w2 (by rw [if_pos x]; decide)
    refine k456_24 v1.1 (wm_mono (wq_A (fun v h2 s2 A2 v2 r2 ψ => ?_)) (V_raise v1))
    obtain ⟨ev, ψ2⟩ := ψ
    subst ev
    exact k456_29 ⟨_, _, _, _, v2, FR_trans r1 r2, ⟨fun x => absurd x w, fun _ => ⟨s0, s1, A1, φ, fun _ => ⟨rfl, ψ2⟩, fun x => absurd x e55⟩⟩, rfl⟩
end
