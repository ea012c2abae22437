/-! the reference's isChanged, change -/
/-- a change's planting -/
def chQ (s : Nat → Int) (A : Nat → Nat → Int) (N n : Nat) (law : Int) (v : Term) (s' : Nat → Int) (A' : Nat → Nat → Int) : Prop := ∃ V, NW s A s' A' V ∧ V.length ≤ 420 ∧ (∀ V', chg (gr A 1352 1353) N n law = some V' → v = vi 1 ∧ V = V') ∧ (chg (gr A 1352 1353) N n law = none → v = vi 0)
def chgF (cnt i law : Int) (t : th) (res : Sum th Int) : Prop := match t with
  | .inr (.inr (.inr (n, so, va))) => (¬ (0 ≤ i ∧ i < n) → res = .inr 1) ∧ ((0 ≤ i ∧ i < n) → (¬ (0 ≤ law ∧ law ≤ 11) → res = .inr 2) ∧ ((0 ≤ law ∧ law ≤ 11) → ∃ g : Nat → nod, (∀ k, k < n → g k = (so k, va k)) ∧ (chg g n i.toNat law = none → res = .inr 2) ∧ ∀ V, chg g n i.toNat law = some V → ((cnt = 150 ∨ 200 < V.length) → res = .inr 3) ∧ (¬ (cnt = 150 ∨ 200 < V.length) → res = .inl (th_L V))))
  | _ => True
section
variable {d : Nat} {h : s_H} {s : Nat → Int} {A : Nat → Nat → Int} {N : Nat}
theorem V_isChanged (C : ctx (gr A 1352 1353) N) (hv : RV h s A) (e82 : s 82 = (N : Int)) {n : Nat} (hn : n < N) {law : Int} (hl : 0 ≤ law ∧ law ≤ 11) : wm sw_P (d + 6) 473 [.index 1290, vi (n : Int), vi law] h (RA h (chQ s A N n law)) := by
  refine wm_in (cd := sw_c473) (nL := 3) (hd := sw_h473) rfl rfl ?_
  have n200 := C.2.2
  obtain ⟨m, nm, hm⟩ := sub_ex C.1 hn
  have v1 := RV_fld hv (up s 85 0) (rF_85 s 0)
  have N0 : NW s A (up s 85 0) A [] := ⟨rfl, fun _ _ _ => rfl, rfl⟩
  refine k473_0 hv.1 v1.1 (wm_mono (wq_N (fun h2 s2 A2 v2 r2 n2 => ?_)) (V_pp C v1 N0 (a := 0) (m := n) (x := 0) (y := (n : Int)) (by omega) (by show 0 + n ≤ 420; omega) (by omega) (by omega)))
  have l2 : (([] : List nod) ++ pce (gr A 1352 1353) 0 n).length = n := by
    show (pce (gr A 1352 1353) 0 n).length = n
    rw [pce_len]
  have R2 : FR h _ := FR_trans (FR_fld hv (1, 11, rF (up s 85 0))) r2
  refine k473_11 v2.1 (wm_mono (wq_A (fun v' h3 s3 A3 v3 r3 φ => ?_)) (V_plantsLaw C v2 n2 hm nm (by rw [l2]; omega) hl))
  obtain ⟨V, n3, lV, y1, y2⟩ := φ
  rw [l2] at lV
  cases eq : lawQ (gr A 1352 1353) n law with
  | none =>
    have ec : chg (gr A 1352 1353) N n law = none := by
      unfold chg
      rw [eq]
    have ev := y2 eq
    subst ev
    exact k473_17 (fun w => absurd rfl w) (fun _ => k473_20 ⟨_, _, _, _, v3, FR_trans R2 r3, ⟨V, n3, by omega, fun V' h' => (by rw [ec] at h'; cases h'), fun _ => rfl⟩, rfl⟩) (c1 := by decide)
  | some Q =>
    have ec : chg (gr A 1352 1353) N n law = some (pce (gr A 1352 1353) 0 n ++ (Q ++ pce (gr A 1352 1353) (n + m) (N - (n + m)))) := by
      unfold chg
      rw [eq, siz_eq hm]
    obtain ⟨ev, eV⟩ := y1 Q eq
    subst ev
    refine k473_17 (fun _ => ?_) (fun w => absurd (by decide) w) (c1 := by decide)
    refine k473_22 v3.1 (wm_mono (wq_r ?_) (V_beh C v3 n3 hm nm rfl))
    have s82 : s3 82 = (N : Int) := by rw [n3.1, up_ne _ _ (by decide), e82]
    refine k473_28 (z5 := (N : Int)) v3.1 v3.1 (wm_mono (wq_N (fun h4 s4 A4 v4 r4 n4 => k473_35 ?_)) (V_pp C v3 n3 (a := n + m) (m := N - (n + m)) (by omega) (by omega) (by omega) (by omega))) (n6 := by
      show some (vi (s3 82)) = _
      rw [s82])
    refine ⟨_, _, _, _, v4, FR_trans R2 (FR_trans r3 r4), ⟨_, n4, ?_, fun V' h' => ?_, fun h' => ?_⟩, rfl⟩
    · rw [List.length_append, pce_len]
      omega
    · rw [ec] at h'
      refine ⟨rfl, ?_⟩
      rw [← Option.some.inj h', eV]
      simp only [List.append_assoc, List.nil_append]
    · rw [ec] at h'
      cases h'
theorem V_change (hv : RV h s A) {T : Nat → th} (hR : RI s A T) {x i law : Int} (hx : In3 x) (hi3 : In3 i) (hl : In3 law) : wm sw_P (d + 7) 413 [.index 1290, vi x, vi i, vi law] h (RA h (fun v s' A' => ∃ res, unS (s 1) T (fun n => n = 3) x (chgF (s 1) i law) res ∧ endz s A T res v s' A')) := by
  refine wm_in (cd := sw_c413) (nL := 4) (hd := sw_h413) rfl rfl ?_
  have b0 := hR.1.1
  refine k413_0 hv.1 (wm_mono (wq_A (fun v1 h1 s1 A1 w1 r1 φ => ?_)) (V_isOf hv hR hx (k := 3) (by decide)))
  rcases φ with ⟨ev, e1, q, eA⟩ | ⟨ev, e1, q, f, ef, lf, kf, m1, _, gA⟩
  · rw [ev]
    refine k413_6 (fun w => absurd rfl w) (fun _ => k413_9 ⟨vi 0, h1, s1, A1, w1, r1, ⟨.inr (one s T x 3), one_un q, ?_⟩, rfl⟩)
    exact endz_bad hR (sq_refl s) sm_refl rfl e1 eA
  rw [ev]
  subst ef
  have xf : (f : Int).toNat = f := by omega
  have eA := gA (by decide)
  rw [eA] at w1
  have hf := hR.2.2 f lf
  have s11 : s1 1 = s 1 := by rw [e1]; rfl
  refine k413_6 (fun _ => ?_) (fun w => absurd (by decide) w)
  rcases ef1 : T f with ⟨a, b⟩ | a | ⟨r, c, M⟩ | ⟨n, so, va⟩
  · rw [ef1] at kf; exact (kdn kf rfl).elim
  · rw [ef1] at kf; exact (kdn kf rfl).elim
  · rw [ef1] at kf; exact (kdn kf rfl).elim
  rw [ef1] at hf
  have sp : ∀ res : Sum th Int, chgF (s 1) i law (th_fo n so va) res → unS (s 1) T (fun n => n = 3) f (chgF (s 1) i law) res := fun res w => ⟨fun w2 => absurd ⟨by omega, lf⟩ w2, fun _ w2 => (w2 (by rw [xf]; exact kf)).elim, fun _ _ => by rw [xf, ef1]; exact w⟩
  have n200 := hf.2.1.1
  have ht := tro_L.mp hf.2.1.2
  refine k413_11 w1.1 (wm_mono (wq_N (fun h2 s2 A2 v2 r2 χ => ?_)) (V_loadT w1 (by omega) hf))
  obtain ⟨x1, x2⟩ := ld_sm χ
  have isq : sq s s2 := sq_tr (by rw [e1]; exact sq_up (sq_refl s) _ rfl) x1
  have R12 := FR_trans r1 r2
  have e82 : s2 82 = (n : Int) := by rw [χ.1, up_at]
  have pe := ld_pce χ (a := 0) (m := n) (by omega)
  have ag : ∀ k, k < n → gr A2 1352 1353 k = (so k, va k) := fun k hk => by
    obtain ⟨z1, z2⟩ := χ.2.2 k hk
    unfold gr
    rw [z1, z2]
  have C : ctx (gr A2 1352 1353) n := ⟨by rw [pe]; exact ht.2, fun k _ hk => by
    rw [ag k hk]
    have := ht.1 _ (pce_in (g := fun k => (so k, va k)) (a := 0) hk)
    rw [Nat.zero_add] at this
    exact this, n200.2⟩
  have badE : ∀ {h3 : s_H} {s3 : Nat → Int} {A3 : Nat → Nat → Int} {k : Int} {v' : Term} {h4 : s_H} {s4 : Nat → Int} {A4 : Nat → Nat → Int}, sq s s3 → sm A A3 scrA → RV h4 s4 A4 → FR h h4 → (v' = vi 0 ∧ s4 = up s3 0 k ∧ A4 = A3) → chgF (s 1) i law (th_fo n so va) (.inr k) → RA h (fun v s' A' => ∃ res, unS (s 1) T (fun n => n = 3) f (chgF (s 1) i law) res ∧ endz s A T res v s' A') (.inl (some v'), h4, 0, 0) := fun {h3 s3 A3 k v' h4 s4 A4} q1 q2 v4 r4 φ hc => ⟨_, _, _, _, v4, r4, ⟨.inr k, sp _ hc, endz_bad hR q1 q2 φ.1 φ.2.1 φ.2.2⟩, rfl⟩
  refine k413_16 (z6 := (n : Int)) v2.1 (wm_mono (wq_r ?_) (t_in (by unfold In6; unfold In3 at hi3; omega) (by decide) (by unfold In6; omega))) (n7 := by
    show some (vi (s2 82)) = _
    rw [e82]) (c1 := hi3) (c8 := by unfold In3; omega)
  by_cases q1 : 0 ≤ i ∧ i ≤ (n : Int) - 1
  rotate_left
  · rw [if_neg q1]
    refine k413_29 (fun w => absurd rfl w) (fun _ => k413_32 v2.1 (wm_mono (wq_A (fun v' h4 s4 A4 v4 r4 φ => ?_)) (V_raise v2))) (c1 := by decide)
    obtain ⟨φ1, φ2⟩ := φ
    subst φ1
    exact k413_37 (badE (h3 := h2) isq x2 v4 (FR_trans R12 r4) ⟨rfl, φ2⟩ ⟨fun _ => rfl, fun w => absurd ⟨w.1, by omega⟩ q1⟩)
  rw [if_pos q1]
  obtain ⟨j, ej⟩ : ∃ j : Nat, i = j := ⟨i.toNat, by omega⟩
  subst ej
  have jj : (j : Int).toNat = j := by omega
  refine k413_29 (fun _ => ?_) (fun w => absurd (by decide) w) (c1 := by decide)
  refine k413_38 (wm_mono (wq_r ?_) (t_in (by unfold In6; unfold In3 at hl; omega) (by decide) (by decide))) (c1 := hl)
  by_cases q2 : 0 ≤ law ∧ law ≤ 11
  rotate_left
  · rw [if_neg q2]
    refine k413_47 (fun _ => k413_59 v2.1 (wm_mono (wq_A (fun v' h4 s4 A4 v4 r4 φ => ?_)) (V_raise v2))) (fun w => absurd rfl w) (c1 := by decide)
    obtain ⟨φ1, φ2⟩ := φ
    subst φ1
    exact k413_64 (badE (h3 := h2) isq x2 v4 (FR_trans R12 r4) ⟨rfl, φ2⟩ ⟨fun w => absurd ⟨by omega, by omega⟩ w, fun _ => ⟨fun _ => rfl, fun w => absurd w q2⟩⟩)
  rw [if_pos q2]
  refine k413_47 (fun w => absurd w (by decide)) (fun _ => ?_) (c1 := by decide)
  refine k413_50 v2.1 (wm_mono (wq_A (fun v' h3 s3 A3 v3 r3 φ => ?_)) (V_isChanged C v2 e82 (n := j) (by omega) q2))
  obtain ⟨V, n3, lV, y1, y2⟩ := φ
  obtain ⟨u1, u2⟩ := NW_scr n3
  have isq3 := sq_tr isq u1
  have ism3 := sm_tr x2 u2
  cases eq : chg (gr A2 1352 1353) n j law with
  | none =>
    have ev := y2 eq
    subst ev
    refine k413_56 (fun w => absurd rfl w) (fun _ => k413_59 v3.1 (wm_mono (wq_A (fun v' h4 s4 A4 v4 r4 φ => ?_)) (V_raise v3))) (c1 := by decide)
    obtain ⟨φ1, φ2⟩ := φ
    subst φ1
    exact k413_64 (badE (h3 := h3) isq3 ism3 v4 (FR_trans R12 (FR_trans r3 r4)) ⟨rfl, φ2⟩ ⟨fun w => absurd ⟨by omega, by omega⟩ w, fun _ => ⟨fun w => absurd q2 w, fun _ => ⟨gr A2 1352 1353, ag, fun _ => rfl, fun V' h' => (by rw [jj, eq] at h'; cases h')⟩⟩⟩)
  | some V' =>
    obtain ⟨ev, eV⟩ := y1 V' eq
    subst ev eV
    have tV := chg_tr C (n := j) (by omega) eq
    refine k413_56 (fun _ => ?_) (fun w => absurd (by decide) w) (c1 := by decide)
    have R3 : RI s3 A3 T := RI_a hR ism3 isq3
    refine k413_65 v3.1 (wm_mono (wq_A (fun v' h4 s4 A4 v4 r4 ψ => ?_)) (V_keepTree v3 R3 (W := V) (by rw [n3.1, up_at]) n3.2.2 lV tV))
    obtain ⟨res, z1, z2, z3⟩ := ψ
    rw [sq_1 isq3] at z1 z2
    have fin := endz_of z3 isq3 ism3
    obtain ⟨x, ex⟩ := endz_vi fin
    subst ex
    exact k413_70 ⟨_, _, _, _, v4, FR_trans R12 (FR_trans r3 r4), ⟨res, sp res ⟨fun w => absurd ⟨by omega, by omega⟩ w, fun _ => ⟨fun w => absurd q2 w, fun _ => ⟨gr A2 1352 1353, ag, fun h' => (by rw [jj, eq] at h'; cases h'), fun V' h' => by
      rw [jj, eq] at h'
      rw [← Option.some.inj h']
      exact ⟨z1, z2⟩⟩⟩⟩, fin⟩, rfl⟩
end
