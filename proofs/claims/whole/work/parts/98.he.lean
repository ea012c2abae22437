/-! the reference's worth -/
theorem wok_0 {g : Nat → nod} {N : Nat} {R : Nat → Int} {F D : Nat → zp_R} (C : ctx g N) (w : ∀ j, j < N → wok g R F D j) (r : ∀ j, j < N → R j ≤ 1) : ∀ l j, N ≤ j + l → j < N → R j = 0 := by
  intro l
  induction l with
  | zero => exact fun j h1 h2 => absurd h1 (by omega)
  | succ l ih =>
    intro j h1 h2
    obtain ⟨hm, nm, m0⟩ := siz_in C h2
    have can : npa (g j).1 = 0 ∨ (R (j + 1) = 0 ∧ (npa (g j).1 ≠ 2 ∨ R (snd_ g j) = 0)) := by
      rcases npa_012 (g j).1 with y | y | y
      · exact .inl y
      · obtain ⟨ma, em, hma⟩ := sub_1 hm y
        have := wlk_ne hma
        rw [pce_len] at this
        exact .inr ⟨ih (j + 1) (by omega) (by omega), .inl (by omega)⟩
      · obtain ⟨ma, mb, em, hma, hmb⟩ := sub_2 hm y
        have := wlk_ne hma
        rw [pce_len] at this
        have := wlk_ne hmb
        rw [pce_len] at this
        rw [snd_eq hma]
        exact .inr ⟨ih (j + 1) (by omega) (by omega), .inr (ih (j + 1 + ma) (by omega) (by omega))⟩
    have := ((w j h2).1 can).2
    have := r j h2
    omega
def worF (cnt : Int) (t : th) (res : Sum th Int) : Prop := match t with
  | .inr (.inr (.inr (n, so, va))) => ∃ (g : Nat → nod) (R : Nat → Int) (F D : Nat → zp_R), (∀ k, k < n → g k = (so k, va k)) ∧ (∀ j, j < n → wok g R F D j) ∧ ((∃ k, k < n ∧ 1 < R k ∧ (∀ j, j < n → 1 < R j → pso g n k ≤ pso g n j) ∧ res = .inr (R k)) ∨ ((∀ j, j < n → R j = 0) ∧ frt (F 0) (D 0) ∧ (cnt = 150 → res = .inr 4) ∧ (cnt ≠ 150 → res = .inl (th_fr (F 0) (D 0)))))
  | _ => True
section
variable {d : Nat} {h : s_H} {s : Nat → Int} {A : Nat → Nat → Int}
theorem V_worth (hv : RV h s A) {T : Nat → th} (hR : RI s A T) {x : Int} (hx : In3 x) : wm sw_P (d + 11) 620 [.index 1290, vi x] h (RA h (fun v s' A' => ∃ res, unS (s 1) T (fun n => n = 3) x (worF (s 1)) res ∧ endz s A T res v s' A')) := by
  refine wm_in (cd := sw_c620) (nL := 3) (hd := sw_h620) rfl rfl ?_
  have b0 := hR.1.1
  refine k620_0 hv.1 (wm_mono (wq_A (fun v1 h1 s1 A1 w1 r1 φ => ?_)) (V_isOf hv hR hx (k := 3) (by decide)))
  rcases φ with ⟨ev, e1, q, eA⟩ | ⟨ev, e1, q, f, ef, lf, kf, m1, _, gA⟩
  · rw [ev]
    refine k620_6 (fun w => absurd rfl w) (fun _ => k620_9 ⟨vi 0, h1, s1, A1, w1, r1, ⟨.inr (one s T x 3), one_un q, ?_⟩, rfl⟩)
    exact endz_bad hR (sq_refl s) sm_refl rfl e1 eA
  rw [ev]
  subst ef
  have xf : (f : Int).toNat = f := by omega
  have eA := gA (by decide)
  rw [eA] at w1
  have hf := hR.2.2 f lf
  have s11 : s1 1 = s 1 := by rw [e1]; rfl
  refine k620_6 (fun _ => ?_) (fun w => absurd (by decide) w)
  rcases ef1 : T f with ⟨a, b⟩ | a | ⟨r, c, M⟩ | ⟨n, so, va⟩
  · rw [ef1] at kf; exact (kdn kf rfl).elim
  · rw [ef1] at kf; exact (kdn kf rfl).elim
  · rw [ef1] at kf; exact (kdn kf rfl).elim
  rw [ef1] at hf
  have sp : ∀ res : Sum th Int, worF (s 1) (th_fo n so va) res → unS (s 1) T (fun n => n = 3) f (worF (s 1)) res := fun res w => ⟨fun w2 => absurd ⟨by omega, lf⟩ w2, fun _ w2 => (w2 (by rw [xf]; exact kf)).elim, fun _ _ => by rw [xf, ef1]; exact w⟩
  have n200 := hf.2.1.1
  have ht := tro_L.mp hf.2.1.2
  refine k620_11 w1.1 (wm_mono (wq_N (fun h2 s2 A2 v2 r2 χ => ?_)) (V_loadT w1 (by omega) hf))
  obtain ⟨x1, x2⟩ := ld_sm χ
  have isq : sq s s2 := sq_tr (by rw [e1]; exact sq_up (sq_refl s) _ rfl) x1
  have R12 := FR_trans r1 r2
  have e82 : s2 82 = (n : Int) := by rw [χ.1, up_at]
  have pe := ld_pce χ (a := 0) (m := n) (by omega)
  have ag : ∀ k, k < n → gr A2 1352 1353 k = (so k, va k) := fun k hk => by
    obtain ⟨z1, z2⟩ := χ.2.2 k hk
    unfold gr
    rw [z1, z2]
  have C : ctx (gr A2 1352 1353) n := ⟨by rw [pe]; exact ht.2, fun k _ hk => by
    rw [ag k hk]
    have := ht.1 _ (pce_in (g := fun k => (so k, va k)) (a := 0) hk)
    rw [Nat.zero_add] at this
    exact this, n200.2⟩
  refine k620_16 v2.1 (wm_mono (wq_A (fun v' h3 s3 A3 v3 r3 φ => ?_)) (V_workTree C v2 e82))
  obtain ⟨e3, R, F, D, f', p', I, b, ev'⟩ := φ
  subst e3 ev'
  obtain ⟨I1, _, I3, I4⟩ := I
  have ism : sm A A3 scrA := sm_tr x2 (sm_sub I1 rfl)
  have wk : ∀ j, j < n → wok (gr A2 1352 1353) R F D j := fun j hj => (I3 j (Nat.zero_le _) hj).1
  have if' : In3 f' := by
    rcases b with ⟨y, _⟩ | ⟨j, _, hj, _, y, _⟩
    · rw [y]; decide
    · have := (I3 j (Nat.zero_le _) hj).2.1
      unfold In3
      omega
  refine k620_20 (fun w => ?_) (fun w => ?_) (c1 := if')
  · -- nothing fails
    obtain ⟨_, _, no⟩ : f' = 0 ∧ p' = (n : Int) ∧ ∀ j, 0 ≤ j → j < n → R j ≤ 1 := by
      rcases b with y | ⟨j, _, hj, y1, y2, _⟩
      · exact y
      · omega
    have all := wok_0 C wk (fun j hj => no j (Nat.zero_le _) hj) n
    have R0 : R 0 = 0 := all 0 (by omega) (by omega)
    obtain ⟨g2, g3⟩ := I4 (by omega) R0
    have Fr := ((I3 0 (Nat.le_refl _) (by omega)).2.2.2 R0).2.2
    have b3 : 0 ≤ s3 1 ∧ s3 1 ≤ 150 := by rw [sq_1 isq]; exact b0
    refine k620_33 v3.1 (wm_mono (wq_A (fun v' h4 s4 A4 v4 r4 ψ => ?_)) (V_keep v3 b3 (N := F 0) (D := D 0) g2 g3))
    obtain ⟨res, z1, z2, z3⟩ := endz_kQ hR isq ism (deg_le Fr.1 (by decide)) (deg_le Fr.2.1 (by decide)) Fr.2.2.1 Fr.2.2.2 ψ
    have fu : full s (F 0) (D 0) ↔ s 1 = 150 := ⟨fun y => by
      rcases y with y | y | y
      · exact y
      · have := hi_lt Fr.1 (Nat.le_refl _); omega
      · have := hi_lt Fr.2.1 (Nat.le_refl _); omega, .inl⟩
    obtain ⟨u, eu⟩ := endz_vi z3
    subst eu
    exact k620_38 ⟨_, _, _, _, v4, FR_trans R12 (FR_trans r3 r4), ⟨res, sp res ⟨gr A2 1352 1353, R, F, D, ag, wk, .inr ⟨fun j hj => all j (by omega) hj, Fr, fun y => z1 (fu.mpr y), fun y => z2 (fun y2 => y (fu.mp y2))⟩⟩, z3⟩, rfl⟩
  · obtain ⟨j, _, hj, y1, y2, _, y4⟩ : ∃ j, 0 ≤ j ∧ j < n ∧ 1 < R j ∧ f' = R j ∧ p' = pso (gr A2 1352 1353) n j ∧ ∀ i, 0 ≤ i → i < n → 1 < R i → pso (gr A2 1352 1353) n j ≤ pso (gr A2 1352 1353) n i := by
      rcases b with ⟨y, _⟩ | y
      · omega
      · exact y
    refine k620_25 v3.1 (wm_mono (wq_A (fun v' h4 s4 A4 v4 r4 ψ => ?_)) (V_raise v3))
    obtain ⟨ψ1, ψ2, ψ3⟩ := ψ
    subst ψ1
    refine k620_30 (k620_38 ⟨_, _, _, _, v4, FR_trans R12 (FR_trans r3 r4), ⟨.inr f', sp _ ⟨gr A2 1352 1353, R, F, D, ag, wk, .inl ⟨j, hj, y1, fun i hi2 h3 => y4 i (Nat.zero_le _) hi2 h3, by rw [y2]⟩⟩, endz_bad hR isq ism rfl ψ2 ψ3⟩, rfl⟩)
end
