/-! the class: fractions that change, and settle -/
/-- the cells of a fraction that changes: its own at t, its polynomials at t + 1 and t + 3 -/
def TO (h : s_H) (t : Nat) (z : Int) : Prop := 0 < t ∧ s_get h t = some (1, 8, [vi 0, .index (t + 1), .index (t + 3), vi 0, vi 0, .null, .null, vi z])
def OE (h : s_H) (t : Nat) (z : Int) : Prop := TO h t z ∧ PE h (t + 1) 41 ∧ PE h (t + 3) 41
def OUT (h : s_H) (t : Nat) (N Dn : zp_R) : Prop := TO h t 0 ∧ PF h (t + 1) 41 N ∧ PF h (t + 3) 41 Dn
theorem OUT_E {h : s_H} {t : Nat} {N Dn : zp_R} (H : OUT h t N Dn) : OE h t 0 := ⟨H.1, PF_E H.2.1, PF_E H.2.2⟩
theorem PF_off {h h' : s_H} {q L t : Nat} {f : zp_R} (H : PF h q L f) (o : ∀ j, j ≠ t → s_get h' j = s_get h j) (n : q ≠ t ∧ q + 1 ≠ t) : PF h' q L f := by
  obtain ⟨d, g, ⟨p0, p1, p2⟩, b⟩ := H
  exact ⟨d, g, ⟨p0, (o _ n.1).trans p1, (o _ n.2).trans p2⟩, b⟩
theorem PE_off {h h' : s_H} {q L t : Nat} (H : PE h q L) (o : ∀ j, j ≠ t → s_get h' j = s_get h j) (n : q ≠ t ∧ q + 1 ≠ t) : PE h' q L := by
  obtain ⟨⟨d, g, ⟨p0, p1, p2⟩, b⟩, e⟩ := H
  exact ⟨⟨d, g, ⟨p0, (o _ n.1).trans p1, (o _ n.2).trans p2⟩, b⟩, e⟩
theorem TO_keep {S : List Nat} {h h' : s_H} {t : Nat} {z : Int} (H : TO h t z) (a : FU S h h') (s : ∀ p, p ∈ S → t ≠ p ∧ t ≠ p + 1) : TO h' t z := ⟨H.1, (a.2 t s).trans H.2⟩
theorem OE_keep {S : List Nat} {h h' : s_H} {t : Nat} {z : Int} (H : OE h t z) (a : FU S h h') (s : ∀ p, p ∈ S → p + 1 < t ∨ t + 4 < p) : OE h' t z := ⟨TO_keep H.1 a (fun p hp => by have := s p hp; omega), PE_keep H.2.1 a (fun p hp => by have := s p hp; unfold apt; omega), PE_keep H.2.2 a (fun p hp => by have := s p hp; unfold apt; omega)⟩
theorem OE_A {S : List Nat} {k : Nat} {h h' : s_H} {t : Nat} {z : Int} (H : OE h t z) (a : FA S k h h') (ot : 39 ≤ t) (s : ∀ p, p ∈ S → p + 1 < t ∨ t + 4 < p) : OE h' t z := ⟨⟨H.1.1, (a.2 t (fun p hp => by have := s p hp; omega) (by omega) (by omega)).trans H.1.2⟩, PE_A H.2.1 a (.inr (by omega)) (fun p hp => by have := s p hp; unfold apt; omega), PE_A H.2.2 a (.inr (by omega)) (fun p hp => by have := s p hp; unfold apt; omega)⟩
theorem TO_z {h : s_H} {t : Nat} {z : Int} (H : TO h t z) (z' : Int) : TO (hp h t (1, 8, [vi 0, .index (t + 1), .index (t + 3), vi 0, vi 0, .null, .null, vi z'])) t z' ∧ (∀ j, j ≠ t → s_get (hp h t (1, 8, [vi 0, .index (t + 1), .index (t + 3), vi 0, vi 0, .null, .null, vi z'])) j = s_get h j) ∧ FU [t] h (hp h t (1, 8, [vi 0, .index (t + 1), .index (t + 3), vi 0, vi 0, .null, .null, vi z'])) := ⟨⟨H.1, hp_at H.2⟩, fun j hj => hp_ne H.2 hj, rfl, fun j hj => hp_ne H.2 (hj t List.mem_cons_self).1⟩
theorem PF_lt {h : s_H} {p L : Nat} {f : zp_R} (H : PF h p L f) : ∀ e, dgp f e → e < L := fun e he => by
  obtain ⟨d, g, _, b, _, c, _⟩ := H
  rw [dgp_one he b]
  exact c
/-- as AN, with a reference answered -/
def AV (S : List Nat) (k : Nat) (h : s_H) (t : Term) (φ : s_H → Prop) : s_O → Prop := fun out => ∃ h', φ h' ∧ FA S k h h' ∧ AL h' k ∧ qr t h' out
theorem wq_AV {P : s_P} {d : Nat} {cd : s_Cd} {hd : List s_Hd} {nx : Nat} {ls rest : List Term} {kc ks : Nat} {Q : s_O → Prop} {S : List Nat} {k0 : Nat} {h0 : s_H} {t : Term} {φ : s_H → Prop} (k : ∀ h', φ h' → FA S k0 h0 h' → AL h' k0 → wr P d cd hd (nx, ls, t :: rest, h', kc, ks) Q) : ∀ out, AV S k0 h0 t φ out → wq P d cd hd nx ls rest kc ks Q out := by
  intro out ⟨h', a, b, c, e⟩
  exact wq_r (k h' a b c) out e
theorem exd {G f Q r q : zp_R} {n : Nat} (h1 : G.1 n = 1) (h2 : zp_deg G (n + 1)) (e : f = zp_add (zp_mul G Q) r) (dr : zp_deg r n) (e2 : f = zp_mul G q) : q = Q := by
  have a := @cn_h1 zp_R zp_ring f G Q q r e e2
  have : zp_deg (zp_add q (zp_neg Q)) 0 := zp_monic_deg h1 h2 (t := 0) (by
    intro i hi2
    have a' : zp_mul G (zp_add q (zp_neg Q)) = r := a
    rw [a']; exact dr i (by omega))
  exact @cn_h2 zp_R zp_ring q Q (zp_zero_of this)
/-- what settle comes to -/
def setS (h' : s_H) (t : Nat) (F G : zp_R) : Prop := ∃ N Dn, cn F G N Dn ∧ ((OUT h' t N Dn ∧ (∀ e, dgp N e → e ≤ 40) ∧ ∀ e, dgp Dn e → e ≤ 40) ∨ (OE h' t 5 ∧ ∃ e, 40 < e ∧ (dgp N e ∨ dgp Dn e)))
theorem cn_sc {F G F' G' : zp_R} {e : Int} (dG : dgp G' e) (e0 : 0 ≤ e) (x : zp_mul F G' = zp_mul F' G) (c : ∃ u v, zp_add (zp_mul u F') (zp_mul v G') = zp_C 1) : cn F G (zp_mul (zp_C (G'.1 e.toNat ^ 32001)) F') (zp_mul (zp_C (G'.1 e.toNat ^ 32001)) G') := by
  have ne := dG.2.2 e.toNat (by omega)
  obtain ⟨u, v, c⟩ := c
  have el : zp_mul (zp_C ((G'.1 e.toNat) ^ 32001)) (zp_C (G'.1 e.toNat)) = zp_C 1 := by
    rw [zp_C_mul, zp_h20, zp_inv ne]
  rw [zp_C1] at c el
  refine ⟨@cs_h zp_R zp_ring _ _ _ _ _ x, ⟨zp_mul u (zp_C (G'.1 e.toNat)), zp_mul v (zp_C (G'.1 e.toNat)), ?_⟩, ⟨e.toNat, ?_, fun i hi2 => ?_⟩⟩
  · rw [zp_C1]
    exact @cn_h5 zp_R zp_ring u v F' G' (zp_C (G'.1 e.toNat ^ 32001)) (zp_C (G'.1 e.toNat)) c el
  · rw [zp_C_mul1, zp_h20, zp_inv ne]
  · rw [zp_C_mul1, dG.2.1 i (by omega), zp_0mul]
where cs_h : ∀ {R : Type} [Lean.Grind.CommRing R] (F G F' G' c : R), F * G' = F' * G → F * (c * G') = c * F' * G := by intro R _ F G F' G' c h; grind
section
variable {D : Nat} {h : s_H} {k : Nat}
theorem u_setFraction {t : Nat} {z : Int} (T : OE h t z) {a b La Lb : Nat} {F G : zp_R} (ha : PF h a La F) (hb : PF h b Lb G) (na : a + 1 < t ∨ t + 4 < a) (nb : b + 1 < t ∨ t + 4 < b) (dF : ∀ e, dgp F e → e < 41) (dG : ∀ e, dgp G e → e < 41) : wm sw_P (D + 2) 272 [.index t, .index a, .index b] h (UN [t, t + 1, t + 3] h (fun h' => OUT h' t F G)) := by
  obtain ⟨T1, T2, T3⟩ := T
  refine wm_in (cd := sw_c272) (nL := 3) (hd := sw_h272) rfl rfl ?_
  obtain ⟨⟨d2, g2, P2, _⟩, _⟩ := id T2
  obtain ⟨d3, _, _, b3, _⟩ := id ha
  obtain ⟨d4, _, _, b4, _⟩ := id hb
  have m1 : ∀ {p}, p ∈ [t + 1] → p = t + 1 := List.mem_singleton.mp
  have m3 : ∀ {p}, p ∈ [t + 3] → p = t + 3 := List.mem_singleton.mp
  refine k272_0 T1.2 P2.2.1 (wm_mono (wq_U (fun h1 R1 F1 => ?_)) (u_setCopy T2 ha (by unfold apt; omega) b3 (dF d3 b3)))
  have T1' := TO_keep T1 F1 (fun p hp => by rw [m1 hp]; omega)
  have T3' := PE_keep T3 F1 (fun p hp => by rw [m1 hp]; unfold apt; omega)
  have hb' := PF_keep hb F1 (fun p hp => by rw [m1 hp]; unfold apt; omega)
  obtain ⟨⟨d5, g5, P5, _⟩, _⟩ := id T3'
  refine k272_8 T1'.2 P5.2.1 (wm_mono (wq_U (fun h2 R2 F2 => ?_)) (u_setCopy T3' hb' (by unfold apt; omega) b4 (dG d4 b4)))
  have T2' := TO_keep T1' F2 (fun p hp => by rw [m3 hp]; omega)
  have R1' := PF_keep R1 F2 (fun p hp => by rw [m3 hp]; unfold apt; omega)
  obtain ⟨x1, x2, x3⟩ := TO_z T2' 0
  refine k272_16 T2'.2 ⟨_, ⟨x1, PF_off R1' x2 (by omega), PF_off R2 x2 (by omega)⟩, FU_trans (FU_sub F1 (fun p hp => by rw [m1 hp]; exact List.mem_cons_of_mem _ List.mem_cons_self)) (FU_trans (FU_sub F2 (fun p hp => by rw [m3 hp]; exact List.mem_cons_of_mem _ (List.mem_cons_of_mem _ List.mem_cons_self))) (FU_sub x3 (fun p hp => by rw [List.mem_singleton.mp hp]; exact List.mem_cons_self))), rfl⟩ (c6 := T2'.1)
theorem u_settle (A : AL h k) (hk : k + 2 < 16) {i j t : Nat} {z : Int} {F G : zp_R} (ik : i < k) (jk : j < k) (ij : i ≠ j) (hF : PF h (7 + 2 * i) 192 F) (hG : PF h (7 + 2 * j) 192 G) (G0 : G ≠ zp_C 0) (T : OE h t z) (ot : 39 ≤ t) : wm sw_P (D + 3) 121 [.index 5, .index (7 + 2 * i), .index (7 + 2 * j), .index t] h (AV [7 + 2 * i, 7 + 2 * j, t, t + 1, t + 3] k h (.index t) (fun h' => setS h' t F G)) := by
  have nil : ∀ {q : Nat} {p : Nat}, p ∈ ([] : List Nat) → apt q p := fun q => absurd q List.not_mem_nil
  refine wm_in (cd := sw_c121) (nL := 6) (hd := sw_h121) rfl rfl ?_
  have aij : apt (7 + 2 * i) (7 + 2 * j) := by unfold apt; omega
  have aji : apt (7 + 2 * j) (7 + 2 * i) := apt_s aij
  obtain ⟨S, eS⟩ : ∃ S, [7 + 2 * i, 7 + 2 * j, t, t + 1, t + 3] = S := ⟨_, rfl⟩
  have Si : (7 + 2 * i) ∈ S := by rw [← eS]; exact List.mem_cons_self
  have Sj : (7 + 2 * j) ∈ S := by rw [← eS]; exact List.mem_cons_of_mem _ List.mem_cons_self
  have St : ∀ p, p ∈ [t, t + 1, t + 3] → p ∈ S := fun p hp => by rw [← eS]; exact List.mem_cons_of_mem _ (List.mem_cons_of_mem _ hp)
  rw [eS]
  have fi : ∀ {h1 h2 : s_H}, FU [7 + 2 * i] h1 h2 → FA S k h1 h2 := fun a => FA_U a (fun p hp => by rw [List.mem_singleton.mp hp]; exact .inl Si)
  have fj : ∀ {h1 h2 : s_H}, FU [7 + 2 * j] h1 h2 → FA S k h1 h2 := fun a => FA_U a (fun p hp => by rw [List.mem_singleton.mp hp]; exact .inl Sj)
  have oi : okw (k + 1) (7 + 2 * i) 192 := okw_row (by omega)
  have oj : okw (k + 1) (7 + 2 * j) 192 := okw_row (by omega)
  refine k121_0 (z5 := (k : Int)) A.1 (wm_mono (wq_AA (fun h1 ⟨A1, R1⟩ F1 => ?_)) (u_lend A (by omega)))
  have hF1 := PF_A hF F1 (.inl ⟨by omega, by omega⟩) (fun _ q => nil q)
  have hG1 := PF_A hG F1 (.inl ⟨by omega, by omega⟩) (fun _ q => nil q)
  have T1 := OE_A T F1 ot (fun _ q => absurd q List.not_mem_nil)
  have FF1 : FA S k h h1 := FA_sub F1 (Nat.le_refl _) (fun _ q => absurd q List.not_mem_nil)
  -- from 65 on
  have fin : ∀ (F' G' : zp_R) (h2 : s_H), AL h2 (k + 1) → FA S k h h2 → PF h2 (7 + 2 * i) 192 F' → PF h2 (7 + 2 * j) 192 G' → OE h2 t z → (∃ e, dgp G' e ∧ 0 ≤ e) → zp_mul F G' = zp_mul F' G → (∃ u v, zp_add (zp_mul u F') (zp_mul v G') = zp_C 1) → wr sw_P (D + 2) sw_c121 sw_h121 (65, [.index 5, .index (7 + 2 * i), .index (7 + 2 * j), .index t, vi (k : Int), .index (7 + 2 * k)], [], h2, 0, 0) (AV S k h (.index t) (fun h' => setS h' t F G)) := by
    intro F' G' h2 A2 FF2 hF2 hG2 T2 ⟨e, de, e0⟩ x c
    have cc := cn_sc de e0 x c
    obtain ⟨_, _, Pg, _⟩ := id hG2
    refine k121_65 Pg.2.1 (wm_mono (wq_r ?_) (u_lead hG2 de))
    rw [if_pos e0]
    have vG := (G'.1 e.toNat).isLt
    refine k121_70 (wm_mono (wq_r ?_) (u_inverseOf (v := (G'.1 e.toNat).val) vG))
    rw [nF_val]
    have vI := (G'.1 e.toNat ^ 32001 : zp_F).isLt
    obtain ⟨_, _, Pf, _⟩ := id hF2
    refine k121_73 Pf.2.1 (wm_mono (wq_U (fun h3 R3 F3 => ?_)) (u_scale hF2 (x := ((G'.1 e.toNat ^ 32001 : zp_F).val : Int)) ⟨by omega, by omega⟩))
    rw [nF_val] at R3
    have A3 := AL_1 A2 F3 oi (by omega) R3
    have hG3 := PF_keep hG2 F3 (fun p hp => by rw [List.mem_singleton.mp hp]; exact aji)
    have T3 := OE_keep T2 F3 (fun p hp => by rw [List.mem_singleton.mp hp]; omega)
    obtain ⟨_, _, Pg3, _⟩ := id hG3
    refine k121_76 Pg3.2.1 (wm_mono (wq_U (fun h4 R4 F4 => ?_)) (u_makeMonic hG3 de))
    rw [if_pos e0] at R4
    have A4 := AL_1 A3 F4 oj (by omega) R4
    have hF4 := PF_keep R3 F4 (fun p hp => by rw [List.mem_singleton.mp hp]; exact aij)
    have T4 := OE_keep T3 F4 (fun p hp => by rw [List.mem_singleton.mp hp]; omega)
    have FF4 : FA S k h h4 := FA_trans FF2 (FA_trans (fi F3) (fj F4))
    obtain ⟨N, eN⟩ : ∃ N, zp_mul (zp_C (G'.1 e.toNat ^ 32001)) F' = N := ⟨_, rfl⟩
    obtain ⟨M, eM⟩ : ∃ M, zp_mul (zp_C (G'.1 e.toNat ^ 32001)) G' = M := ⟨_, rfl⟩
    rw [eN, eM] at cc
    rw [eN] at hF4
    rw [eM] at R4
    obtain ⟨dN, gN, PN, bN, cN, eNN, lN⟩ := id hF4
    obtain ⟨dM, gM, PM, bM, cM, eMM, lM⟩ := id R4
    have b1 := bN.1
    have b2 := bM.1
    have at112 : ∀ h5, AL h5 (k + 1) → FA S k h h5 → setS h5 t F G → (∀ h6, (∀ j, j ≠ 5 → s_get h6 j = s_get h5 j) → setS h6 t F G) → wr sw_P (D + 2) sw_c121 sw_h121 (112, [.index 5, .index (7 + 2 * i), .index (7 + 2 * j), .index t, vi (k : Int), .index (7 + 2 * k)], [], h5, 0, 0) (AV S k h (.index t) (fun h' => setS h' t F G)) := fun h5 A5 F5 _ keep => by
      refine k121_112 A5.1 (wm_mono (wq_AN (fun h6 R6 F6 A6 => k121_118 ⟨h6, keep h6 R6, ?_, A6, rfl⟩)) (u_release A5 (by omega)))
      exact FA_trans F5 (FA_sub F6 (Nat.le_refl _) (fun _ q => absurd q List.not_mem_nil))
    have big : (∃ e, 40 < e ∧ (dgp N e ∨ dgp M e)) → wr sw_P (D + 2) sw_c121 sw_h121 (98, [.index 5, .index (7 + 2 * i), .index (7 + 2 * j), .index t, vi (k : Int), .index (7 + 2 * k)], [], h4, 0, 0) (AV S k h (.index t) (fun h' => setS h' t F G)) := fun w => by
      obtain ⟨y1, y2, y3⟩ := TO_z T4.1 5
      have OE5 : OE (hp h4 t (1, 8, [vi 0, .index (t + 1), .index (t + 3), vi 0, vi 0, .null, .null, vi 5])) t 5 := ⟨y1, PE_off T4.2.1 y2 (by omega), PE_off T4.2.2 y2 (by omega)⟩
      refine k121_98 T4.1.2 (at112 _ ?_ (FA_trans FF4 (FA_U y3 (fun p hp => by rw [List.mem_singleton.mp hp]; exact .inl (St _ List.mem_cons_self)))) ⟨N, M, cc, .inr ⟨OE5, w⟩⟩ (fun h6 o => ?_)) (c6 := T4.1.1)
      · exact AL_U A4 y3 (fun p hp => by rw [List.mem_singleton.mp hp]; exact .inl ot)
      · exact ⟨N, M, cc, .inr ⟨⟨⟨y1.1, (o t (by omega)).trans y1.2⟩, PE_off OE5.2.1 o (by omega), PE_off OE5.2.2 o (by omega)⟩, w⟩⟩
    refine k121_80 (z5 := dN) PN.2.1 (fun w => big ⟨dN, w, .inl bN⟩) (fun w => ?_) (c7 := by unfold In3; omega)
    refine k121_89 (z5 := dM) PM.2.1 (fun w2 => ?_) (fun w2 => big ⟨dM, by omega, .inr bM⟩) (c7 := by unfold In3; omega)
    have lo1 : ∀ e, dgp N e → e ≤ 40 := fun e he => by rw [dgp_one he bN]; omega
    have lo2 : ∀ e, dgp M e → e ≤ 40 := fun e he => by rw [dgp_one he bM]; omega
    refine k121_106 T4.1.2 (wm_mono (wq_U (fun h5 R5 F5 => at112 h5 ?_ ?_ ⟨N, M, cc, .inl ⟨R5, lo1, lo2⟩⟩ (fun h6 o => ?_))) (u_setFraction T4 hF4 R4 (by omega) (by omega) (fun e he => by have := lo1 e he; omega) (fun e he => by have := lo2 e he; omega)))
    · exact AL_U A4 F5 (fun p hp => .inl (by
        rcases List.mem_cons.mp hp with q | q
        · omega
        · rcases List.mem_cons.mp q with q | q
          · omega
          · rw [List.mem_singleton.mp q]; omega))
    · exact FA_trans FF4 (FA_U F5 (fun p hp => .inl (St p hp)))
    · exact ⟨N, M, cc, .inl ⟨⟨⟨R5.1.1, (o t (by omega)).trans R5.1.2⟩, PF_off R5.2.1 o (by omega), PF_off R5.2.2 o (by omega)⟩, lo1, lo2⟩⟩
  obtain ⟨dF, gF, PFo, bF, _, eF, _⟩ := id hF1
  obtain ⟨dG, gG, PGo, bG, _, eG, _⟩ := id hG1
  have b1 := bF.1
  have b2 := bG.1
  have dG0 : 0 ≤ dG := Int.not_lt.mp (fun w => G0 (dgp_0 bG w))
  have crossR : zp_mul F G = zp_mul F G := rfl
  refine k121_10 (z6 := dF) PFo.2.1 (fun w => ?_) (fun w => ?_) (c8 := by unfold In3; omega)
  · refine k121_24 (z5 := dG) PGo.2.1 (fun w2 => ?_) (fun w2 => ?_) (c7 := by unfold In3; omega)
    · refine fin F G h1 A1 FF1 hF1 hG1 T1 ⟨dG, bG, dG0⟩ rfl ⟨zp_C 0, zp_C (G.1 0 ^ 32001), ?_⟩
      have eG0 : G = zp_C (G.1 0) := zp_ext (fun n => by
        show G.1 n = if n = 0 then G.1 0 else 0
        by_cases q : n = 0
        · rw [if_pos q, q]
        · rw [if_neg q]
          exact bG.2.1 n (by omega))
      have ne := bG.2.2 0 (by omega)
      have p1 : zp_mul (zp_C (G.1 0 ^ 32001)) G = zp_C 1 := by
        rw [eG0]
        show zp_mul (zp_C (G.1 0 ^ 32001)) (zp_C (G.1 0)) = zp_C 1
        rw [zp_C_mul, zp_h20, zp_inv ne]
      rw [p1]
      exact @se_h zp_R zp_ring F (zp_C 1)
    · have F0 : F ≠ zp_C 0 := fun q => by
        have := dgp_none q bF
        omega
      have fitC : ∀ C, isG F G C → ∀ e, dgp C e → e < 192 := fun C gC e he => by
        obtain ⟨_, ⟨q2, x2⟩, _, g0⟩ := gC
        by_cases e0 : 0 ≤ e
        · have q20 : q2 ≠ zp_C 0 := fun q => G0 (by rw [x2, q, zp_mul0])
          refine Int.not_le.mp (fun big => ?_)
          have t1 : ∀ n, zp_deg q2 n → q2 = zp_C 0 := fun n => by
            induction n with
            | zero => exact fun z => zp_zero_of z
            | succ n ih =>
              intro z
              refine ih (fun m hm => ?_)
              by_cases q : m = n
              · have m1 : (zp_mul C q2).1 (e.toNat + n) = C.1 e.toNat * q2.1 n := mul_top (dgp_deg he (by omega)) z
                rw [← x2, bG.2.1 (e.toNat + n) (by omega)] at m1
                rw [q]
                exact Classical.byContradiction (fun ne => zp_F_mul0 (he.2.2 e.toNat (by omega)) ne m1.symm)
              · exact z m (by omega)
          obtain ⟨n, hn⟩ := q2.2
          exact q20 (t1 n hn)
        · omega
      refine k121_31 A1.1 (wm_mono (wq_AN (fun h2 ⟨C, gC, RC⟩ F2 A2 => ?_)) (u_setCommon A1 (by omega) hF1 hG1 (PF_E R1) (okw_p oi) (okw_p oj) (okw_row (by omega)) (PF_lt hF1) (PF_lt hG1) fitC))
      · have row1 : ∀ p, p ∈ [7 + 2 * k] → ∀ {x : Nat}, x < k → apt (7 + 2 * x) p := fun p hp x hx => by rw [List.mem_singleton.mp hp]; unfold apt; omega
        have hF2 := PF_A hF1 F2 (okw_p oi) (fun p hp => row1 p hp ik)
        have hG2 := PF_A hG1 F2 (okw_p oj) (fun p hp => row1 p hp jk)
        have T2 := OE_A T1 F2 ot (fun p hp => by rw [List.mem_singleton.mp hp]; omega)
        have FF2 : FA S k h h2 := FA_trans FF1 (FA_sub F2 (by omega) (fun p hp => by rw [List.mem_singleton.mp hp]; exact .inr (by omega)))
        obtain ⟨⟨q1, x1⟩, ⟨q2, x2⟩, ⟨u, v, l⟩, g0⟩ := gC
        have moC : mo C := g0.resolve_left (fun q => G0 (by rw [x2, q, zp_h20R, zp_mul0]))
        obtain ⟨n, c1, c2⟩ := moC
        have bC : dgp C n := ⟨by omega, fun m hm => c2 m (by omega), fun m hm q => by
          have : m = n := by omega
          rw [this, c1] at q
          exact absurd q (by decide)⟩
        obtain ⟨dC, gC', PC, bC', _⟩ := id RC
        have eC := dgp_one bC' bC
        subst eC
        have co : zp_add (zp_mul u q1) (zp_mul v q2) = zp_C 1 := by
          have m0 := @cn_h3 zp_R zp_ring F G C u v q1 q2 l x1 x2
          have m1 : zp_add (zp_add (zp_mul u q1) (zp_mul v q2)) (zp_neg (zp_C 1)) = zp_C 0 := mo_ne ⟨n, c1, c2⟩ (by rw [zp_C1]; exact m0)
          exact @cn_h2 zp_R zp_ring _ _ m1
        have cross : zp_mul F q2 = zp_mul q1 G := @se_h2 zp_R zp_ring F G C q1 q2 x1 x2
        have q20 : q2 ≠ zp_C 0 := fun q => G0 (by rw [x2, q, zp_mul0])
        refine k121_39 (z5 := (n : Int)) PC.2.1 (fun w3 => ?_) (fun w3 => ?_) (c7 := by unfold In3; have := PF_lt RC _ bC; omega)
        · have n0 : n = 0 := by omega
          subst n0
          have eC1 : C = zp_C 1 := zp_ext (fun m => by
            show C.1 m = if m = 0 then 1 else 0
            by_cases q : m = 0
            · rw [if_pos q, q]; exact c1
            · rw [if_neg q]; exact c2 m (by omega))
          refine fin F G h2 A2 FF2 hF2 hG2 T2 ⟨dG, bG, dG0⟩ rfl ⟨u, v, ?_⟩
          rw [← eC1]
          exact l.symm
        · have RC2 : PF h2 (7 + 2 * k) 192 C := RC
          have dvF : ∀ Q R, F = zp_add (zp_mul C Q) R → zp_deg R n → Q = q1 := fun Q R e dR => (exd c1 c2 e dR x1).symm
          have dvG : ∀ Q R, G = zp_add (zp_mul C Q) R → zp_deg R n → Q = q2 := fun Q R e dR => (exd c1 c2 e dR x2).symm
          have lo : ∀ {X q : zp_R} {dX : Int}, dgp X dX → dX < 192 → X = zp_mul C q → ∀ e, dgp q e → e < 192 := fun {X q dX} bX lX eX e he => by
            by_cases e0 : 0 ≤ e
            · have := dgp_mul bC he (by omega) e0
              rw [← eX] at this
              have := dgp_one this bX
              omega
            · omega
          have ok : okp (k + 1) (7 + 2 * k) := .inl ⟨by omega, by omega⟩
          refine k121_47 A2.1 (wm_mono (wq_AN (fun h3 ⟨Q, R, e, dR, R3⟩ F3 A3 => ?_)) (u_setDivided A2 (by omega) hF2 RC2 (PF_E hF2) (okw_p oi) ok oi bC (PF_lt hF2) (z := 1) (by decide) (fun Q R e dR e' he => by
            rw [if_neg (by decide), dvF Q R e dR] at he
            exact lo bF eF x1 e' he)))
          rw [if_neg (by decide), dvF Q R e dR] at R3
          have hG3 := PF_A hG2 F3 (okw_p oj) (fun p hp => by rw [List.mem_singleton.mp hp]; exact aji)
          have RC3 := PF_A RC2 F3 ok (fun p hp => by rw [List.mem_singleton.mp hp]; unfold apt; omega)
          have T3 := OE_A T2 F3 ot (fun p hp => by rw [List.mem_singleton.mp hp]; omega)
          have FF3 : FA S k h h3 := FA_trans FF2 (FA_sub F3 (by omega) (fun p hp => by rw [List.mem_singleton.mp hp]; exact .inl Si))
          refine k121_56 A3.1 (wm_mono (wq_AN (fun h4 ⟨Q', R', e', dR', R4⟩ F4 A4 => ?_)) (u_setDivided A3 (by omega) hG3 RC3 (PF_E hG3) (okw_p oj) ok oj bC (PF_lt hG3) (z := 1) (by decide) (fun Q R e dR e' he => by
            rw [if_neg (by decide), dvG Q R e dR] at he
            exact lo bG eG x2 e' he)))
          rw [if_neg (by decide), dvG Q' R' e' dR'] at R4
          have R3' := PF_A R3 F4 (okw_p oi) (fun p hp => by rw [List.mem_singleton.mp hp]; exact aij)
          have T4 := OE_A T3 F4 ot (fun p hp => by rw [List.mem_singleton.mp hp]; omega)
          obtain ⟨d2, _, _, bq2, _⟩ := id R4
          exact fin q1 q2 h4 A4 (FA_trans FF3 (FA_sub F4 (by omega) (fun p hp => by rw [List.mem_singleton.mp hp]; exact .inl Sj))) R3' R4 T4 ⟨d2, bq2, Int.not_lt.mp (fun w => q20 (dgp_0 bq2 w))⟩ cross ⟨u, v, co⟩
  · have F0 : F = zp_C 0 := dgp_0 bF (by omega)
    obtain ⟨_, _, Pg, _⟩ := id hG1
    refine k121_19 Pg.2.1 (wm_mono (wq_U (fun h2 R2 F2 => ?_)) (u_setNumber (PF_E hG1) (by decide) (x := 1) (by decide)))
    rw [nF_1] at R2
    have A2 := AL_1 A1 F2 oj (by omega) R2
    have hF2 := PF_keep hF1 F2 (fun p hp => by rw [List.mem_singleton.mp hp]; exact aij)
    have T2 := OE_keep T1 F2 (fun p hp => by rw [List.mem_singleton.mp hp]; omega)
    obtain ⟨d2, g2, P2, b3, _⟩ := id R2
    have d20 : d2 = 0 := dgp_one b3 ⟨by decide, fun m hm => by
      show (if m = 0 then (1 : zp_F) else 0) = 0
      rw [if_neg (by omega)], fun m hm => by
      show (if m = 0 then (1 : zp_F) else 0) ≠ 0
      rw [if_pos (by omega)]
      decide⟩
    subst d20
    refine k121_24 (z5 := 0) P2.2.1 (fun _ => ?_) (fun w2 => absurd (by decide) w2) (c7 := by decide)
    refine fin F (zp_C 1) h2 A2 (FA_trans FF1 (fj F2)) hF2 R2 T2 ⟨0, b3, Int.le_refl _⟩ ?_ ⟨zp_C 0, zp_C 1, ?_⟩
    · rw [F0, zp_mul_0 (.inl rfl), zp_mul_0 (.inl rfl)]
    · rw [zp_C1]
      exact @se_h3 zp_R zp_ring F
where
  se_h : ∀ {R : Type} [Lean.Grind.CommRing R] (F o : R), 0 * F + o = o := by intro R _ F o; grind
  se_h2 : ∀ {R : Type} [Lean.Grind.CommRing R] (F G C q1 q2 : R), F = C * q1 → G = C * q2 → F * q2 = q1 * G := by intro R _ F G C q1 q2 h1 h2; grind
  se_h3 : ∀ {R : Type} [Lean.Grind.CommRing R] (F : R), 0 * F + 1 * 1 = 1 := by intro R _ F; grind
end
