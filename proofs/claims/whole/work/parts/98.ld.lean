/-! the class: what divides all determinants of a size; the call invariant -/
def PO8 (j : Nat) : Prop := PS j ∨ j = 1278 ∨ j = 1279
theorem FX_O : FX PO8 := fun j p => by unfold PO8 PS PR at p; omega
theorem gd_c {R : Type} [Lean.Grind.CommRing R] {a b : R} : a + b = b + a := by grind
theorem isG_c {f g G : zp_R} (h : isG f g G) : isG g f G := by
  obtain ⟨a, b, ⟨u, v, e⟩, d⟩ := h
  exact ⟨b, a, ⟨v, u, e.trans (@gd_c zp_R zp_ring _ _)⟩, d⟩
section
variable {D : Nat} {h : s_H} {k : Nat}
theorem u_setDivisor (A : AL h k) (hk : k + 2 < 16) (I : MI h) (lo : 1376 ≤ h.1) {a r w : Nat} {M : Nat → Nat → zp_R} (K : KT h a (th_ma r w M)) (ka : kt h a) {o Lo : Nat} (ho : PE h o Lo) (oo : okw k o Lo) (op : okp k o) (oM : o + 1 < 39 ∨ o = 1278) (L41 : 41 ≤ Lo) {size : Nat} (hs : size < 6) : wm sw_P (D + 6) 145 [.index 354, .index a, vi (size : Int), .index o] h (fun out => ∃ h' G, FA (o :: MS) k h h' ∧ AL h' k ∧ MI h' ∧ gdS (msz r w M size) G ∧ zp_deg G 41 ∧ PF h' o Lo G ∧ out = (.inl none, h', 0, 0)) := by
  refine wm_in (cd := sw_c145) (nL := 6) (hd := sw_h145) rfl rfl ?_
  obtain ⟨r14, w14⟩ := KT_rw K
  have r2 := Nat.pow_le_pow_right (show 0 < 2 by decide) r14.2
  have w2 := Nat.pow_le_pow_right (show 0 < 2 by decide) w14.2
  have dM : ∀ i j, i < r → j < w → zp_deg (M i j) 11 := fun i j h1 h2 => KT_d11 K h1 h2
  have eL : (mns.length : Int) = 16 := rfl
  have o5 : 5 < o := by
    rcases op with q | q <;> omega
  have cF : ∀ {h' : s_H}, FA (o :: MS) k h h' → CF PO8 h h' := fun F => CF_FA F (fun p hp => by
    rcases List.mem_cons.mp hp with q | q
    · subst q
      unfold PO8 PS PR
      omega
    · have := MS_b p q
      unfold PO8 PS PR
      omega) (fun j j1 j2 => .inl (.inl ⟨j1, j2⟩))
  have gcF : ∀ {h' : s_H}, FA (o :: MS) k h h' → ∃ e, s_get h' a = some (1, 8, [vi 2, .null, .null, vi (r : Int), vi (w : Int), .index e, .null, vi 0]) := fun F => KT_ce (KT_keep K ka (cF F) FX_O lo)
  have one : ∀ {h1 h2 : s_H}, FA [o] k h1 h2 → FA (o :: MS) k h1 h2 := fun F => FA_sub F (Nat.le_refl _) (fun q hq => .inl (by
    have : q = o := by simpa using hq
    rw [this]
    exact List.mem_cons_self))
  have mk1 : ∀ {h1 h2 : s_H}, FA [o] k h1 h2 → ∀ j, 354 ≤ j → j < 390 → s_get h2 j = s_get h1 j := fun F j j1 j2 => F.2 j (fun q hq => by
    have : q = o := by simpa using hq
    omega) (.inr (by omega)) (by omega)
  refine k145_0 (PE_c ho) (wm_mono (wq_U (fun h1 P1 F1 => ?_)) (u_setNumber ho (by omega) (x := 0) (by decide)))
  rw [nF_0] at P1
  have F1' : FA [o] k h h1 := FA_of F1
  have A1 : AL h1 k := AL_1 A F1 oo (by omega) P1
  refine k145_5 ?_
  have outer : ∀ (l m : Nat) (h' : s_H) (t5 : Term) (G : zp_R), m + l = 2 ^ r → FA (o :: MS) k h h' → AL h' k → MI h' → gdS (mszU r w M size m 0) G → zp_deg G 41 → PF h' o Lo G → wr sw_P (D + 5) sw_c145 sw_h145 (8, [.index 354, .index a, vi (size : Int), .index o, vi (m : Int), t5], [], h', 0, 0) (fun out => ∃ h' G, FA (o :: MS) k h h' ∧ AL h' k ∧ MI h' ∧ gdS (msz r w M size) G ∧ zp_deg G 41 ∧ PF h' o Lo G ∧ out = (.inl none, h', 0, 0)) := by
    intro l
    induction l with
    | zero =>
      intro m h' t5 G hm F A' I' hG dG P
      have em : m = 2 ^ r := by omega
      obtain ⟨_, gc⟩ := gcF F
      refine k145_8 (z5 := (r : Int)) gc (fun _ => k145_99 ⟨h', G, F, A', I', gd_same hG (fun g => ⟨fun ⟨x, y, q1, q2, q3, q4, q5⟩ => ⟨x, y, .inl (by omega), q2, q3, q4, q5⟩, fun ⟨x, y, q1, q2, q3, q4, q5⟩ => ⟨x, y, by
        rcases q1 with q | q
        · omega
        · exact absurd q.2 (Nat.not_lt_zero _), q2, q3, q4, q5⟩⟩), dG, P, rfl⟩) (fun q => absurd ?_ q) (c7 := by unfold In3; omega) (c8 := by rw [zs (by omega)]; unfold In3; omega)
      rw [zs (by omega)]
      omega
    | succ l ih =>
      intro m h' t5 G hm F A' I' hG dG P
      obtain ⟨_, gc⟩ := gcF F
      have m16 : m < 16 := by omega
      have m4 := bts_4 m16
      have lo' : 1376 ≤ h'.1 := by rw [F.1]; exact lo
      have ka' : kt h' a := kt_le ka (by rw [F.1]; exact Nat.le_refl _)
      refine k145_8 (z5 := (r : Int)) gc (fun q => absurd q ?_) (fun _ => ?_) (c7 := by unfold In3; omega) (c8 := by rw [zs (by omega)]; unfold In3; omega)
      · rw [zs (by omega)]
        omega
      refine k145_19 (wm_mono (wq_r ?_) (u_bits m16))
      refine k145_24 (fun q => ?_) (fun q => k145_28 (k145_93 (ih (m + 1) h' _ G (by omega) F A' I' (gd_same hG (fun g => ⟨fun ⟨x, y, q1, q2, q3, q4, q5⟩ => ⟨x, y, by
        have : x ≠ m := fun e => by
          subst e
          omega
        omega, q2, q3, q4, q5⟩, fun ⟨x, y, q1, q2, q3, q4, q5⟩ => ⟨x, y, by omega, q2, q3, q4, q5⟩⟩)) dG P))) (c1 := by unfold In3; omega) (c2 := by unfold In3; omega)
      have ms : bts m = size := by omega
      refine k145_31 I'.1 (wm_mono (fun out => ?_) (u_find A' hk I' lo' (KT_keep K ka (cF F) FX_O lo) ka' (rm := m) (by omega)))
      intro ⟨h1, F1, A1, I1, Fd, eo⟩
      rw [eo]
      have F1' : FA (o :: MS) k h' h1 := FA_sub F1 (Nat.le_refl _) (fun q hq => .inl (List.mem_cons_of_mem _ hq))
      have P1 : ∀ c, c < 16 → c < 2 ^ w → bts c = bts m → PF h1 (358 + 2 * c) 41 (mnq M w m c) := fun c c1 c2 cb => by
        have := Fd c c1 c2 (Nat.le_of_eq cb)
        rw [cb, pre_all m16] at this
        exact this
      have PG : PF h1 o Lo G := PF_A P F1 op (fun q hq => by have := MS_b q hq; unfold apt; omega)
      refine k145_38 ?_
      have inner : ∀ (p c : Nat) (h2 : s_H) (G : zp_R), c + p = 2 ^ w → FA (o :: MS) k h h2 → AL h2 k → MI h2 → (∀ c, c < 16 → c < 2 ^ w → bts c = bts m → PF h2 (358 + 2 * c) 41 (mnq M w m c)) → gdS (mszU r w M size m c) G → zp_deg G 41 → PF h2 o Lo G → wr sw_P (D + 5) sw_c145 sw_h145 (41, [.index 354, .index a, vi (size : Int), .index o, vi (m : Int), vi (c : Int)], [], h2, 0, 0) (fun out => ∃ h' G, FA (o :: MS) k h h' ∧ AL h' k ∧ MI h' ∧ gdS (msz r w M size) G ∧ zp_deg G 41 ∧ PF h' o Lo G ∧ out = (.inl none, h', 0, 0)) := by
        intro p
        induction p with
        | zero =>
          intro c h2 G hc F2 A2 I2 P2 hG dG PG
          obtain ⟨_, gc2⟩ := gcF F2
          refine k145_41 (z5 := (w : Int)) gc2 (fun _ => k145_93 (ih (m + 1) h2 _ G (by omega) F2 A2 I2 (gd_same hG (fun g => ⟨fun ⟨x, y, q1, q2, q3, q4, q5⟩ => ⟨x, y, by omega, q2, q3, q4, q5⟩, fun ⟨x, y, q1, q2, q3, q4, q5⟩ => ⟨x, y, by omega, q2, q3, q4, q5⟩⟩)) dG PG)) (fun q => absurd ?_ q) (c7 := by unfold In3; omega) (c8 := by rw [zs (by omega)]; unfold In3; omega)
          rw [zs (by omega)]
          omega
        | succ p ih2 =>
          intro c h2 G hc F2 A2 I2 P2 hG dG PG
          obtain ⟨_, gc2⟩ := gcF F2
          have c16 : c < 16 := by omega
          have c4 := bts_4 c16
          refine k145_41 (z5 := (w : Int)) gc2 (fun q => absurd q ?_) (fun _ => ?_) (c7 := by unfold In3; omega) (c8 := by rw [zs (by omega)]; unfold In3; omega)
          · rw [zs (by omega)]
            omega
          refine k145_52 I2.1 I2.2.1 (fun q => absurd q (by omega)) (fun _ => ?_) (c11 := by unfold In3; omega) (c12 := by unfold In3; omega)
          refine k145_62 (wm_mono (wq_r ?_) (u_bits c16))
          refine k145_67 (fun q => k145_87 (ih2 (c + 1) h2 G (by omega) F2 A2 I2 P2 (gd_same hG (fun g => ⟨fun ⟨x, y, q1, q2, q3, q4, q5⟩ => ⟨x, y, by
            have : y ≠ c := fun e => by
              subst e
              omega
            omega, q2, q3, q4, q5⟩, fun ⟨x, y, q1, q2, q3, q4, q5⟩ => ⟨x, y, by omega, q2, q3, q4, q5⟩⟩)) dG PG)) (fun q => ?_) (c1 := by unfold In3; omega) (c2 := by unfold In3; omega)
          have cm : bts c = bts m := by omega
          have Pc := P2 c c16 (by omega) cm
          have df : zp_deg (mnq M w m c) 41 := mnq_deg r14.2 dM (by omega)
          refine k145_71 (v14 := .index (358 + 2 * c)) I2.1 I2.2.1 A2.1 (wm_mono (wq_AN (fun h3 ⟨C, gC, P3⟩ F3 A3 => ?_)) (u_setCommon A2 (by omega) PG Pc (PF_E PG) op (.inr (by omega)) oo (fD dG (by omega)) (fD df (by omega)) (fun C gC => fD (isG_fit gC dG df) (by omega)))) (n15 := by rw [show Int.toNat (c : Int) = c by omega]; exact mns_g c16) (c17 := by unfold In3; omega) (c18 := by omega)
          refine k145_87 (ih2 (c + 1) h3 C (by omega) (FA_trans F2 (one F3)) A3 (MI_G I2 (mk1 F3)) (fun c c1 c2 cb => PF_same (P2 c c1 c2 cb) (mk1 F3 _ (by omega) (by omega)) (mk1 F3 _ (by omega) (by omega))) (gd_more hG (isG_c gC) (fun g => ⟨fun ⟨x, y, q1, q2, q3, q4, q5⟩ => ?_, fun q => ?_⟩)) (isG_fit gC dG df) P3)
          · by_cases e : x = m ∧ y = c
            · right
              rw [q5, e.1, e.2]
            · exact .inl ⟨x, y, by omega, q2, q3, q4, q5⟩
          · rcases q with ⟨x, y, q1, q2, q3, q4, q5⟩ | q
            · exact ⟨x, y, by omega, q2, q3, q4, q5⟩
            · exact ⟨m, c, .inr ⟨rfl, by omega⟩, by omega, ms, by omega, q⟩
      exact inner (2 ^ w) 0 h1 G (by omega) (FA_trans F F1') A1 I1 P1 hG dG PG
  exact outer (2 ^ r) 0 h1 _ (zp_C 0) (by omega) (one F1') A1 (MI_G I (mk1 F1')) (gd_no (fun f ⟨x, y, q1, _⟩ => by omega)) (deg_le (zp_C_deg 0) (by decide)) P1
end
