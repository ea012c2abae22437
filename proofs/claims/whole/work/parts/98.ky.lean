/-! the class's minors: one more, by its last row -/
def mns : List Term := [.index 358, .index 360, .index 362, .index 364, .index 366, .index 368, .index 370, .index 372, .index 374, .index 376, .index 378, .index 380, .index 382, .index 384, .index 386, .index 388]
theorem mns_g {i : Nat} (hi2 : i < 16) : s_nth mns i = some (.index (358 + 2 * i)) := lt16 (p := fun i => s_nth mns i = some (.index (358 + 2 * i))) (by decide) i hi2
/-- the state of what works on determinants -/
def MI (h : s_H) : Prop := MO h ∧ s_get h 355 = some (0, 2, mns) ∧ (∃ g, s_get h 356 = some (ai 16 g)) ∧ (∃ g, s_get h 357 = some (ai 4 g)) ∧ ∀ i, i < 16 → PE h (358 + 2 * i) 41
theorem MI_G {h h' : s_H} (I : MI h) (e : ∀ j, 354 ≤ j → j < 390 → s_get h' j = s_get h j) : MI h' := by
  obtain ⟨a, b, ⟨g1, c⟩, ⟨g2, d⟩, f⟩ := I
  exact ⟨(e _ (by decide) (by decide)).trans a, (e _ (by decide) (by decide)).trans b, ⟨g1, (e _ (by decide) (by decide)).trans c⟩, ⟨g2, (e _ (by decide) (by decide)).trans d⟩, fun i hi2 => PE_same (f i hi2) (e _ (by omega) (by omega)) (e _ (by omega) (by omega))⟩
theorem MI_FA {k : Nat} {h h' : s_H} (I : MI h) (F : FA [] k h h') : MI h' := MI_G I (fun j j1 _ => F.2 j (fun _ q => absurd q List.not_mem_nil) (.inr (by omega)) (by omega))
theorem MI_1 {h h' : s_H} {m : Nat} (I : MI h) (hm : m < 16) (e : ∀ j, j ≠ 358 + 2 * m → j ≠ 358 + 2 * m + 1 → 354 ≤ j → j < 390 → s_get h' j = s_get h j) (P : PE h' (358 + 2 * m) 41) : MI h' := by
  obtain ⟨a, b, ⟨g1, c⟩, ⟨g2, d⟩, f⟩ := I
  refine ⟨(e _ (by omega) (by omega) (by decide) (by decide)).trans a, (e _ (by omega) (by omega) (by decide) (by decide)).trans b, ⟨g1, (e _ (by omega) (by omega) (by decide) (by decide)).trans c⟩, ⟨g2, (e _ (by omega) (by omega) (by decide) (by decide)).trans d⟩, fun i hi2 => ?_⟩
  by_cases q : i = m
  · subst q
    exact P
  · exact PE_same (f i hi2) (e _ (by omega) (by omega) (by omega) (by omega)) (e _ (by omega) (by omega) (by omega) (by omega))
theorem zxo {m j : Nat} (hm : m < 16) (hj : j < 4) (on : bt m j = 1) : zi 26 (m : Int) (zi 27 1 (j : Int)) = ((m - 2 ^ j : Nat) : Int) ∧ m - 2 ^ j < m ∧ bts (m - 2 ^ j) + 1 = bts m := by
  have : ∀ j : Fin 4, ∀ m : Fin 16, bt m.val j.val = 1 → zi 26 (m.val : Int) (zi 27 1 (j.val : Int)) = ((m.val - 2 ^ j.val : Nat) : Int) ∧ m.val - 2 ^ j.val < m.val ∧ bts (m.val - 2 ^ j.val) + 1 = bts m.val := by decide +kernel
  exact this ⟨j, hj⟩ ⟨m, hm⟩ on
theorem bt_le (m j : Nat) : bt m j ≤ 1 := by
  have := bt_01 m j
  omega
theorem lpp_1 {row g : Nat → zp_R} {c j : Nat} {s : Int} {x : Int} (on : bt c j = 1) (ex : nF x = nF (s * sgc c j)) : zp_add (zp_mul (zp_C (nF s)) (lpp row g c j)) (zp_mul (zp_C (nF x)) (zp_mul (row j) (g (c - 2 ^ j)))) = zp_mul (zp_C (nF s)) (lpp row g c (j + 1)) := by
  rw [lpp_s, if_neg (by omega)]
  exact (@lpR_c4 zp_R zp_ring (zp_C (nF s)) (zp_C (nF (sgc c j))) (zp_C (nF x)) _ _ (by
    show zp_mul _ _ = _
    rw [zp_C_mul, ex, nF_mul])).symm
section
variable {D : Nat} {h : s_H} {k : Nat}
theorem u_expand (A : AL h k) (hk : k + 2 < 16) (I : MI h) (lo : 1376 ≤ h.1) {a r w : Nat} {M : Nat → Nat → zp_R} (K : KT h a (th_ma r w M)) (ka : kt h a) {row mask : Nat} (hrow : row < r) (hm : mask < 16) {g : Nat → zp_R} (dg : ∀ c, zp_deg (g c) 31) (G : ∀ j, j < w → bt mask j = 1 → PF h (358 + 2 * (mask - 2 ^ j)) 41 (g (mask - 2 ^ j))) {p s : Int} (ps : (p = 1 ∧ s = 1) ∨ (p = 0 ∧ s = -1)) : wm sw_P (D + 4) 138 [.index 354, .index a, vi (row : Int), vi (mask : Int), vi p] h (fun out => ∃ h', FA [358 + 2 * mask] k h h' ∧ AL h' k ∧ PF h' (358 + 2 * mask) 41 (zp_mul (zp_C (nF s)) (lpp (M row) g mask w)) ∧ out = (.inl none, h', 0, 0)) := by
  refine wm_in (cd := sw_c138) (nL := 10) (hd := sw_h138) rfl rfl ?_
  obtain ⟨r14, w14⟩ := KT_rw K
  have dM : ∀ j, j < w → zp_deg (M row j) 11 := fun j hj => KT_d11 K hrow hj
  have dL : ∀ j, j ≤ w → zp_deg (zp_mul (zp_C (nF s)) (lpp (M row) g mask j)) 41 := fun j hj => deg_Cm _ (lpp_deg (n := 30) (fun i hi2 => dM i (by omega)) dg)
  refine k138_0 I.1 A.1 (wm_mono (wq_r ?_) (u_mark A))
  refine k138_7 I.1 A.1 (r_lend (RW_0 A (by omega)) (FA_refl [] k h) (by omega) (fun h1 R1 E1 => ?_))
  refine k138_16 (MI_FA I E1).1 R1.1.1 (r_lend R1 E1 (by omega) (fun h2 R2 E2 => ?_))
  refine k138_25 ?_
  have loop : ∀ (l j : Nat) (h' : s_H) (X : zp_R) (z : Int), j + l = w → RW h' k 2 [zp_mul (zp_C (nF s)) (lpp (M row) g mask j), X] → FA [] k h h' → ((z = 1 ∧ s * sgc mask j = 1) ∨ (z = 0 ∧ s * sgc mask j = -1)) → wr sw_P (D + 3) sw_c138 sw_h138 (34, [.index 354, .index a, vi (row : Int), vi (mask : Int), vi p, vi (k : Int), .index (7 + 2 * (k + 0)), .index (7 + 2 * (k + 1)), vi z, vi (j : Int)], [], h', 0, 0) (fun out => ∃ h', FA [358 + 2 * mask] k h h' ∧ AL h' k ∧ PF h' (358 + 2 * mask) 41 (zp_mul (zp_C (nF s)) (lpp (M row) g mask w)) ∧ out = (.inl none, h', 0, 0)) := by
    intro l
    induction l with
    | zero =>
      intro j h' X z hj R E _
      have ej : j = w := by omega
      subst ej
      have I' := MI_FA I E
      obtain ⟨_, gc⟩ := KT_ce (KT_keep K ka (CF_R E) FX_R lo)
      refine k138_34 (z5 := (j : Int)) gc (fun _ => ?_) (fun q => absurd (by omega) q) (c7 := by unfold In3; omega) (c8 := by unfold In3; omega)
      have PS := RW_p R 0 (f := zp_mul (zp_C (nF s)) (lpp (M row) g mask j)) rfl
      obtain ⟨e, _, _, b, _⟩ := id PS
      refine k138_115 (v11 := .index (358 + 2 * mask)) I'.1 I'.2.1 (PE_c (I'.2.2.2.2 mask hm)) (wm_mono (wq_U (fun h3 P3 F3 => ?_)) (u_setCopy (I'.2.2.2.2 mask hm) PS (by unfold apt; omega) b (fD (dL j (by omega)) (by omega) e b))) (n12 := by rw [show Int.toNat (mask : Int) = mask by omega]; exact mns_g hm) (c14 := by unfold In3; omega) (c15 := by omega)
      have e3 : ∀ j, j ≠ 358 + 2 * mask → j ≠ 358 + 2 * mask + 1 → s_get h3 j = s_get h' j := fun j j1 j2 => F3.2 j (fun q hq => by
        have : q = 358 + 2 * mask := by simpa using hq
        omega)
      have R3 := RW_xU R F3 (fun q hq => by
        have : q = 358 + 2 * mask := by simpa using hq
        omega)
      have E3 : FA [358 + 2 * mask] k h h3 := FA_trans (FA_0 E (Nat.le_refl _)) (FA_of F3)
      refine k138_126 ((e3 354 (by omega) (by omega)).trans I'.1) R3.1.1 (r_release R3 E3 (fun h4 A4 o4 E4 => k138_135 ⟨h4, E4, A4, PF_same P3 (o4 _ (by omega)) (o4 _ (by omega)), rfl⟩))
    | succ l ih =>
      intro j h' X z hj R E hz
      have I' := MI_FA I E
      have K' := KT_keep K ka (CF_R E) FX_R lo
      have e1 := E.1
      obtain ⟨_, gc⟩ := KT_ce K'
      have jw : j < w := by omega
      have j4 : j < 4 := by omega
      have bl := bt_le mask j
      refine k138_34 (z5 := (w : Int)) gc (fun q => absurd q (by omega)) (fun _ => ?_) (c7 := by unfold In3; omega) (c8 := by unfold In3; omega)
      refine k138_43 (fun q => ?_) (fun q => ?_) (c1 := by rw [zb hm j4]; unfold In3; omega)
      · rw [zb hm j4] at q
        have b0 : bt mask j = 0 := by omega
        have es : sgc mask (j + 1) = sgc mask j := if_pos b0
        have el : lpp (M row) g mask (j + 1) = lpp (M row) g mask j := by rw [lpp_s, if_pos b0]
        exact k138_109 (ih (j + 1) h' X z (by omega) (by rw [el]; exact R) E (by rw [es]; exact hz))
      · rw [zb hm j4] at q
        have b1 : bt mask j = 1 := by omega
        have es : sgc mask (j + 1) = -sgc mask j := if_neg (by omega)
        obtain ⟨x1, x2, x3⟩ := zxo hm j4 b1
        refine k138_53 gc (wm_mono (fun out => ?_) (u_entryAt K' hrow jw))
        intro ⟨q2, lq, kq, Pq, dq, eo⟩
        refine wq_r ?_ out eo
        have G' := PF_A (G j jw b1) E (.inr (by omega)) nilA
        have dpr : zp_deg (zp_mul (M row j) (g (mask - 2 ^ j))) 41 := zp_deg_mul (n := 10) (m := 30) dq (dg _)
        refine k138_62 (v11 := .index (358 + 2 * (mask - 2 ^ j))) I'.1 I'.2.1 (RW_c R 1 rfl) (r_product R E 1 (by omega) Pq G' (far_kp kq (by omega)) (by unfold apt; omega) (fD dpr (by omega)) (fun h3 R3' E3 => ?_)) (n12 := by rw [x1, show Int.toNat ((mask - 2 ^ j : Nat) : Int) = mask - 2 ^ j by omega]; exact mns_g (by omega)) (c14 := by rw [x1]; unfold In3; omega) (c15 := by rw [x1]; omega)
        have R3 : RW h3 k 2 [zp_mul (zp_C (nF s)) (lpp (M row) g mask j), zp_mul (M row j) (g (mask - 2 ^ j))] := R3'
        have put : ∀ x : Int, (0 ≤ x ∧ x ≤ 32003) → nF x = nF (s * sgc mask j) → wr sw_P (D + 3) sw_c138 sw_h138 (94, [.index 354, .index a, vi (row : Int), vi (mask : Int), vi p, vi (k : Int), .index (7 + 2 * (k + 0)), .index (7 + 2 * (k + 1)), vi z, vi (j : Int)], [vi x, .index (7 + 2 * (k + 1)), .index (7 + 2 * (k + 0)), .index (7 + 2 * (k + 0))], h3, 0, 0) (fun out => ∃ h', FA [358 + 2 * mask] k h h' ∧ AL h' k ∧ PF h' (358 + 2 * mask) 41 (zp_mul (zp_C (nF s)) (lpp (M row) g mask w)) ∧ out = (.inl none, h', 0, 0)) := fun x hx ex => by
          refine k138_94 (RW_c R3 0 rfl) (r_sum1 R3 E3 0 (by omega) (f1 := zp_mul (zp_C (nF s)) (lpp (M row) g mask j)) (f2 := zp_mul (M row j) (g (mask - 2 ^ j))) rfl (RW_p R3 1 rfl) (aR (by omega)) hx (fD dpr (by omega)) (fun h4 R4' E4 => ?_))
          have R4 : RW h4 k 2 [zp_add (zp_mul (zp_C (nF s)) (lpp (M row) g mask j)) (zp_mul (zp_C (nF x)) (zp_mul (M row j) (g (mask - 2 ^ j)))), zp_mul (M row j) (g (mask - 2 ^ j))] := R4'
          rw [lpp_1 b1 ex] at R4
          refine k138_97 (fun q => k138_106 (k138_107 (k138_109 (ih (j + 1) h4 _ 0 (by omega) R4 E4 (.inr ⟨rfl, ?_⟩))))) (fun q => k138_102 (k138_107 (k138_109 (ih (j + 1) h4 _ 1 (by omega) R4 E4 (.inl ⟨rfl, ?_⟩))))) (c1 := by unfold In3; omega)
          · rw [es, Int.mul_neg]
            omega
          · rw [es, Int.mul_neg]
            omega
        refine k138_76 (fun q => k138_91 (put 32002 (by omega) ?_)) (fun q => k138_87 (put 1 (by omega) ?_)) (c3 := by unfold In3; omega)
        · rw [show s * sgc mask j = -1 by omega]
          decide +kernel
        · rw [show s * sgc mask j = 1 by omega]
  have R2' : RW h2 k 2 [zp_mul (zp_C (nF s)) (lpp (M row) g mask 0), zp_C 0] := by
    have : zp_mul (zp_C (nF s)) (lpp (M row) g mask 0) = zp_C 0 := zp_mul0 _
    rw [this]
    exact R2
  exact loop w 0 h2 _ p (by omega) R2' E2 (by
    have : sgc mask 0 = 1 := rfl
    rw [this]
    omega)
end
