/-! the class's minors: all of the first rows of a set -/
def ch : Nat → Nat → Nat
  | r, 0 => fst0 r
  | r, s + 1 => ch (r - 2 ^ fst0 r) s
def pre (r : Nat) : Nat → Nat
  | 0 => 0
  | s + 1 => pre r s + 2 ^ ch r s
theorem ch_f {r s : Nat} (hr : r < 16) (hs : s < bts r) : ch r s < 4 ∧ bt r (ch r s) = 1 ∧ pre r (s + 1) < 16 ∧ pre r (s + 1) ≠ 0 ∧ lst0 (pre r (s + 1)) = ch r s ∧ pre r (s + 1) - 2 ^ ch r s = pre r s ∧ bts (pre r (s + 1)) = s + 1 := by
  have : ∀ s : Fin 4, ∀ r : Fin 16, s.val < bts r.val → ch r.val s.val < 4 ∧ bt r.val (ch r.val s.val) = 1 ∧ pre r.val (s.val + 1) < 16 ∧ pre r.val (s.val + 1) ≠ 0 ∧ lst0 (pre r.val (s.val + 1)) = ch r.val s.val ∧ pre r.val (s.val + 1) - 2 ^ ch r.val s.val = pre r.val s.val ∧ bts (pre r.val (s.val + 1)) = s.val + 1 := by decide +kernel
  have b4 : bts r ≤ 4 := lt16 (p := fun r => bts r ≤ 4) (by decide +kernel) r hr
  exact this ⟨s, by omega⟩ ⟨r, hr⟩ hs
theorem ch_lt {R r s : Nat} (hR : R ≤ 4) (hr : r < 2 ^ R) (hs : s < bts r) : ch r s < R := by
  have : ∀ R : Fin 5, ∀ s : Fin 4, ∀ r : Fin 16, r.val < 2 ^ R.val → s.val < bts r.val → ch r.val s.val < R.val := by decide +kernel
  have h16 := pw16 hr hR
  have b4 : bts r ≤ 4 := lt16 (p := fun r => bts r ≤ 4) (by decide +kernel) r h16
  exact this ⟨R, by omega⟩ ⟨s, by omega⟩ ⟨r, h16⟩ hr hs
theorem pre_all {r : Nat} (hr : r < 16) : pre r (bts r) = r := lt16 (p := fun r => pre r (bts r) = r) (by decide +kernel) r hr
theorem ch_n {r i : Nat} (hr : r < 16) (hi2 : i < 4) : (bt r i = 1 → ch r (bts (r % 2 ^ i)) = i ∧ bts (r % 2 ^ (i + 1)) = bts (r % 2 ^ i) + 1) ∧ (bt r i = 0 → bts (r % 2 ^ (i + 1)) = bts (r % 2 ^ i)) ∧ bts (r % 2 ^ i) ≤ i := by
  have : ∀ i : Fin 4, ∀ r : Fin 16, (bt r.val i.val = 1 → ch r.val (bts (r.val % 2 ^ i.val)) = i.val ∧ bts (r.val % 2 ^ (i.val + 1)) = bts (r.val % 2 ^ i.val) + 1) ∧ (bt r.val i.val = 0 → bts (r.val % 2 ^ (i.val + 1)) = bts (r.val % 2 ^ i.val)) ∧ bts (r.val % 2 ^ i.val) ≤ i.val := by decide +kernel
  exact this ⟨i, hi2⟩ ⟨r, hr⟩
theorem z_odd {s : Nat} (hs : s < 5) : zi 24 (s : Int) 1 = ((s % 2 : Nat) : Int) := by
  have : ∀ s : Fin 5, zi 24 (s.val : Int) 1 = ((s.val % 2 : Nat) : Int) := by decide +kernel
  exact this ⟨s, hs⟩
theorem u_bits {D : Nat} {h : s_H} {m : Nat} (hm : m < 16) : wm sw_P (D + 1) 622 [vi (m : Int)] h (qr (vi (bts m : Int)) h) := by
  have key : ∀ m : Fin 16, wm sw_P (D + 1) 622 [vi (m.val : Int)] h (qr (vi (bts m.val : Int)) h) := fun m => by
    refine wm_in (cd := sw_c622) (nL := 1) (hd := sw_h622) rfl rfl ?_
    refine k622_0 ?_
    exact congrArg (fun z => ((.inl (some (vi z)), h, 0, 0) : s_O)) (by revert m; decide +kernel)
  exact key ⟨m, hm⟩
def MS : List Nat := [357, 358, 360, 362, 364, 366, 368, 370, 372, 374, 376, 378, 380, 382, 384, 386, 388]
theorem MS_b : ∀ p, p ∈ MS → 357 ≤ p ∧ p ≤ 388 := by decide
theorem MS_n {j : Nat} (w : j < 356 ∨ 390 ≤ j) : ∀ p, p ∈ MS → j ≠ p ∧ j ≠ p + 1 := fun p hp => by
  have := MS_b p hp
  omega
theorem MS_m {m : Nat} (hm : m < 16) : 358 + 2 * m ∈ MS := lt16 (p := fun m => 358 + 2 * m ∈ MS) (by decide) m hm
theorem CF_MS {k : Nat} {h h' : s_H} (a : FA MS k h h') : CF (fun j => PR j ∨ (356 ≤ j ∧ j < 390)) h h' := CF_FA a (fun p hp => by have := MS_b p hp; exact ⟨.inr (by omega), .inr (by omega)⟩) (fun j j1 j2 => .inl ⟨j1, j2⟩)
theorem FX_MS : FX (fun j => PR j ∨ (356 ≤ j ∧ j < 390)) := fun j p => by
  have p' : PR j ∨ (356 ≤ j ∧ j < 390) := p
  unfold PR at p'
  omega
theorem eps_p (s : Nat) : eps s = zp_C (nF (if s % 2 = 1 then 1 else -1)) := rfl
/-- what find leaves -/
def MFd (h : s_H) (M : Nat → Nat → zp_R) (w rm n : Nat) : Prop := ∀ c, c < n → c < 2 ^ w → bts c ≤ bts rm → PF h (358 + 2 * c) 41 (mnq M w (pre rm (bts c)) c)
section
variable {D : Nat} {h : s_H} {k : Nat}
theorem u_find (A : AL h k) (hk : k + 2 < 16) (I : MI h) (lo : 1376 ≤ h.1) {a r w : Nat} {M : Nat → Nat → zp_R} (K : KT h a (th_ma r w M)) (ka : kt h a) {rm : Nat} (hr : rm < 2 ^ r) : wm sw_P (D + 5) 139 [.index 354, .index a, vi (rm : Int)] h (fun out => ∃ h', FA MS k h h' ∧ AL h' k ∧ MI h' ∧ MFd h' M w rm 16 ∧ out = (.inl none, h', 0, 0)) := by
  refine wm_in (cd := sw_c139) (nL := 6) (hd := sw_h139) rfl rfl ?_
  obtain ⟨r14, w14⟩ := KT_rw K
  have h16 := pw16 hr r14.2
  have w2 := Nat.pow_le_pow_right (show 0 < 2 by decide) w14.2
  have dM : ∀ i j, i < r → j < w → zp_deg (M i j) 11 := fun i j h1 h2 => KT_d11 K h1 h2
  have gcF : ∀ {h' : s_H}, FA MS k h h' → ∃ e, s_get h' a = some (1, 8, [vi 2, .null, .null, vi (r : Int), vi (w : Int), .index e, .null, vi 0]) := fun F => KT_ce (KT_keep K ka (CF_MS F) FX_MS lo)
  refine k139_0 (v11 := .index 358) I.1 I.2.1 (PE_c (I.2.2.2.2 0 (by decide))) (wm_mono (wq_U (fun h1 P1 F1 => ?_)) (u_setNumber (I.2.2.2.2 0 (by decide)) (by decide) (x := 1) (by decide)))
  have f1 : ∀ j, j ≠ 358 → j ≠ 359 → s_get h1 j = s_get h j := fun j j1 j2 => F1.2 j (fun q hq => by
    have : q = 358 + 2 * 0 := by simpa using hq
    omega)
  have E1 : FA MS k h h1 := FA_U F1 (fun q hq => .inl (by
    have : q = 358 + 2 * 0 := by simpa using hq
    rw [this]
    exact MS_m (by decide)))
  have A1 : AL h1 k := AL_same A (fun j _ _ => f1 j (by omega) (by omega))
  have I1 : MI h1 := MI_1 I (m := 0) (by decide) (fun j j1 j2 _ _ => f1 j j1 j2) (PF_E P1)
  refine k139_10 ?_
  have second : ∀ (l m : Nat) (h' : s_H) (t5 : Term) (g : Nat → Int), 1 ≤ m → m + l = 2 ^ w → FA MS k h h' → AL h' k → MI h' → s_get h' 357 = some (ai 4 g) → (∀ t, t < bts rm → g t = ch rm t) → MFd h' M w rm m → wr sw_P (D + 4) sw_c139 sw_h139 (64, [.index 354, .index a, vi (rm : Int), vi (bts rm : Int), vi (m : Int), t5], [], h', 0, 0) (fun out => ∃ h', FA MS k h h' ∧ AL h' k ∧ MI h' ∧ MFd h' M w rm 16 ∧ out = (.inl none, h', 0, 0)) := by
    intro l
    have b4 : bts rm ≤ 4 := lt16 (p := fun r => bts r ≤ 4) (by decide +kernel) rm h16
    induction l with
    | zero =>
      intro m h' t5 g m1 hm F A' I' g7 hg Fd
      obtain ⟨_, gc⟩ := gcF F
      refine k139_64 (z5 := (w : Int)) gc (fun _ => k139_133 ⟨h', F, A', I', fun c hc c2 => Fd c (by omega) c2, rfl⟩) (fun q => absurd ?_ q) (c7 := by unfold In3; omega) (c8 := by rw [zs (by omega)]; unfold In3; omega)
      rw [zs (by omega)]
      omega
    | succ l ih =>
      intro m h' t5 g m1 hm F A' I' g7 hg Fd
      obtain ⟨_, gc⟩ := gcF F
      refine k139_64 (z5 := (w : Int)) gc (fun q => absurd q ?_) (fun _ => ?_) (c7 := by unfold In3; omega) (c8 := by rw [zs (by omega)]; unfold In3; omega)
      · rw [zs (by omega)]
        omega
      have m16 : m < 16 := by omega
      have eL : (mns.length : Int) = 16 := rfl
      refine k139_75 I'.1 I'.2.1 (fun q => absurd q (by omega)) (fun _ => ?_) (c11 := by unfold In3; omega) (c12 := by unfold In3; omega)
      refine k139_85 (wm_mono (wq_r ?_) (u_bits m16))
      have bm4 : bts m ≤ 4 := lt16 (p := fun r => bts r ≤ 4) (by decide +kernel) m m16
      have bm1 : bts m ≠ 0 := fun q => by
        have := bts_0 m16 q
        omega
      refine k139_90 (fun q => k139_127 (ih (m + 1) h' _ g (by omega) (by omega) F A' I' g7 hg (fun c hc c2 cb => Fd c (by
        have : c ≠ m := fun e => by
          subst e
          omega
        omega) c2 cb))) (fun q => ?_) (c1 := by unfold In3; omega) (c2 := by unfold In3; omega)
      obtain ⟨s, es⟩ : ∃ s, bts m = s + 1 := ⟨bts m - 1, by omega⟩
      have sl : s < bts rm := by omega
      obtain ⟨c1, c2, c3, c4, c5, c6, c7⟩ := ch_f h16 sl
      have cR := ch_lt r14.2 hr sl
      have gv : gi (mk 4 g) ((bts m : Int) - 1) = (ch rm s : Int) := by
        rw [show (bts m : Int) - 1 = ((s : Nat) : Int) by omega, gi_mkn (by omega)]
        exact hg s sl
      have go : ∀ p z : Int, ((p = 1 ∧ z = 1) ∨ (p = 0 ∧ z = -1)) → z = (if (s + 1) % 2 = 1 then 1 else -1) → wr sw_P (D + 4) sw_c139 sw_h139 (124, [.index 354, .index a, vi (rm : Int), vi (bts rm : Int), vi (m : Int), vi (bts m : Int)], [vi p, vi (m : Int), vi (gi (mk 4 g) ((bts m : Int) - 1)), .index a, .index 354], h', 0, 0) (fun out => ∃ h', FA MS k h h' ∧ AL h' k ∧ MI h' ∧ MFd h' M w rm 16 ∧ out = (.inl none, h', 0, 0)) := fun p z pz ez => by
        rw [gv]
        have lo' : 1376 ≤ h'.1 := by rw [F.1]; exact lo
        have ka' : kt h' a := kt_le ka (by rw [F.1]; exact Nat.le_refl _)
        have dg : ∀ c, zp_deg (mnq M w (pre rm s) c) 31 := fun c => by
          have ps : pre rm s < 2 ^ r ∧ bts (pre rm s) ≤ 3 := by
            have : ∀ R : Fin 5, ∀ s : Fin 4, ∀ r : Fin 16, r.val < 2 ^ R.val → s.val < bts r.val → pre r.val s.val < 2 ^ R.val ∧ bts (pre r.val s.val) ≤ 3 := by decide +kernel
            exact this ⟨r, by omega⟩ ⟨s, by omega⟩ ⟨rm, h16⟩ hr sl
          have e3 : mnf M w 3 (pre rm s) = mnf M w 4 (pre rm s) := mnf_up M w 3 _ (pw16 ps.1 r14.2) ps.2
          have := mnf_deg r14.2 dM 3 (pre rm s) c ps.1
          rw [e3] at this
          exact this
        refine k139_124 I'.1 (wm_mono (fun out => ?_) (u_expand A' hk I' lo' (KT_keep K ka (CF_MS F) FX_MS lo) ka' cR m16 (g := mnq M w (pre rm s)) dg (fun j jw on => ?_) pz))
        · intro ⟨h2, F2, A2, P2, eo⟩
          rw [eo]
          have n2 : ∀ j, j ≠ 358 + 2 * m → j ≠ 358 + 2 * m + 1 → 39 ≤ j → s_get h2 j = s_get h' j := fun j j1 j2 j3 => F2.2 j (fun q hq => by
            have : q = 358 + 2 * m := by simpa using hq
            omega) (.inr j3) (by omega)
          have I2 := MI_1 I' m16 (fun j j1 j2 j3 _ => n2 j j1 j2 (by omega)) (PF_E P2)
          have eM : zp_mul (zp_C (nF z)) (lpp (M (ch rm s)) (mnq M w (pre rm s)) m w) = mnq M w (pre rm (bts m)) m := by
            rw [es, mnq_l M w14.2 (s + 1) _ c7 c3 c4 m m16, c5, c6, ez]
            rfl
          rw [eM] at P2
          refine k139_127 (ih (m + 1) h2 _ g (by omega) (by omega) (FA_trans F (FA_sub F2 (Nat.le_refl _) (fun q hq => .inl (by
            have : q = 358 + 2 * m := by simpa using hq
            rw [this]
            exact MS_m m16)))) A2 I2 ((n2 357 (by omega) (by omega) (by decide)).trans g7) hg (fun c hc c2 cb => ?_))
          by_cases ec : c = m
          · subst ec
            exact P2
          · exact PF_same (Fd c (by omega) c2 cb) (n2 _ (by omega) (by omega) (by omega)) (n2 _ (by omega) (by omega) (by omega))
        · obtain ⟨x1, x2, x3⟩ := zxo m16 (by omega) on
          have := Fd (m - 2 ^ j) x2 (by omega) (by omega)
          rw [show bts (m - 2 ^ j) = s by omega] at this
          exact this
      refine k139_98 (a9 := mk 4 g) I'.1 g7 (fun q2 => k139_123 (go 0 (-1) (.inr ⟨rfl, rfl⟩) ?_)) (fun q2 => k139_119 (go 1 1 (.inl ⟨rfl, rfl⟩) ?_)) (c11 := by rw [mk_len]; omega) (c12 := by omega) (c13 := by unfold In3; omega) (c14 := by rw [z_odd (by omega)]; unfold In3; omega)
      · rw [z_odd (by omega)] at q2
        rw [if_neg (by omega)]
      · rw [z_odd (by omega)] at q2
        rw [if_pos (by omega)]
  have first : ∀ (l i : Nat) (h' : s_H) (t5 : Term) (g : Nat → Int), i + l = r → FA MS k h h' → AL h' k → MI h' → s_get h' 357 = some (ai 4 g) → (∀ t, t < bts (rm % 2 ^ i) → g t = ch rm t) → PF h' 358 41 (zp_C 1) → wr sw_P (D + 4) sw_c139 sw_h139 (15, [.index 354, .index a, vi (rm : Int), vi (bts (rm % 2 ^ i) : Int), vi (i : Int), t5], [], h', 0, 0) (fun out => ∃ h', FA MS k h h' ∧ AL h' k ∧ MI h' ∧ MFd h' M w rm 16 ∧ out = (.inl none, h', 0, 0)) := by
    intro l
    induction l with
    | zero =>
      intro i h' t5 g hi2 F A' I' g7 hg P
      have ei : i = r := by omega
      subst ei
      obtain ⟨_, gc⟩ := gcF F
      have em : rm % 2 ^ i = rm := Nat.mod_eq_of_lt hr
      rw [em] at hg ⊢
      refine k139_15 (z5 := (i : Int)) gc (fun _ => k139_61 ?_) (fun q => absurd (by omega) q) (c7 := by unfold In3; omega) (c8 := by unfold In3; omega)
      have w1 := Nat.pow_le_pow_right (show 0 < 2 by decide) w14.1
      refine second (2 ^ w - 1) 1 h' t5 g (by omega) (by omega) F A' I' g7 hg (fun c hc _ _ => ?_)
      have c0 : c = 0 := by omega
      subst c0
      rw [show bts 0 = 0 from rfl, show pre rm 0 = 0 from rfl, mnq_0]
      exact P
    | succ l ih =>
      intro i h' t5 g hi2 F A' I' g7 hg P
      obtain ⟨_, gc⟩ := gcF F
      have i4 : i < 4 := by omega
      obtain ⟨n1, n2, n3⟩ := ch_n h16 i4
      have bl := bt_le rm i
      refine k139_15 (z5 := (r : Int)) gc (fun q => absurd q (by omega)) (fun _ => ?_) (c7 := by unfold In3; omega) (c8 := by unfold In3; omega)
      have eL : (((mk 4 g).map vi).length : Int) = 4 := by rw [List.length_map, mk_len]; rfl
      refine k139_24 (a8 := (mk 4 g).map vi) (tg10 := 0) I'.1 g7 (fun q => absurd q (by omega)) (fun _ => ?_) (c11 := by unfold In3; omega) (c12 := by unfold In3; omega)
      refine k139_34 (fun q => ?_) (fun q => ?_) (c1 := by rw [zb h16 i4]; unfold In3; omega)
      · rw [zb h16 i4] at q
        have e := n2 (by omega)
        have := ih (i + 1) h' t5 g (by omega) F A' I' g7 (by rw [e]; exact hg) P
        rw [e] at this
        exact k139_55 this
      · rw [zb h16 i4] at q
        obtain ⟨e0, e⟩ := n1 (by omega)
        refine k139_44 (a8 := mk 4 g) I'.1 g7 ?_ (c10 := by rw [mk_len]; omega) (c11 := by omega) (c12 := by unfold In3; omega)
        rw [mk_set, show Int.toNat (bts (rm % 2 ^ i) : Int) = bts (rm % 2 ^ i) by omega]
        have nn : ∀ j, j ≠ 357 → s_get (hp h' 357 (ai 4 (fun t => if t = bts (rm % 2 ^ i) then (i : Int) else g t))) j = s_get h' j := fun j hj => hp_ne g7 hj
        have F2 : FA MS k h' (hp h' 357 (ai 4 (fun t => if t = bts (rm % 2 ^ i) then (i : Int) else g t))) := ⟨rfl, fun j j1 _ _ => nn j (fun e => (j1 357 (by decide)).1 e)⟩
        have g7' := hp_at (cc := ai 4 (fun t => if t = bts (rm % 2 ^ i) then (i : Int) else g t)) g7
        have I2 : MI (hp h' 357 (ai 4 (fun t => if t = bts (rm % 2 ^ i) then (i : Int) else g t))) := by
          obtain ⟨a1, a2, ⟨g1, a3⟩, _, a5⟩ := I'
          exact ⟨(nn _ (by decide)).trans a1, (nn _ (by decide)).trans a2, ⟨g1, (nn _ (by decide)).trans a3⟩, ⟨_, g7'⟩, fun i hi2 => PE_same (a5 i hi2) (nn _ (by omega)) (nn _ (by omega))⟩
        have := ih (i + 1) _ t5 _ (by omega) (FA_trans F F2) (AL_same A' (fun j _ _ => nn j (by omega))) I2 g7' (fun t ht => by
          show (if t = bts (rm % 2 ^ i) then (i : Int) else g t) = _
          by_cases q2 : t = bts (rm % 2 ^ i)
          · rw [if_pos q2, q2, e0]
          · rw [if_neg q2]
            exact hg t (by omega)) (PF_same P (nn _ (by decide)) (nn _ (by decide)))
        rw [e] at this
        exact k139_55 this
  obtain ⟨g0, g7⟩ := I1.2.2.2.1
  have e0 : rm % 2 ^ 0 = 0 := by omega
  have q := fun t5 => first r 0 h1 t5 g0 (by omega) E1 A1 I1 g7 (fun t ht => by
    rw [e0] at ht
    exact absurd ht (Nat.not_lt_zero t)) P1
  rw [e0] at q
  exact q _
end
