/-! the class: reduceBy -/
theorem apt_s {p q : Nat} (h : apt p q) : apt q p := ⟨fun e => h.1 e.symm, fun e => h.2.2 e.symm, fun e => h.2.1 e.symm⟩
def qtT : Option Nat → Term
  | none => .null
  | some r => .index r
def qtS (p : Nat) : Option Nat → List Nat
  | none => [p]
  | some r => [p, r]
def QE (h : s_H) (Lq : Nat) (Q : zp_R) : Option Nat → Prop
  | none => True
  | some r => PF h r Lq Q
/-- the quotient as far as it is found: from k on -/
def QK (h : s_H) (Lq : Nat) (Q : zp_R) (k : Nat) (dd : Int) : Option Nat → Prop
  | none => True
  | some r => ∃ dq gq, PO h r Lq dq gq ∧ ∀ j : Nat, k ≤ j → (j : Int) ≤ dd → gq j = cf Q j
theorem qtS_p {p : Nat} {rq : Option Nat} {x : Nat} (h : x ∈ [p]) : x ∈ qtS p rq := by
  rw [List.mem_singleton] at h
  subst h
  cases rq <;> exact List.mem_cons_self
theorem FU_p {p : Nat} {rq : Option Nat} {h h' : s_H} (a : FU [p] h h') : FU (qtS p rq) h h' := FU_sub a (fun _ hx => qtS_p hx)
theorem QK_keep {p Lq : Nat} {rq : Option Nat} {h h' : s_H} {Q : zp_R} {k : Nat} {dd : Int} (a : FU [p] h h') (ar : ∀ r, rq = some r → apt r p) (H : QK h Lq Q k dd rq) : QK h' Lq Q k dd rq := by
  cases rq with
  | none => exact True.intro
  | some r =>
    obtain ⟨dq, gq, P, c⟩ := H
    exact ⟨dq, gq, PO_keep P a (fun x hx => by rw [List.mem_singleton.mp hx]; exact ar r rfl), c⟩
theorem QE_keep {p Lq : Nat} {rq : Option Nat} {h h' : s_H} {Q : zp_R} (a : FU [p] h h') (ar : ∀ r, rq = some r → apt r p) (H : QE h Lq Q rq) : QE h' Lq Q rq := by
  cases rq with
  | none => exact True.intro
  | some r => exact PF_keep H a (fun x hx => by rw [List.mem_singleton.mp hx]; exact ar r rfl)
theorem nF_p : nF 32003 = 0 := Fin.ext (by
  have h := nF_v 32003
  show (nF 32003).val = 0
  omega)
theorem tm_red {a b c : zp_F} : Int.tmod ((a.val : Int) + (32003 - (c.val : Int)) * (b.val : Int)) 32003 = ((a + -(c * b) : zp_F).val : Int) := by
  have la := a.isLt
  have lc := c.isLt
  have nn : 0 ≤ (32003 - (c.val : Int)) * (b.val : Int) := Int.mul_nonneg (by omega) (by omega)
  rw [tmod_nn (by omega), ← nF_v, nF_add, nF_mul, nF_sub, nF_p, nF_val, nF_val, nF_val]
  have e : a + (0 - c) * b = a + -(c * b) := @tr_h zp_F _ a b c
  rw [e]
where tr_h : ∀ {R : Type} [Lean.Grind.CommRing R] (a b c : R), a + (0 - c) * b = a + -(c * b) := by intro R _ a b c; grind
section
variable {D : Nat} {h : s_H} {p L : Nat}
theorem u_reduceBy {f g : zp_R} (hf : PF h p L f) {q Lg : Nat} (hg : PF h q Lg g) {n : Nat} (dg : dgp g n) (ap : apt q p) {v : Int} (v0 : 0 ≤ v ∧ v ≤ 32002) (hv : nF v * g.1 n = 1) {rq : Option Nat} {Lq : Nat} (hq : ∀ r, rq = some r → PE h r Lq ∧ apt r p ∧ apt q r ∧ ∀ e, dgp f e → e - n < Lq) : wm sw_P (D + 1) 176 [.index p, .index q, vi v, qtT rq] h (fun out => ∃ Q R, f = zp_add (zp_mul g Q) R ∧ zp_deg R n ∧ UN (qtS p rq) h (fun h' => PF h' p L R ∧ QE h' Lq Q rq) out) := by
  obtain ⟨d, g0, P, b, c0, eL, lL⟩ := hf
  obtain ⟨dq, gg, PQ, bq, cq, eq', lq⟩ := hg
  have edq := dgp_one bq dg
  subst edq
  have ar : ∀ r, rq = some r → apt r p := fun r hr => (hq r hr).2.1
  have aq : ∀ x, x ∈ qtS p rq → apt q x := fun x hx => by
    cases rq with
    | none => rw [List.mem_singleton.mp hx]; exact ap
    | some r =>
      rcases List.mem_cons.mp hx with e | e
      · rw [e]; exact ap
      · rw [List.mem_singleton.mp e]; exact (hq r rfl).2.2.1
  have b1 := b.1
  have yT : s_ty (qtT rq) = 3 := by cases rq <;> rfl
  refine wm_in (cd := sw_c176) (nL := 8) (hd := sw_h176) rfl (by cases rq <;> rfl) ?_
  rw [show s_ini 8 [.index p, .index q, vi v, qtT rq] = [.index p, .index q, vi v, qtT rq, .result, .result, .result, .result] by cases rq <;> rfl]
  obtain ⟨Φ, eΦ⟩ : ∃ Φ, (fun out => ∃ Q R, f = zp_add (zp_mul g Q) R ∧ zp_deg R n ∧ UN (qtS p rq) h (fun h' => PF h' p L R ∧ QE h' Lq Q rq) out) = Φ := ⟨_, rfl⟩
  rw [eΦ]
  -- the last noughts
  have trim : ∀ (l : Nat) (y : Int) (Q F : zp_R) (h' : s_H) (g' : Nat → Int) (x4 : Int) (t6 t7 : Term), y + 1 = l → y ≤ d → PO h' p L y g' → FU (qtS p rq) h h' → (∀ j : Nat, (j : Int) ≤ y → g' j = cf F j) → (∀ i : Nat, y < i → F.1 i = 0) → f = zp_add (zp_mul g Q) F → zp_deg F n → QE h' Lq Q rq → wr sw_P D sw_c176 sw_h176 (164, [.index p, .index q, vi v, qtT rq, vi x4, vi (-1), t6, t7], [], h', 0, 0) Φ := by
    intro l
    induction l with
    | zero =>
      intro y Q F h' g' x4 t6 t7 hy yd P' F' G Z e dF E
      refine k176_164 (z5 := y) P'.2.1 (fun _ => k176_196 ?_) (fun w => absurd (by omega) w) (c7 := by unfold In3; omega)
      rw [← eΦ]
      exact ⟨Q, F, e, dF, h', ⟨⟨y, g', P', ⟨by omega, Z, fun i hi2 => absurd hi2 (by omega)⟩, G, by omega, lL⟩, E⟩, F', rfl⟩
    | succ l ih =>
      intro y Q F h' g' x4 t6 t7 hy yd P' F' G Z e dF E
      obtain ⟨k, ek⟩ : ∃ k : Nat, y = k := ⟨y.toNat, by omega⟩
      subst ek
      have gk : gi (mk L g') (k : Int) = cf F k := by rw [gi_mkn (by omega)]; exact G k (Int.le_refl _)
      have cb := cf_b F k
      refine k176_164 (z5 := (k : Int)) P'.2.1 (fun w => absurd w (by omega)) (fun _ => ?_) (c7 := by unfold In3; omega)
      refine k176_171 (z7 := (k : Int)) (a10 := mk L g') P'.2.1 P'.2.2 (fun w => k176_196 ?_) (fun w => k176_183 (z5 := (k : Int)) P'.2.1 ?_ (c8 := P'.1)) (c12 := by rw [mk_len]; omega) (c13 := by omega) (c14 := by unfold In3; omega) (c15 := by rw [gk]; unfold In3; omega)
      · rw [gk] at w
        rw [← eΦ]
        refine ⟨Q, F, e, dF, h', ⟨⟨(k : Int), g', P', ⟨by omega, Z, fun i hi2 z => w ?_⟩, G, by omega, lL⟩, E⟩, F', rfl⟩
        have : i = k := by omega
        subst this
        exact cf_0i z
      · rw [gk] at w
        have z : F.1 k = 0 := by
          have e : cf F k = 0 := Classical.byContradiction w
          unfold cf at e
          exact Fin.ext (by omega)
        obtain ⟨P2, F2⟩ := PO_d P' ((k : Int) - 1)
        refine ih ((k : Int) - 1) Q F _ g' x4 _ _ (by omega) (by omega) P2 (FU_trans F' (FU_p F2)) (fun j hj => G j (by omega)) (fun i hi2 => ?_) e dF (QE_keep F2 ar E)
        by_cases w2 : i = k
        · rw [w2]; exact z
        · exact Z i (by omega)
  -- the end
  have fin : ∀ (dd : Int) (Q F : zp_R) (h' : s_H) (g' : Nat → Int) (t6 t7 : Term), (dd = -1 ∧ d < n ∨ 0 ≤ dd ∧ dd = d - n) → PO h' p L d g' → FU (qtS p rq) h h' → (∀ j : Nat, (j : Int) ≤ d → g' j = cf F j) → (∀ i : Nat, d < i → F.1 i = 0) → f = zp_add (zp_mul g Q) F → zp_deg F n → (∀ i : Nat, dd < i → Q.1 i = 0) → QK h' Lq Q 0 dd rq → wr sw_P D sw_c176 sw_h176 (154, [.index p, .index q, vi v, qtT rq, vi dd, vi (-1), t6, t7], [], h', 0, 0) Φ := by
    intro dd Q F h' g' t6 t7 hd P' F' G Z e dF dQ K
    have dQ' : dgp Q dd := by
      refine ⟨by omega, dQ, fun i hi2 z => ?_⟩
      rcases hd with w | w
      · omega
      · have m1 : (zp_mul g Q).1 (n + i) = g.1 n * Q.1 i := mul_top (dgp_deg bq (by omega)) (fun j hj => dQ j (by omega))
        have m2 : f.1 (n + i) = (zp_mul g Q).1 (n + i) + F.1 (n + i) := by
          rw [e]
          rfl
        rw [m1, z, dF (n + i) (by omega)] at m2
        have z0 : g.1 n * (0 : zp_F) + 0 = 0 := @rb_h zp_F _ (g.1 n)
        rw [z0] at m2
        exact b.2.2 (n + i) (by omega) m2
    cases rq with
    | none =>
      exact k176_154 (fun _ => trim (d + 1).toNat d Q F h' g' dd _ _ (by omega) (Int.le_refl _) P' F' G Z e dF True.intro) (fun x w => nomatch w)
    | some r =>
      obtain ⟨⟨_, lr⟩, arp, _, fits⟩ := hq r rfl
      obtain ⟨dr, gr, PR, cr⟩ := K
      obtain ⟨P2, F2⟩ := PO_d PR dd
      have F2' : FU (qtS p (some r)) h' (hp h' r (1, 4, [.index (r + 1), vi dd])) := FU_sub F2 (fun x hx => by rw [List.mem_singleton.mp hx]; exact List.mem_cons_of_mem _ List.mem_cons_self)
      have dLq : dd < Lq := by
        rcases hd with w | w
        · omega
        · rw [w.2]; exact fits d b
      refine k176_154 (fun w => nomatch w) (fun x w => k176_158 PR.2.1 ?_ (c6 := PR.1))
      refine trim (d + 1).toNat d Q F _ g' dd _ _ (by omega) (Int.le_refl _) (PO_keep P' F2 (fun x hx => by rw [List.mem_singleton.mp hx]; exact apt_s arp)) (FU_trans F' F2') G Z e dF ?_
      exact ⟨dd, gr, P2, dQ', fun j hj => cr j (Nat.zero_le _) hj, dLq, lr⟩
  -- going down
  have outer : ∀ (dd : Int), (dd = -1 ∧ d < n ∨ 0 ≤ dd ∧ dd = d - n) → ∀ (m : Nat) (Q F : zp_R) (h' : s_H) (g' : Nat → Int) (t6 t7 : Term), (m : Int) ≤ dd + 1 → PO h' p L d g' → FU (qtS p rq) h h' → (∀ j : Nat, (j : Int) ≤ d → g' j = cf F j) → (∀ i : Nat, d < i → F.1 i = 0) → f = zp_add (zp_mul g Q) F → zp_deg F (m + n) → (∀ i, i < m → Q.1 i = 0) → (∀ i : Nat, dd < i → Q.1 i = 0) → QK h' Lq Q m dd rq → wr sw_P D sw_c176 sw_h176 (48, [.index p, .index q, vi v, qtT rq, vi dd, vi ((m : Int) - 1), t6, t7], [], h', 0, 0) Φ := by
    intro dd hd m
    induction m with
    | zero =>
      intro Q F h' g' t6 t7 hm P' F' G Z e dF _ dQ K
      exact k176_48 (fun _ => fin dd Q F h' g' _ _ hd P' F' G Z e (fun i hi2 => dF i (by omega)) dQ K) (fun w => absurd (by decide) w) (c1 := by decide)
    | succ m ih =>
      intro Q F h' g' t6 t7 hm P' F' G Z e dF dQ0 dQ K
      have md : (m : Int) + n ≤ d := by omega
      have nd : (n : Int) ≤ d := by omega
      have PQ' := PO_keep PQ F' aq
      rw [show ((m + 1 : Nat) : Int) - 1 = (m : Int) by omega]
      have gk : gi (mk L g') ((m : Int) + n) = cf F (m + n) := by
        rw [show (m : Int) + n = ((m + n : Nat) : Int) by omega, gi_mkn (by omega)]
        exact G (m + n) (by omega)
      have cb := cf_b F (m + n)
      have bb := mm_le cb (y := v) ⟨v0.1, by omega⟩
      let c : zp_F := F.1 (m + n) * nF v
      have ec : Int.tmod (cf F (m + n) * v) 32003 = (c.val : Int) := by
        rw [tmod_nn bb.1, ← nF_v, nF_mul, nF_cf]
      have bc := c.isLt
      let Q' := zp_add Q (zp_T c m)
      let F2 := zp_add F (zp_neg (zp_mul (zp_T c m) g))
      have eF : ∀ i, F2.1 i = F.1 i + -(if m ≤ i then c * g.1 (i - m) else 0) := fun i => by
        show F.1 i + -(zp_mul (zp_T c m) g).1 i = _
        rw [zp_T_mul]
      have eQ : ∀ i, Q'.1 i = Q.1 i + (if i = m then c else 0) := fun i => rfl
      have hdg : zp_deg g (n + 1) := dgp_deg bq (by omega)
      have next : ∀ (h3 : s_H) (g3 : Nat → Int) (t7 : Term), PO h3 p L d g3 → FU (qtS p rq) h h3 → (∀ j : Nat, (j : Int) ≤ d → g3 j = cf F2 j) → QK h3 Lq Q' m dd rq → wr sw_P D sw_c176 sw_h176 (148, [.index p, .index q, vi v, qtT rq, vi dd, vi (m : Int), vi (c.val : Int), t7], [], h3, 0, 0) Φ := fun h3 g3 t7 P3 F3 G3 K3 => by
        refine k176_148 ?_
        rw [show (m : Int) + (-1) = (m : Int) - 1 by omega]
        refine ih Q' F2 h3 g3 _ _ (by omega) P3 F3 G3 (fun i hi2 => ?_) (@zp_h16 zp_R zp_ring f g Q F (zp_T c m) e) (fun i hi2 => ?_) (fun i hi2 => ?_) (fun i hi2 => ?_) K3
        · rw [eF, Z i hi2]
          split
          · rw [hdg (i - m) (by omega)]; grind
          · grind
        · rw [eF]
          by_cases h5 : i = m + n
          · subst h5
            rw [if_pos (by omega), show m + n - m = n by omega]
            show F.1 (m + n) + -(F.1 (m + n) * nF v * g.1 n) = 0
            exact @rb_h2 zp_F _ _ _ _ hv
          · rw [dF i (by omega)]
            split
            · rw [hdg (i - m) (by omega)]; grind
            · grind
        · rw [eQ, dQ0 i (by omega), if_neg (by omega)]; grind
        · rw [eQ, dQ i hi2, if_neg (by omega)]; grind
      -- the quotient's number stands
      have at86 : ∀ (h2 : s_H) (t7 : Term), PO h2 p L d g' → FU (qtS p rq) h h2 → QK h2 Lq Q' m dd rq → wr sw_P D sw_c176 sw_h176 (86, [.index p, .index q, vi v, qtT rq, vi dd, vi (m : Int), vi (c.val : Int), t7], [], h2, 0, 0) Φ := fun h2 t7 P2 F2' K2 => by
        refine k176_86 (fun w => next h2 g' _ P2 F2' (fun j hj => ?_) K2) (fun w => k176_91 ?_) (c1 := by unfold In3; omega)
        · rw [G j hj]
          have c00 : c = 0 := Fin.ext (by show c.val = 0; omega)
          unfold cf
          rw [eF, c00]
          refine F_cg ?_
          generalize F.1 j = y
          split <;> grind
        · have inner : ∀ (l k : Nat) (h3 : s_H) (g3 : Nat → Int), k + l = n + 1 → PO h3 p L d g3 → FU (qtS p rq) h h3 → (∀ j : Nat, (j : Int) ≤ d → g3 j = if m ≤ j ∧ j < m + k then cf F2 j else cf F j) → QK h3 Lq Q' m dd rq → wr sw_P D sw_c176 sw_h176 (94, [.index p, .index q, vi v, qtT rq, vi dd, vi (m : Int), vi (c.val : Int), vi (k : Int)], [], h3, 0, 0) Φ := by
            intro l
            induction l with
            | zero =>
              intro k h3 g3 hk P3 F3 G3 K3
              refine k176_94 (z5 := (n : Int)) (PO_keep PQ F3 aq).2.1 (fun _ => next h3 g3 _ P3 F3 (fun j hj => ?_) K3) (fun w => absurd (by omega) w) (c7 := by unfold In3; omega) (c8 := by unfold In3; omega)
              rw [G3 j hj]
              split
              · rfl
              · rename_i h5
                unfold cf
                rw [eF]
                refine F_cg ?_
                by_cases h6 : m ≤ j
                · rw [if_pos h6, hdg (j - m) (by omega)]
                  generalize F.1 j = y
                  grind
                · rw [if_neg h6]
                  generalize F.1 j = y
                  grind
            | succ l ih2 =>
              intro k h3 g3 hk P3 F3 G3 K3
              have PQ3 := PO_keep PQ F3 aq
              have e3 : gi (mk L g3) ((m : Int) + k) = ((F.1 (m + k)).val : Int) := by
                rw [show (m : Int) + k = ((m + k : Nat) : Int) by omega, gi_mkn (by omega), G3 _ (by omega), if_neg (by omega)]
                rfl
              have e4 : gi (mk Lg gg) (k : Int) = ((g.1 k).val : Int) := by
                rw [gi_mkn (by omega)]
                exact cq k (by omega)
              have v1 := (F.1 (m + k)).isLt
              have v2 := (g.1 k).isLt
              have nn : 0 ≤ (32003 - (c.val : Int)) * ((g.1 k).val : Int) := Int.mul_nonneg (by omega) (by omega)
              have mm : (32003 - (c.val : Int)) * ((g.1 k).val : Int) ≤ 32003 * 32002 := Int.mul_le_mul (by omega) (by omega) (by omega) (by decide)
              obtain ⟨P4, F4⟩ := PO_g P3 (fun t => if t = m + k then cf F2 (m + k) else g3 t)
              refine k176_94 (z5 := (n : Int)) PQ3.2.1 (fun w => absurd w (by omega)) (fun _ => ?_) (c7 := by unfold In3; omega) (c8 := by unfold In3; omega)
              refine k176_103 (a8 := mk L g3) (a20 := mk Lg gg) P3.2.1 P3.2.2 PQ3.2.1 PQ3.2.2 ?_ (c10 := by rw [mk_len]; omega) (c11 := by omega) (c12 := by unfold In3; omega) (c22 := by rw [mk_len]; omega) (c23 := by omega) (c24 := by unfold In3; omega) (c25 := by rw [e3, e4]; unfold In3; omega)
              have e5 : ((F.1 (m + k) + -(c * g.1 k) : zp_F).val : Int) = cf F2 (m + k) := by
                unfold cf
                rw [eF, if_pos (by omega), show m + k - m = k by omega]
              rw [e3, e4, tm_red, e5, mk_set, show ((m : Int) + (k : Int)).toNat = m + k by omega]
              refine ih2 (k + 1) _ _ (by omega) P4 (FU_trans F3 (FU_p F4)) (fun j hj => ?_) (QK_keep F4 ar K3)
              show (if j = m + k then cf F2 (m + k) else g3 j) = _
              by_cases h5 : j = m + k
              · rw [if_pos h5, if_pos (by omega), h5]
              · rw [if_neg h5, G3 j hj]
                by_cases h6 : m ≤ j ∧ j < m + k
                · rw [if_pos h6, if_pos (by omega)]
                · rw [if_neg h6, if_neg (by omega)]
          exact inner (n + 1) 0 h2 g' (Nat.zero_add _) P2 F2' (fun j hj => by rw [if_neg (by omega)]; exact G j hj) K2
      refine k176_48 (fun w => absurd w (by omega)) (fun _ => ?_) (c1 := by unfold In3; omega)
      refine k176_53 (z11 := (n : Int)) (a14 := mk L g') P'.2.1 PQ'.2.1 P'.2.2 (fun w => ?_) (fun x w => ?_) (c16 := by rw [mk_len]; omega) (c17 := by omega) (c18 := by unfold In3; omega) (c19 := by rw [gk]; unfold In3; omega)
      · rw [gk, ec]
        cases rq with
        | none => exact at86 h' _ P' F' True.intro
        | some r => exact nomatch w
      · rw [gk, ec]
        cases rq with
        | none => exact nomatch w
        | some r =>
          obtain ⟨⟨_, lr⟩, arp, _, fits⟩ := hq r rfl
          obtain ⟨dr, gr, PR, cr⟩ := K
          have dLq : (m : Int) < Lq := by
            have := fits d b
            omega
          obtain ⟨P2, F2'⟩ := PO_g PR (fun t => if t = m then (c.val : Int) else gr t)
          refine k176_77 (a8 := mk Lq gr) PR.2.1 PR.2.2 ?_ (c10 := by rw [mk_len]; omega) (c11 := by omega) (c12 := by unfold In3; omega)
          rw [mk_set]
          refine at86 _ _ (PO_keep P' F2' (fun y hy => by rw [List.mem_singleton.mp hy]; exact apt_s arp)) (FU_trans F' (FU_sub F2' (fun y hy => by rw [List.mem_singleton.mp hy]; exact List.mem_cons_of_mem _ List.mem_cons_self))) ⟨dr, _, P2, fun j h1 h2 => ?_⟩
          show (if j = m then (c.val : Int) else gr j) = cf Q' j
          unfold cf
          by_cases h5 : j = m
          · rw [if_pos h5, eQ, dQ0 j (by omega), if_pos h5]
            exact F_cg (by grind)
          · rw [if_neg h5, eQ, if_neg h5, cr j (by omega) h2]
            exact F_cg (by generalize Q.1 j = y; grind)
  have hend : f = zp_add (zp_mul g (zp_C 0)) f := @zp_h17 zp_R zp_ring f g
  have C00 : ∀ i, (zp_C 0).1 i = 0 := fun i => by
    show (if i = 0 then (0 : zp_F) else 0) = 0
    split <;> rfl
  have K0 : ∀ (m : Nat) (dd : Int), dd + 1 ≤ (m : Int) → QK h Lq (zp_C 0) m dd rq := fun m dd hm => by
    cases rq with
    | none => exact True.intro
    | some r =>
      obtain ⟨⟨⟨dr, gr, PR, _⟩, _⟩, _⟩ := hq r rfl
      exact ⟨dr, gr, PR, fun j h1 h2 => absurd h1 (by omega)⟩
  refine k176_0 (z5 := (n : Int)) PQ.2.1 (fun _ => ?_) (fun w => absurd (by omega) w) (c7 := by unfold In3; omega)
  refine k176_11 (z5 := d) (z11 := (n : Int)) P.2.1 PQ.2.1 ?_
  refine k176_20 (fun w => ?_) (fun w => ?_) (c2 := by unfold In3; omega)
  · refine k176_41 (k176_44 ?_)
    exact outer (-1) (.inl ⟨rfl, by omega⟩) 0 (zp_C 0) f h g0 _ _ (by decide) P (FU_refl _ _) c0 b.2.1 hend (fun i hi2 => b.2.1 i (by omega)) (fun i _ => C00 i) (fun i _ => C00 i) (K0 0 (-1) (by decide))
  · have go : wr sw_P D sw_c176 sw_h176 (44, [.index p, .index q, vi v, qtT rq, vi (d - n), .result, .result, .result], [], h, 0, 0) Φ := by
      refine k176_44 ?_
      have := outer (d - n) (.inr ⟨by omega, rfl⟩) (d - n + 1).toNat (zp_C 0) f h g0 .result .result (by omega) P (FU_refl _ _) c0 b.2.1 hend (fun i hi2 => b.2.1 i (by omega)) (fun i _ => C00 i) (fun i _ => C00 i) (K0 _ _ (by omega))
      rw [show (((d - n + 1).toNat : Nat) : Int) - 1 = d - n by omega] at this
      exact this
    cases rq with
    | none => exact k176_27 (fun _ => go) (fun x w => nomatch w)
    | some r =>
      obtain ⟨⟨⟨dr, gr, PR, _⟩, lr⟩, arp, _, fits⟩ := hq r rfl
      have fd := fits d b
      have rlen : ((mk Lq gr).map vi).length = Lq := by rw [List.length_map, mk_len]
      refine k176_27 (fun w => nomatch w) (fun x w => ?_)
      exact k176_31 (a8 := (mk Lq gr).map vi) (tg10 := 0) PR.2.1 PR.2.2 (fun _ => go) (fun w => absurd (by rw [rlen]; omega) w) (c11 := by unfold In3; omega) (c12 := by rw [rlen]; unfold In3; omega)
where
  rb_h : ∀ {R : Type} [Lean.Grind.CommRing R] (a : R), a * 0 + 0 = 0 := by intro R _ a; grind
  rb_h2 : ∀ {R : Type} [Lean.Grind.CommRing R] (y w v : R), w * v = 1 → y + -(y * w * v) = 0 := by intro R _ y w v h; grind
end
