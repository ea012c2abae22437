/-! the reference's simple, rows, row -/
section
variable {g : Nat → nod} {N n : Nat} {law : Int} {Q : List nod}
theorem lawQ_lt (C : ctx g N) {m : Nat} (hm : wlk (pce g n m) 1 0) (nm : n + m ≤ N) (hl : lawS law) (e : lawQ g n law = some Q) : Q.length < m := by
  have m1 := wlk_ne hm
  rw [pce_len] at m1
  have gn := C.2.1 n (Nat.zero_le _) (by omega)
  have p := npa_s gn.1
  unfold lawQ at e
  rcases hl with l7 | l8 | l10
  · rw [if_pos (.inl l7)] at e
    unfold oneQ at e
    rw [if_pos l7] at e
    by_cases w : (g n).1 = 6 ∧ (g (n + 1)).1 = 6
    · rw [if_pos w] at e
      obtain ⟨ma, em, ha⟩ := sub_1 hm (p.2.1 (.inl w.1))
      obtain ⟨mb, em2, hb⟩ := sub_1 ha (by rw [w.2]; rfl)
      rw [← Option.some.inj e, trT_eq (show wlk (pce g (n + 2) mb) 1 0 from hb), pce_len]
      omega
    · rw [if_neg w] at e
      cases e
  · rw [if_neg (by omega), if_neg (by omega)] at e
    by_cases w87 : law = 8 ∧ (g n).1 = 7
    · rw [if_pos w87] at e
      obtain ⟨ma, em, ha⟩ := sub_1 hm (p.2.1 (.inr w87.2))
      split at e
      · rw [← Option.some.inj e, trT_eq ha, pce_len]
        omega
      · cases e
    rw [if_neg w87] at e
    by_cases n2 : npa (g n).1 ≠ 2
    · rw [if_pos n2] at e
      cases e
    rw [if_neg n2] at e
    obtain ⟨ma, mb, em, ha, hb⟩ := sub_2 hm (Classical.byContradiction n2)
    have a1 := wlk_ne ha
    rw [pce_len] at a1
    rw [snd_eq ha, if_neg (by omega), if_neg (by omega), if_neg (by omega), if_neg (by omega), if_neg (by omega), if_pos l8] at e
    unfold samQ at e
    rw [snd_eq ha] at e
    obtain ⟨z, ez⟩ : ∃ z : Int, (if (g n).1 = 2 ∨ (g n).1 = 3 then (0 : Int) else 1) = z := ⟨_, rfl⟩
    rw [ez] at e
    split at e
    · rw [← Option.some.inj e, trT_eq ha, pce_len]
      omega
    · split at e
      · rw [← Option.some.inj e, List.length_append, trT_eq hb, pce_len]
        have z : (if (g n).1 = 3 then [((6 : Int), (0 : Int))] else []).length ≤ 1 := by split <;> decide
        omega
      · cases e
  · rw [if_neg (by omega), if_pos l10] at e
    unfold numQ at e
    split at e
    · cases e
    · rename_i w
      split at e
      · cases e
      · rw [← Option.some.inj e]
        show 1 < m
        have n0 : npa (g n).1 ≠ 0 := fun y => w (.inl y)
        rcases npa_012 (g n).1 with q | q | q
        · exact absurd q n0
        · obtain ⟨ma, em, ha⟩ := sub_1 hm q
          have := wlk_ne ha
          rw [pce_len] at this
          omega
        · obtain ⟨ma, mb, em, ha, hb⟩ := sub_2 hm q
          have := wlk_ne ha
          rw [pce_len] at this
          omega
theorem chg_lt (C : ctx g N) (hn : n < N) (hl : lawS law) {V : List nod} (e : chg g N n law = some V) : V.length < N := by
  obtain ⟨m, nm, hm⟩ := sub_ex C.1 hn
  unfold chg at e
  cases eq : lawQ g n law with
  | none => rw [eq] at e; cases e
  | some Q =>
    rw [eq] at e
    replace e : some (pce g 0 n ++ (Q ++ pce g (n + siz g n) (N - (n + siz g n)))) = some V := e
    have lt := lawQ_lt C hm nm hl eq
    rw [← Option.some.inj e, siz_eq hm, List.length_append, List.length_append, pce_len, pce_len]
    omega
end
def agr (g : Nat → nod) (L : List nod) : Prop := ∀ k, k < L.length → g k = L.getD k (0, 0)
/-- the rows of laws that make a list simple -/
def smC : List nod → List (Nat × Int) → List nod → Prop
  | L, [], L' => L' = L ∧ ∃ g, agr g L ∧ ∀ n, n < L.length → ∀ l, lawS l → chg g L.length n l = none
  | L, r :: rs, L' => ∃ g V, agr g L ∧ fst_ g L.length r.1 r.2 V ∧ smC V rs L'
def RWr (A : Nat → Nat → Int) (rs : List (Nat × Int)) : Prop := ∀ k, k < rs.length → A 1365 k = ((rs.getD k (0, 0)).1 : Int) ∧ A 1366 k = (rs.getD k (0, 0)).2
def smpR (s : Nat → Int) (A : Nat → Nat → Int) (T : Nat → th) (x : Int) (v : Term) (s' : Nat → Int) (A' : Nat → Nat → Int) : Prop := (one s T x 3 ≠ 0 → endz s A T (.inr (one s T x 3)) v s' A') ∧ (one s T x 3 = 0 → (s 1 = 150 → endz s A T (.inr 3) v s' A') ∧ (s 1 ≠ 150 → ∀ n so va, T x.toNat = th_fo n so va → ∃ (rs : List (Nat × Int)) (L' : List nod) (A0 : Nat → Nat → Int), smC (pce (fun k => (so k, va k)) 0 n) rs L' ∧ rs.length + L'.length ≤ n ∧ RWr A0 rs ∧ (∀ y, y ≠ 1365 → y ≠ 1366 → A0 y = A y) ∧ endz (up s 98 (rs.length : Int)) A0 T (.inl (th_L L')) v s' A'))
theorem ctx_of {g : Nat → nod} {L : List nod} (a : agr g L) (t : trL L) (l : L.length ≤ 200) : ctx g L.length := by
  have e : pce g 0 L.length = L := pce_self L g 0 (fun k hk => by rw [Nat.zero_add]; exact a k hk)
  refine ⟨by rw [e]; exact t.2, fun k _ hk => ?_, l⟩
  have := pce_in (g := g) (a := 0) hk
  rw [e, Nat.zero_add] at this
  exact t.1 _ this
section
variable {d : Nat} {h : s_H} {s : Nat → Int} {A : Nat → Nat → Int}
theorem V_simple (hv : RV h s A) {T : Nat → th} (hR : RI s A T) {x : Int} (hx : In3 x) : wm sw_P (d + 8) 595 [.index 1290, vi x] h (RA h (smpR s A T x)) := by
  refine wm_in (cd := sw_c595) (nL := 3) (hd := sw_h595) rfl rfl ?_
  have b0 := hR.1.1
  refine k595_0 hv.1 (wm_mono (wq_A (fun v1 h1 s1 A1 w1 r1 φ => ?_)) (V_isOf hv hR hx (k := 3) (by decide)))
  rcases φ with ⟨ev, e1, q, eA⟩ | ⟨ev, e1, q, f, ef, lf, kf, m1, _, gA⟩
  · rw [ev]
    refine k595_6 (fun w => absurd rfl w) (fun _ => k595_9 ⟨vi 0, h1, s1, A1, w1, r1, ⟨fun _ => ?_, fun w => absurd w q⟩, rfl⟩)
    exact endz_bad hR (sq_refl s) sm_refl rfl e1 eA
  rw [ev]
  subst ef
  have xf : (f : Int).toNat = f := by omega
  have eA := gA (by decide)
  rw [eA] at w1
  have hf := hR.2.2 f lf
  have s11 : s1 1 = s 1 := by rw [e1]; rfl
  have isq1 : sq s s1 := by rw [e1]; exact sq_up (sq_refl s) _ rfl
  refine k595_6 (fun _ => ?_) (fun w => absurd (by decide) w)
  refine k595_11 (z5 := s1 1) w1.1 (fun w => ?_) (fun w => ?_) (c7 := by unfold In3; omega)
  rotate_left
  · have e150 : s 1 = 150 := by rw [← s11]; exact Classical.byContradiction w
    refine k595_21 w1.1 (wm_mono (wq_A (fun v' h2 s2 A2 v2 r2 φ => ?_)) (V_raise w1))
    obtain ⟨φ1, φ2, φ3⟩ := φ
    subst φ1
    exact k595_26 ⟨_, _, _, _, v2, FR_trans r1 r2, ⟨fun y => absurd q y, fun _ => ⟨fun _ => endz_bad hR isq1 sm_refl rfl φ2 φ3, fun y => absurd e150 y⟩⟩, rfl⟩
  rw [s11] at w
  rcases ef1 : T f with ⟨a, b⟩ | a | ⟨r, c, M⟩ | ⟨n, so, va⟩
  · rw [ef1] at kf; exact (kdn kf rfl).elim
  · rw [ef1] at kf; exact (kdn kf rfl).elim
  · rw [ef1] at kf; exact (kdn kf rfl).elim
  rw [ef1] at hf
  have n200 := hf.2.1.1
  have ht := tro_L.mp hf.2.1.2
  refine k595_27 w1.1 (wm_mono (wq_N (fun h2 s2 A2 v2 r2 χ => ?_)) (V_loadT w1 (by omega) hf))
  obtain ⟨L0, eL0⟩ : ∃ L0, pce (fun k => (so k, va k)) 0 n = L0 := ⟨_, rfl⟩
  have lL0 : L0.length = n := by rw [← eL0, pce_len]
  rw [eL0] at ht
  have ag0 : agr (gr A2 1352 1353) L0 := fun k hk => by
    obtain ⟨z1, z2⟩ := χ.2.2 k (by omega)
    have := pce_get (fun k => (so k, va k)) n 0 k (by omega)
    rw [eL0, Nat.zero_add] at this
    unfold gr
    rw [this, z1, z2]
  have v3 := RV_fld v2 (up s2 98 0) (rF_98 s2 0)
  have R3 := FR_trans r1 (FR_trans r2 (FR_fld v2 (1, 11, rF (up s2 98 0))))
  have s2j : ∀ j, j ≠ 0 → j ≠ 82 → s2 j = s j := fun j h0 h82 => by rw [χ.1, up_ne _ _ h82, e1, up_ne _ _ h0]
  have loop : ∀ (l : Nat) (L : List nod) (rs0 : List (Nat × Int)) (st : Nat → Int) (B : Nat → Nat → Int) (h' : s_H), L.length < l → RV h' st B → FR h h' → trL L → agr (gr B 1352 1353) L → st 82 = (L.length : Int) → st 98 = (rs0.length : Int) → rs0.length + L.length ≤ n → (∀ j, j ≠ 0 → j ≠ 82 → j ≠ 85 → j ≠ 98 → st j = s j) → (∀ y, y ≠ 1352 → y ≠ 1353 → y ≠ 1354 → y ≠ 1355 → y ≠ 1365 → y ≠ 1366 → B y = A y) → RWr B rs0 → (∀ rs L', smC L rs L' → smC L0 (rs0 ++ rs) L') → wr sw_P (d + 7) sw_c595 sw_h595 (39, [.index 1290, vi (f : Int), vi 1], [], h', 0, 0) (RA h (smpR s A T (f : Int))) := by
    intro l
    induction l with
    | zero => exact fun _ _ _ _ _ w => absurd w (Nat.not_lt_zero _)
    | succ l ih =>
      intro L rs0 st B h' hl v rr tL ag e82 e98 len_ oj oy RW H
      have C := ctx_of ag tL (by omega)
      refine k595_39 (fun y => absurd y (by decide)) (fun _ => ?_) (c1 := by decide)
      refine k595_43 v.1 (wm_mono (wq_A (fun v' h3 s3 A3 v3 r3 φ => ?_)) (V_isSimpler C v e82 e98 (by omega)))
      rcases φ with ⟨ev, nx, nk⟩ | ⟨ev, k, law, V, hf_, e82', e98', oj', oy', ag', rw5, rw6⟩
      · subst ev
        refine k595_47 (k595_39 (fun _ => ?_) (fun y => absurd rfl y) (c1 := by decide))
        obtain ⟨⟨z, ez⟩, o3⟩ := nx
        have v4 := RV_fld v3 (up s3 85 0) (rF_85 s3 0)
        have s82 : s3 82 = (L.length : Int) := by rw [ez, up_ne _ _ (by decide), e82]
        have eg : gr A3 1352 1353 = gr B 1352 1353 := by
          unfold gr
          rw [o3 1352 (by decide) (by decide), o3 1353 (by decide) (by decide)]
        have C3 : ctx (gr A3 1352 1353) L.length := by rw [eg]; exact C
        have N0 : NW s3 A3 (up s3 85 0) A3 [] := ⟨rfl, fun _ _ _ => rfl, rfl⟩
        refine k595_51 (z9 := (L.length : Int)) v3.1 v4.1 (wm_mono (wq_N (fun h5 s5 A5 v5 r5 n5 => ?_)) (V_pp C3 v4 N0 (a := 0) (m := L.length) (x := 0) (y := (L.length : Int)) (by omega) (by show 0 + L.length ≤ 420; omega) (by omega) (by omega))) (n10 := by
          show some (vi (up s3 85 0 82)) = _
          rw [up_ne _ _ (by decide), s82])
        have eP : ([] : List nod) ++ pce (gr A3 1352 1353) 0 L.length = L := by
          show pce (gr A3 1352 1353) 0 L.length = L
          rw [eg]
          exact pce_self L _ 0 (fun k hk => by rw [Nat.zero_add]; exact ag k hk)
        rw [eP] at n5
        -- the base
        obtain ⟨A0, eA0⟩ : ∃ A0, A0 = up (up A 1365 (B 1365)) 1366 (B 1366) := ⟨_, rfl⟩
        obtain ⟨s0, es0⟩ : ∃ s0, s0 = up s 98 (rs0.length : Int) := ⟨_, rfl⟩
        have isq : sq s0 s5 := fun j hj => by
          have n1 : ∀ c, ssc.contains c = true → j ≠ c := fun c hc q => by
            rw [q, hc] at hj
            cases hj
          rw [n5.1, up_ne _ _ (n1 85 rfl), ez, up_ne _ _ (n1 85 rfl), es0]
          by_cases q : j = 98
          · rw [q, up_at, e98]
          · rw [up_ne _ _ q]
            exact oj j (n1 0 rfl) (n1 82 rfl) (n1 85 rfl) q
        have ism : sm A0 A5 scrA := fun y hy => by
          have n1 : ∀ c, scrA.contains c = true → y ≠ c := fun c hc q => by
            rw [q, hc] at hy
            cases hy
          rw [n5.2.1 y (n1 1354 rfl) (n1 1355 rfl), o3 y (n1 1354 rfl) (n1 1355 rfl), eA0]
          by_cases q6 : y = 1366
          · rw [q6, up_at]
          · rw [up_ne _ _ q6]
            by_cases q5 : y = 1365
            · rw [q5, up_at]
            · rw [up_ne _ _ q5]
              exact oy y (n1 1352 rfl) (n1 1353 rfl) (n1 1354 rfl) (n1 1355 rfl) q5 q6
        have R0 : RI s0 A0 T := RI_st hR (fun j hj => by
          have n1 : ∀ c, sto.contains c = false → j ≠ c := fun c hc q => by
            rw [q, hc] at hj
            cases hj
          rw [eA0, up_ne _ _ (n1 1366 rfl), up_ne _ _ (n1 1365 rfl)]) (by rw [es0, up_ne _ _ (by decide)])
        have R5 : RI s5 A5 T := RI_a R0 ism isq
        refine k595_65 v5.1 (wm_mono (wq_A (fun v' h6 s6 A6 v6 r6 ψ => ?_)) (V_keepTree v5 R5 (W := L) (by rw [n5.1, up_at]) n5.2.2 (by omega) tL))
        obtain ⟨res, z1, z2, z3⟩ := ψ
        have e51 : s5 1 = s 1 := by rw [sq_1 isq, es0, up_ne _ _ (by decide)]
        have nf : ¬ (s5 1 = 150 ∨ 200 < L.length) := by omega
        rw [z2 nf] at z3
        have fin := endz_of z3 isq ism
        obtain ⟨u, eu⟩ := endz_vi fin
        subst eu
        refine k595_70 ⟨_, _, _, _, v6, FR_trans rr (FR_trans r3 (FR_trans (FR_fld v3 _) (FR_trans r5 r6))), ⟨fun y => absurd q y, fun _ => ⟨fun y => absurd y w, fun _ n' so' va' eT => ?_⟩⟩, rfl⟩
        rw [xf, ef1] at eT
        injection eT with eT
        injection eT with eT
        injection eT with eT
        injection eT with en eT
        injection eT with eso eva
        subst en eso eva
        rw [eL0]
        refine ⟨rs0, L, A0, ?_, len_, fun k hk => ?_, fun y h5' h6' => ?_, ?_⟩
        · have := H [] L ⟨rfl, gr B 1352 1353, ag, nk⟩
          rw [List.append_nil] at this
          exact this
        · rw [eA0, up_ne _ _ (show (1365 : Nat) ≠ 1366 by decide), up_at, up_at]
          exact RW k hk
        · rw [eA0, up_ne _ _ h6', up_ne _ _ h5']
        · rw [← es0]
          exact fin
      · subst ev
        have tV := chg_tr C hf_.1 hf_.2.2.1
        have lV := chg_lt C hf_.1 hf_.2.1 hf_.2.2.1
        have l1 : (rs0 ++ [(k, law)]).length = rs0.length + 1 := by rw [List.length_append]; rfl
        refine k595_47 (ih V (rs0 ++ [(k, law)]) s3 A3 h3 (by omega) v3 (FR_trans rr r3) tV ag' e82' (by rw [e98', l1]; omega) (by rw [l1]; omega) (fun j h0 h1 h2 h3 => (oj' j h1 h2 h3).trans (oj j h0 h1 h2 h3)) (fun y h1 h2 h3 h4 h5 h6 => (oy' y h1 h2 h3 h4 h5 h6).trans (oy y h1 h2 h3 h4 h5 h6)) (fun i hi2 => ?_) (fun rs L' hs => ?_))
        · rw [l1] at hi2
          rw [rw5, rw6]
          by_cases q : i = rs0.length
          · rw [if_pos q, if_pos q, q, getD_app2]
            exact ⟨rfl, rfl⟩
          · rw [if_neg q, if_neg q, getD_app1 (by omega)]
            exact RW i (by omega)
        · have := H ((k, law) :: rs) L' ⟨gr B 1352 1353, V, ag, hf_, hs⟩
          rw [List.append_assoc]
          exact this
  refine k595_32 v2.1 ?_
  refine loop (n + 1) L0 [] _ A2 _ (by omega) v3 R3 ht ag0 (by rw [up_ne _ _ (by decide), χ.1, up_at, lL0]) (by rw [up_at]; rfl) (by show 0 + L0.length ≤ n; omega) (fun j h0 h1 h2 h3 => by rw [up_ne _ _ h3]; exact s2j j h0 h1) (fun y h1 h2 _ _ _ _ => χ.2.1 y h1 h2) (fun k hk => absurd hk (Nat.not_lt_zero _)) (fun rs L' hs => hs)
theorem V_rows (hv : RV h s A) : wm sw_P (d + 1) 587 [.index 1290] h (RA h (fun v s' A' => v = vi (s 98) ∧ s' = up s 0 0 ∧ A' = A)) := by
  refine wm_in (cd := sw_c587) (nL := 1) (hd := sw_h587) rfl rfl ?_
  have v1 := RV_fld hv (up s 0 0) (rF_0 s 0)
  exact k587_0 (z9 := s 98) hv.1 v1.1 ⟨_, _, _, _, v1, FR_fld hv _, ⟨rfl, rfl, rfl⟩, rfl⟩ (n10 := by
    show some (vi (up s 0 0 98)) = _
    rw [up_ne _ _ (by decide)])
def rowA (s : Nat → Int) (A : Nat → Nat → Int) (k w : Int) : Int := if (0 ≤ k ∧ k < s 98) ∧ (0 ≤ w ∧ w ≤ 1) then (if w = 0 then A 1365 k.toNat else A 1366 k.toNat) else -1
theorem V_row (hv : RV h s A) (b : 0 ≤ s 98 ∧ s 98 ≤ 200) {k w : Int} (hk : In3 k) (hw : In3 w) : wm sw_P (d + 2) 586 [.index 1290, vi k, vi w] h (RA h (fun v s' A' => v = vi (rowA s A k w) ∧ s' = up s 0 0 ∧ A' = A)) := by
  refine wm_in (cd := sw_c586) (nL := 3) (hd := sw_h586) rfl rfl ?_
  have v1 := RV_fld hv (up s 0 0) (rF_0 s 0)
  have done : ∀ z : Int, z = rowA s A k w → wr sw_P (d + 1) sw_c586 sw_h586 (54, [.index 1290, vi k, vi w], [vi z], _, 0, 0) (RA h (fun v s' A' => v = vi (rowA s A k w) ∧ s' = up s 0 0 ∧ A' = A)) := fun z ez => k586_54 ⟨_, _, _, _, v1, FR_fld hv (1, 11, rF (up s 0 0)), ⟨by rw [ez], rfl, rfl⟩, rfl⟩
  refine k586_0 (z10 := s 98) hv.1 v1.1 (wm_mono (wq_r ?_) (t_in (by unfold In6; unfold In3 at hk; omega) (by decide) (by unfold In6; omega))) (n11 := by
    show some (vi (up s 0 0 98)) = _
    rw [up_ne _ _ (by decide)]) (c7 := hk) (c12 := by unfold In3; omega)
  by_cases q : 0 ≤ k ∧ k ≤ s 98 - 1
  rotate_left
  · rw [if_neg q]
    refine k586_18 (fun _ => k586_31 (done _ ?_)) (fun y => absurd rfl y) (c1 := by decide)
    exact (if_neg (fun y => q ⟨y.1.1, by omega⟩)).symm
  rw [if_pos q]
  refine k586_18 (fun y => absurd y (by decide)) (fun _ => k586_21 (wm_mono (wq_r ?_) (t_in (by unfold In6; unfold In3 at hw; omega) (by decide) (by decide))) (c1 := hw)) (c1 := by decide)
  by_cases q2 : 0 ≤ w ∧ w ≤ 1
  rotate_left
  · rw [if_neg q2]
    refine k586_28 (fun y => absurd rfl y) (fun _ => k586_31 (done _ ?_)) (c1 := by decide)
    exact (if_neg (fun y => q2 y.2)).symm
  rw [if_pos q2]
  have er : rowA s A k w = if w = 0 then A 1365 k.toNat else A 1366 k.toNat := if_pos ⟨⟨q.1, by omega⟩, q2⟩
  obtain ⟨j, ej⟩ : ∃ j : Nat, k = j := ⟨k.toNat, by omega⟩
  subst ej
  rw [show ((j : Int)).toNat = j by omega] at er
  refine k586_28 (fun _ => ?_) (fun y => absurd (by decide) y) (c1 := by decide)
  refine k586_35 (fun y => ?_) (fun y => ?_) (c1 := hw)
  · refine k586_48 (a8 := mk 200 (A 1366)) v1.1 (Ra_rowLaw v1) (done _ ?_) (c10 := by rw [mk_len]; omega) (c11 := by omega) (c12 := by unfold In3; omega)
    rw [gi_mkn (by omega), er, if_neg y]
  · refine k586_39 (a8 := mk 200 (A 1365)) v1.1 (Ra_rowNode v1) (done _ ?_) (c10 := by rw [mk_len]; omega) (c11 := by omega) (c12 := by unfold In3; omega)
    rw [gi_mkn (by omega), er, if_pos (Classical.byContradiction y)]
end
