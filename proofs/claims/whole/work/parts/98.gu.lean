/-! the reference's turnEmitted -/
def tuQ (s : Nat → Int) (A : Nat → Nat → Int) (t : List nod) (s' : Nat → Int) (A' : Nat → Nat → Int) : Prop := s' = up s 85 (t.length : Int) ∧ pce (gr A' 1354 1355) 0 t.length = t ∧ ∀ x, x ≠ 1354 → x ≠ 1355 → x ≠ 1358 → x ≠ 1359 → x ≠ 1360 → A' x = A x
section
variable {d : Nat} {h : s_H} {s : Nat → Int} {A : Nat → Nat → Int}
/-- the second loop: the whole first -/
theorem W_unroll {e : Nat} (e200 : e ≤ 200) {t : List nod} (tlen : t.length = e) {F S : Nat → Int} (C : chd F S e) : ∀ (l : Nat) (P : List Nat) (W : List nod) (B : Nat → Nat → Int) (h' : s_H) (st : Nat → Int) (x2 : Int) (t3 : Term), t.length - W.length < l → RV h' st B → FR h h' → NW s B st B W → (∀ x, x ≠ 1354 → x ≠ 1355 → x ≠ 1358 → x ≠ 1359 → x ≠ 1360 → B x = A x) → B 1358 = F → B 1359 = S → pil (B 1360) P → (∀ p, p ∈ P → p < e) → W ++ (P.map (tre (gr A 1356 1357) F S)).flatten = t → wr sw_P (d + 1) sw_c608 sw_h608 (92, [.index 1290, vi (P.length : Int), vi x2, t3], [], h', 0, 0) (RN h (tuQ s A t)) := by
  intro l
  induction l with
  | zero => exact fun _ _ _ _ _ _ _ w => absurd w (Nat.not_lt_zero _)
  | succ l ih =>
    intro P W B h' st x2 t3 hl v r N o eF eS hpl hP eW
    have pl := pil_le (g := gr A 1356 1357) (F := F) (S := S) P
    have tl : W.length + (P.map (tre (gr A 1356 1357) F S)).flatten.length = t.length := by rw [← List.length_append, eW]
    cases P with
    | nil =>
      have eW2 : W = t := by
        have : W ++ [] = t := eW
        rw [List.append_nil] at this
        exact this
      subst eW2
      exact k608_92 (fun _ => k608_175 ⟨_, _, _, v, r, ⟨N.1, N.2.2, o⟩, rfl⟩) (fun w => absurd (by decide) w) (c1 := by decide)
    | cons p P0 =>
      have p_e : p < e := hP p List.mem_cons_self
      have pl0 : (p :: P0).length = P0.length + 1 := rfl
      have g0 : gi (mk 1000 (B 1360)) (((p :: P0).length : Int) + (-1)) = (p : Int) := by
        rw [show ((p :: P0).length : Int) + (-1) = (P0.length : Int) by omega, gi_mkn (by omega)]
        exact hpl.1
      have g1 : ∀ u : Nat → Int, gi (mk 200 u) (p : Int) = u p := fun u => gi_mkn (by omega)
      refine k608_92 (fun w => absurd w (by omega)) (fun _ => ?_) (c1 := by unfold In3; omega)
      refine k608_96 (a8 := mk 1000 (B 1360)) (a16 := mk 200 (B 1356)) (a24 := mk 200 (B 1357)) v.1 (Ra_pile v) (Ra_emitSort v) (Ra_emitValue v) (wm_mono (wq_N (fun h2 s2 A2 v2 r2 N2 => ?_)) (V_plant v N (by omega))) (c10 := by rw [mk_len]; omega) (c11 := by omega) (c12 := by unfold In3; omega) (c18 := by rw [mk_len, g0]; omega) (c19 := by rw [g0]; omega) (c20 := by rw [g0]; unfold In3; omega) (c26 := by rw [mk_len, g0]; omega)
      rw [g0, g1, g1, show ((p :: P0).length : Int) + (-1) = (P0.length : Int) by omega] at *
      have eg : ((B 1356 p, B 1357 p) : nod) = gr A 1356 1357 p := by
        unfold gr
        rw [o 1356 (by decide) (by decide) (by decide) (by decide) (by decide), o 1357 (by decide) (by decide) (by decide) (by decide) (by decide)]
      rw [eg] at N2
      obtain ⟨n1, n2, n3⟩ := N2
      have wl : (W ++ [gr A 1356 1357 p]).length = W.length + 1 := by rw [List.length_append]; rfl
      obtain ⟨c1, c2⟩ := C p p_e
      have et := tre_at (g := gr A 1356 1357) C p_e
      -- what is still to come
      obtain ⟨X1, eX1⟩ : ∃ X1, (if F p = -1 then [] else tre (gr A 1356 1357) F S (F p).toNat) = X1 := ⟨_, rfl⟩
      obtain ⟨X2, eX2⟩ : ∃ X2, (if S p = -1 then [] else tre (gr A 1356 1357) F S (S p).toNat) = X2 := ⟨_, rfl⟩
      rw [eX1, eX2] at et
      have eW3 : (W ++ [gr A 1356 1357 p]) ++ (X1 ++ (X2 ++ (P0.map (tre (gr A 1356 1357) F S)).flatten)) = t := by
        rw [← eW]
        show _ = W ++ (tre (gr A 1356 1357) F S p ++ (P0.map (tre (gr A 1356 1357) F S)).flatten)
        rw [et]
        simp only [List.append_assoc, List.cons_append, List.nil_append]
      have tl3 : W.length + 1 + (X1.length + (X2.length + (P0.map (tre (gr A 1356 1357) F S)).flatten.length)) = t.length := by
        have := congrArg List.length eW3
        simp only [List.length_append, List.length_cons, List.length_nil] at this
        omega
      have pl1 := pil_le (g := gr A 1356 1357) (F := F) (S := S) P0
      have o2 : ∀ x, x ≠ 1354 → x ≠ 1355 → x ≠ 1358 → x ≠ 1359 → x ≠ 1360 → A2 x = A x := fun x h1 h2 h3 h4 h5 => (n2 x h1 h2).trans (o x h1 h2 h3 h4 h5)
      have eF2 : A2 1358 = F := (n2 1358 (by decide) (by decide)).trans eF
      have eS2 : A2 1359 = S := (n2 1359 (by decide) (by decide)).trans eS
      have hp2 : pil (A2 1360) P0 := by rw [n2 1360 (by decide) (by decide)]; exact hpl.2
      have hP0 : ∀ q, q ∈ P0 → q < e := fun q hq => hP q (List.mem_cons_of_mem _ hq)
      have inF : ∀ {z : Int}, (z = -1 ∨ (0 ≤ z ∧ z < (p : Int))) → In3 z := fun hz => by unfold In3; omega
      -- the last lap's rest
      have at147 : ∀ (P1 : List Nat) (B1 : Nat → Nat → Int) (h1 : s_H), RV h1 s2 B1 → FR h h1 → (∀ x, x ≠ 1360 → B1 x = A2 x) → pil (B1 1360) P1 → (∀ q, q ∈ P1 → q < e) → (P1.map (tre (gr A 1356 1357) F S)).flatten = X2 ++ (P0.map (tre (gr A 1356 1357) F S)).flatten → wr sw_P (d + 1) sw_c608 sw_h608 (147, [.index 1290, vi (P1.length : Int), vi (p : Int), t3], [], h1, 0, 0) (RN h (tuQ s A t)) := fun P1 B1 h1 w1 q1 b1 hp1 hP1 eP1 => by
        have plx := pil_le (g := gr A 1356 1357) (F := F) (S := S) P1
        rw [eP1, List.length_append] at plx
        have go : ∀ (P3 : List Nat) (B3 : Nat → Nat → Int) (h3 : s_H), RV h3 s2 B3 → FR h h3 → (∀ x, x ≠ 1360 → B3 x = A2 x) → pil (B3 1360) P3 → (∀ q, q ∈ P3 → q < e) → (P3.map (tre (gr A 1356 1357) F S)).flatten = X1 ++ (X2 ++ (P0.map (tre (gr A 1356 1357) F S)).flatten) → wr sw_P (d + 1) sw_c608 sw_h608 (172, [.index 1290, vi (P3.length : Int), vi (p : Int), t3], [], h3, 0, 0) (RN h (tuQ s A t)) := fun P3 B3 h3 w3 q3 b3 hp3 hP3 eP3 => by
          refine k608_172 (ih P3 (W ++ [gr A 1356 1357 p]) B3 h3 s2 _ _ (by omega) w3 q3 ⟨n1, fun _ _ _ => rfl, ?_⟩ (fun x h1 h2 h3 h4 h5 => (b3 x h5).trans (o2 x h1 h2 h3 h4 h5)) ((b3 1358 (by decide)).trans eF2) ((b3 1359 (by decide)).trans eS2) hp3 hP3 (by rw [eP3]; exact eW3))
          have : gr B3 1354 1355 = gr A2 1354 1355 := by
            unfold gr
            rw [b3 1354 (by decide), b3 1355 (by decide)]
          rw [this]
          exact n3
        have r1 : gi (mk 200 (B1 1358)) (p : Int) = F p := by rw [g1, b1 1358 (by decide), eF2]
        refine k608_147 (a8 := mk 200 (B1 1358)) w1.1 (Ra_firstPart w1) (fun w => ?_) (fun w => ?_) (c10 := by rw [mk_len]; omega) (c11 := by omega) (c12 := by unfold In3; omega) (c13 := by rw [r1]; exact inF c1)
        · rw [r1] at w
          rw [if_pos w] at eX1
          refine go P1 B1 h1 w1 q1 b1 hp1 hP1 ?_
          rw [← eX1]
          exact eP1
        · rw [r1] at w
          rw [if_neg w] at eX1
          have cF := c1.resolve_left w
          have w3 := Rp_pile w1 (fun j => if j = P1.length then F p else B1 1360 j)
          refine k608_157 (a10 := mk 200 (B1 1358)) (a16 := mk 1000 (B1 1360)) w1.1 (Ra_firstPart w1) (Ra_pile w1) ?_ (c12 := by rw [mk_len]; omega) (c13 := by omega) (c14 := by unfold In3; omega) (c18 := by rw [mk_len]; omega) (c19 := by omega) (c20 := by unfold In3; omega)
          rw [r1, mk_set, show ((P1.length : Int)).toNat = P1.length by omega]
          have := go ((F p).toNat :: P1) _ _ w3 (FR_trans q1 (FR_put w1 (c := 1360) (by decide) (by decide) _)) (fun x hx => by rw [up_ne _ _ hx]; exact b1 x hx) (by
            rw [up_at]
            refine ⟨?_, pil_eq (fun j hj => if_neg (by omega)) hp1⟩
            show (if P1.length = P1.length then F p else B1 1360 P1.length) = _
            rw [if_pos rfl]
            omega) (fun q hq => by
            rcases List.mem_cons.mp hq with z | z
            · omega
            · exact hP1 q z) (by
            show tre (gr A 1356 1357) F S (F p).toNat ++ (P1.map (tre (gr A 1356 1357) F S)).flatten = _
            rw [eX1, eP1])
          exact this
      have r1 : gi (mk 200 (A2 1359)) (p : Int) = S p := by rw [g1, eS2]
      refine k608_122 (a8 := mk 200 (A2 1359)) v2.1 (Ra_secondPart v2) (fun w => ?_) (fun w => ?_) (c10 := by rw [mk_len]; omega) (c11 := by omega) (c12 := by unfold In3; omega) (c13 := by rw [r1]; exact inF c2)
      · rw [r1] at w
        rw [if_pos w] at eX2
        refine at147 P0 A2 h2 v2 (FR_trans r r2) (fun _ _ => rfl) hp2 hP0 ?_
        rw [← eX2]
        rfl
      · rw [r1] at w
        rw [if_neg w] at eX2
        have cS := c2.resolve_left w
        have w3 := Rp_pile v2 (fun j => if j = P0.length then S p else A2 1360 j)
        refine k608_132 (a10 := mk 200 (A2 1359)) (a16 := mk 1000 (A2 1360)) v2.1 (Ra_secondPart v2) (Ra_pile v2) ?_ (c12 := by rw [mk_len]; omega) (c13 := by omega) (c14 := by unfold In3; omega) (c18 := by rw [mk_len]; omega) (c19 := by omega) (c20 := by unfold In3; omega)
        rw [r1, mk_set, show ((P0.length : Int)).toNat = P0.length by omega]
        have := at147 ((S p).toNat :: P0) _ _ w3 (FR_trans r (FR_trans r2 (FR_put v2 (c := 1360) (by decide) (by decide) _))) (fun x hx => by rw [up_ne _ _ hx]) (by
          rw [up_at]
          refine ⟨?_, pil_eq (fun j hj => if_neg (by omega)) hp2⟩
          show (if P0.length = P0.length then S p else A2 1360 P0.length) = _
          rw [if_pos rfl]
          omega) (fun q hq => by
          rcases List.mem_cons.mp hq with z | z
          · omega
          · exact hP0 q z) (by
          show tre (gr A 1356 1357) F S (S p).toNat ++ (P0.map (tre (gr A 1356 1357) F S)).flatten = _
          rw [eX2])
        exact this
theorem V_turnEmitted (hv : RV h s A) {e : Nat} (he : s 88 = (e : Int)) (e200 : e ≤ 200) {t : List nod} (hs : pzf (pce (gr A 1356 1357) 0 e) [] = some [t]) (hg : ∀ x, x ∈ pce (gr A 1356 1357) 0 e → gdn x) : wm sw_P (d + 2) 608 [.index 1290] h (RN h (tuQ s A t)) := by
  refine wm_in (cd := sw_c608) (nL := 4) (hd := sw_h608) rfl rfl ?_
  have tlen : t.length = e := by
    have := pzf_len hs
    rw [pce_len] at this
    have z : ([t] : List (List nod)).flatten = t := by
      show t ++ [] = t
      exact List.append_nil t
    rw [z] at this
    have z2 : ([] : List (List nod)).flatten.length = 0 := rfl
    omega
  have i56 : ∀ k, k < e → In3 (A 1356 k) := fun k hk => by
    have := (hg _ (pce_in (g := gr A 1356 1357) (a := 0) hk)).1
    rw [Nat.zero_add] at this
    have b : 0 ≤ A 1356 k ∧ A 1356 k ≤ 7 := this
    unfold In3
    omega
  have loop : ∀ (l k : Nat) (P : List Nat) (st : List (List nod)) (B : Nat → Nat → Int) (h' : s_H) (t3 : Term), k + l = e → RV h' s B → FR h h' → (∀ x, x ≠ 1358 → x ≠ 1359 → x ≠ 1360 → B x = A x) → st = P.map (tre (gr A 1356 1357) (B 1358) (B 1359)) → chd (B 1358) (B 1359) k → (∀ p, p ∈ P → p < k) → pil (B 1360) P → P.length ≤ k → pzf (pce (gr A 1356 1357) k l) st = some [t] → wr sw_P (d + 1) sw_c608 sw_h608 (4, [.index 1290, vi (P.length : Int), vi (k : Int), t3], [], h', 0, 0) (RN h (tuQ s A t)) := by
    intro l
    induction l with
    | zero =>
      intro k P st B h' t3 hk v r o est C hP hpl lP hst
      have ek : k = e := by omega
      subst ek
      refine k608_4 (z5 := (k : Int)) v.1 (fun _ => k608_87 v.1 ?_) (fun w => absurd (Int.le_refl _) w) (n6 := by
        show some (vi (s 88)) = _
        rw [he]) (c7 := by unfold In3; omega) (c8 := by unfold In3; omega)
      have v1 := RV_fld v (up s 85 0) (rF_85 s 0)
      have est2 : P.map (tre (gr A 1356 1357) (B 1358) (B 1359)) = [t] := by
        rw [← est]
        exact Option.some.inj hst
      exact W_unroll e200 tlen C _ P [] B _ (up s 85 0) _ _ (Nat.lt_succ_self _) v1 (FR_trans r (FR_fld v _)) ⟨rfl, fun _ _ _ => rfl, rfl⟩ (fun x _ _ h3 h4 h5 => o x h3 h4 h5) rfl rfl hpl hP (by
        rw [est2]
        show [] ++ (t ++ []) = t
        rw [List.append_nil]
        rfl)
    | succ l ih =>
      intro k P st B h' t3 hk v r o est C hP hpl lP hst
      have g1 : ∀ u : Nat → Int, gi (mk 200 u) (k : Int) = u k := fun u => gi_mkn (by omega)
      have e6 : gi (mk 200 (B 1356)) (k : Int) = A 1356 k := by rw [g1, o 1356 (by decide) (by decide) (by decide)]
      replace hst : (match pzp (gr A 1356 1357 k) st with | none => none | some st' => pzf (pce (gr A 1356 1357) (k + 1) l) st') = some [t] := hst
      cases es : pzp (gr A 1356 1357 k) st with
      | none => rw [es] at hst; cases hst
      | some st' =>
        rw [es] at hst
        replace hst : pzf (pce (gr A 1356 1357) (k + 1) l) st' = some [t] := hst
        obtain ⟨f, s9, P0, C2, est2, hP2, kinds⟩ := tr_step est C hP es
        have en : ∀ z, npa (gr A 1356 1357 k).1 = z → npa (A 1356 k) = z := fun z hz => hz
        have P0l : P0.length ≤ P.length := by
          rcases kinds with ⟨_, _, _, q⟩ | ⟨_, _, p, q, _⟩ | ⟨_, p1, p2, q, _⟩
          · rw [q]; exact Nat.le_refl _
          · rw [q, List.length_cons]; omega
          · rw [q, List.length_cons, List.length_cons]; omega
        have pP0 : pil (B 1360) P0 := by
          rcases kinds with ⟨_, _, _, q⟩ | ⟨_, _, p, q, _⟩ | ⟨_, p1, p2, q, _⟩
          · rw [q] at hpl; exact hpl
          · rw [q] at hpl; exact hpl.2
          · rw [q] at hpl; exact hpl.2.2
        obtain ⟨n, en2, n2, nP⟩ : ∃ n : Nat, npa (A 1356 k) = (n : Int) ∧ n ≤ 2 ∧ P.length = P0.length + n := by
          rcases kinds with ⟨x, _, _, q⟩ | ⟨x, _, p, q, _⟩ | ⟨x, p1, p2, q, _⟩
          · exact ⟨0, x, by decide, by rw [q]; rfl⟩
          · exact ⟨1, x, by decide, by rw [q]; rfl⟩
          · exact ⟨2, x, by decide, by rw [q]; rfl⟩
        have s2 : ∀ (g : Nat → Int) (z : Int), (mk 200 g).set (Int.toNat (k : Int)) z = mk 200 (up g k z) := fun g z => by rw [mk_set]; rfl
        have w1 := Rp_firstPart v (up (B 1358) k f)
        have w2 := Rp_secondPart w1 (up (B 1359) k s9)
        have w3 := Rp_pile w2 (fun j => if j = P0.length then (k : Int) else B 1360 j)
        have go : wr sw_P (d + 1) sw_c608 sw_h608 (66, [.index 1290, vi (P.length : Int), vi (k : Int), vi (n : Int)], [vi s9, vi (k : Int), .index 1359], hp h' 1358 (ai 200 (up (B 1358) k f)), 0, 0) (RN h (tuQ s A t)) := by
          have w2' := w2
          refine k608_66 (a2 := mk 200 (B 1359)) (a15 := mk 1000 (B 1360)) ((hp_ne (Ra_firstPart v) (by decide)).trans (Ra_secondPart v)) (by rw [s2]; exact w2.1) ((hp_ne (Ra_secondPart w1) (by decide)).trans ((hp_ne (Ra_firstPart v) (by decide)).trans (Ra_pile v))) ?_ (c4 := by rw [mk_len]; omega) (c5 := by omega) (c6 := by unfold In3; omega) (c17 := by rw [mk_len]; omega) (c18 := by omega) (c19 := by unfold In3; omega)
          rw [s2, mk_set, show ((P.length : Int) - (n : Int)).toNat = P0.length by omega, show (P.length : Int) - (n : Int) + 1 = ((k :: P0).length : Int) by
            show _ = ((P0.length + 1 : Nat) : Int)
            omega]
          have := ih (k + 1) (k :: P0) st' _ _ (vi (n : Int)) (by omega) w3 (FR_trans r (FR_trans (FR_put v (c := 1358) (by decide) (by decide) _) (FR_trans (FR_put w1 (c := 1359) (by decide) (by decide) _) (FR_put w2 (c := 1360) (by decide) (by decide) _)))) (fun x h1 h2 h3 => by rw [up_ne _ _ h3, up_ne _ _ h2, up_ne _ _ h1]; exact o x h1 h2 h3) (by
            rw [up_ne _ _ (show (1358 : Nat) ≠ 1360 by decide), up_ne _ _ (show (1358 : Nat) ≠ 1359 by decide), up_at, up_ne _ _ (show (1359 : Nat) ≠ 1360 by decide), up_at]
            exact est2) (by
            rw [up_ne _ _ (show (1358 : Nat) ≠ 1360 by decide), up_ne _ _ (show (1358 : Nat) ≠ 1359 by decide), up_at, up_ne _ _ (show (1359 : Nat) ≠ 1360 by decide), up_at]
            exact C2) hP2 (by
            rw [up_at]
            exact ⟨if_pos rfl, pil_eq (fun j hj => if_neg (by omega)) pP0⟩) (by show P0.length + 1 ≤ k + 1; omega) hst
          exact this
        have at43 : wr sw_P (d + 1) sw_c608 sw_h608 (43, [.index 1290, vi (P.length : Int), vi (k : Int), vi (n : Int)], [vi f, vi (k : Int), .index 1358], h', 0, 0) (RN h (tuQ s A t)) := by
          refine k608_43 (a2 := mk 200 (B 1358)) (Ra_firstPart v) (by rw [s2]; exact w1.1) (fun w => ?_) (fun w => ?_) (c4 := by rw [mk_len]; omega) (c5 := by omega) (c6 := by unfold In3; omega) (c14 := by unfold In3; omega)
          · rw [s2]
            have e9 : s9 = -1 := by
              rcases kinds with ⟨_, _, q, _⟩ | ⟨_, q, _⟩ | ⟨x, p1, p2, q, _⟩
              · exact q
              · exact q
              · have := en _ x
                omega
            refine k608_65 ?_
            rw [← e9]
            exact go
          · rw [s2]
            obtain ⟨p1, p2, q, _, q2⟩ : ∃ p1 p2 : Nat, P = p2 :: p1 :: P0 ∧ f = (p1 : Int) ∧ s9 = (p2 : Int) := by
              rcases kinds with ⟨x, _⟩ | ⟨x, _⟩ | ⟨x, y⟩
              · have := en _ x
                omega
              · have := en _ x
                omega
              · exact y
            have rd : gi (mk 1000 (B 1360)) ((P.length : Int) - 1) = s9 := by
              rw [q2, show (P.length : Int) - 1 = ((p1 :: P0).length : Int) by
                rw [q]
                show (((p1 :: P0).length + 1 : Nat) : Int) - 1 = _
                omega, gi_mkn (by show P0.length + 1 < 1000; omega)]
              rw [q] at hpl
              exact hpl.1
            refine k608_54 (a8 := mk 1000 (B 1360)) w1.1 ((hp_ne (Ra_firstPart v) (by decide)).trans (Ra_pile v)) ?_ (c10 := by rw [mk_len]; omega) (c11 := by omega) (c12 := by unfold In3; omega)
            rw [rd]
            exact go
        refine k608_4 (z5 := (e : Int)) v.1 (fun w => absurd w (by omega)) (fun _ => ?_) (n6 := by
          show some (vi (s 88)) = _
          rw [he]) (c7 := by unfold In3; omega) (c8 := by unfold In3; omega)
        refine k608_12 (a8 := mk 200 (B 1356)) v.1 (Ra_emitSort v) (wm_mono (wq_r ?_) (V_partsOf (by rw [e6]; exact i56 k (by omega)))) (c10 := by rw [mk_len]; omega) (c11 := by omega) (c12 := by unfold In3; omega)
        rw [e6, en2]
        refine k608_21 v.1 (fun w => ?_) (fun w => ?_) (c7 := by unfold In3; omega)
        · have ef : f = -1 := by
            rcases kinds with ⟨_, q, _⟩ | ⟨x, _⟩ | ⟨x, _⟩
            · exact q
            · have := en _ x
              omega
            · have := en _ x
              omega
          refine k608_42 ?_
          rw [← ef]
          exact at43
        · have rd : gi (mk 1000 (B 1360)) ((P.length : Int) - (n : Int)) = f := by
            rw [show (P.length : Int) - (n : Int) = (P0.length : Int) by omega, gi_mkn (by omega)]
            rcases kinds with ⟨x, _⟩ | ⟨_, _, p, q, q2⟩ | ⟨_, p1, p2, q, q2, _⟩
            · have := en _ x
              omega
            · rw [q] at hpl
              rw [q2]
              exact hpl.1
            · rw [q] at hpl
              rw [q2]
              exact hpl.2.1
          refine k608_31 (a8 := mk 1000 (B 1360)) v.1 (Ra_pile v) ?_ (c10 := by rw [mk_len]; omega) (c11 := by omega) (c12 := by unfold In3; omega)
          rw [rd]
          exact at43
  exact k608_0 (loop e 0 [] [] A h _ (Nat.zero_add e) hv (FR_refl h) (fun _ _ _ _ => rfl) rfl (fun j hj => absurd hj (Nat.not_lt_zero _)) (fun p hpl => absurd hpl List.not_mem_nil) trivial (Nat.le_refl _) hs)
end
