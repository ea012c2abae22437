/-! the reference's printTree -/
/-- an item of the pile: the item, its nodes, its letters -/
abbrev ite_ : Type := Int × Nat × List Int
def ent (g : Nat → nod) (N : Nat) (e : ite_) : Prop := (e.1 < 0 ∧ -200 ≤ e.1 ∧ e.2.1 = 0 ∧ e.2.2 = [-e.1]) ∨ ∃ (k m : Nat) (b : Int), e.1 = 2 * (k : Int) + b ∧ (b = 0 ∨ b = 1) ∧ wlk (pce g k m) 1 0 ∧ k + m ≤ N ∧ e.2.1 = m ∧ e.2.2 = brk (b = 1) (shT g m k) ∧ (b = 1 → 1 < (g k).1)
def its (P : List ite_) : List Int := P.map (fun e => e.1)
def szs : List ite_ → Nat
  | [] => 0
  | e :: P => e.2.1 + szs P
def txs : List ite_ → List Int
  | [] => []
  | e :: P => e.2.2 ++ txs P
theorem txs_app (Q : List ite_) : ∀ P : List ite_, txs (P ++ Q) = txs P ++ txs Q
  | [] => rfl
  | e :: P => by
    show e.2.2 ++ txs (P ++ Q) = e.2.2 ++ txs P ++ txs Q
    rw [txs_app Q P, List.append_assoc]
theorem szs_app (Q : List ite_) : ∀ P : List ite_, szs (P ++ Q) = szs P + szs Q
  | [] => (Nat.zero_add _).symm
  | e :: P => by
    show e.2.1 + szs (P ++ Q) = e.2.1 + szs P + szs Q
    rw [szs_app Q P, Nat.add_assoc]
theorem ent_len {g : Nat → nod} {N : Nat} (G : gds g 0 N) {e : ite_} (h : ent g N e) : 1 ≤ e.2.2.length := by
  rcases h with ⟨_, _, _, q⟩ | ⟨k, m, b, _, _, hm, km, _, q, hb⟩
  · rw [q]
    exact Nat.le_refl _
  · obtain ⟨x1, x2, x3⟩ := shT_len m k m hm (fun j a c => G j (by omega) (by omega)) (Nat.le_refl _)
    rw [q]
    exact (brk_len (m := 5 * m) (fun y => x3 (hb y)) x1 x2).2
theorem pil_tx {g : Nat → nod} {N : Nat} (G : gds g 0 N) : ∀ P : List ite_, (∀ e, e ∈ P → ent g N e) → P.length ≤ (txs P).length
  | [], _ => Nat.le_refl _
  | e :: P, h => by
    have a := ent_len G (h e List.mem_cons_self)
    have b := pil_tx G P (fun x hx => h x (List.mem_cons_of_mem _ hx))
    show P.length + 1 ≤ (e.2.2 ++ txs P).length
    rw [List.length_append]
    omega
theorem ent_i {g : Nat → nod} {N : Nat} (n200 : N ≤ 200) {e : ite_} (h : ent g N e) : In3 e.1 := by
  unfold In3
  rcases h with ⟨a, b, _⟩ | ⟨k, m, b, a, c, hm, km, _⟩
  · omega
  · omega
def exE (e : Nat) : List ite_ := (exL e).map (fun c => (-c, 0, [c]))
theorem exE_its (e : Nat) (P : List ite_) : its (exE e ++ P) = (exL e).map (fun c => -c) ++ its P := by
  unfold its exE
  rw [List.map_append, List.map_map]
  rfl
theorem exE_txs (e : Nat) : txs (exE e) = exL e ∧ szs (exE e) = 0 := by
  have : ∀ l : List Int, txs (l.map (fun c => (-c, 0, [c]))) = l ∧ szs (l.map (fun c => (-c, 0, [c]))) = 0 := fun l => by
    induction l with
    | nil => exact ⟨rfl, rfl⟩
    | cons c l ih =>
      obtain ⟨i1, i2⟩ := ih
      exact ⟨congrArg (fun z => c :: z) i1, (Nat.zero_add _).trans i2⟩
  exact this _
theorem exE_ent {g : Nat → nod} {N e : Nat} (e99 : e ≤ 99) (x : ite_) (hx : x ∈ exE e) : ent g N x := by
  unfold exE at hx
  obtain ⟨c, hc, ex⟩ := List.mem_map.mp hx
  left
  rw [← ex]
  have cb : 0 < c ∧ c ≤ 200 := by
    unfold exL at hc
    split at hc
    · rcases List.mem_cons.mp hc with q | q
      · omega
      · rw [List.mem_singleton.mp q]
        omega
    · rcases List.mem_cons.mp hc with q | q
      · omega
      · rcases List.mem_cons.mp q with q | q
        · omega
        · rw [List.mem_singleton.mp q]
          omega
  refine ⟨?_, ?_, rfl, ?_⟩
  · show -c < 0
    omega
  · show -200 ≤ -c
    omega
  · show [c] = [- -c]
    rw [Int.neg_neg]
abbrev ptQ (h : s_H) (s : Nat → Int) (A : Nat → Nat → Int) (L : List Int) : s_O → Prop := RN h (fun s' A' => PT s A s' A' L)
theorem shT_0 {g : Nat → nod} {f n : Nat} (w : (g n).1 = 0) : shT g (f + 1) n = dgl (g n).2.toNat := if_pos w
theorem shT_1 {g : Nat → nod} {f n : Nat} (w : (g n).1 = 1) : shT g (f + 1) n = [120] := by
  show (if (g n).1 = 0 then dgl (g n).2.toNat else if (g n).1 = 1 then [120] else if (g n).1 = 6 then 45 :: brk (isb 6 0 (g (n + 1)).1) (shT g f (n + 1)) else if (g n).1 = 7 then brk (isb 7 0 (g (n + 1)).1) (shT g f (n + 1)) ++ exL (g n).2.toNat else brk (isb (g n).1 0 (g (n + 1)).1) (shT g f (n + 1)) ++ (sgn (g n).1 :: brk (isb (g n).1 1 (g (n + 1 + siz g (n + 1))).1) (shT g f (n + 1 + siz g (n + 1))))) = _
  rw [if_neg (by omega), if_pos w]
theorem shT_6 {g : Nat → nod} {f n : Nat} (w : (g n).1 = 6) : shT g (f + 1) n = 45 :: brk (isb 6 0 (g (n + 1)).1) (shT g f (n + 1)) := by
  show (if (g n).1 = 0 then dgl (g n).2.toNat else if (g n).1 = 1 then [120] else if (g n).1 = 6 then 45 :: brk (isb 6 0 (g (n + 1)).1) (shT g f (n + 1)) else if (g n).1 = 7 then brk (isb 7 0 (g (n + 1)).1) (shT g f (n + 1)) ++ exL (g n).2.toNat else brk (isb (g n).1 0 (g (n + 1)).1) (shT g f (n + 1)) ++ (sgn (g n).1 :: brk (isb (g n).1 1 (g (n + 1 + siz g (n + 1))).1) (shT g f (n + 1 + siz g (n + 1))))) = _
  rw [if_neg (by omega), if_neg (by omega), if_pos w]
theorem shT_7 {g : Nat → nod} {f n : Nat} (w : (g n).1 = 7) : shT g (f + 1) n = brk (isb 7 0 (g (n + 1)).1) (shT g f (n + 1)) ++ exL (g n).2.toNat := by
  show (if (g n).1 = 0 then dgl (g n).2.toNat else if (g n).1 = 1 then [120] else if (g n).1 = 6 then 45 :: brk (isb 6 0 (g (n + 1)).1) (shT g f (n + 1)) else if (g n).1 = 7 then brk (isb 7 0 (g (n + 1)).1) (shT g f (n + 1)) ++ exL (g n).2.toNat else brk (isb (g n).1 0 (g (n + 1)).1) (shT g f (n + 1)) ++ (sgn (g n).1 :: brk (isb (g n).1 1 (g (n + 1 + siz g (n + 1))).1) (shT g f (n + 1 + siz g (n + 1))))) = _
  rw [if_neg (by omega), if_neg (by omega), if_neg (by omega), if_pos w]
theorem shT_b {g : Nat → nod} {f n m : Nat} (w : (g n).1 ≠ 0 ∧ (g n).1 ≠ 1 ∧ (g n).1 ≠ 6 ∧ (g n).1 ≠ 7) (hm : wlk (pce g (n + 1) m) 1 0) : shT g (f + 1) n = brk (isb (g n).1 0 (g (n + 1)).1) (shT g f (n + 1)) ++ (sgn (g n).1 :: brk (isb (g n).1 1 (g (n + 1 + m)).1) (shT g f (n + 1 + m))) := by
  show (if (g n).1 = 0 then dgl (g n).2.toNat else if (g n).1 = 1 then [120] else if (g n).1 = 6 then 45 :: brk (isb 6 0 (g (n + 1)).1) (shT g f (n + 1)) else if (g n).1 = 7 then brk (isb 7 0 (g (n + 1)).1) (shT g f (n + 1)) ++ exL (g n).2.toNat else brk (isb (g n).1 0 (g (n + 1)).1) (shT g f (n + 1)) ++ (sgn (g n).1 :: brk (isb (g n).1 1 (g (n + 1 + siz g (n + 1))).1) (shT g f (n + 1 + siz g (n + 1))))) = _
  rw [if_neg w.1, if_neg w.2.1, if_neg w.2.2.1, if_neg w.2.2.2, siz_eq hm]
section
variable {d : Nat} {h : s_H} {s : Nat → Int} {A : Nat → Nat → Int}
theorem W_print {N : Nat} (G : gds (gr A 1352 1353) 0 N) (n200 : N ≤ 200) {L : List Int} (lL : L.length ≤ 1000) : ∀ (l : Nat) (P : List ite_) (l1 : List Int) (h1 : s_H) (st : Nat → Int) (B : Nat → Nat → Int) (t2 t3 t4 t5 : Term), szs P + (L.length - l1.length) < l → RV h1 st B → FR h h1 → PT s A st B l1 → pili (B 1360) (its P) → (∀ e, e ∈ P → ent (gr A 1352 1353) N e) → l1 ++ txs P = L → wr sw_P (d + 3) sw_c562 sw_h562 (14, [.index 1290, vi (P.length : Int), t2, t3, t4, t5], [], h1, 0, 0) (ptQ h s A L) := by
  intro l
  induction l with
  | zero => exact fun _ _ _ _ _ _ _ _ _ w => absurd w (Nat.not_lt_zero _)
  | succ l ih =>
    intro P l1 h1 st B t2 t3 t4 t5 hl v r T hp hP eL
    have pt := pil_tx G P hP
    have tl : l1.length + (txs P).length = L.length := by rw [← List.length_append, eL]
    cases P with
    | nil =>
      have e2 : l1 = L := by
        rw [← eL]
        exact (List.append_nil l1).symm
      subst e2
      exact k562_14 (fun _ => k562_250 ⟨_, _, _, v, r, T, rfl⟩) (fun w => absurd (by decide) w) (c1 := by decide)
    | cons e P0 =>
      have hP0 : ∀ x, x ∈ P0 → ent (gr A 1352 1353) N x := fun x hx => hP x (List.mem_cons_of_mem _ hx)
      have pl0 : (e :: P0).length = P0.length + 1 := rfl
      have he := hP e List.mem_cons_self
      have iE := ent_i n200 he
      have g0 : gi (mk 1000 (B 1360)) (((e :: P0).length : Int) + (-1)) = e.1 := by
        rw [show ((e :: P0).length : Int) + (-1) = (P0.length : Int) by omega, gi_mkn (by omega)]
        have z : (its P0).length = P0.length := List.length_map _
        rw [← z]
        exact hp.1
      have ip : ∀ (Q : List ite_), (its Q).length = Q.length := fun Q => List.length_map _
      refine k562_14 (fun w => absurd w (by omega)) (fun _ => ?_) (c1 := by unfold In3; omega)
      have hsz : szs (e :: P0) = e.2.1 + szs P0 := rfl
      have htx : txs (e :: P0) = e.2.2 ++ txs P0 := rfl
      rw [htx] at eL
      rw [htx, List.length_append] at tl
      have pt0 := pil_tx G P0 hP0
      have e22 := ent_len G he
      refine k562_18 (a8 := mk 1000 (B 1360)) v.1 (Ra_pile v) (fun w => ?_) (fun w => ?_) (c10 := by rw [mk_len]; omega) (c11 := by omega) (c12 := by unfold In3; omega) (c13 := by rw [g0]; exact iE)
      rotate_left
      · rw [g0] at w
        rw [g0, show ((e :: P0).length : Int) + (-1) = (P0.length : Int) by omega]
        obtain ⟨_, _, z1, z2⟩ : e.1 < 0 ∧ -200 ≤ e.1 ∧ e.2.1 = 0 ∧ e.2.2 = [-e.1] := by
          rcases he with q | ⟨k, m, b, q, _⟩
          · exact q
          · omega
        refine k562_32 v.1 (wm_mono (wq_N (fun h2 s2 A2 v2 r2 φ => k562_38 ?_)) (V_prT v T (by omega)))
        refine ih P0 (l1 ++ [-e.1]) h2 s2 A2 _ _ _ _ ?_ v2 (FR_trans r r2) φ.1 (by rw [φ.2]; exact hp.2) hP0 (by rw [List.append_assoc, ← z2]; exact eL)
        rw [z2] at tl
        have z3 : ([-e.1] : List Int).length = 1 := rfl
        rw [List.length_append]
        omega
      -- a node
      rw [g0] at w
      rw [g0, show ((e :: P0).length : Int) + (-1) = (P0.length : Int) by omega]
      obtain ⟨k, m, b, z1, z2, hm, km, z3, z4, z5⟩ : ∃ (k m : Nat) (b : Int), e.1 = 2 * (k : Int) + b ∧ (b = 0 ∨ b = 1) ∧ wlk (pce (gr A 1352 1353) k m) 1 0 ∧ k + m ≤ N ∧ e.2.1 = m ∧ e.2.2 = brk (b = 1) (shT (gr A 1352 1353) m k) ∧ (b = 1 → 1 < (gr A 1352 1353 k).1) := by
        rcases he with q | q
        · omega
        · exact q
      have m1 := wlk_ne hm
      rw [pce_len] at m1
      have gk := G k (Nat.zero_le _) (by omega)
      obtain ⟨so, eso⟩ : ∃ so, A 1352 k = so := ⟨_, rfl⟩
      obtain ⟨va, eva⟩ : ∃ va, A 1353 k = va := ⟨_, rfl⟩
      have gk1 : (gr A 1352 1353 k).1 = so := eso
      have gk2 : (gr A 1352 1353 k).2 = va := eva
      unfold gdn at gk
      rw [gk1, gk2] at gk
      rw [gk1] at z5
      obtain ⟨p0, p1, p2⟩ := npa_s gk.1
      have iso : In3 so := by unfold In3; omega
      have tm : Int.tmod e.1 2 = b ∧ Int.tdiv e.1 2 = (k : Int) := by
        rw [Int.tmod_eq_emod_of_nonneg w, Int.tdiv_eq_ediv_of_nonneg w]
        omega
      have rowB : ∀ {B' : Nat → Nat → Int} {st' : Nat → Int} {l' : List Int}, PT s A st' B' l' → B' 1352 = A 1352 ∧ B' 1353 = A 1353 := fun h => ⟨h.2.1 1352 (by decide) (by decide), h.2.1 1353 (by decide) (by decide)⟩
      have gi4 : ∀ (u : Nat → Int) (j : Nat), j < 420 → gi (mk 420 u) (j : Int) = u j := fun u j hj => gi_mkn hj
      have iN : ∀ j, j < N → In3 (A 1352 j) := fun j hj => by
        have : 0 ≤ A 1352 j ∧ A 1352 j ≤ 7 := (G j (Nat.zero_le _) hj).1
        unfold In3
        omega
      have st1 : ∀ (g : Nat → Int) (j : Nat) (z : Int), (mk 1000 g).set (Int.toNat (j : Int)) z = mk 1000 (fun t => if t = j then z else g t) := fun g j z => by rw [mk_set]; rfl
      -- the first part is piled
      have at204 : ∀ (m1' : Nat) (P2 : List ite_) (l2 : List Int) (h2 : s_H) (st2 : Nat → Int) (B2 : Nat → Nat → Int) (x2 : Int) (t : Term), 1 < so → wlk (pce (gr A 1352 1353) (k + 1) m1') 1 0 → k + 1 + m1' ≤ N → RV h2 st2 B2 → FR h h2 → PT s A st2 B2 l2 → pili (B2 1360) (its P2) → (∀ x, x ∈ P2 → ent (gr A 1352 1353) N x) → l2 ++ (brk (isb so 0 (gr A 1352 1353 (k + 1)).1) (shT (gr A 1352 1353) m1' (k + 1)) ++ txs P2) = L → m1' + szs P2 + (L.length - l2.length) < l → wr sw_P (d + 3) sw_c562 sw_h562 (204, [.index 1290, vi (P2.length : Int), vi x2, vi (k : Int), vi so, t], [], h2, 0, 0) (ptQ h s A L) := fun m1' P2 l2 h2 st2 B2 x2 t so1 hm1 km1 v2 r2 T2 hp2 hP2 eL2 hl2 => by
        have pt2 := pil_tx G P2 hP2
        have m1p := wlk_ne hm1
        rw [pce_len] at m1p
        obtain ⟨y1, y2, y3⟩ := shT_len m1' (k + 1) m1' hm1 (fun j a c => G j (by omega) (by omega)) (Nat.le_refl _)
        have yb := brk_len (c := isb so 0 (gr A 1352 1353 (k + 1)).1) (m := 5 * m1') (fun y => y3 (isb_1 y)) y1 y2
        have tl2 := congrArg List.length eL2
        rw [List.length_append, List.length_append] at tl2
        obtain ⟨r52, r53⟩ := rowB T2
        have gg : gi (mk 420 (B2 1352)) ((k : Int) + 1) = A 1352 (k + 1) := by
          rw [show (k : Int) + 1 = ((k + 1 : Nat) : Int) by omega, gi4 _ _ (by omega), r52]
        have go : ∀ (b' : Int), (b' = 0 ∨ b' = 1) → (isb so 0 (gr A 1352 1353 (k + 1)).1 ↔ b' = 1) → wr sw_P (d + 3) sw_c562 sw_h562 (242, [.index 1290, vi (P2.length : Int), vi x2, vi (k : Int), vi so, t], [vi b', vi (2 * ((k : Int) + 1)), vi (P2.length : Int), .index 1360], h2, 0, 0) (ptQ h s A L) := fun b' hb' eb => by
          have w1 := Rp_pile v2 (fun t => if t = P2.length then 2 * ((k : Int) + 1) + b' else B2 1360 t)
          refine k562_242 (a2 := mk 1000 (B2 1360)) (Ra_pile v2) (k562_247 ?_) (c4 := by rw [mk_len]; omega) (c5 := by omega) (c6 := by unfold In3; omega)
          rw [st1]
          have eb2 : brk (isb so 0 (gr A 1352 1353 (k + 1)).1) (shT (gr A 1352 1353) m1' (k + 1)) = brk (b' = 1) (shT (gr A 1352 1353) m1' (k + 1)) := by
            by_cases q : b' = 1
            · rw [brk_1 q, brk_1 (eb.mpr q)]
            · rw [brk_0 q, brk_0 (fun x => q (eb.mp x))]
          have := ih ((2 * ((k : Int) + 1) + b', m1', brk (b' = 1) (shT (gr A 1352 1353) m1' (k + 1))) :: P2) l2 _ st2 _ (vi x2) (vi (k : Int)) (vi so) t hl2 w1 (FR_trans r2 (FR_put v2 (c := 1360) (by decide) (by decide) _)) (PT_put T2 _) (by
            rw [up_at]
            have := pili_put hp2 (2 * ((k : Int) + 1) + b')
            rw [ip] at this
            exact this) (fun x hx => by
            rcases List.mem_cons.mp hx with q | q
            · rw [q]
              exact .inr ⟨k + 1, m1', b', by show 2 * ((k : Int) + 1) + b' = 2 * ((k + 1 : Nat) : Int) + b'; omega, hb', hm1, km1, rfl, rfl, fun y => isb_1 (eb.mpr y)⟩
            · exact hP2 x q) (by
            show l2 ++ (brk (b' = 1) (shT (gr A 1352 1353) m1' (k + 1)) ++ txs P2) = L
            rw [← eb2]
            exact eL2)
          rw [show (P2.length : Int) + 1 = ((P2.length + 1 : Nat) : Int) by omega]
          exact this
        refine k562_204 (fun w => absurd w (by omega)) (fun _ => ?_) (c1 := iso)
        refine k562_210 (a10 := mk 420 (B2 1352)) v2.1 (Ra_nodeSort v2) (wm_mono (wq_r ?_) (V_isBracketed iso (by decide) (by rw [gg]; exact iN _ (by omega)))) (c12 := by rw [mk_len]; omega) (c13 := by omega) (c14 := by unfold In3; omega)
        rw [gg]
        by_cases q : isb so 0 (A 1352 (k + 1))
        · rw [if_pos q]
          exact k562_234 (fun x => absurd x (by decide)) (fun _ => k562_237 (go 1 (.inr rfl) ⟨fun _ => rfl, fun _ => q⟩)) (c1 := by decide)
        · rw [if_neg q]
          exact k562_234 (fun _ => k562_241 (go 0 (.inl rfl) ⟨fun x => absurd x q, fun x => absurd x (by decide)⟩)) (fun x => absurd rfl x) (c1 := by decide)
      -- one more
      have at77 : ∀ (P1 : List ite_) (l2 : List Int) (h2 : s_H) (st2 : Nat → Int) (B2 : Nat → Nat → Int) (x2 : Int) (t : Term), RV h2 st2 B2 → FR h h2 → PT s A st2 B2 l2 → pili (B2 1360) (its P1) → (∀ x, x ∈ P1 → ent (gr A 1352 1353) N x) → l2 ++ (shT (gr A 1352 1353) m k ++ txs P1) = L → m + szs P1 + (L.length - l2.length) < l + 1 → wr sw_P (d + 3) sw_c562 sw_h562 (77, [.index 1290, vi (P1.length : Int), vi x2, vi (k : Int), vi so, t], [], h2, 0, 0) (ptQ h s A L) := fun P1 l2 h2 st2 B2 x2 t v2 r2 T2 hp2 hP2 eL2 hl2 => by
        obtain ⟨f, ef⟩ : ∃ f, m = f + 1 := ⟨m - 1, by omega⟩
        have pt2 := pil_tx G P1 hP2
        have tl2 := congrArg List.length eL2
        rw [List.length_append, List.length_append] at tl2
        obtain ⟨y1, y2, _⟩ := shT_len m k m hm (fun j a c => G j (by omega) (by omega)) (Nat.le_refl _)
        obtain ⟨r52, r53⟩ := rowB T2
        by_cases w0 : so = 0
        · have em := sub_0 hm (by rw [gk1]; exact p0 (.inl w0))
          rw [ef, shT_0 (by rw [gk1]; exact w0), gk2] at eL2
          have gv : gi (mk 420 (B2 1353)) (k : Int) = (va.toNat : Int) := by rw [gi4 _ _ (by omega), r53, eva]; omega
          refine k562_77 (fun x => absurd w0 x) (fun _ => ?_) (c1 := iso)
          refine k562_82 (a8 := mk 420 (B2 1353)) v2.1 (Ra_nodeValue v2) (wm_mono (wq_N (fun h3 s3 A3 v3 r3 φ => ?_)) (by rw [gv]; exact V_prN v2 T2 (by omega) (by omega))) (c10 := by rw [mk_len]; omega) (c11 := by omega) (c12 := by unfold In3; omega) (c13 := by rw [gv]; unfold In3; omega)
          refine k562_93 (fun _ => k562_105 (fun _ => k562_118 (fun _ => k562_137 (wm_mono (wq_r ?_) (V_partsOf iso))) (fun x => absurd (by omega) x) (c1 := iso)) (fun x => absurd (by omega) x) (c1 := iso)) (fun x => absurd (by omega) x) (c1 := iso)
          rw [p0 (.inl w0)]
          refine k562_142 (fun _ => k562_204 (fun _ => k562_247 ?_) (fun x => absurd (by omega) x) (c1 := iso)) (fun x => absurd (by decide) x) (c1 := by decide)
          refine ih P1 (l2 ++ dgl va.toNat) h3 s3 A3 _ _ _ _ ?_ v3 (FR_trans r2 r3) φ.1 (by rw [φ.2]; exact hp2) hP2 (by rw [List.append_assoc]; exact eL2)
          rw [List.length_append]
          omega
        by_cases w1 : so = 1
        · have em := sub_0 hm (by rw [gk1]; exact p0 (.inr w1))
          rw [ef, shT_1 (by rw [gk1]; exact w1)] at eL2
          refine k562_77 (fun _ => k562_93 (fun x => absurd w1 x) (fun _ => ?_) (c1 := iso)) (fun x => absurd w0 x) (c1 := iso)
          refine k562_99 v2.1 (wm_mono (wq_N (fun h3 s3 A3 v3 r3 φ => ?_)) (V_prT v2 T2 (by omega)))
          refine k562_105 (fun _ => k562_118 (fun _ => k562_137 (wm_mono (wq_r ?_) (V_partsOf iso))) (fun x => absurd (by omega) x) (c1 := iso)) (fun x => absurd (by omega) x) (c1 := iso)
          rw [p0 (.inr w1)]
          refine k562_142 (fun _ => k562_204 (fun _ => k562_247 ?_) (fun x => absurd (by omega) x) (c1 := iso)) (fun x => absurd (by decide) x) (c1 := by decide)
          refine ih P1 (l2 ++ [120]) h3 s3 A3 _ _ _ _ ?_ v3 (FR_trans r2 r3) φ.1 (by rw [φ.2]; exact hp2) hP2 (by rw [List.append_assoc]; exact eL2)
          rw [List.length_append]
          omega
        by_cases w6 : so = 6
        · obtain ⟨m1', em, hm1⟩ := sub_1 hm (by rw [gk1]; exact p1 (.inl w6))
          have ef2 : f = m1' := by omega
          subst ef2
          rw [ef, shT_6 (by rw [gk1]; exact w6)] at eL2
          refine k562_77 (fun _ => k562_93 (fun _ => k562_105 (fun x => absurd w6 x) (fun _ => ?_) (c1 := iso)) (fun x => absurd (by omega) x) (c1 := iso)) (fun x => absurd w0 x) (c1 := iso)
          refine k562_112 v2.1 (wm_mono (wq_N (fun h3 s3 A3 v3 r3 φ => ?_)) (V_prT v2 T2 (by omega)))
          refine k562_118 (fun _ => k562_137 (wm_mono (wq_r ?_) (V_partsOf iso))) (fun x => absurd (by omega) x) (c1 := iso)
          rw [p1 (.inl w6)]
          refine k562_142 (fun _ => ?_) (fun x => absurd (by decide) x) (c1 := by decide)
          refine at204 f P1 (l2 ++ [45]) h3 s3 A3 x2 t (by omega) hm1 (by omega) v3 (FR_trans r2 r3) φ.1 (by rw [φ.2]; exact hp2) hP2 ?_ ?_
          · rw [w6, List.append_assoc]
            exact eL2
          · rw [List.length_append]
            omega
        by_cases w7 : so = 7
        · obtain ⟨m1', em, hm1⟩ := sub_1 hm (by rw [gk1]; exact p1 (.inr w7))
          have ef2 : f = m1' := by omega
          subst ef2
          rw [ef, shT_7 (by rw [gk1]; exact w7), gk2] at eL2
          have v99 := gk.2.2 w7
          have gv : gi (mk 420 (B2 1353)) (k : Int) = (va.toNat : Int) := by rw [gi4 _ _ (by omega), r53, eva]; omega
          obtain ⟨q1, q2⟩ := exE_txs va.toNat
          have xl := exL_len va.toNat
          have tl3 := congrArg List.length eL2
          rw [List.length_append, List.length_append, List.length_append] at tl3
          obtain ⟨u1, u2, u3⟩ := shT_len f (k + 1) f hm1 (fun j a c => G j (by omega) (by omega)) (Nat.le_refl _)
          have ub := brk_len (c := isb 7 0 (gr A 1352 1353 (k + 1)).1) (m := 5 * f) (fun y => u3 (isb_1 y)) u1 u2
          refine k562_77 (fun _ => k562_93 (fun _ => k562_105 (fun _ => k562_118 (fun x => absurd w7 x) (fun _ => ?_) (c1 := iso)) (fun x => absurd (by omega) x) (c1 := iso)) (fun x => absurd (by omega) x) (c1 := iso)) (fun x => absurd w0 x) (c1 := iso)
          have z := V_pileExponent (d := d + 2) v2 (P := its P1) hp2 (by rw [ip]; omega) (e := va.toNat) (by omega)
          rw [ip] at z
          refine k562_125 (a8 := mk 420 (B2 1353)) v2.1 (Ra_nodeValue v2) (wm_mono (wq_A (fun v3' h3 s3 A3 v3 r3 φ => ?_)) (by rw [gv]; exact z)) (c10 := by rw [mk_len]; omega) (c11 := by omega) (c12 := by unfold In3; omega)
          obtain ⟨ev, es, g, eA, hg⟩ := φ
          subst ev es eA
          rw [← exE_its] at hg
          refine k562_136 (k562_137 (wm_mono (wq_r ?_) (V_partsOf iso)))
          rw [p1 (.inr w7), ← exE_its, ip]
          refine k562_142 (fun _ => ?_) (fun x => absurd (by decide) x) (c1 := by decide)
          refine at204 f (exE va.toNat ++ P1) l2 h3 _ _ x2 t (by omega) hm1 (by omega) v3 (FR_trans r2 r3) (PT_put T2 g) (by rw [up_at]; exact hg) (fun x hx => ?_) ?_ ?_
          · rcases List.mem_append.mp hx with y | y
            · exact exE_ent (by omega) x y
            · exact hP2 x y
          · rw [txs_app, q1, w7, ← List.append_assoc (brk _ _)]
            exact eL2
          · rw [szs_app, q2]
            omega
        -- two parts
        obtain ⟨ma, mb, em, hma, hmb⟩ := sub_2 hm (by rw [gk1]; exact p2 ⟨w0, w1, w6, w7⟩)
        have mbp := wlk_ne hmb
        rw [pce_len] at mbp
        have map_ := wlk_ne hma
        rw [pce_len] at map_
        rw [ef, shT_b (by rw [gk1]; exact ⟨w0, w1, w6, w7⟩) hma, gk1] at eL2
        have G1 : gds (gr A 1352 1353) (k + 1) (k + 1 + ma) := fun j a c => G j (by omega) (by omega)
        have G2 : gds (gr A 1352 1353) (k + 1 + ma) (k + 1 + ma + mb) := fun j a c => G j (by omega) (by omega)
        rw [shT_eq f ma (k + 1) ma hma G1 (by omega) (Nat.le_refl _), shT_eq f mb (k + 1 + ma) mb hmb G2 (by omega) (Nat.le_refl _)] at eL2
        obtain ⟨u1, u2, u3⟩ := shT_len ma (k + 1) ma hma G1 (Nat.le_refl _)
        have ub := brk_len (c := isb so 0 (gr A 1352 1353 (k + 1)).1) (m := 5 * ma) (fun y => u3 (isb_1 y)) u1 u2
        obtain ⟨y1, y2, y3⟩ := shT_len mb (k + 1 + ma) mb hmb G2 (Nat.le_refl _)
        have yb := brk_len (c := isb so 1 (gr A 1352 1353 (k + 1 + ma)).1) (m := 5 * mb) (fun y => y3 (isb_1 y)) y1 y2
        have tl3 := congrArg List.length eL2
        rw [List.length_append, List.length_append, List.length_append, List.length_cons] at tl3
        refine k562_77 (fun _ => k562_93 (fun _ => k562_105 (fun _ => k562_118 (fun _ => k562_137 (wm_mono (wq_r ?_) (V_partsOf iso))) (fun x => absurd (Classical.byContradiction x) w7) (c1 := iso)) (fun x => absurd (Classical.byContradiction x) w6) (c1 := iso)) (fun x => absurd (Classical.byContradiction x) w1) (c1 := iso)) (fun x => absurd (Classical.byContradiction x) w0) (c1 := iso)
        rw [p2 ⟨w0, w1, w6, w7⟩]
        refine k562_142 (fun x => absurd rfl x) (fun _ => ?_) (c1 := by decide)
        have pe : pce (gr B2 1352 1353) (k + 1) ma = pce (gr A 1352 1353) (k + 1) ma := by
          unfold gr
          rw [r52, r53]
        have z := V_behind (d := d + 1) v2 (n := k + 1) (m := ma) (by rw [pe]; exact hma) (by omega) (fun j hj => by rw [r52]; exact iN _ (by omega))
        rw [show ((k + 1 : Nat) : Int) = (k : Int) + 1 by omega] at z
        refine k562_146 v2.1 (wm_mono (wq_r ?_) z)
        have gg : gi (mk 420 (B2 1352)) ((k : Int) + 1 + (ma : Int)) = A 1352 (k + 1 + ma) := by
          rw [show (k : Int) + 1 + (ma : Int) = ((k + 1 + ma : Nat) : Int) by omega, gi4 _ _ (by omega), r52]
        refine k562_153 (a10 := mk 420 (B2 1352)) v2.1 (Ra_nodeSort v2) (wm_mono (wq_r ?_) (V_isBracketed iso (by decide) (by rw [gg]; exact iN _ (by omega)))) (c12 := by rw [mk_len]; omega) (c13 := by omega) (c14 := by unfold In3; omega)
        rw [gg]
        have go : ∀ (b' : Int), (b' = 0 ∨ b' = 1) → (isb so 1 (gr A 1352 1353 (k + 1 + ma)).1 ↔ b' = 1) → wr sw_P (d + 3) sw_c562 sw_h562 (185, [.index 1290, vi (P1.length : Int), vi x2, vi (k : Int), vi so, vi ((k : Int) + 1 + (ma : Int))], [vi b', vi (2 * ((k : Int) + 1 + (ma : Int))), vi (P1.length : Int), .index 1360], h2, 0, 0) (ptQ h s A L) := fun b' hb' eb => by
          have v3 := Rp_pile v2 (fun t => if t = P1.length then 2 * ((k : Int) + 1 + (ma : Int)) + b' else B2 1360 t)
          refine k562_185 (a2 := mk 1000 (B2 1360)) (Ra_pile v2) (by rw [st1]; exact v3.1) ?_ (c4 := by rw [mk_len]; omega) (c5 := by omega) (c6 := by unfold In3; omega)
          rw [st1]
          refine wm_mono (wq_r ?_) (V_signOf iso)
          have hp3 := pili_put hp2 (2 * ((k : Int) + 1 + (ma : Int)) + b')
          have hp4 := pili_put hp3 (-sgn so)
          have v4 := Rp_pile v3 (fun t => if t = P1.length + 1 then -sgn so else if t = P1.length then 2 * ((k : Int) + 1 + (ma : Int)) + b' else B2 1360 t)
          rw [ip] at hp3 hp4
          rw [List.length_cons, ip] at hp4
          refine k562_199 (a2 := mk 1000 (fun t => if t = P1.length then 2 * ((k : Int) + 1 + (ma : Int)) + b' else B2 1360 t)) (by
            have := Ra_pile v3
            rw [up_at] at this
            exact this) ?_ (c4 := by rw [mk_len]; omega) (c5 := by omega) (c6 := by unfold In3; omega)
          rw [show (P1.length : Int) + 1 = ((P1.length + 1 : Nat) : Int) by omega, st1]
          have eb2 : brk (isb so 1 (gr A 1352 1353 (k + 1 + ma)).1) (shT (gr A 1352 1353) mb (k + 1 + ma)) = brk (b' = 1) (shT (gr A 1352 1353) mb (k + 1 + ma)) := by
            by_cases q : b' = 1
            · rw [brk_1 q, brk_1 (eb.mpr q)]
            · rw [brk_0 q, brk_0 (fun x => q (eb.mp x))]
          rw [eb2] at eL2
          have sg : 0 < sgn so ∧ sgn so ≤ 200 := by
            unfold sgn
            split
            · decide
            · split
              · decide
              · split <;> decide
          have := at204 ma ((-sgn so, 0, [sgn so]) :: (2 * ((k : Int) + 1 + (ma : Int)) + b', mb, brk (b' = 1) (shT (gr A 1352 1353) mb (k + 1 + ma))) :: P1) l2 _ st2 _ x2 (vi ((k : Int) + 1 + (ma : Int))) (by omega) hma (by omega) v4 (FR_trans r2 (FR_trans (FR_put v2 (c := 1360) (by decide) (by decide) _) (FR_put v3 (c := 1360) (by decide) (by decide) _))) (PT_put (PT_put T2 _) _) (by
            rw [up_at]
            exact hp4) (fun x hx => by
            rcases List.mem_cons.mp hx with q | q
            · rw [q]
              refine .inl ⟨?_, ?_, rfl, ?_⟩
              · show -sgn so < 0
                omega
              · show -200 ≤ -sgn so
                omega
              · show [sgn so] = [- -sgn so]
                rw [Int.neg_neg]
            · rcases List.mem_cons.mp q with q | q
              · rw [q]
                exact .inr ⟨k + 1 + ma, mb, b', by show 2 * ((k : Int) + 1 + (ma : Int)) + b' = 2 * ((k + 1 + ma : Nat) : Int) + b'; omega, hb', hmb, by omega, rfl, rfl, fun y => isb_1 (eb.mpr y)⟩
              · exact hP2 x q) (by
            show l2 ++ (brk (isb so 0 (gr A 1352 1353 (k + 1)).1) (shT (gr A 1352 1353) ma (k + 1)) ++ ([sgn so] ++ (brk (b' = 1) (shT (gr A 1352 1353) mb (k + 1 + ma)) ++ txs P1))) = L
            rw [← eL2]
            simp only [List.append_assoc, List.cons_append, List.nil_append]) (by
            show ma + (0 + (mb + szs P1)) + (L.length - l2.length) < l
            omega)
          rw [show (P1.length : Int) + 2 = ((P1.length + 1 + 1 : Nat) : Int) by omega]
          exact this
        by_cases q : isb so 1 (A 1352 (k + 1 + ma))
        · rw [if_pos q]
          exact k562_177 (fun x => absurd x (by decide)) (fun _ => k562_180 (go 1 (.inr rfl) ⟨fun _ => rfl, fun _ => q⟩)) (c1 := by decide)
        · rw [if_neg q]
          exact k562_177 (fun _ => k562_184 (go 0 (.inl rfl) ⟨fun x => absurd x q, fun x => absurd x (by decide)⟩)) (fun x => absurd rfl x) (c1 := by decide)
      have gs : gi (mk 420 (B 1352)) (Int.tdiv e.1 2) = so := by rw [tm.2, gi4 _ _ (by omega), (rowB T).1, eso]
      refine k562_41 (a9 := mk 420 (B 1352)) v.1 (Ra_nodeSort v) (fun q => ?_) (fun q => ?_) (c1 := iE) (c11 := by rw [mk_len, tm.2]; omega) (c12 := by rw [tm.2]; omega) (c13 := by rw [tm.2]; unfold In3; omega) (c14 := by rw [tm.1]; unfold In3; omega)
      · rw [tm.1] at q
        rw [gs, tm.2]
        rw [z4, brk_0 q] at eL
        refine at77 P0 l1 h1 st B _ _ v r T hp.2 hP0 eL ?_
        omega
      · rw [tm.1] at q
        have b1 : b = 1 := Classical.byContradiction q
        rw [gs, tm.2]
        rw [z4, brk_1 b1] at eL
        have tl3 := congrArg List.length eL
        rw [List.length_append, List.length_append, List.length_cons, List.length_append] at tl3
        refine k562_60 v.1 (wm_mono (wq_N (fun h2 s2 A2 v2 r2 φ => ?_)) (V_prT v T (by omega)))
        have w1 := Rp_pile v2 (fun t => if t = P0.length then -41 else A2 1360 t)
        refine k562_66 (a8 := mk 1000 (A2 1360)) v2.1 (Ra_pile v2) ?_ (c10 := by rw [mk_len]; omega) (c11 := by omega) (c12 := by unfold In3; omega)
        rw [st1]
        have hp3 : pili (A2 1360) (its P0) := by rw [φ.2]; exact hp.2
        have hp4 := pili_put hp3 (-41)
        rw [ip] at hp4
        have := at77 ((-41, 0, [41]) :: P0) (l1 ++ [40]) _ s2 _ e.1 t5 w1 (FR_trans r (FR_trans r2 (FR_put v2 (c := 1360) (by decide) (by decide) _))) (PT_put φ.1 _) (by
          rw [up_at]
          exact hp4) (fun x hx => by
          rcases List.mem_cons.mp hx with y | y
          · rw [y]
            exact .inl ⟨by decide, by decide, rfl, rfl⟩
          · exact hP0 x y) (by
          rw [← eL]
          show l1 ++ [40] ++ (shT (gr A 1352 1353) m k ++ ([41] ++ txs P0)) = _
          simp only [List.append_assoc, List.cons_append, List.nil_append]) (by
          show m + (0 + szs P0) + (L.length - (l1 ++ [40]).length) < l + 1
          rw [List.length_append]
          omega)
        rw [show (P0.length : Int) + 1 = ((P0.length + 1 : Nat) : Int) by omega]
        exact this
theorem V_printTree (hv : RV h s A) {N : Nat} (t : wlk (pce (gr A 1352 1353) 0 N) 1 0) (G : gds (gr A 1352 1353) 0 N) (n200 : N ≤ 200) : wm sw_P (d + 4) 562 [.index 1290] h (ptQ h s A (shT (gr A 1352 1353) N 0)) := by
  refine wm_in (cd := sw_c562) (nL := 6) (hd := sw_h562) rfl rfl ?_
  have v1 := RV_fld hv (up s 77 0) (rF_77 s 0)
  have v2 := Rp_pile v1 (fun j => if j = 0 then 0 else A 1360 j)
  obtain ⟨x1, x2, x3⟩ := shT_len N 0 N t (fun j a c => G j a (by omega)) (Nat.le_refl _)
  refine k562_0 (a12 := mk 1000 (A 1360)) hv.1 v1.1 (Ra_pile v1) ?_ (c14 := by rw [mk_len]; decide)
  rw [mk_set]
  refine W_print G n200 (by omega) _ [(0, N, shT (gr A 1352 1353) N 0)] [] _ (up s 77 0) _ _ _ _ _ (Nat.lt_succ_self _) v2 (FR_trans (FR_fld hv (1, 11, rF (up s 77 0))) (FR_put v1 (c := 1360) (by decide) (by decide) _)) ⟨rfl, fun x h1 h2 => up_ne _ _ h2, fun i hi2 => absurd hi2 (Nat.not_lt_zero _)⟩ ?_ (fun e he => ?_) ?_
  · rw [up_at]
    exact ⟨if_pos rfl, trivial⟩
  · rw [List.mem_singleton.mp he]
    refine .inr ⟨0, N, 0, rfl, .inl rfl, t, by omega, rfl, ?_, fun w => absurd w (by decide)⟩
    rw [brk_0 (by decide)]
  · show [] ++ (shT (gr A 1352 1353) N 0 ++ []) = _
    rw [List.append_nil]
    rfl
end
