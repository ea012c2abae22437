/-! the reference's workTree: the nodes from the last on -/
theorem wok_eq {g : Nat → nod} {R R' : Nat → Int} {F F' D D' : Nat → zp_R} {j : Nat} (a : ∀ i, j ≤ i → R' i = R i ∧ F' i = F i ∧ D' i = D i) (h : wok g R F D j) : wok g R' F' D' j := by
  obtain ⟨a1, a2, a3⟩ := a j (Nat.le_refl _)
  obtain ⟨b1, b2, b3⟩ := a (j + 1) (by omega)
  obtain ⟨c1, c2, c3⟩ := a (snd_ g j) (by unfold snd_; omega)
  unfold wok at *
  rw [a1, a2, a3, b1, b2, b3, c1, c2, c3]
  exact h
theorem pso_lt {g : Nat → nod} {N q : Nat} (C : ctx g N) (hq : q < N) : pso g N q < N := by
  obtain ⟨_, b, _⟩ := siz_in C hq
  unfold pso
  omega
theorem bst_eq {g : Nat → nod} {N q : Nat} {R R' : Nat → Int} {f p : Int} (a : ∀ j, q ≤ j → R' j = R j) (h : bst g N R q f p) : bst g N R' q f p := by
  rcases h with ⟨x1, x2, x3⟩ | ⟨j, x1, x2, x3, x4, x5, x6⟩
  · exact .inl ⟨x1, x2, fun j h1 h2 => by rw [a j h1]; exact x3 j h1 h2⟩
  · exact .inr ⟨j, x1, x2, by rw [a j x1]; exact x3, by rw [a j x1]; exact x4, x5, fun i h1 h2 h3 => x6 i h1 h2 (by rw [← a i h1]; exact h3)⟩
theorem bst_le {g : Nat → nod} {N q : Nat} {R : Nat → Int} {f p : Int} (h : bst g N R (q + 1) f p) (r : R q ≤ 1) : bst g N R q f p := by
  rcases h with ⟨x1, x2, x3⟩ | ⟨j, x1, x2, x3, x4, x5, x6⟩
  · refine .inl ⟨x1, x2, fun j h1 h2 => ?_⟩
    by_cases e : j = q
    · rw [e]; exact r
    · exact x3 j (by omega) h2
  · refine .inr ⟨j, by omega, x2, x3, x4, x5, fun i h1 h2 h3 => ?_⟩
    by_cases e : i = q
    · rw [e] at h3
      omega
    · exact x6 i (by omega) h2 h3
theorem bst_no {g : Nat → nod} {N q : Nat} {R : Nat → Int} {f p : Int} (C : ctx g N) (hq : q < N) (h : bst g N R (q + 1) f p) (r : p ≤ pso g N q) : bst g N R q f p := by
  have lt := pso_lt C hq
  rcases h with ⟨x1, x2, x3⟩ | ⟨j, x1, x2, x3, x4, x5, x6⟩
  · omega
  · refine .inr ⟨j, by omega, x2, x3, x4, x5, fun i h1 h2 h3 => ?_⟩
    by_cases e : i = q
    · rw [e]
      omega
    · exact x6 i (by omega) h2 h3
theorem bst_new {g : Nat → nod} {N q : Nat} {R : Nat → Int} {f p : Int} (hq : q < N) (h : bst g N R (q + 1) f p) (r : 1 < R q) (w : ¬ p ≤ pso g N q) : bst g N R q (R q) (pso g N q) := by
  refine .inr ⟨q, Nat.le_refl _, hq, r, rfl, rfl, fun i h1 h2 h3 => ?_⟩
  by_cases e : i = q
  · rw [e]
    exact Int.le_refl _
  · rcases h with ⟨x1, x2, x3⟩ | ⟨j, x1, x2, x3, x4, x5, x6⟩
    · have := x3 i (by omega) h2
      omega
    · have := x6 i (by omega) h2 h3
      omega
/-- what working a tree comes to -/
def wtQ (s : Nat → Int) (A : Nat → Nat → Int) (N : Nat) (v : Term) (s' : Nat → Int) (A' : Nat → Nat → Int) : Prop := s' = s ∧ ∃ R F D f p, wkI_ A N A' R F D 0 ∧ bst (gr A 1352 1353) N R 0 f p ∧ v = vi f
section
variable {d : Nat} {h : s_H} {s : Nat → Int} {A : Nat → Nat → Int}
theorem V_workTree {N : Nat} (C : ctx (gr A 1352 1353) N) (hv : RV h s A) (e82 : s 82 = (N : Int)) : wm sw_P (d + 10) 618 [.index 1290] h (RA h (wtQ s A N)) := by
  refine wm_in (cd := sw_c618) (nL := 7) (hd := sw_h618) rfl rfl ?_
  have n200 := C.2.2
  have len : ∀ g : Nat → Int, (mk 200 g).length = 200 := fun g => mk_len _ _
  have main : ∀ (q : Nat) (B : Nat → Nat → Int) (h' : s_H) (R : Nat → Int) (F D : Nat → zp_R) (f p : Int) (t4 t5 t6 : Term), q ≤ N → RV h' s B → FR h h' → wkI_ A N B R F D q → bst (gr A 1352 1353) N R q f p → wr sw_P (d + 9) sw_c618 sw_h618 (84, [.index 1290, vi f, vi p, vi ((q : Int) - 1), t4, t5, t6], [], h', 0, 0) (RA h (wtQ s A N)) := by
    intro q
    induction q with
    | zero =>
      intro B h' R F D f p t4 t5 t6 hq v r I b
      exact k618_84 (fun _ => k618_278 ⟨_, _, _, _, v, r, ⟨rfl, R, F, D, f, p, I, b, rfl⟩, rfl⟩) (fun w => absurd (by decide) w) (c1 := by decide)
    | succ q ih =>
      intro B h' R F D f p t4 t5 t6 hq v r I b
      obtain ⟨I1, I2, I3, _⟩ := I
      obtain ⟨hm, nm, m0⟩ := siz_in C (show q < N by omega)
      obtain ⟨so, eso⟩ : ∃ so, A 1352 q = so := ⟨_, rfl⟩
      have bso : 0 ≤ so ∧ so ≤ 7 := by
        have := (C.2.1 q (Nat.zero_le _) (by omega)).1
        rw [← eso]
        exact this
      have iso : In3 so := by unfold In3; omega
      have eg : ∀ {B' : Nat → Nat → Int}, sm A B' wkL → gr B' 1352 1353 = gr A 1352 1353 := fun {B'} m => by
        unfold gr
        rw [m 1352 rfl, m 1353 rfl]
      have g1 : (gr A 1352 1353 q).1 = so := eso
      have n1 : npa so ≠ 0 → q + 1 < N := fun w => by
        rcases npa_012 so with y | y | y
        · exact absurd y w
        · obtain ⟨ma, em, hma⟩ := sub_1 hm (by rw [g1]; exact y)
          have := wlk_ne hma
          rw [pce_len] at this
          omega
        · obtain ⟨ma, mb, em, hma, _⟩ := sub_2 hm (by rw [g1]; exact y)
          have := wlk_ne hma
          rw [pce_len] at this
          omega
      have n2 : npa so = 2 → ∃ ma, snd_ (gr A 1352 1353) q = q + 1 + ma ∧ wlk (pce (gr A 1352 1353) (q + 1) ma) 1 0 ∧ q + 1 + ma < N := fun w => by
        obtain ⟨ma, mb, em, hma, hmb⟩ := sub_2 hm (by rw [g1]; exact w)
        have := wlk_ne hmb
        rw [pce_len] at this
        exact ⟨ma, snd_eq hma, hma, by omega⟩
      obtain ⟨sd, esd⟩ : ∃ sd, snd_ (gr A 1352 1353) q = sd := ⟨_, rfl⟩
      rw [show ((q + 1 : Nat) : Int) - 1 = (q : Int) by omega]
      have gs : gi (mk 420 (B 1352)) (q : Int) = so := by rw [gi_mkn (by omega), I1 1352 rfl, eso]
      -- behind the working
      have at230 : ∀ (B2 : Nat → Nat → Int) (h2 : s_H) (R2 : Nat → Int) (F2 D2 : Nat → zp_R) (x5 x6 : Int), RV h2 s B2 → FR h h2 → wkI_ A N B2 R2 F2 D2 q → bst (gr A 1352 1353) N R2 (q + 1) f p → wr sw_P (d + 9) sw_c618 sw_h618 (230, [.index 1290, vi f, vi p, vi (q : Int), vi so, vi x5, vi x6], [], h2, 0, 0) (RA h (wtQ s A N)) := fun B2 h2 R2 F2 D2 x5 x6 v2 r2 J b2 => by
        obtain ⟨J1, J2, J3, J4⟩ := id J
        have jq := J3 q (Nat.le_refl _) (by omega)
        refine k618_230 v2.1 (wm_mono (wq_r ?_) (V_behind v2 (n := q) (m := siz (gr A 1352 1353) q) (by rw [eg J1]; exact hm) (by omega) (fun i hi2 => by
          rw [J1 1352 rfl]
          have : 0 ≤ A 1352 (q + i) ∧ A 1352 (q + i) ≤ 7 := (C.2.1 (q + i) (Nat.zero_le _) (by omega)).1
          unfold In3
          omega)))
        have gd_ : gi (mk 200 (B2 1363)) (q : Int) = (dpc (gr A 1352 1353) N q : Int) := by rw [gi_mkn (by omega), J2 q (by omega)]
        have gf : gi (mk 200 (B2 1364)) (q : Int) = R2 q := by rw [gi_mkn (by omega)]; exact jq.2.2.1
        have ep : (q : Int) + (siz (gr A 1352 1353) q : Int) - 1 - (dpc (gr A 1352 1353) N q : Int) = pso (gr A 1352 1353) N q := rfl
        have lt := pso_lt C (show q < N by omega)
        have dq : dpc (gr A 1352 1353) N q ≤ N := by
          have : ∀ k i, dpc (gr A 1352 1353) k i ≤ k := fun k i => by
            induction k with
            | zero => exact Nat.le_refl _
            | succ k ih =>
              unfold dpc
              split <;> omega
          exact this N q
        have ip : In3 (pso (gr A 1352 1353) N q) := by
          rw [← ep]
          unfold In3
          omega
        have ipp : In3 p := by
          rcases b2 with ⟨_, y, _⟩ | ⟨j, _, hj, _, _, y, _⟩
          · unfold In3; omega
          · have l1 := pso_lt C hj
            rw [y]
            have : -1000 ≤ pso (gr A 1352 1353) N j := by
              have : dpc (gr A 1352 1353) N j ≤ N := by
                have : ∀ k i, dpc (gr A 1352 1353) k i ≤ k := fun k i => by
                  induction k with
                  | zero => exact Nat.le_refl _
                  | succ k ih =>
                    unfold dpc
                    split <;> omega
                exact this N j
              unfold pso
              omega
            unfold In3
            omega
        have next : ∀ (f' p' : Int) (x6 : Int), bst (gr A 1352 1353) N R2 q f' p' → wr sw_P (d + 9) sw_c618 sw_h618 (272, [.index 1290, vi f', vi p', vi (q : Int), vi so, vi x5, vi x6], [], h2, 0, 0) (RA h (wtQ s A N)) := fun f' p' x6 b3 => by
          refine k618_272 ?_
          rw [show (q : Int) + (-1) = (q : Int) - 1 by omega]
          exact ih B2 h2 R2 F2 D2 f' p' _ _ _ (by omega) v2 r2 J b3
        refine k618_235 (a8 := mk 200 (B2 1363)) (a16 := mk 200 (B2 1364)) v2.1 (Ra_deep v2) (Ra_failed v2) (fun w => ?_) (fun w => ?_) (c10 := by rw [len]; omega) (c11 := by omega) (c12 := by unfold In3; omega) (c18 := by rw [len]; omega) (c19 := by rw [gf]; unfold In3; omega)
        · rw [gf] at w
          rw [gd_]
          exact next f p _ (bst_le b2 w)
        · rw [gf] at w
          rw [gd_, ep]
          refine k618_256 (fun w2 => next f p _ (bst_no C (by omega) b2 w2)) (fun w2 => ?_) (c1 := ip) (c2 := ipp)
          refine k618_262 (a8 := mk 200 (B2 1364)) v2.1 (Ra_failed v2) ?_ (c10 := by rw [len]; omega) (c11 := by omega) (c12 := by unfold In3; omega)
          rw [gf]
          exact next _ _ _ (bst_new (by omega) b2 (by omega) w2)
      -- what was found is put down
      have at166 : ∀ (B2 : Nat → Nat → Int) (h2 : s_H) (r0 : Int) (N0 D0 : zp_R) (x5 : Int) (t : Term), RV h2 s B2 → FR h h2 → sm B B2 scr → (0 ≤ r0 ∧ r0 ≤ 4) → (r0 = 0 → B2 1302 = cf N0 ∧ B2 1303 = cf D0 ∧ frt N0 D0) → wok (gr A 1352 1353) (up R q r0) (up F q N0) (up D q D0) q → wr sw_P (d + 9) sw_c618 sw_h618 (166, [.index 1290, vi f, vi p, vi (q : Int), vi so, vi x5, t], [vi r0, vi (q : Int), .index 1364], h2, 0, 0) (RA h (wtQ s A N)) := fun B2 h2 r0 N0 D0 x5 t v2 r2 m2 hr h0 hw => by
        have w1 := Rp_failed v2 (fun y => if y = q then r0 else B2 1364 y)
        refine k618_166 (a2 := mk 200 (B2 1364)) (Ra_failed v2) ?_ (c4 := by rw [len]; omega) (c5 := by omega) (c6 := by unfold In3; omega)
        rw [mk_set]
        have m2' : ∀ y, scr.contains y = false → B2 y = B y := m2
        have old : ∀ y, wkL.contains y = false → B2 y = A y := fun y hy => by
          have hs : scr.contains y = false := by
            cases q2 : scr.contains y with
            | false => rfl
            | true =>
              have : wkL.contains y = true := List.contains_iff_mem.mpr (List.mem_append_left _ (List.contains_iff_mem.mp q2))
              rw [this] at hy
              cases hy
          rw [m2' y hs]
          exact I1 y hy
        have ups : ∀ i, q + 1 ≤ i → up R q r0 i = R i ∧ up F q N0 i = F i ∧ up D q D0 i = D i := fun i hi2 => ⟨up_ne _ _ (by omega), up_ne _ _ (by omega), up_ne _ _ (by omega)⟩
        have b2 : bst (gr A 1352 1353) N (up R q r0) (q + 1) f p := bst_eq (fun j hj => (ups j hj).1) b
        -- the picture then
        have J : ∀ (B3 : Nat → Nat → Int), (∀ y, y ≠ 1361 → y ≠ 1362 → y ≠ 1364 → B3 y = B2 y) → (∀ y, B3 1364 y = if y = q then r0 else B2 1364 y) → (∀ k, k ≠ q → fp B3 1361 k = fp B2 1361 k ∧ fp B3 1362 k = fp B2 1362 k) → (r0 = 0 → fp B3 1361 q = cf N0 ∧ fp B3 1362 q = cf D0) → wkI_ A N B3 (up R q r0) (up F q N0) (up D q D0) q := fun B3 o3 f3 fk fq => by
          refine ⟨fun y hy => ?_, fun i hi2 => ?_, fun j h1 h2 => ?_, fun _ w => ?_⟩
          · have n1 : ∀ c, wkL.contains c = true → y ≠ c := fun c hc q => by
              rw [q, hc] at hy
              cases hy
            rw [o3 y (n1 1361 rfl) (n1 1362 rfl) (n1 1364 rfl)]
            exact old y hy
          · rw [o3 1363 (by decide) (by decide) (by decide), m2' 1363 rfl]
            exact I2 i hi2
          · by_cases e : j = q
            · subst e
              refine ⟨hw, by rw [up_at]; exact hr, by rw [f3, if_pos rfl, up_at], fun w => ?_⟩
              rw [up_at] at w
              obtain ⟨y1, y2⟩ := fq w
              rw [up_at, up_at]
              exact ⟨y1, y2, (h0 w).2.2⟩
            · obtain ⟨y1, y2, y3, y4⟩ := I3 j (by omega) h2
              obtain ⟨u1, u2, u3⟩ := ups j (by omega)
              refine ⟨wok_eq (fun i hi2 => ups i (by omega)) y1, by rw [u1]; exact y2, ?_, fun w => ?_⟩
              · rw [f3, if_neg e, u1, m2' 1364 rfl]
                exact y3
              · rw [u1] at w
                obtain ⟨z1, z2, z3⟩ := y4 w
                obtain ⟨k1, k2⟩ := fk j e
                rw [u2, u3, k1, k2]
                have f61 : fp B2 1361 j = fp B 1361 j := by unfold fp; rw [m2' 1361 rfl]
                have f62 : fp B2 1362 j = fp B 1362 j := by unfold fp; rw [m2' 1362 rfl]
                rw [f61, f62]
                exact ⟨z1, z2, z3⟩
          · rw [up_at] at w
            obtain ⟨y1, y2, _⟩ := h0 w
            rw [up_at, up_at, o3 1302 (by decide) (by decide) (by decide), o3 1303 (by decide) (by decide) (by decide)]
            exact ⟨y1, y2⟩
        have r3 := FR_trans r2 (FR_put v2 (c := 1364) (by decide) (by decide) (rc 1364 (fun y => if y = q then r0 else B2 1364 y)))
        by_cases z : r0 = 0
        rotate_left
        · refine k618_170 (fun w => absurd w (by decide)) (fun _ => ?_) (c1 := by decide)
          have gf : gi (mk 200 (up B2 1364 (fun y => if y = q then r0 else B2 1364 y) 1364)) (q : Int) = r0 := by rw [gi_mkn (by omega), up_at]; exact if_pos rfl
          refine k618_177 (a8 := mk 200 (up B2 1364 (fun y => if y = q then r0 else B2 1364 y) 1364)) w1.1 (Ra_failed w1) (fun _ => ?_) (fun w => absurd (by rw [gf]; exact z) w) (c10 := by rw [len]; omega) (c11 := by omega) (c12 := by unfold In3; omega) (c13 := by rw [gf]; unfold In3; omega)
          refine at230 _ _ (up R q r0) (up F q N0) (up D q D0) _ _ w1 r3 (J _ (fun y _ _ h3 => up_ne _ _ h3) (fun y => by rw [up_at]) (fun k _ => ⟨?_, ?_⟩) (fun w => absurd w z)) b2
          · unfold fp
            rw [up_ne _ _ (by decide)]
          · unfold fp
            rw [up_ne _ _ (by decide)]
        obtain ⟨gN, gD, Fr⟩ := h0 z
        have copy : ∀ (l k : Nat) (B3 : Nat → Nat → Int) (h3 : s_H), k + l = 41 → RV h3 s B3 → FR h h3 → (∀ y, y ≠ 1361 → y ≠ 1362 → y ≠ 1364 → B3 y = B2 y) → (∀ y, B3 1364 y = if y = q then r0 else B2 1364 y) → (∀ t, B3 1361 t = if 41 * q ≤ t ∧ t < 41 * q + k then cf N0 (t - 41 * q) else B2 1361 t) → (∀ t, B3 1362 t = if 41 * q ≤ t ∧ t < 41 * q + k then cf D0 (t - 41 * q) else B2 1362 t) → wr sw_P (d + 9) sw_c618 sw_h618 (170, [.index 1290, vi f, vi p, vi (q : Int), vi so, vi x5, vi (k : Int)], [], h3, 0, 0) (RA h (wtQ s A N)) := by
          intro l
          induction l with
          | zero =>
            intro k B3 h3 hk v3 r3 o3 f3 g3 g4
            have ek : k = 41 := by omega
            subst ek
            have p1 := fp_fill (A := B2) (B := B3) (c := 1361) (n := q) (f := N0) Fr.1 g3
            have p2 := fp_fill (A := B2) (B := B3) (c := 1362) (n := q) (f := D0) Fr.2.1 g4
            exact k618_170 (fun _ => at230 B3 h3 (up R q r0) (up F q N0) (up D q D0) _ _ v3 r3 (J B3 o3 f3 (fun k hk => ⟨p1.2 k hk, p2.2 k hk⟩) (fun _ => ⟨p1.1, p2.1⟩)) b2) (fun w => absurd (by decide) w) (c1 := by decide)
          | succ l ihl =>
            intro k B3 h3 hk v3 r3 o3 f3 g3 g4
            have gf : gi (mk 200 (B3 1364)) (q : Int) = 0 := by rw [gi_mkn (by omega), f3, if_pos rfl]; exact z
            have e1 : gi (mk 176 (B3 1302)) (k : Int) = cf N0 k := by rw [o3 1302 (by decide) (by decide) (by decide), gN]; exact gi_mkn (by omega)
            have e2 : gi (mk 176 (B3 1303)) (k : Int) = cf D0 k := by rw [o3 1303 (by decide) (by decide) (by decide), gD]; exact gi_mkn (by omega)
            have s2' : ∀ (g : Nat → Int) (z : Int), (mk 8200 g).set (Int.toNat (41 * (q : Int) + (k : Int))) z = mk 8200 (fun t => if t = 41 * q + k then z else g t) := fun g z => by
              rw [mk_set, show (41 * (q : Int) + (k : Int)).toNat = 41 * q + k by omega]
            have y1 := Rp_worthTop v3 (fun t => if t = 41 * q + k then cf N0 k else B3 1361 t)
            have y2 := Rp_worthBottom y1 (fun t => if t = 41 * q + k then cf D0 k else B3 1362 t)
            refine k618_170 (fun w => absurd w (by omega)) (fun _ => ?_) (c1 := by unfold In3; omega)
            refine k618_177 (a8 := mk 200 (B3 1364)) v3.1 (Ra_failed v3) (fun w => absurd gf w) (fun _ => ?_) (c10 := by rw [len]; omega) (c11 := by omega) (c12 := by unfold In3; omega) (c13 := by rw [gf]; decide)
            refine k618_186 (a10 := mk 176 (B3 1302)) (a16 := mk 8200 (B3 1361)) (a29 := mk 176 (B3 1303)) (a33 := mk 8200 (B3 1362)) v3.1 (RV_l v3 (c := 1302) rfl) (Ra_worthTop v3) (by rw [e1, s2']; exact y1.1) ((hp_ne (Ra_worthTop v3) (by decide)).trans (RV_l v3 (c := 1303) rfl)) ((hp_ne (Ra_worthTop v3) (by decide)).trans (Ra_worthBottom v3)) ?_ (c12 := by rw [mk_len]; omega) (c13 := by omega) (c14 := by unfold In3; omega) (c18 := by rw [mk_len]; omega) (c19 := by omega) (c20 := by unfold In3; omega) (c31 := by rw [mk_len]; omega) (c35 := by rw [mk_len]; omega)
            rw [e1, e2, s2', s2']
            refine ihl (k + 1) _ _ (by omega) y2 (FR_trans r3 (FR_trans (FR_put v3 (c := 1361) (by decide) (by decide) _) (FR_put y1 (c := 1362) (by decide) (by decide) _))) (fun y h1 h2 h3 => by rw [up_ne _ _ h2, up_ne _ _ h1]; exact o3 y h1 h2 h3) (fun y => by rw [up_ne _ _ (by decide), up_ne _ _ (by decide)]; exact f3 y) (fun t => ?_) (fun t => ?_)
            · rw [up_ne _ _ (by decide), up_at]
              show (if t = 41 * q + k then cf N0 k else B3 1361 t) = _
              by_cases e : t = 41 * q + k
              · rw [if_pos e, if_pos (by omega), show t - 41 * q = k by omega]
              · rw [if_neg e, g3]
                by_cases e2 : 41 * q ≤ t ∧ t < 41 * q + k
                · rw [if_pos e2, if_pos (by omega)]
                · rw [if_neg e2, if_neg (by omega)]
            · rw [up_at]
              show (if t = 41 * q + k then cf D0 k else B3 1362 t) = _
              by_cases e : t = 41 * q + k
              · rw [if_pos e, if_pos (by omega), show t - 41 * q = k by omega]
              · rw [if_neg e, g4]
                by_cases e2 : 41 * q ≤ t ∧ t < 41 * q + k
                · rw [if_pos e2, if_pos (by omega)]
                · rw [if_neg e2, if_neg (by omega)]
        have := copy 41 0 _ _ (by decide) w1 r3 (fun y _ _ h3 => up_ne _ _ h3) (fun y => by rw [up_at]) (fun t => by
          rw [up_ne _ _ (by decide), if_neg (by omega)]) (fun t => by
          rw [up_ne _ _ (by decide), if_neg (by omega)])
        exact this
      have wq' : ∀ (r0 : Int) (N0 D0 : zp_R), (up R q r0 (q + 1) = R (q + 1) ∧ up F q N0 (q + 1) = F (q + 1) ∧ up D q D0 (q + 1) = D (q + 1)) ∧ (up R q r0 sd = R sd ∧ up F q N0 sd = F sd ∧ up D q D0 sd = D sd) := fun r0 N0 D0 => by
        have hs : sd ≠ q := by rw [← esd]; unfold snd_; omega
        exact ⟨⟨up_ne _ _ (by omega), up_ne _ _ (by omega), up_ne _ _ (by omega)⟩, ⟨up_ne _ _ hs, up_ne _ _ hs, up_ne _ _ hs⟩⟩
      -- it can't be worked
      have at144 : ¬ (npa so = 0 ∨ (R (q + 1) = 0 ∧ (npa so ≠ 2 ∨ R sd = 0))) → wr sw_P (d + 9) sw_c618 sw_h618 (144, [.index 1290, vi f, vi p, vi (q : Int), vi so, t5, t6], [], h', 0, 0) (RA h (wtQ s A N)) := fun w => by
        refine k618_144 (k618_145 v.1 (fun _ => k618_165 ?_) (fun y => absurd rfl y) (c7 := by decide))
        refine at166 B h' 1 (zp_C 0) (zp_C 0) _ _ v r sm_refl (by decide) (fun y => absurd y (by decide)) ?_
        obtain ⟨⟨u1, u2, u3⟩, u4, u5, u6⟩ := wq' 1 (zp_C 0) (zp_C 0)
        unfold wok
        rw [g1, esd, u1, u4, up_at]
        exact ⟨fun y => absurd y w, fun _ => rfl⟩
      have at140 : (npa so = 0 ∨ (R (q + 1) = 0 ∧ (npa so ≠ 2 ∨ R sd = 0))) → wr sw_P (d + 9) sw_c618 sw_h618 (140, [.index 1290, vi f, vi p, vi (q : Int), vi so, t5, t6], [], h', 0, 0) (RA h (wtQ s A N)) := fun w => by
        refine k618_140 (k618_145 v.1 (fun y => absurd y (by decide)) (fun _ => ?_) (c7 := by decide))
        have C2 : ctx (gr B 1352 1353) N := by rw [eg I1]; exact C
        have eB : B 1352 q = so := by rw [I1 1352 rfl, eso]
        have z := V_workNode (d := d) C2 v (n := q) (by omega) (a := F (q + 1)) (b := D (q + 1)) (c := F sd) (e := D sd) (fun y => by
          rw [eB] at y
          obtain ⟨_, _, _, x4⟩ := I3 (q + 1) (Nat.le_refl _) (n1 y)
          exact x4 ((w.resolve_left y).1)) (fun y => by
          rw [eB] at y
          obtain ⟨ma, ea, _, l⟩ := n2 y
          rw [esd] at ea
          obtain ⟨_, _, _, x4⟩ := I3 sd (by omega) (by omega)
          rw [eg I1, esd]
          exact x4 ((w.resolve_left (by omega)).2.resolve_left (fun y2 => y2 y)))
        rw [eg I1] at z
        refine k618_157 v.1 (wm_mono (wq_A (fun v' h3 s3 A3 v3 r3 φ => ?_)) z)
        obtain ⟨e3, m3, f', N', D', ev, hf, hw, h0⟩ := φ
        subst e3 ev
        refine k618_162 (at166 A3 h3 f' N' D' _ _ v3 (FR_trans r r3) m3 (by omega) h0 ?_)
        obtain ⟨⟨u1, u2, u3⟩, u4, u5, u6⟩ := wq' f' N' D'
        unfold wok
        rw [esd, u1, u2, u3, u4, u5, u6, up_at, up_at, up_at]
        exact ⟨fun _ => ⟨hw, by omega⟩, fun y => absurd w (by rw [g1] at y; exact y)⟩
      refine k618_84 (fun w => absurd w (by omega)) (fun _ => ?_) (c1 := by unfold In3; omega)
      refine k618_88 (a8 := mk 420 (B 1352)) v.1 (Ra_nodeSort v) (wm_mono (wq_r ?_) (V_partsOf (by rw [gs]; exact iso))) (c10 := by rw [mk_len]; omega) (c11 := by omega) (c12 := by unfold In3; omega)
      rw [gs]
      have nb := npa_012 so
      refine k618_101 (fun w => at140 (.inl (by omega))) (fun w => ?_) (c1 := by unfold In3; omega)
      have l1 := n1 (by omega)
      obtain ⟨_, y2, y3, _⟩ := I3 (q + 1) (Nat.le_refl _) l1
      have gf1 : gi (mk 200 (B 1364)) ((q : Int) + 1) = R (q + 1) := by
        rw [show (q : Int) + 1 = ((q + 1 : Nat) : Int) by omega, gi_mkn (by omega), y3]
      refine k618_105 (a8 := mk 200 (B 1364)) v.1 (Ra_failed v) (fun w2 => at144 (fun y => ?_)) (fun w2 => ?_) (c10 := by rw [len]; omega) (c11 := by omega) (c12 := by unfold In3; omega) (c13 := by rw [gf1]; unfold In3; omega)
      · rw [gf1] at w2
        rcases y with y | y
        · omega
        · exact w2 y.1
      rw [gf1] at w2
      have R1 : R (q + 1) = 0 := Classical.byContradiction w2
      refine k618_116 (wm_mono (wq_r ?_) (V_partsOf iso))
      refine k618_121 (fun w3 => at140 (.inr ⟨R1, .inl (by omega)⟩)) (fun w3 => ?_) (c1 := by unfold In3; omega)
      have np2 : npa so = 2 := by omega
      obtain ⟨ma, ea, hma, l2⟩ := n2 np2
      rw [esd] at ea
      have z := V_behind (d := d + 7) v (n := q + 1) (m := ma) (by rw [eg I1]; exact hma) (by omega) (fun i hi2 => by
        rw [I1 1352 rfl]
        have : 0 ≤ A 1352 (q + 1 + i) ∧ A 1352 (q + 1 + i) ≤ 7 := (C.2.1 (q + 1 + i) (Nat.zero_le _) (by omega)).1
        unfold In3
        omega)
      rw [show ((q + 1 : Nat) : Int) = (q : Int) + 1 by omega] at z
      refine k618_125 v.1 (wm_mono (wq_r ?_) z)
      obtain ⟨_, z2, z3, _⟩ := I3 sd (by omega) (by omega)
      have gf2 : gi (mk 200 (B 1364)) ((q : Int) + 1 + (ma : Int)) = R sd := by
        rw [show (q : Int) + 1 + (ma : Int) = ((sd : Nat) : Int) by omega, gi_mkn (by omega), z3]
      refine k618_136 (a2 := mk 200 (B 1364)) (Ra_failed v) (fun w4 => at144 (fun y => ?_)) (fun w4 => at140 (.inr ⟨R1, .inr ?_⟩)) (c4 := by rw [len]; omega) (c5 := by omega) (c6 := by unfold In3; omega) (c7 := by rw [gf2]; unfold In3; omega)
      · rw [gf2] at w4
        rcases y with y | y
        · omega
        · exact y.2.elim (fun y2 => y2 np2) w4
      · rw [gf2] at w4
        exact Classical.byContradiction w4
  refine W_deep (d := d + 6) C hv e82 (fun B h' x1 t2 t3 v r o g => ?_)
  refine k618_70 (z5 := (N : Int)) v.1 ?_ (n6 := by
    show some (vi (s 82)) = _
    rw [e82])
  refine main N B h' (fun _ => 0) (fun _ => zp_C 0) (fun _ => zp_C 0) 0 (N : Int) _ _ _ (Nat.le_refl _) v r ⟨fun y hy => o y (fun e => by rw [e] at hy; exact absurd hy (by decide)), g, fun j h1 h2 => absurd h2 (by omega), fun w => absurd w (by omega)⟩ (.inl ⟨rfl, rfl, fun j h1 h2 => absurd h2 (by omega)⟩)
end
