/-! the class: two matrices joined; sums, differences, products, quotients -/
theorem CA_MF {h h' : s_H} {n : Nat} {T : Nat → th} {tx lf lp tk : Int} (H : CA h n T tx lf lp tk) (F : CF PR h h') (A : AL h' 0) : CA h' n T tx lf lp tk := by
  obtain ⟨⟨_, lo⟩, _, _, _, w, ⟨z1, o1⟩, z2, o2⟩ := id H
  have e : ∀ j, 39 ≤ j → j < 1376 → s_get h' j = s_get h j := fun j j1 j2 => F.2 j (fun p => by unfold PR at p; omega) (.inl (by omega))
  exact CA_keep H (CF_RB F) A (PE_same w (e _ (by decide) (by decide)) (e _ (by decide) (by decide))) ⟨z1, OE_same o1 (fun j _ _ => e j (by omega) (by omega))⟩ ⟨z2, OE_same o2 (fun j _ _ => e j (by omega) (by omega))⟩
/-- what becomes of a matrix on the way -/
def kmR (cnt : Int) (r w : Nat) (S : Nat → Nat → zp_R) (bad : Int) (res : Sum th Int) : Prop := (cnt = 150 → res = .inr bad) ∧ (cnt ≠ 150 → (∃ i j, i < r ∧ j < w ∧ 10 < hi (S i j)) → res = .inr bad) ∧ (cnt ≠ 150 → ¬ (∃ i j, i < r ∧ j < w ∧ 10 < hi (S i j)) → res = .inl (th_ma r w S))
theorem deg_hi {f : zp_R} (df : zp_deg f 176) {m : Nat} : zp_deg f (m + 1) ↔ hi f ≤ m := by
  refine ⟨fun d => ?_, fun q => ?_⟩
  · by_cases q : m + 1 ≤ 176
    · have := hi_lt d (Nat.le_refl _)
      omega
    · have := hi_b f
      omega
  · have b := hi_b f
    exact deg_le (hi_deg df) (by omega)
section
variable {D : Nat} {h : s_H} {n : Nat} {T : Nat → th} {tx lf lp tk : Int}
theorem u_keepMF {h0 : s_H} (H : CA h n T tx lf lp tk) {r w g : Nat} {S : Nat → Nat → zp_R} (M : MF h0 h h0.1 r w S r 0 g) (lo : 1376 ≤ h0.1) (r1 : 1 ≤ r ∧ r ≤ 4) (w1 : 1 ≤ w ∧ w ≤ 4) (dS : ∀ i j, i < r → j < w → zp_deg (S i j) 176) {bad : Int} {l : List Nat} (eb : exl l bad = 0) : wm sw_P (D + 3) 38 [.index 1, .index h0.1] h (fun out => ∃ res, kmR n r w S bad res ∧ CE 5 100 10 l h n T tx lf lp tk res out) := by
  obtain ⟨z, gc, kt', w2⟩ := MF_K M lo r1 w1
  rcases w2 with ⟨z0, K⟩ | ⟨z5, a, b, ha, hb, ne⟩
  · subst z0
    refine wm_mono (fun out => ?_) (u_keepMatrix H kt' K gc rfl eb)
    intro ⟨res, r1', r2, r3⟩
    refine ⟨res, ⟨r1', fun q ⟨i, j, hi2, hj, big⟩ => ?_, fun q _ => r2 q⟩, r3⟩
    obtain ⟨_, _, _, _, _, _, _, _, k7⟩ := K
    obtain ⟨_, _, _, _, _, d11⟩ := k7 i j hi2 hj
    have := (deg_hi (dS i j hi2 hj)).mp d11
    omega
  · subst z5
    refine wm_mono (fun out c => ?_) (u_keepMatrixBad H gc rfl eb)
    have big : 10 < hi (S a b) := Int.not_le.mp (fun q => ne ((deg_hi (dS a b ha hb) (m := 10)).mpr q))
    exact ⟨.inr bad, ⟨fun _ => rfl, fun _ _ => rfl, fun _ w => absurd ⟨a, b, ha, hb, big⟩ w⟩, c⟩
theorem u_joinedM (H : CA h n T tx lf lp tk) (mo' : MO h) (rm : RM h 60) {x : Int} (hx : x = 42 ∨ x = 43 ∨ x = 45) {a b r w r2 w2 : Nat} {M N : Nat → Nat → zp_R} (Ka : KT h a (th_ma r w M)) (ka : kt h a) (Kb : KT h b (th_ma r2 w2 N)) (kb : kt h b) {bad ib : Int} {l : List Nat} (eb : exl l bad = 0) (ei : exl l ib = 1) : wm sw_P (D + 7) 32 [.index 1, vi x, .index a, .index b] h (fun out => ∃ res, ((x = 42 → (w ≠ r2 → res = .inr ib) ∧ (w = r2 → kmR n r w2 (fun i j => mpr M N i j w) bad res)) ∧ (x ≠ 42 → ((r ≠ r2 ∨ w ≠ w2) → res = .inr ib) ∧ (r = r2 ∧ w = w2 → kmR n r w (fun i j => zp_add (M i j) (zp_mul (zp_C (nF (if x = 43 then 1 else 32002))) (N i j))) bad res))) ∧ CE 60 3600 60 l h n T tx lf lp tk res out) := by
  refine wm_in (cd := sw_c32) (nL := 4) (hd := sw_h32) rfl rfl ?_
  have lo := H.1.2
  obtain ⟨_, ga⟩ := KT_ce Ka
  obtain ⟨_, gb⟩ := KT_ce Kb
  obtain ⟨r14, w14⟩ := KT_rw Ka
  obtain ⟨r24, w24⟩ := KT_rw Kb
  obtain ⟨_, _, A, _⟩ := id H
  have ix : In3 x := by unfold In3; omega
  refine k32_0 (z6 := 2) ga (r_kind Kb (by decide) (fun _ => ?_) (fun w => absurd rfl w))
  refine k32_8 (z5 := 2) ga (fun _ => ?_) (fun w => absurd (by decide) w) (c7 := by decide)
  refine k32_33 (z5 := 2) ga (fun w => absurd rfl w) (fun _ => ?_) (c7 := by decide)
  have dM : ∀ i j, i < r → j < w → zp_deg (M i j) 11 := fun i j h1 h2 => by
    obtain ⟨_, _, _, _, _, _, _, _, k7⟩ := Ka
    obtain ⟨_, _, _, _, _, d11⟩ := k7 i j h1 h2
    exact d11
  have dN : ∀ i j, i < r2 → j < w2 → zp_deg (N i j) 11 := fun i j h1 h2 => by
    obtain ⟨_, _, _, _, _, _, _, _, k7⟩ := Kb
    obtain ⟨_, _, _, _, _, d11⟩ := k7 i j h1 h2
    exact d11
  -- a matrix was made
  have fin : ∀ (h1 : s_H) (rr ww : Nat) (S : Nat → Nat → zp_R) (kc ks : Nat), kc ≤ 40 → ks ≤ 3400 → (1 ≤ rr ∧ rr ≤ 4) → (1 ≤ ww ∧ ww ≤ 4) → (∀ i j, i < rr → j < ww → zp_deg (S i j) 176) → MF h h1 h.1 rr ww S rr 0 (2 + 2 * (rr * ww)) → AL h1 0 → (∀ res, kmR n rr ww S bad res → ((x = 42 → (w ≠ r2 → res = .inr ib) ∧ (w = r2 → kmR n r w2 (fun i j => mpr M N i j w) bad res)) ∧ (x ≠ 42 → ((r ≠ r2 ∨ w ≠ w2) → res = .inr ib) ∧ (r = r2 ∧ w = w2 → kmR n r w (fun i j => zp_add (M i j) (zp_mul (zp_C (nF (if x = 43 then 1 else 32002))) (N i j))) bad res)))) → wr sw_P (D + 6) sw_c32 sw_h32 (49, [.index 1, vi x, .index a, .index b], [.index h.1, .index 1], h1, kc, ks) (fun out => ∃ res, ((x = 42 → (w ≠ r2 → res = .inr ib) ∧ (w = r2 → kmR n r w2 (fun i j => mpr M N i j w) bad res)) ∧ (x ≠ 42 → ((r ≠ r2 ∨ w ≠ w2) → res = .inr ib) ∧ (r = r2 ∧ w = w2 → kmR n r w (fun i j => zp_add (M i j) (zp_mul (zp_C (nF (if x = 43 then 1 else 32002))) (N i j))) bad res))) ∧ CE 60 3600 60 l h n T tx lf lp tk res out) := fun h1 rr ww S kc ks b1 b2 rr1 ww1 dS MM A1 φ => by
    have F := MM.1
    have H1 := CA_MF H F A1
    have eg := MM.2.1
    have b16 : rr * ww ≤ 4 * 4 := Nat.mul_le_mul rr1.2 ww1.2
    refine k32_49 H1.1.1 (wm_mono (fun out => ?_) (u_keepMF H1 MM lo rr1 ww1 dS eb))
    intro ⟨res, q1, q2⟩
    exact wq_CE (fun v h' x y q => k32_52 q) (CF_BA (CF_RB F)) (by omega) (by omega) (by omega) (fun out c => ⟨res, φ res q1, c⟩) out q2
  have thr : ∀ kc ks, kc = 0 → ks = 0 → ((x = 42 → w ≠ r2) ∧ (x ≠ 42 → (r ≠ r2 ∨ w ≠ w2))) → (fun out => ∃ res, ((x = 42 → (w ≠ r2 → res = .inr ib) ∧ (w = r2 → kmR n r w2 (fun i j => mpr M N i j w) bad res)) ∧ (x ≠ 42 → ((r ≠ r2 ∨ w ≠ w2) → res = .inr ib) ∧ (r = r2 ∧ w = w2 → kmR n r w (fun i j => zp_add (M i j) (zp_mul (zp_C (nF (if x = 43 then 1 else 32002))) (N i j))) bad res))) ∧ CE 60 3600 60 l h n T tx lf lp tk res out) (.inr 1, h, kc + 1, ks + 6) := fun kc ks e1 e2 φ => ⟨.inr ib, ⟨fun q => ⟨fun _ => rfl, fun w => absurd w (φ.1 q)⟩, fun q => ⟨fun _ => rfl, fun w => by
    rcases φ.2 q with v | v
    · exact absurd w.1 v
    · exact absurd w.2 v⟩⟩, CE_t H (CF_refl _ _) ib ei (by omega) (by omega) (by omega)⟩
  refine k32_41 H.1.1 (wm_mono (Q' := fun out => (((x = 42 → w ≠ r2) ∧ (x ≠ 42 → (r ≠ r2 ∨ w ≠ w2))) ∧ out = (.inr 1, h, 1, 6)) ∨ (x = 42 ∧ w = r2 ∧ MN h 0 r w2 (fun i j => mpr M N i j w) out) ∨ (x ≠ 42 ∧ r = r2 ∧ w = w2 ∧ MN h 0 r w (fun i j => zp_add (M i j) (zp_mul (zp_C (nF (if x = 43 then 1 else 32002))) (N i j))) out)) (fun out q => ?_) ?_)
  · rcases q with ⟨φ, eo⟩ | ⟨e42, ew, h1, kc, ks, MM, A1, b1, b2, eo⟩ | ⟨n42, er, ew, h1, kc, ks, MM, A1, b1, b2, eo⟩
    · rw [eo]
      exact ⟨rfl, thr _ _ rfl rfl φ⟩
    · rw [eo]
      refine fin h1 r w2 _ _ _ (by omega) (by omega) r14 w24 (fun i j h1 h2 => deg_le (mpr_deg w (fun y hy => ⟨dM i y h1 hy, dN y j (by omega) h2⟩)) (by decide)) MM A1 (fun res q => ⟨fun _ => ⟨fun w => absurd ew w, fun _ => q⟩, fun w => absurd e42 w⟩)
    · rw [eo]
      refine fin h1 r w _ _ _ (by omega) (by omega) r14 w14 (fun i j h1 h2 => deg_le (deg_add (dM i j h1 h2) (deg_Cm _ (dN i j (by omega) (by omega)))) (by decide)) MM A1 (fun res q => ⟨fun w => absurd w n42, fun _ => ⟨fun w => by
        rcases w with w | w
        · exact absurd er w
        · exact absurd ew w, fun _ => q⟩⟩)
  · refine wm_in (cd := sw_c33) (nL := 4) (hd := sw_h33) rfl rfl ?_
    have rm1 := RM_le rm (show 40 ≤ 60 by decide)
    have ret : ∀ {kk rr ww : Nat} {S : Nat → Nat → zp_R} {Q : s_O → Prop}, (∀ out, MN h kk rr ww S out → Q out) → ∀ {d nx : Nat} {cd : s_Cd} {ls : List Term}, (∀ h' c x y, Q (.inl (some (.index c)), h', x, y) → wr sw_P d cd [] (nx, ls, [.index c], h', x, y) Q) → ∀ out, MN h kk rr ww S out → wq sw_P d cd [] nx ls [] 0 0 Q out := fun {kk rr ww S Q} imp {d nx cd ls} k out q => by
      obtain ⟨h1, kc, ks, MM, A1, b1, b2, eo⟩ := q
      rw [eo]
      exact k h1 h.1 _ _ (imp _ ⟨h1, _, _, MM, A1, by omega, by omega, rfl⟩)
    refine k33_0 (fun n42 => ?_) (fun w42 => ?_) (c1 := ix)
    · have thr2 : (r ≠ r2 ∨ w ≠ w2) → ((x = 42 → w ≠ r2) ∧ (x ≠ 42 → (r ≠ r2 ∨ w ≠ w2))) := fun q => ⟨fun e => absurd e n42, fun _ => q⟩
      refine k33_35 (z5 := (r : Int)) (z11 := (r2 : Int)) ga gb (fun q => k33_57 (.inl ⟨thr2 (.inl (by omega)), rfl⟩)) (fun q => ?_) (c13 := by unfold In3; omega) (c14 := by unfold In3; omega)
      refine k33_46 (z5 := (w : Int)) (z11 := (w2 : Int)) ga gb (fun q2 => ?_) (fun q2 => k33_57 (.inl ⟨thr2 (.inr (by omega)), rfl⟩)) (c13 := by unfold In3; omega) (c14 := by unfold In3; omega)
      have er : r = r2 := by omega
      have ew : w = w2 := by omega
      subst er ew
      have go : ∀ v : Int, v = (if x = 43 then 1 else 32002) → wr sw_P (D + 5) sw_c33 sw_h33 (84, [.index 1, vi x, .index a, .index b], [vi v, .index b, .index a, .index 354], h, 0, 0) (fun out => (((x = 42 → w ≠ r) ∧ (x ≠ 42 → (r ≠ r ∨ w ≠ w))) ∧ out = (.inr 1, h, 1, 6)) ∨ (x = 42 ∧ w = r ∧ MN h 0 r w (fun i j => mpr M N i j w) out) ∨ (x ≠ 42 ∧ r = r ∧ w = w ∧ MN h 0 r w (fun i j => zp_add (M i j) (zp_mul (zp_C (nF (if x = 43 then 1 else 32002))) (N i j))) out)) := fun v ev => by
        refine k33_84 mo' (wm_mono (ret (fun out q => .inr (.inr ⟨n42, rfl, rfl, by rw [← ev]; exact q⟩)) (fun h' c x y q => k33_87 q)) (u_sumOf A (by decide) mo' lo rm1 Ka ka Kb kb (by rw [ev]; split <;> decide)))
      exact k33_65 H.1.1 (fun q3 => k33_81 (go 32002 (if_neg q3).symm)) (fun q3 => k33_77 (go 1 (if_pos (Classical.byContradiction q3)).symm)) (c9 := ix)
    · have e42 : x = 42 := Classical.byContradiction w42
      refine k33_6 (z5 := (w : Int)) (z11 := (r2 : Int)) ga gb (fun q => ?_) (fun q => k33_17 (.inl ⟨⟨fun _ => by omega, fun e => absurd e42 e⟩, rfl⟩)) (c13 := by unfold In3; omega) (c14 := by unfold In3; omega)
      have ew : w = r2 := by omega
      subst ew
      exact k33_25 H.1.1 mo' (wm_mono (ret (fun out q => .inr (.inl ⟨e42, rfl, q⟩)) (fun h' c x y q => k33_34 q)) (u_productOf A (by decide) mo' lo rm1 Ka ka Kb kb))
/-- an answer that a call ends with, as it stands -/
theorem wq_pass {P : s_P} {d nx : Nat} {cd : s_Cd} {ls rest : List Term} {a b g a' b' g' : Nat} {l : List Nat} {R : Sum th Int → Prop} {R' : Sum th Int → Prop} (imp : ∀ res, R' res → R res) (ha : a' ≤ a) (hb : b' ≤ b) (hg : g' ≤ g) (ret : ∀ (v : Int) (h' : s_H) (x y : Nat), (fun out => ∃ res, R res ∧ CE a b g l h n T tx lf lp tk res out) (.inl (some (vi v)), h', x, y) → wr P d cd [] (nx, ls, vi v :: rest, h', x, y) (fun out => ∃ res, R res ∧ CE a b g l h n T tx lf lp tk res out)) : ∀ out, (∃ res, R' res ∧ CE a' b' g' l h n T tx lf lp tk res out) → wq P d cd [] nx ls rest 0 0 (fun out => ∃ res, R res ∧ CE a b g l h n T tx lf lp tk res out) out := fun out ⟨res, r1, r2⟩ => wq_CE ret (CF_refl _ _) (by omega) (by omega) (by omega) (fun out c => ⟨res, imp res r1, c⟩) out r2
theorem CE_x {a b g : Nat} {l : List Nat} {R : Sum th Int → Prop} (H : CA h n T tx lf lp tk) (k : Int) {e : Nat} (ek : exl l k = e) (r : R (.inr k)) (ha : 1 ≤ a) (hb : 6 ≤ b) : (fun out => ∃ res, R res ∧ CE a b g l h n T tx lf lp tk res out) (.inr e, h, 0 + 1, 0 + 6) := ⟨.inr k, r, CE_t H (CF_refl _ _) k ek (by omega) (by omega) (by omega)⟩
theorem fkR_add {x : Int} (hx : x = 43 ∨ x = 45) {Na Da Nb Db : zp_R} : jnT x Na Da Nb Db = zp_add (zp_mul Na Db) (zp_mul (zp_C (nF (if x = 43 then 1 else 32002))) (zp_mul Nb Da)) ∧ jnB x Da Nb Db = zp_mul Da Db := by
  unfold jnT jnB
  rw [if_neg (show ¬ x = 42 by omega), if_neg (show ¬ x = 47 by omega), if_neg (show ¬ x = 47 by omega)]
  exact ⟨rfl, rfl⟩
theorem se_sum {f g : zp_R} (df : zp_deg f 25) (dg : zp_deg g 25) (z : zp_F) : cut (zp_add f (zp_mul (zp_C z) g)) 25 = zp_add f (zp_mul (zp_C z) g) := cut_self (deg_add df (deg_Cm _ dg))
theorem nF_m1' : nF 32002 = nF (-1) := by decide +kernel
/-- what two things come to under add, whatever their handles -/
def addF (cnt z : Int) (t u : th) (res : Sum th Int) : Prop := match t, u with
  | .inl (a, b), .inl (c, e) => ∃ N D, cn (zp_add (zp_mul a e) (zp_mul (zp_C (nF z)) (zp_mul c b))) (zp_mul b e) N D ∧ fkR cnt N D 3 res
  | .inr (.inl f), .inr (.inl g) => (cnt = 150 → res = .inr 3) ∧ (cnt ≠ 150 → res = .inl (th_se (zp_add f (zp_mul (zp_C (nF z)) g))))
  | .inr (.inr (.inl (r, c, M))), .inr (.inr (.inl (r2, c2, M2))) => ((r ≠ r2 ∨ c ≠ c2) → res = .inr 2) ∧ (r = r2 ∧ c = c2 → cnt = 150 → res = .inr 3) ∧ (r = r2 ∧ c = c2 → cnt ≠ 150 → res = .inl (th_ma r c (fun i j => zp_add (M i j) (zp_mul (zp_C (nF z)) (M2 i j)))))
  | _, _ => res = .inr 2
theorem addF_S {cnt z x y : Int} {T : Nat → th} {res : Sum th Int} (b : 0 ≤ x ∧ x < cnt ∧ 0 ≤ y ∧ y < cnt) (w : addF cnt z (T x.toNat) (T y.toNat) res) : addS cnt T z x y res := by
  refine ⟨fun q => absurd b q, fun _ => ?_⟩
  revert w
  generalize T x.toNat = t
  generalize T y.toNat = u
  intro w
  rcases t with ⟨N1, D1⟩ | f | ⟨r, w1, M⟩ | ⟨n1, so, va⟩ <;> rcases u with ⟨N2, D2⟩ | g | ⟨r2, w2, M2⟩ | ⟨n2, so2, va2⟩ <;> exact w
/-- add (43), less (45), by their sign: what add comes to with z = 1 or -1 -/
theorem joined_add (H : CA h n T tx lf lp tk) (mo' : MO h) (rm : RM h 60) {x y z s : Int} (hs : (s = 43 ∧ z = 1) ∨ (s = 45 ∧ z = -1)) {a b : Nat} (x0 : 0 ≤ x ∧ x < n) (y0 : 0 ≤ y ∧ y < n) (Ka : KT h a (T x.toNat)) (ka : kt h a) (Kb : KT h b (T y.toNat)) (kb : kt h b) : wm sw_P (D + 7) 32 [.index 1, vi s, .index a, .index b] h (fun out => ∃ res, addS n T z x y res ∧ CE 60 3600 60 [3, 1, 0] h n T tx lf lp tk res out) := by
  have hs' : s = 43 ∨ s = 45 := by omega
  have ez : nF (if s = 43 then 1 else 32002) = nF z := by
    rcases hs with ⟨e1, e2⟩ | ⟨e1, e2⟩
    · rw [e1, e2]; rfl
    · rw [e1, e2]; exact nF_m1'
  have sp : ∀ res, addF n z (T x.toNat) (T y.toNat) res → addS n T z x y res := fun res w => addF_S ⟨x0.1, x0.2, y0.1, y0.2⟩ w
  obtain ⟨t, et⟩ : ∃ t, T x.toNat = t := ⟨_, rfl⟩
  obtain ⟨u, eu⟩ : ∃ u, T y.toNat = u := ⟨_, rfl⟩
  rw [et] at Ka
  rw [eu] at Kb
  rw [et, eu] at sp
  have bad : kd t ≠ kd u ∨ kd t = 3 → addF n z t u (.inr 2) → wm sw_P (D + 7) 32 [.index 1, vi s, .index a, .index b] h (fun out => ∃ res, addS n T z x y res ∧ CE 60 3600 60 [3, 1, 0] h n T tx lf lp tk res out) := fun ne w => by
    refine wm_mono (fun out eo => ?_) (u_joinedK (D := D + 2) H Ka Kb ne)
    rw [eo]
    exact ⟨.inr 2, sp _ w, CE_t H (CF_refl _ _) 2 rfl (by omega) (by omega) (by omega)⟩
  clear et eu
  rcases t with ⟨N1, D1⟩ | f | ⟨r, w, M⟩ | ⟨n1, so, va⟩ <;> rcases u with ⟨N2, D2⟩ | g | ⟨r2, w2, M2⟩ | ⟨n2, so2, va2⟩
  · refine wm_mono (fun out => ?_) (u_joinedF (D := D + 2) (x := s) H (RM_le rm (by decide)) (by omega) Ka ka Kb kb (bad := 3) (zer := 9) (l := [3, 1, 0]) rfl (fun w => absurd w (by omega)))
    intro ⟨res, r1, h', kc, ks, q1, q2, q3, q4, q5⟩
    obtain ⟨N, Dn, cc, fk⟩ := r1.2 (fun w => by omega)
    rw [(fkR_add (Na := N1) (Da := D1) (Nb := N2) (Db := D2) hs').1, (fkR_add (Na := N1) (Da := D1) (Nb := N2) (Db := D2) hs').2, ez] at cc
    exact ⟨res, sp _ ⟨N, Dn, cc, fk⟩, h', kc, ks, by omega, by omega, q3, by omega, q5⟩
  · exact bad (.inl (by first | (simp [kd]; done) | decide)) rfl
  · exact bad (.inl (by first | (simp [kd]; done) | decide)) rfl
  · exact bad (.inl (by first | (simp [kd]; done) | decide)) rfl
  · exact bad (.inl (by first | (simp [kd]; done) | decide)) rfl
  · refine wm_mono (fun out => ?_) (u_joinedS (D := D + 2) (x := s) H (RM_le rm (by decide)) (by omega) Ka Kb (bad := 3) (zer := 9) (l := [3, 1, 0]) rfl (fun w => absurd w (by omega)))
    intro ⟨res, r1, h', kc, ks, q1, q2, q3, q4, q5⟩
    obtain ⟨R, _, _, e3, e4, e5⟩ := r1.2 (fun w => by omega)
    have eR := e3 (by omega) (by omega)
    obtain ⟨_, _, _, _, df⟩ := Ka
    obtain ⟨_, _, _, _, dg⟩ := Kb
    rw [se_sum df dg, ez] at eR
    rw [eR] at e5
    exact ⟨res, sp _ ⟨e4, e5⟩, h', kc, ks, by omega, by omega, q3, by omega, q5⟩
  · exact bad (.inl (by first | (simp [kd]; done) | decide)) rfl
  · exact bad (.inl (by first | (simp [kd]; done) | decide)) rfl
  · exact bad (.inl (by first | (simp [kd]; done) | decide)) rfl
  · exact bad (.inl (by first | (simp [kd]; done) | decide)) rfl
  · refine wm_mono (fun out => ?_) (u_joinedM (D := D) (x := s) H mo' rm (by omega) Ka ka Kb kb (bad := 3) (ib := 2) (l := [3, 1, 0]) rfl rfl)
    intro ⟨res, r1, cc⟩
    obtain ⟨a1, a2⟩ := r1.2 (by omega)
    rw [ez] at a2
    refine ⟨res, sp _ ⟨a1, fun e => (a2 e).1, fun e q => (a2 e).2.2 q ?_⟩, cc⟩
    intro ⟨i, j, hi2, hj, big⟩
    obtain ⟨e1, e2⟩ := e
    subst e1 e2
    obtain ⟨_, _, _, _, _, _, _, _, k7⟩ := Ka
    obtain ⟨_, _, _, _, _, _, _, _, k8⟩ := Kb
    obtain ⟨_, _, _, _, _, d1⟩ := k7 i j hi2 hj
    obtain ⟨_, _, _, _, _, d2⟩ := k8 i j hi2 hj
    have dd := deg_add d1 (deg_Cm (nF z) d2)
    have := (deg_hi (m := 10) (deg_le dd (by decide))).mp dd
    exact absurd big (Int.not_lt.mpr this)
  · exact bad (.inl (by first | (simp [kd]; done) | decide)) rfl
  · exact bad (.inl (by first | (simp [kd]; done) | decide)) rfl
  · exact bad (.inl (by first | (simp [kd]; done) | decide)) rfl
  · exact bad (.inl (by first | (simp [kd]; done) | decide)) rfl
  · exact bad (.inr rfl) rfl
/-- THE CALL add -/
theorem u_add (H : CA h n T tx lf lp tk) (mo' : MO h) (rm : RM h 100) {x y : Int} (hx : In3 x) (hy : In3 y) : wm sw_P (D + 8) 1 [.index 1, vi x, vi y] h (fun out => ∃ res, addS n T 1 x y res ∧ CE 100 4000 100 [3, 1, 0] h n T tx lf lp tk res out) := by
  refine wm_in (cd := sw_c1) (nL := 3) (hd := sw_h1) rfl rfl ?_
  have bad : ∀ {c : Prop}, ¬ c → (c = (0 ≤ x ∧ x < n) ∨ c = (0 ≤ y ∧ y < n)) → addS n T 1 x y (.inr 1) := fun {c} nc w => ⟨fun _ => rfl, fun q => by
    rcases w with w | w
    · rw [w] at nc; exact absurd ⟨q.1, q.2.1⟩ nc
    · rw [w] at nc; exact absurd ⟨q.2.2.1, q.2.2.2⟩ nc⟩
  refine k1_0 H.1.1 (r_thing H hx (fun a x0 xn ka Ka => ?_) (fun w => CE_x H 1 rfl (bad w (.inl rfl)) (by omega) (by omega)))
  refine k1_8 H.1.1 (r_thing H hy (fun b y0 yn kb Kb => ?_) (fun w => CE_x H 1 rfl (bad w (.inr rfl)) (by omega) (by omega)))
  exact k1_13 H.1.1 (wm_mono (wq_pass (fun res w => w) (by omega) (by omega) (by omega) (fun v h' x y q => k1_16 q)) (joined_add (D := D) H mo' (RM_le rm (by decide)) (.inl ⟨rfl, rfl⟩) ⟨x0, xn⟩ ⟨y0, yn⟩ Ka ka Kb kb))
theorem u_less (H : CA h n T tx lf lp tk) (mo' : MO h) (rm : RM h 100) {x y : Int} (hx : In3 x) (hy : In3 y) : wm sw_P (D + 8) 44 [.index 1, vi x, vi y] h (fun out => ∃ res, addS n T (-1) x y res ∧ CE 100 4000 100 [3, 1, 0] h n T tx lf lp tk res out) := by
  refine wm_in (cd := sw_c44) (nL := 3) (hd := sw_h44) rfl rfl ?_
  have bad : ∀ {c : Prop}, ¬ c → (c = (0 ≤ x ∧ x < n) ∨ c = (0 ≤ y ∧ y < n)) → addS n T (-1) x y (.inr 1) := fun {c} nc w => ⟨fun _ => rfl, fun q => by
    rcases w with w | w
    · rw [w] at nc; exact absurd ⟨q.1, q.2.1⟩ nc
    · rw [w] at nc; exact absurd ⟨q.2.2.1, q.2.2.2⟩ nc⟩
  refine k44_0 H.1.1 (r_thing H hx (fun a x0 xn ka Ka => ?_) (fun w => CE_x H 1 rfl (bad w (.inl rfl)) (by omega) (by omega)))
  refine k44_8 H.1.1 (r_thing H hy (fun b y0 yn kb Kb => ?_) (fun w => CE_x H 1 rfl (bad w (.inr rfl)) (by omega) (by omega)))
  exact k44_13 H.1.1 (wm_mono (wq_pass (fun res w => w) (by omega) (by omega) (by omega) (fun v h' x y q => k44_16 q)) (joined_add (D := D) H mo' (RM_le rm (by decide)) (.inr ⟨rfl, rfl⟩) ⟨x0, xn⟩ ⟨y0, yn⟩ Ka ka Kb kb))
end
