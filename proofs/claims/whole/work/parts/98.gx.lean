/-! the reference's written, nodes, node -/
/-- a fraction as a tree -/
noncomputable def wrt (N D : zp_R) : List nod := if hi D = 0 ∧ cf D 0 = 1 then plr (cf N) else (5, 0) :: (plr (cf N) ++ plr (cf D))
theorem wrt_len (N D : zp_R) : (wrt N D).length ≤ 411 := by
  have := plr_len (cf N)
  have := plr_len (cf D)
  unfold wrt
  split
  · omega
  · rw [List.length_cons, List.length_append]
    omega
theorem wrt_tr (N D : zp_R) : trL (wrt N D) := by
  have t : ∀ f : zp_R, trL (plr (cf f)) := fun f => plr_tr (fun i _ => cf_b f i)
  unfold wrt
  split
  · exact t N
  · exact trL_app2 ⟨by decide, by decide, fun w => absurd w (by decide)⟩ rfl (t N) (t D)
def wrtF (cnt : Int) (t : th) (res : Sum th Int) : Prop := match t with
  | .inl (a, b) => ((cnt = 150 ∨ 200 < (wrt a b).length) → res = .inr 3) ∧ (¬ (cnt = 150 ∨ 200 < (wrt a b).length) → res = .inl (th_L (wrt a b)))
  | _ => True
theorem NW_scr {s s1 : Nat → Int} {A A1 : Nat → Nat → Int} {W : List nod} (N : NW s A s1 A1 W) : sq s s1 ∧ sm A A1 scrA := by
  refine ⟨?_, fun x hx => ?_⟩
  · rw [N.1]
    exact sq_up (sq_refl s) _ rfl
  · have n1 : ∀ c, scrA.contains c = true → x ≠ c := fun c hc q => by
      rw [q, hc] at hx
      cases hx
    exact N.2.1 x (n1 1354 rfl) (n1 1355 rfl)
section
variable {d : Nat} {h : s_H} {s : Nat → Int} {A : Nat → Nat → Int}
theorem V_written (hv : RV h s A) {T : Nat → th} (hR : RI s A T) {x : Int} (hx : In3 x) : wm sw_P (d + 4) 621 [.index 1290, vi x] h (RA h (fun v s' A' => ∃ res, unS (s 1) T (fun n => n = 0) x (wrtF (s 1)) res ∧ endz s A T res v s' A')) := by
  refine wm_in (cd := sw_c621) (nL := 2) (hd := sw_h621) rfl rfl ?_
  have b0 := hR.1.1
  refine k621_0 hv.1 (wm_mono (wq_A (fun v1 h1 s1 A1 w1 r1 φ => ?_)) (V_isOf hv hR hx (k := 0) (by decide)))
  rcases φ with ⟨ev, e1, q, eA⟩ | ⟨ev, e1, q, f, ef, lf, kf, m1, g, _⟩
  · rw [ev]
    refine k621_6 (fun w => absurd rfl w) (fun _ => k621_9 ⟨vi 0, h1, s1, A1, w1, r1, ⟨.inr (one s T x 0), one_un q, ?_⟩, rfl⟩)
    exact endz_bad hR (sq_refl s) sm_refl rfl e1 eA
  rw [ev]
  subst ef
  have xf : (f : Int).toNat = f := by omega
  obtain ⟨g98, g99⟩ := g (by decide)
  have hf := hR.2.2 f lf
  have s11 : s1 1 = s 1 := by rw [e1]; rfl
  have sp : ∀ res : Sum th Int, wrtF (s 1) (T f) res → unS (s 1) T (fun n => n = 0) f (wrtF (s 1)) res := fun res w => ⟨fun w2 => absurd ⟨by omega, lf⟩ w2, fun _ w2 => (w2 (by rw [xf]; exact kf)).elim, fun _ _ => by rw [xf]; exact w⟩
  refine k621_6 (fun _ => ?_) (fun w => absurd (by decide) w)
  rcases ef1 : T f with ⟨a, b⟩ | a | ⟨r, c, M⟩ | ⟨n, so, va⟩
  rotate_left
  · rw [ef1] at kf; exact (kdn kf rfl).elim
  · rw [ef1] at kf; exact (kdn kf rfl).elim
  · rw [ef1] at kf; exact (kdn kf rfl).elim
  rw [ef1] at hf sp
  obtain ⟨_, p1, p2, p3, p4⟩ := hf
  have E8 : A1 1298 = cf a := g98.trans p1
  have E9 : A1 1299 = cf b := g99.trans p2
  have v2 := RV_fld w1 (up s1 85 0) (rF_85 s1 0)
  have R2 : FR h _ := FR_trans r1 (FR_fld w1 (1, 11, rF (up s1 85 0)))
  have N0 : NW s1 A1 (up s1 85 0) A1 [] := ⟨rfl, fun _ _ _ => rfl, rfl⟩
  have la := plr_len (cf a)
  have lb := plr_len (cf b)
  have gb : ∀ {h' : s_H} {s' : Nat → Int} {A' : Nat → Nat → Int} {W : List nod}, RV h' s' A' → NW s1 A1 s' A' W → s_get h' 1299 = some (pl b) := fun {h' s' A' W} v n => RV_q v (c := 1299) rfl ((n.2.1 1299 (by decide) (by decide)).trans E9)
  have isq : sq s s1 := by rw [e1]; exact sq_up (sq_refl s) _ rfl
  -- the end
  have fin : ∀ (h3 : s_H) (s3 : Nat → Int) (A3 : Nat → Nat → Int), RV h3 s3 A3 → FR h h3 → NW s1 A1 s3 A3 (wrt a b) → wr sw_P (d + 3) sw_c621 sw_h621 (58, [.index 1290, vi (f : Int)], [], h3, 0, 0) (RA h (fun v s' A' => ∃ res, unS (s 1) T (fun n => n = 0) f (wrtF (s 1)) res ∧ endz s A T res v s' A')) := fun h3 s3 A3 v3 r3 n3 => by
    obtain ⟨q1, q2⟩ := NW_scr n3
    have q1' := sq_tr isq q1
    have q2' := sm_tr (scr_A m1) q2
    have R3 : RI s3 A3 T := RI_a hR q2' q1'
    have l3 := wrt_len a b
    refine k621_58 v3.1 (wm_mono (wq_A (fun v h4 s4 A4 v4 r4 ψ => ?_)) (V_keepTree v3 R3 (W := wrt a b) (by rw [n3.1, up_at]) n3.2.2 (by omega) (wrt_tr a b)))
    obtain ⟨res, z1, z2, z3⟩ := ψ
    have e31 : s3 1 = s 1 := sq_1 q1'
    rw [e31] at z1 z2
    have fin := endz_of z3 q1' q2'
    obtain ⟨x, ex⟩ := endz_vi fin
    subst ex
    exact k621_63 ⟨_, _, _, _, v4, FR_trans r3 r4, ⟨res, sp res ⟨z1, z2⟩, fin⟩, rfl⟩
  have bn : ∀ (u : zp_R) (i : Nat), i ≤ 40 → 0 ≤ cf u i ∧ cf u i < 32003 := fun u i _ => cf_b u i
  have at32 : ∀ (W : List nod) (h3 : s_H) (s3 : Nat → Int) (A3 : Nat → Nat → Int), W = (if hi b = 0 ∧ cf b 0 = 1 then [] else [(5, 0)]) → RV h3 s3 A3 → FR h h3 → NW s1 A1 s3 A3 W → wr sw_P (d + 3) sw_c621 sw_h621 (32, [.index 1290, vi (f : Int)], [], h3, 0, 0) (RA h (fun v s' A' => ∃ res, unS (s 1) T (fun n => n = 0) f (wrtF (s 1)) res ∧ endz s A T res v s' A')) := fun W h3 s3 A3 eW v3 r3 n3 => by
    have lW : W.length ≤ 1 := by
      rw [eW]
      split
      · exact Nat.zero_le _
      · exact Nat.le_refl _
    refine k621_32 v3.1 (wm_mono (wq_N (fun h4 s4 A4 v4 r4 n4 => ?_)) (V_plantRow v3 n3 (c := 1298) rfl (by decide) (by decide) (fun i hi2 => by rw [E8]; exact bn a i hi2) (by rw [E8]; omega)))
    rw [E8] at n4
    refine k621_40 v4.1 (wm_mono (wq_r ?_) (t_isOne (gb v4 n4)))
    refine k621_47 (fun w => ?_) (fun w => ?_) (c1 := by split <;> decide)
    · have o : hi b = 0 ∧ cf b 0 = 1 := Classical.byContradiction (fun x => w (if_neg x))
      refine fin h4 s4 A4 v4 (FR_trans r3 r4) ?_
      have e : wrt a b = W ++ plr (cf a) := by
        unfold wrt
        rw [if_pos o, eW, if_pos o]
        rfl
      rw [e]
      exact n4
    · have o : ¬ (hi b = 0 ∧ cf b 0 = 1) := fun x => w (by rw [if_pos x]; decide)
      refine k621_50 v4.1 (wm_mono (wq_N (fun h5 s5 A5 v5 r5 n5 => fin h5 s5 A5 v5 (FR_trans (FR_trans r3 r4) r5) ?_)) (V_plantRow v4 n4 (c := 1299) rfl (by decide) (by decide) (fun i hi2 => by rw [E9]; exact bn b i hi2) (by rw [E9, List.length_append]; omega)))
      rw [E9] at n5
      have e : wrt a b = W ++ plr (cf a) ++ plr (cf b) := by
        unfold wrt
        rw [if_neg o, eW, if_neg o]
        rfl
      rw [e]
      exact n5
  refine k621_11 w1.1 v2.1 (wm_mono (wq_r ?_) (t_isOne (gb v2 N0)))
  refine k621_23 (fun w => ?_) (fun w => ?_) (c1 := by split <;> decide)
  · have o : hi b = 0 ∧ cf b 0 = 1 := Classical.byContradiction (fun x => w (if_neg x))
    exact at32 [] _ _ _ (by rw [if_pos o]) v2 R2 N0
  · have o : ¬ (hi b = 0 ∧ cf b 0 = 1) := fun x => w (by rw [if_pos x]; decide)
    exact k621_26 v2.1 (wm_mono (wq_N (fun h3 s3 A3 v3 r3 n3 => at32 [(5, 0)] h3 s3 A3 (by rw [if_neg o]) v3 (FR_trans R2 r3) n3)) (V_plant v2 N0 (by decide)))
end
