/-! the reference's findFixed: the table of what the power moves -/
theorem sb_h1 {R : Type} [Lean.Grind.CommRing R] (a b : R) : a - b = a + -b := by grind
theorem sb_h2 {R : Type} [Lean.Grind.CommRing R] (a : R) : a - 0 = a + 0 := by grind
/-- column c: the power of V modulo W, less the letter to the c -/
noncomputable def fxG (W V : zp_R) (c : Nat) : zp_R := zp_add (md W (zp_npow V c)) (zp_T (-1) c)
theorem fxG_y (W V : zp_R) {c : Nat} {x : Int} (hx : x = 1) : (((md W (zp_npow V c)).1 c).val - x) % 32003 = (((fxG W V c).1 c).val : Int) := by
  rw [← nF_v, nF_sub, nF_val, hx, nF_1, sb_h1]
  show _ = (((md W (zp_npow V c)).1 c + (if c = c then (-1 : zp_F) else 0) : zp_F).val : Int)
  rw [if_pos rfl]
theorem fxG_n (W V : zp_R) {c e : Nat} (h : e ≠ c) {x : Int} (hx : x = 0) : (((md W (zp_npow V c)).1 e).val - x) % 32003 = (((fxG W V c).1 e).val : Int) := by
  rw [← nF_v, nF_sub, nF_val, hx, nF_0, sb_h2]
  show _ = (((md W (zp_npow V c)).1 e + (if e = c then (-1 : zp_F) else 0) : zp_F).val : Int)
  rw [if_neg h]
section
variable {d : Nat} {h : s_H} {s : Nat → Int} {A : Nat → Nat → Int}
def fxT : List Nat := [1304, 1305, 1308, 1317]
theorem W_tab {Q : s_O → Prop} {h' : s_H} (hv : RV h' s A) (rr : FR h h') {p : Nat} (hp : P9 p = true) (hp9 : p = 1300) {n : Nat} {W V : zp_R} (hW : A p = cf W) (en : hi W = n) (n1 : 1 ≤ n) (n41 : n ≤ 41) (dW : zp_deg W 176) (hV : A 1309 = cf V) (dV : zp_deg V n) {x3 : Int} {t4 : Term} (K : ∀ (D : Nat → Nat → Int) (h2 : s_H) (t4 : Term), RV h2 s D → FR h h2 → sm A D fxT → D 1317 = fl (tc (fxG W V) n n 0) → wr sw_P (d + 4) sw_c451 sw_h451 (210, [.index 1290, .index p, vi (n : Int), vi (n : Int), t4], [], h2, 0, 0) Q) : wr sw_P (d + 4) sw_c451 sw_h451 (127, [.index 1290, .index p, vi (n : Int), vi x3, t4], [], h', 0, 0) Q := by
  have h0 : 0 ≤ hi W := by omega
  refine k451_127 hv.1 (wm_mono (wq_Q (fun h1 v1 r1 => ?_)) (V_emptyTable hv))
  refine k451_131 v1.1 (wm_mono (wq_Q (fun h2 v2 r2 => ?_)) (V_become v1 (c := 1308) rfl (z := 1) (by decide)))
  rw [nF_1] at v2
  have tab : ∀ (l k : Nat) (B : Nat → Nat → Int) (h' : s_H) (t4 : Term), k + l = n → RV h' s B → FR h h' → sm A B fxT → B 1317 = fl (tc (fxG W V) n k 0) → B 1308 = cf (md W (zp_npow V k)) → wr sw_P (d + 4) sw_c451 sw_h451 (141, [.index 1290, .index p, vi (n : Int), vi (k : Int), t4], [], h', 0, 0) Q := by
    intro l
    induction l with
    | zero =>
      intro k B h' t4 hk v r m g _
      have kn : k = n := by omega
      subst kn
      exact k451_141 (fun _ => K B h' t4 v r m g) (fun w => absurd (by omega) w) (c1 := by unfold In3; omega) (c2 := by unfold In3; omega)
    | succ l ih =>
      intro k B h' t4 hk v r m g gS
      refine k451_141 (fun w => absurd w (by omega)) (fun _ => k451_146 ?_) (c1 := by unfold In3; omega) (c2 := by unfold In3; omega)
      have dS : zp_deg (md W (zp_npow V k)) 41 := deg_le (md_deg h0 dW _) (by omega)
      have inner : ∀ (l2 e : Nat) (C : Nat → Nat → Int) (h2 : s_H), e + l2 = n → RV h2 s C → FR h h2 → (∀ x, x ≠ 1317 → C x = B x) → C 1317 = fl (tc (fxG W V) n k e) → wr sw_P (d + 4) sw_c451 sw_h451 (149, [.index 1290, .index p, vi (n : Int), vi (k : Int), vi (e : Int)], [], h2, 0, 0) Q := by
        intro l2
        induction l2 with
        | zero =>
          intro e C h2 he v2 r2 o2 g2
          have en' : e = n := by omega
          subst en'
          have mC : sm A C fxT := sm_tr m (fun j hj => o2 j (fun w => by rw [w] at hj; exact absurd hj (by decide)))
          refine k451_149 (fun _ => ?_) (fun w => absurd (by omega) w) (c1 := by unfold In3; omega) (c2 := by unfold In3; omega)
          refine k451_195 v2.1 (wm_mono (wq_N (fun h3 s3 B3 v3 r3 φ => ?_)) (V_mulMod v2 (q := 1309) (p := p) rfl hp (by decide) (by omega) (by omega) (by omega) (S := md W (zp_npow V k)) (g := V) (W := W) (by rw [o2 1308 (by decide), gS]) ((mC 1309 rfl).trans hV) ((mC p (by rw [hp9]; rfl)).trans hW) (deg_mul81 dS (deg_le dV (by omega))) dW h0))
          obtain ⟨es3, m3, g3⟩ := φ
          subst es3
          refine k451_204 (ih (k + 1) B3 h3 _ (by omega) v3 (FR_trans r2 r3) (sm_tr mC (sm_sub m3 rfl)) (by rw [m3 1317 rfl, g2, tc_s]) (g3.trans ?_))
          rw [npow_s]
          exact congrArg cf (md_eq h0 dW (cg_mul (cg_symm (md_c h0 dW _)) (cg_refl W V)))
        | succ l2 ih2 =>
          intro e C h2 he v2 r2 o2 g2
          have g8 : gi (mk 176 (C 1308)) (e : Int) = (((md W (zp_npow V k)).1 e).val : Int) := by rw [o2 1308 (by decide), gS]; exact gi_mkn (by omega)
          have bz := F_bd ((md W (zp_npow V k)).1 e)
          have put : ∀ z : Int, z = (((fxG W V k).1 e).val : Int) → wr sw_P (d + 4) sw_c451 sw_h451 (188, [.index 1290, .index p, vi (n : Int), vi (k : Int), vi (e : Int)], [vl z, vi (48 * (e : Int) + (k : Int)), .index 1317], h2, 0, 0) Q := fun z ez => by
            refine k451_188 (Ra_table v2) ?_ (c4 := by rw [mk_len]; omega) (c5 := by omega) (c6 := by unfold In3; omega)
            have e5 := fl_put (tc (fxG W V) n k e) (n := e) (i := k) (by omega) ((fxG W V k).1 e) (t0 := (48 * (e : Int) + k).toNat) (by omega) (x := z) ez
            rw [mk_set, g2, e5, tc_put (S := fxG W V) (show e < n by omega)]
            exact ih2 (e + 1) _ _ (by omega) (RV_t v2 rfl) (FR_trans r2 (FR_t v2 _)) (fun x hx => by rw [up_ne _ _ hx, o2 x hx]) (up_at _ _ _)
          refine k451_149 (fun w => absurd w (by omega)) (fun _ => ?_) (c1 := by unfold In3; omega) (c2 := by unfold In3; omega)
          refine k451_155 v2.1 (RV_l v2 (c := 1308) rfl) (fun w => ?_) (fun w => ?_) (c12 := by rw [mk_len]; omega) (c13 := by omega) (c14 := by unfold In3; omega) (c15 := by unfold In3; omega)
          · rw [g8]
            refine k451_183 (k451_184 (wm_mono (wq_r ?_) (t_modulo (in6_of (by omega) (by omega)))))
            exact put _ (fxG_n W V (by omega) rfl)
          · rw [g8]
            have ek : e = k := by omega
            refine k451_179 (k451_184 (wm_mono (wq_r ?_) (t_modulo (in6_of (by omega) (by omega)))))
            refine put _ ?_
            rw [ek]
            exact fxG_y W V rfl
      exact inner n 0 B h' (by omega) v r (fun _ _ => rfl) g
  refine k451_139 (tab n 0 _ h2 _ (Nat.zero_add n) v2 (FR_trans rr (FR_trans r1 r2)) (sm_up (sm_up sm_refl _ rfl) _ rfl) (by rw [up_ne _ _ (by decide), up_at, tc_0]) ?_)
  rw [up_at]
  have : md W (zp_npow V 0) = zp_C 1 := md_cg h0 dW (cg_refl W _) (deg_le (zp_C_deg 1) (by omega))
  rw [this]
end
