/-! THE REFERENCE'S OBJECT: its numbers s, its rows at their cells -/
def rF (s : Nat → Int) : List Term := [vi (s 0), vi (s 1), .index 1291, .index 1292, .index 1293, .index 1294, .index 1295, .index 1296, vi (s 8), .index 1297, .index 1298, .index 1299, .index 1300, .index 1301, .index 1302, .index 1303, .index 1304, .index 1305, .index 1306, .index 1307, .index 1308, .index 1309, .index 1310, .index 1311, .index 1312, .index 1313, vi (s 26), .index 1314, .index 1315, .index 1316, .index 1317, .index 1318, vi (s 32), vi (s 33), .index 1319, vi (s 35), .index 1320, vi (s 37), .index 1321, .index 1322, .index 1323, .index 1324, .index 1325, .index 1326, .index 1327, .index 1328, .index 1329, .index 1330, .index 1331, .index 1332, vi (s 50), .index 1333, vi (s 52), .index 1334, vi (s 54), vi (s 55), vi (s 56), vi (s 57), vi (s 58), vi (s 59), .index 1335, .index 1336, .index 1337, .index 1338, .index 1339, .index 1340, .index 1341, .index 1342, .index 1343, .index 1344, .index 1345, vi (s 71), vi (s 72), .index 1346, .index 1347, vi (s 75), vi (s 76), vi (s 77), .index 1348, .index 1349, .index 1350, .index 1351, vi (s 82), .index 1352, .index 1353, vi (s 85), .index 1354, .index 1355, vi (s 88), .index 1356, .index 1357, .index 1358, .index 1359, .index 1360, .index 1361, .index 1362, .index 1363, .index 1364, vi (s 98), .index 1365, .index 1366, .index 1367, .index 1368, .index 1369, .index 1370, .index 1371, .index 1372, vi (s 107), .index 1373, .index 1374, vi (s 110)]
abbrev ro (h : s_H) (s : Nat → Int) : Prop := s_get h 1290 = some (1, 11, rF s)
/-- p and q's product is in x (cell 1304) -/
theorem zp_sum_part {R : Type} [Lean.Grind.CommRing R] {f : Nat → R} {n m : Nat} (h : m ≤ n) (h0 : ∀ i, m ≤ i → i < n → f i = 0) : zp_sum f n = zp_sum f m := by
  obtain ⟨k, rfl⟩ : ∃ k, n = m + k := ⟨n - m, by omega⟩
  rw [zp_sum_cut]
  have : zp_sum (fun i => f (m + i)) k = 0 := zp_sum_zero (fun i hi => h0 _ (by omega) (by omega))
  rw [this]; grind
/-- what the product's row holds when rows below a of p are through: at power n -/
def pm (f g : zp_R) (a n : Nat) : zp_F := zp_sum (fun i => if i ≤ n then f.1 i * g.1 (n - i) else 0) a
theorem pm_s (f g : zp_R) (a n : Nat) : pm f g (a + 1) n = pm f g a n + (if a ≤ n then f.1 a * g.1 (n - a) else 0) := rfl
theorem pm_all (f g : zp_R) {a n : Nat} (h : n < a) : pm f g a n = (zp_mul f g).1 n := by
  show zp_sum (fun i => if i ≤ n then f.1 i * g.1 (n - i) else 0) a = zp_sum (fun i => f.1 i * g.1 (n - i)) (n + 1)
  rw [zp_sum_part (m := n + 1) (by omega) (fun i h1 h2 => if_neg (by omega))]
  exact zp_sum_congr (fun i hi => if_pos (by omega))
theorem pm_hi (f g : zp_R) {a b n : Nat} (h : a ≤ b) (h0 : ∀ i, a ≤ i → i < b → f.1 i = 0) : pm f g b n = pm f g a n :=
  zp_sum_part h (fun i h1 h2 => by
    split
    · rw [h0 i h1 h2]; grind
    · rfl)
theorem cf_0 {f : zp_R} {i : Nat} (h : cf f i = 0) : f.1 i = 0 := F_ext h
theorem t_multiply {d : Nat} {h : s_H} {p q : Nat} {s : Nat → Int} {f g : zp_R} {X : Nat → Int} (hr : ro h s) (hx : s_get h 1304 = some (al 176 X)) (hp1 : p ≠ 1304) (hq1 : q ≠ 1304) (hf : s_get h p = some (pl f)) (hg : s_get h q = some (pl g)) : wm sw_P (d + 2) 531 [.index 1290, .index p, .index q] h (qv (hp h 1304 (pl (zp_mul f g)))) := by
  refine wm_in (cd := sw_c531) (nL := 7) (hd := sw_h531) rfl rfl ?_
  refine k531_0 hr (wm_mono (wq_v ?_) (t_empty (by decide) hx))
  have fx : ∀ C j, j ≠ 1304 → s_get (hp h 1304 C) j = s_get h j := fun C j hj => hp_ne hx hj
  refine k531_7 (wm_mono (wq_r ?_) (t_highp (f := f) (by rw [fx _ _ hp1]; exact hf)))
  refine k531_11 (wm_mono (wq_r ?_) (t_highp (f := g) (by rw [fx _ _ hq1]; exact hg)))
  refine k531_16 ?_
  have bf := hi_b f
  have bg := hi_b g
  -- the outer loop
  have outer : ∀ (m a : Nat) (t : Term), (a : Int) + m = hi f + 1 → wr sw_P (d + 1) sw_c531 sw_h531 (21, [.index 1290, .index p, .index q, vi (hi f), vi (hi g), vi a, t], [], hp h 1304 (al 176 (fun n => ((pm f g a n).val : Int))), 0, 0) (qv (hp h 1304 (pl (zp_mul f g)))) := by
    intro m
    induction m with
    | zero =>
      intro a t ha
      refine k531_21 (fun _ => k531_103 ?_) (fun z => absurd z (by omega))
      have : al 176 (fun n => ((pm f g a n).val : Int)) = pl (zp_mul f g) := al_congr (fun n hn => by
        show ((pm f g a n).val : Int) = (((zp_mul f g).1 n).val : Int)
        by_cases hna : n < a
        · rw [pm_all f g hna]
        · rw [← pm_all f g (a := n + 1) (by omega), pm_hi f g (a := a) (b := n + 1) (by omega) (fun i h1 h2 => cf_0 (rdeg_0 (cf f) 176 i (by show hi f < (i : Int); omega) (by omega)))])
      rw [this]
    | succ m ih =>
      intro a t ha
      refine k531_21 (fun z => absurd z (by omega)) (fun _ => ?_)
      refine k531_27 ?_
      have nexta : ∀ G : Nat → Int, (∀ n, n < 176 → G n = ((pm f g (a + 1) n).val : Int)) → ∀ b : Int, wr sw_P (d + 1) sw_c531 sw_h531 (97, [.index 1290, .index p, .index q, vi (hi f), vi (hi g), vi a, vi b], [], hp h 1304 (al 176 G), 0, 0) (qv (hp h 1304 (pl (zp_mul f g)))) := fun G hG b => by
        refine k531_97 ?_
        rw [al_congr hG]
        exact ih (a + 1) _ (by omega)
      -- the inner loop
      have inner : ∀ (l b : Nat) (G : Nat → Int), (b : Int) + l = hi g + 1 → (∀ n, n < 176 → G n = if n < a + b then ((pm f g (a + 1) n).val : Int) else ((pm f g a n).val : Int)) → wr sw_P (d + 1) sw_c531 sw_h531 (30, [.index 1290, .index p, .index q, vi (hi f), vi (hi g), vi a, vi b], [], hp h 1304 (al 176 G), 0, 0) (qv (hp h 1304 (pl (zp_mul f g)))) := by
        intro l
        induction l with
        | zero =>
          intro b G hb hG
          refine k531_30 (fun _ => nexta G (fun n hn => ?_) b) (fun z => absurd z (by omega))
          rw [hG n hn]
          split
          · rfl
          · rw [pm_s]
            by_cases han : a ≤ n
            · rw [if_pos han, show g.1 (n - a) = 0 from cf_0 (rdeg_0 (cf g) 176 (n - a) (by show hi g < ((n - a : Nat) : Int); omega) (by omega))]
              congr 2
              generalize f.1 a = y
              generalize pm f g a n = w
              grind
            · rw [if_neg han]
              congr 2
              generalize pm f g a n = w
              grind
        | succ l ih2 =>
          intro b G hb hG
          refine k531_30 (fun z => absurd z (by omega)) (fun _ => ?_)
          refine k531_37 (fun z => nexta G (fun n hn => ?_) b) (fun z => ?_)
          · rw [hG n hn, if_pos (by omega)]
          · have e1 : gi (mk 176 (cf f)) (a : Int) = cf f a := gi_mkn (by omega)
            have e2 : gi (mk 176 (cf g)) (b : Int) = cf g b := gi_mkn (by omega)
            have b1 := cf_b f a
            have b2 := cf_b g b
            refine k531_48 (by rw [fx _ _ hp1]; exact hf) (fun z2 => nexta G (fun n hn => ?_) b) (fun z2 => ?_) (c8 := by rw [e1]; exact ⟨by omega, by omega⟩)
            · rw [e1] at z2
              rw [hG n hn, pm_s, show f.1 a = 0 from cf_0 z2]
              have : ∀ w y : zp_F, w + (if a ≤ n then 0 * y else 0) = w := fun w y => by split <;> grind
              rw [this]
              split <;> rfl
            · have e3 : gi (mk 176 G) ((a : Int) + b) = ((pm f g a (a + b)).val : Int) := by
                rw [show (a : Int) + b = ((a + b : Nat) : Int) by omega, gi_mkn (by omega), hG _ (by omega), if_neg (by omega)]
              have b3 := (pm f g a (a + b)).isLt
              have b4 := mm_le b1 b2
              refine k531_57 (f3 := rF s) ((fx _ 1290 (by decide)).trans hr) (hp_at hx) (by rw [fx _ _ hp1]; exact hf) (by rw [fx _ _ hq1]; exact hg) ?_ (c27 := by rw [e1, e2, e3]; exact in6_of (by omega) (by omega))
              rw [hp_hp hx, mk_set, e1, e2, e3, tmod_nn (by omega)]
              refine ih2 (b + 1) _ (by omega) (fun n hn => ?_)
              show (if n = ((a : Int) + b).toNat then _ else G n) = _
              by_cases hnb : n = a + b
              · rw [if_pos (by omega), if_pos (by omega), hnb, pm_s, if_pos (by omega), show a + b - a = b by omega, F_add, F_mul]
                show _ = (((pm f g a (a + b)).val : Int) + cf f a * cf g b % 32003) % 32003
                omega
              · rw [if_neg (by omega), hG n hn]
                by_cases h5 : n < a + b
                · rw [if_pos h5, if_pos (by omega)]
                · rw [if_neg h5, if_neg (by omega)]
      refine inner (hi g + 1).toNat 0 _ (by omega) (fun n hn => ?_)
      by_cases h5 : n < a + 0
      · rw [if_pos h5, pm_s, if_neg (by omega)]
        congr 2
        generalize pm f g a n = w
        grind
      · rw [if_neg h5]
  have e0 : al 176 (fun _ => 0) = al 176 (fun n => ((pm f g 0 n).val : Int)) := al_congr (fun n hn => rfl)
  rw [e0]
  exact outer (hi f + 1).toNat 0 _ (by omega)
