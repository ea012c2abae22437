/-! THE REFERENCE AT ONCE: its numbers s, its rows A (by cell and place) -/
abbrev ab (n : Nat) (g : Nat → Int) : s_C := (0, 5, (mk n g).map vi)
def rl (c : Nat) : Nat := [150, 6150, 6150, 150, 150, 26400, 176, 176, 176, 176, 176, 176, 176, 176, 176, 176, 176, 176, 176, 176, 176, 176, 6400, 41, 1722, 41, 2048, 48, 1722, 1681, 176, 176, 176, 176, 176, 1920, 21, 61, 10496, 16, 16, 16, 200, 200, 21, 21, 21, 21, 21, 21, 21, 861, 861, 861, 861, 176, 176, 1200, 150, 30000, 30000, 420, 420, 420, 420, 200, 200, 200, 200, 1000, 8200, 8200, 200, 200, 200, 200, 16, 960, 656, 656, 16, 16, 16, 16].getD (c - 1291) 0
def rt (c : Nat) : Nat := [0, 0, 0, 0, 0, 0, 0, 1, 1, 1, 1, 1, 1, 1, 1, 1, 1, 1, 1, 1, 1, 1, 1, 0, 1, 0, 1, 0, 1, 1, 1, 1, 1, 1, 1, 1, 0, 1, 1, 1, 1, 1, 0, 0, 5, 5, 5, 0, 0, 0, 0, 1, 1, 1, 1, 1, 1, 0, 0, 0, 0, 0, 0, 0, 0, 0, 0, 0, 0, 0, 1, 1, 0, 0, 0, 0, 0, 0, 0, 0, 0, 0, 0, 0].getD (c - 1291) 0
def vf (t : Nat) : Int → Term := if t = 1 then vl else vi
def rc (c : Nat) (g : Nat → Int) : s_C := (0, rt c, (mk (rl c) g).map (vf (rt c)))
def up {α : Type} (A : Nat → α) (c : Nat) (g : α) : Nat → α := fun j => if j = c then g else A j
theorem up_at {α : Type} (A : Nat → α) (c : Nat) (g : α) : up A c g c = g := if_pos rfl
theorem up_ne {α : Type} (A : Nat → α) {c j : Nat} (g : α) (h : j ≠ c) : up A c g j = A j := if_neg h
def RV (h : s_H) (s : Nat → Int) (A : Nat → Nat → Int) : Prop := ro h s ∧ ∀ c, 1291 ≤ c → c ≤ 1374 → s_get h c = some (rc c (A c))
/-- nothing but the reference's own cells has changed -/
def FR (h h' : s_H) : Prop := h'.1 = h.1 ∧ ∀ j, ¬ (1290 ≤ j ∧ j ≤ 1374) → s_get h' j = s_get h j
theorem FR_refl (h : s_H) : FR h h := ⟨rfl, fun _ _ => rfl⟩
theorem FR_trans {h h' h'' : s_H} (a : FR h h') (b : FR h' h'') : FR h h'' := ⟨b.1.trans a.1, fun j hj => (b.2 j hj).trans (a.2 j hj)⟩
theorem RV_put {h : s_H} {s : Nat → Int} {A : Nat → Nat → Int} (hv : RV h s A) {c : Nat} (h1 : 1291 ≤ c) (h2 : c ≤ 1374) (g : Nat → Int) : RV (hp h c (rc c g)) s (up A c g) := by
  refine ⟨(hp_ne (hv.2 c h1 h2) (by omega)).trans hv.1, fun j h3 h4 => ?_⟩
  by_cases hj : j = c
  · subst hj
    rw [hp_at (hv.2 j h1 h2), up_at]
  · rw [hp_ne (hv.2 c h1 h2) hj, up_ne _ _ hj]
    exact hv.2 j h3 h4
theorem FR_put {h : s_H} {s : Nat → Int} {A : Nat → Nat → Int} (hv : RV h s A) {c : Nat} (h1 : 1291 ≤ c) (h2 : c ≤ 1374) (C : s_C) : FR h (hp h c C) := ⟨rfl, fun j hj => hp_ne (hv.2 c h1 h2) (by omega)⟩
theorem FR_fld {h : s_H} {s : Nat → Int} {A : Nat → Nat → Int} (hv : RV h s A) (C : s_C) : FR h (hp h 1290 C) := ⟨rfl, fun j hj => hp_ne hv.1 (by omega)⟩
theorem RV_fld {h : s_H} {s : Nat → Int} {A : Nat → Nat → Int} (hv : RV h s A) (s' : Nat → Int) {l : List Term} (hl : l = rF s') : RV (hp h 1290 (1, 11, l)) s' A := by
  subst hl
  exact ⟨hp_at hv.1, fun j h3 h4 => (hp_ne hv.1 (by omega)).trans (hv.2 j h3 h4)⟩
theorem rF_0 (s : Nat → Int) (z : Int) : (rF s).set 0 (vi z) = rF (up s 0 z) := rfl
theorem rF_1 (s : Nat → Int) (z : Int) : (rF s).set 1 (vi z) = rF (up s 1 z) := rfl
theorem rF_8 (s : Nat → Int) (z : Int) : (rF s).set 8 (vi z) = rF (up s 8 z) := rfl
theorem rF_26 (s : Nat → Int) (z : Int) : (rF s).set 26 (vi z) = rF (up s 26 z) := rfl
theorem rF_32 (s : Nat → Int) (z : Int) : (rF s).set 32 (vi z) = rF (up s 32 z) := rfl
theorem rF_33 (s : Nat → Int) (z : Int) : (rF s).set 33 (vi z) = rF (up s 33 z) := rfl
theorem rF_35 (s : Nat → Int) (z : Int) : (rF s).set 35 (vi z) = rF (up s 35 z) := rfl
theorem rF_37 (s : Nat → Int) (z : Int) : (rF s).set 37 (vi z) = rF (up s 37 z) := rfl
theorem rF_50 (s : Nat → Int) (z : Int) : (rF s).set 50 (vi z) = rF (up s 50 z) := rfl
theorem rF_52 (s : Nat → Int) (z : Int) : (rF s).set 52 (vi z) = rF (up s 52 z) := rfl
theorem rF_54 (s : Nat → Int) (z : Int) : (rF s).set 54 (vi z) = rF (up s 54 z) := rfl
theorem rF_55 (s : Nat → Int) (z : Int) : (rF s).set 55 (vi z) = rF (up s 55 z) := rfl
theorem rF_56 (s : Nat → Int) (z : Int) : (rF s).set 56 (vi z) = rF (up s 56 z) := rfl
theorem rF_57 (s : Nat → Int) (z : Int) : (rF s).set 57 (vi z) = rF (up s 57 z) := rfl
theorem rF_58 (s : Nat → Int) (z : Int) : (rF s).set 58 (vi z) = rF (up s 58 z) := rfl
theorem rF_59 (s : Nat → Int) (z : Int) : (rF s).set 59 (vi z) = rF (up s 59 z) := rfl
theorem rF_71 (s : Nat → Int) (z : Int) : (rF s).set 71 (vi z) = rF (up s 71 z) := rfl
theorem rF_72 (s : Nat → Int) (z : Int) : (rF s).set 72 (vi z) = rF (up s 72 z) := rfl
theorem rF_75 (s : Nat → Int) (z : Int) : (rF s).set 75 (vi z) = rF (up s 75 z) := rfl
theorem rF_76 (s : Nat → Int) (z : Int) : (rF s).set 76 (vi z) = rF (up s 76 z) := rfl
theorem rF_77 (s : Nat → Int) (z : Int) : (rF s).set 77 (vi z) = rF (up s 77 z) := rfl
theorem rF_82 (s : Nat → Int) (z : Int) : (rF s).set 82 (vi z) = rF (up s 82 z) := rfl
theorem rF_85 (s : Nat → Int) (z : Int) : (rF s).set 85 (vi z) = rF (up s 85 z) := rfl
theorem rF_88 (s : Nat → Int) (z : Int) : (rF s).set 88 (vi z) = rF (up s 88 z) := rfl
theorem rF_98 (s : Nat → Int) (z : Int) : (rF s).set 98 (vi z) = rF (up s 98 z) := rfl
theorem rF_107 (s : Nat → Int) (z : Int) : (rF s).set 107 (vi z) = rF (up s 107 z) := rfl
theorem rF_110 (s : Nat → Int) (z : Int) : (rF s).set 110 (vi z) = rF (up s 110 z) := rfl
theorem Ra_kind {h : s_H} {s : Nat → Int} {A : Nat → Nat → Int} (hv : RV h s A) : s_get h 1291 = some (ai 150 (A 1291)) := hv.2 1291 (by decide) (by decide)
theorem Rp_kind {h : s_H} {s : Nat → Int} {A : Nat → Nat → Int} (hv : RV h s A) (g : Nat → Int) : RV (hp h 1291 (ai 150 g)) s (up A 1291 g) := RV_put hv (c := 1291) (by decide) (by decide) g
theorem Ra_tops {h : s_H} {s : Nat → Int} {A : Nat → Nat → Int} (hv : RV h s A) : s_get h 1292 = some (ai 6150 (A 1292)) := hv.2 1292 (by decide) (by decide)
theorem Rp_tops {h : s_H} {s : Nat → Int} {A : Nat → Nat → Int} (hv : RV h s A) (g : Nat → Int) : RV (hp h 1292 (ai 6150 g)) s (up A 1292 g) := RV_put hv (c := 1292) (by decide) (by decide) g
theorem Ra_bottoms {h : s_H} {s : Nat → Int} {A : Nat → Nat → Int} (hv : RV h s A) : s_get h 1293 = some (ai 6150 (A 1293)) := hv.2 1293 (by decide) (by decide)
theorem Rp_bottoms {h : s_H} {s : Nat → Int} {A : Nat → Nat → Int} (hv : RV h s A) (g : Nat → Int) : RV (hp h 1293 (ai 6150 g)) s (up A 1293 g) := RV_put hv (c := 1293) (by decide) (by decide) g
theorem Ra_rows {h : s_H} {s : Nat → Int} {A : Nat → Nat → Int} (hv : RV h s A) : s_get h 1294 = some (ai 150 (A 1294)) := hv.2 1294 (by decide) (by decide)
theorem Rp_rows {h : s_H} {s : Nat → Int} {A : Nat → Nat → Int} (hv : RV h s A) (g : Nat → Int) : RV (hp h 1294 (ai 150 g)) s (up A 1294 g) := RV_put hv (c := 1294) (by decide) (by decide) g
theorem Ra_columns {h : s_H} {s : Nat → Int} {A : Nat → Nat → Int} (hv : RV h s A) : s_get h 1295 = some (ai 150 (A 1295)) := hv.2 1295 (by decide) (by decide)
theorem Rp_columns {h : s_H} {s : Nat → Int} {A : Nat → Nat → Int} (hv : RV h s A) (g : Nat → Int) : RV (hp h 1295 (ai 150 g)) s (up A 1295 g) := RV_put hv (c := 1295) (by decide) (by decide) g
theorem Ra_entries {h : s_H} {s : Nat → Int} {A : Nat → Nat → Int} (hv : RV h s A) : s_get h 1296 = some (ai 26400 (A 1296)) := hv.2 1296 (by decide) (by decide)
theorem Rp_entries {h : s_H} {s : Nat → Int} {A : Nat → Nat → Int} (hv : RV h s A) (g : Nat → Int) : RV (hp h 1296 (ai 26400 g)) s (up A 1296 g) := RV_put hv (c := 1296) (by decide) (by decide) g
theorem Ra_takes {h : s_H} {s : Nat → Int} {A : Nat → Nat → Int} (hv : RV h s A) : s_get h 1297 = some (ai 176 (A 1297)) := hv.2 1297 (by decide) (by decide)
theorem Rp_takes {h : s_H} {s : Nat → Int} {A : Nat → Nat → Int} (hv : RV h s A) (g : Nat → Int) : RV (hp h 1297 (ai 176 g)) s (up A 1297 g) := RV_put hv (c := 1297) (by decide) (by decide) g
theorem Ra_at {h : s_H} {s : Nat → Int} {A : Nat → Nat → Int} (hv : RV h s A) : s_get h 1298 = some (al 176 (A 1298)) := hv.2 1298 (by decide) (by decide)
theorem Rp_at {h : s_H} {s : Nat → Int} {A : Nat → Nat → Int} (hv : RV h s A) (g : Nat → Int) : RV (hp h 1298 (al 176 g)) s (up A 1298 g) := RV_put hv (c := 1298) (by decide) (by decide) g
theorem Ra_ab {h : s_H} {s : Nat → Int} {A : Nat → Nat → Int} (hv : RV h s A) : s_get h 1299 = some (al 176 (A 1299)) := hv.2 1299 (by decide) (by decide)
theorem Rp_ab {h : s_H} {s : Nat → Int} {A : Nat → Nat → Int} (hv : RV h s A) (g : Nat → Int) : RV (hp h 1299 (al 176 g)) s (up A 1299 g) := RV_put hv (c := 1299) (by decide) (by decide) g
theorem Ra_bt {h : s_H} {s : Nat → Int} {A : Nat → Nat → Int} (hv : RV h s A) : s_get h 1300 = some (al 176 (A 1300)) := hv.2 1300 (by decide) (by decide)
theorem Rp_bt {h : s_H} {s : Nat → Int} {A : Nat → Nat → Int} (hv : RV h s A) (g : Nat → Int) : RV (hp h 1300 (al 176 g)) s (up A 1300 g) := RV_put hv (c := 1300) (by decide) (by decide) g
theorem Ra_bb {h : s_H} {s : Nat → Int} {A : Nat → Nat → Int} (hv : RV h s A) : s_get h 1301 = some (al 176 (A 1301)) := hv.2 1301 (by decide) (by decide)
theorem Rp_bb {h : s_H} {s : Nat → Int} {A : Nat → Nat → Int} (hv : RV h s A) (g : Nat → Int) : RV (hp h 1301 (al 176 g)) s (up A 1301 g) := RV_put hv (c := 1301) (by decide) (by decide) g
theorem Ra_rt {h : s_H} {s : Nat → Int} {A : Nat → Nat → Int} (hv : RV h s A) : s_get h 1302 = some (al 176 (A 1302)) := hv.2 1302 (by decide) (by decide)
theorem Rp_rt {h : s_H} {s : Nat → Int} {A : Nat → Nat → Int} (hv : RV h s A) (g : Nat → Int) : RV (hp h 1302 (al 176 g)) s (up A 1302 g) := RV_put hv (c := 1302) (by decide) (by decide) g
theorem Ra_rb {h : s_H} {s : Nat → Int} {A : Nat → Nat → Int} (hv : RV h s A) : s_get h 1303 = some (al 176 (A 1303)) := hv.2 1303 (by decide) (by decide)
theorem Rp_rb {h : s_H} {s : Nat → Int} {A : Nat → Nat → Int} (hv : RV h s A) (g : Nat → Int) : RV (hp h 1303 (al 176 g)) s (up A 1303 g) := RV_put hv (c := 1303) (by decide) (by decide) g
theorem Ra_x {h : s_H} {s : Nat → Int} {A : Nat → Nat → Int} (hv : RV h s A) : s_get h 1304 = some (al 176 (A 1304)) := hv.2 1304 (by decide) (by decide)
theorem Rp_x {h : s_H} {s : Nat → Int} {A : Nat → Nat → Int} (hv : RV h s A) (g : Nat → Int) : RV (hp h 1304 (al 176 g)) s (up A 1304 g) := RV_put hv (c := 1304) (by decide) (by decide) g
theorem Ra_quotient {h : s_H} {s : Nat → Int} {A : Nat → Nat → Int} (hv : RV h s A) : s_get h 1305 = some (al 176 (A 1305)) := hv.2 1305 (by decide) (by decide)
theorem Rp_quotient {h : s_H} {s : Nat → Int} {A : Nat → Nat → Int} (hv : RV h s A) (g : Nat → Int) : RV (hp h 1305 (al 176 g)) s (up A 1305 g) := RV_put hv (c := 1305) (by decide) (by decide) g
theorem Ra_g {h : s_H} {s : Nat → Int} {A : Nat → Nat → Int} (hv : RV h s A) : s_get h 1306 = some (al 176 (A 1306)) := hv.2 1306 (by decide) (by decide)
theorem Rp_g {h : s_H} {s : Nat → Int} {A : Nat → Nat → Int} (hv : RV h s A) (g : Nat → Int) : RV (hp h 1306 (al 176 g)) s (up A 1306 g) := RV_put hv (c := 1306) (by decide) (by decide) g
theorem Ra_h {h : s_H} {s : Nat → Int} {A : Nat → Nat → Int} (hv : RV h s A) : s_get h 1307 = some (al 176 (A 1307)) := hv.2 1307 (by decide) (by decide)
theorem Rp_h {h : s_H} {s : Nat → Int} {A : Nat → Nat → Int} (hv : RV h s A) (g : Nat → Int) : RV (hp h 1307 (al 176 g)) s (up A 1307 g) := RV_put hv (c := 1307) (by decide) (by decide) g
theorem Ra_s {h : s_H} {s : Nat → Int} {A : Nat → Nat → Int} (hv : RV h s A) : s_get h 1308 = some (al 176 (A 1308)) := hv.2 1308 (by decide) (by decide)
theorem Rp_s {h : s_H} {s : Nat → Int} {A : Nat → Nat → Int} (hv : RV h s A) (g : Nat → Int) : RV (hp h 1308 (al 176 g)) s (up A 1308 g) := RV_put hv (c := 1308) (by decide) (by decide) g
theorem Ra_t {h : s_H} {s : Nat → Int} {A : Nat → Nat → Int} (hv : RV h s A) : s_get h 1309 = some (al 176 (A 1309)) := hv.2 1309 (by decide) (by decide)
theorem Rp_t {h : s_H} {s : Nat → Int} {A : Nat → Nat → Int} (hv : RV h s A) (g : Nat → Int) : RV (hp h 1309 (al 176 g)) s (up A 1309 g) := RV_put hv (c := 1309) (by decide) (by decide) g
theorem Ra_u {h : s_H} {s : Nat → Int} {A : Nat → Nat → Int} (hv : RV h s A) : s_get h 1310 = some (al 176 (A 1310)) := hv.2 1310 (by decide) (by decide)
theorem Rp_u {h : s_H} {s : Nat → Int} {A : Nat → Nat → Int} (hv : RV h s A) (g : Nat → Int) : RV (hp h 1310 (al 176 g)) s (up A 1310 g) := RV_put hv (c := 1310) (by decide) (by decide) g
theorem Ra_v {h : s_H} {s : Nat → Int} {A : Nat → Nat → Int} (hv : RV h s A) : s_get h 1311 = some (al 176 (A 1311)) := hv.2 1311 (by decide) (by decide)
theorem Rp_v {h : s_H} {s : Nat → Int} {A : Nat → Nat → Int} (hv : RV h s A) (g : Nat → Int) : RV (hp h 1311 (al 176 g)) s (up A 1311 g) := RV_put hv (c := 1311) (by decide) (by decide) g
theorem Ra_w {h : s_H} {s : Nat → Int} {A : Nat → Nat → Int} (hv : RV h s A) : s_get h 1312 = some (al 176 (A 1312)) := hv.2 1312 (by decide) (by decide)
theorem Rp_w {h : s_H} {s : Nat → Int} {A : Nat → Nat → Int} (hv : RV h s A) (g : Nat → Int) : RV (hp h 1312 (al 176 g)) s (up A 1312 g) := RV_put hv (c := 1312) (by decide) (by decide) g
theorem Ra_shifted {h : s_H} {s : Nat → Int} {A : Nat → Nat → Int} (hv : RV h s A) : s_get h 1313 = some (al 6400 (A 1313)) := hv.2 1313 (by decide) (by decide)
theorem Rp_shifted {h : s_H} {s : Nat → Int} {A : Nat → Nat → Int} (hv : RV h s A) (g : Nat → Int) : RV (hp h 1313 (al 6400 g)) s (up A 1313 g) := RV_put hv (c := 1313) (by decide) (by decide) g
theorem Ra_factorDegree {h : s_H} {s : Nat → Int} {A : Nat → Nat → Int} (hv : RV h s A) : s_get h 1314 = some (ai 41 (A 1314)) := hv.2 1314 (by decide) (by decide)
theorem Rp_factorDegree {h : s_H} {s : Nat → Int} {A : Nat → Nat → Int} (hv : RV h s A) (g : Nat → Int) : RV (hp h 1314 (ai 41 g)) s (up A 1314 g) := RV_put hv (c := 1314) (by decide) (by decide) g
theorem Ra_factorAt {h : s_H} {s : Nat → Int} {A : Nat → Nat → Int} (hv : RV h s A) : s_get h 1315 = some (al 1722 (A 1315)) := hv.2 1315 (by decide) (by decide)
theorem Rp_factorAt {h : s_H} {s : Nat → Int} {A : Nat → Nat → Int} (hv : RV h s A) (g : Nat → Int) : RV (hp h 1315 (al 1722 g)) s (up A 1315 g) := RV_put hv (c := 1315) (by decide) (by decide) g
theorem Ra_factorOften {h : s_H} {s : Nat → Int} {A : Nat → Nat → Int} (hv : RV h s A) : s_get h 1316 = some (ai 41 (A 1316)) := hv.2 1316 (by decide) (by decide)
theorem Rp_factorOften {h : s_H} {s : Nat → Int} {A : Nat → Nat → Int} (hv : RV h s A) (g : Nat → Int) : RV (hp h 1316 (ai 41 g)) s (up A 1316 g) := RV_put hv (c := 1316) (by decide) (by decide) g
theorem Ra_table {h : s_H} {s : Nat → Int} {A : Nat → Nat → Int} (hv : RV h s A) : s_get h 1317 = some (al 2048 (A 1317)) := hv.2 1317 (by decide) (by decide)
theorem Rp_table {h : s_H} {s : Nat → Int} {A : Nat → Nat → Int} (hv : RV h s A) (g : Nat → Int) : RV (hp h 1317 (al 2048 g)) s (up A 1317 g) := RV_put hv (c := 1317) (by decide) (by decide) g
theorem Ra_row {h : s_H} {s : Nat → Int} {A : Nat → Nat → Int} (hv : RV h s A) : s_get h 1318 = some (ai 48 (A 1318)) := hv.2 1318 (by decide) (by decide)
theorem Rp_row {h : s_H} {s : Nat → Int} {A : Nat → Nat → Int} (hv : RV h s A) (g : Nat → Int) : RV (hp h 1318 (ai 48 g)) s (up A 1318 g) := RV_put hv (c := 1318) (by decide) (by decide) g
theorem Ra_partAt {h : s_H} {s : Nat → Int} {A : Nat → Nat → Int} (hv : RV h s A) : s_get h 1319 = some (al 1722 (A 1319)) := hv.2 1319 (by decide) (by decide)
theorem Rp_partAt {h : s_H} {s : Nat → Int} {A : Nat → Nat → Int} (hv : RV h s A) (g : Nat → Int) : RV (hp h 1319 (al 1722 g)) s (up A 1319 g) := RV_put hv (c := 1319) (by decide) (by decide) g
theorem Ra_fixedAt {h : s_H} {s : Nat → Int} {A : Nat → Nat → Int} (hv : RV h s A) : s_get h 1320 = some (al 1681 (A 1320)) := hv.2 1320 (by decide) (by decide)
theorem Rp_fixedAt {h : s_H} {s : Nat → Int} {A : Nat → Nat → Int} (hv : RV h s A) (g : Nat → Int) : RV (hp h 1320 (al 1681 g)) s (up A 1320 g) := RV_put hv (c := 1320) (by decide) (by decide) g
theorem Ra_under {h : s_H} {s : Nat → Int} {A : Nat → Nat → Int} (hv : RV h s A) : s_get h 1321 = some (al 176 (A 1321)) := hv.2 1321 (by decide) (by decide)
theorem Rp_under {h : s_H} {s : Nat → Int} {A : Nat → Nat → Int} (hv : RV h s A) (g : Nat → Int) : RV (hp h 1321 (al 176 g)) s (up A 1321 g) := RV_put hv (c := 1321) (by decide) (by decide) g
theorem Ra_once {h : s_H} {s : Nat → Int} {A : Nat → Nat → Int} (hv : RV h s A) : s_get h 1322 = some (al 176 (A 1322)) := hv.2 1322 (by decide) (by decide)
theorem Rp_once {h : s_H} {s : Nat → Int} {A : Nat → Nat → Int} (hv : RV h s A) (g : Nat → Int) : RV (hp h 1322 (al 176 g)) s (up A 1322 g) := RV_put hv (c := 1322) (by decide) (by decide) g
theorem Ra_coreTop {h : s_H} {s : Nat → Int} {A : Nat → Nat → Int} (hv : RV h s A) : s_get h 1323 = some (al 176 (A 1323)) := hv.2 1323 (by decide) (by decide)
theorem Rp_coreTop {h : s_H} {s : Nat → Int} {A : Nat → Nat → Int} (hv : RV h s A) (g : Nat → Int) : RV (hp h 1323 (al 176 g)) s (up A 1323 g) := RV_put hv (c := 1323) (by decide) (by decide) g
theorem Ra_restTop {h : s_H} {s : Nat → Int} {A : Nat → Nat → Int} (hv : RV h s A) : s_get h 1324 = some (al 176 (A 1324)) := hv.2 1324 (by decide) (by decide)
theorem Rp_restTop {h : s_H} {s : Nat → Int} {A : Nat → Nat → Int} (hv : RV h s A) (g : Nat → Int) : RV (hp h 1324 (al 176 g)) s (up A 1324 g) := RV_put hv (c := 1324) (by decide) (by decide) g
theorem Ra_whole {h : s_H} {s : Nat → Int} {A : Nat → Nat → Int} (hv : RV h s A) : s_get h 1325 = some (al 176 (A 1325)) := hv.2 1325 (by decide) (by decide)
theorem Rp_whole {h : s_H} {s : Nat → Int} {A : Nat → Nat → Int} (hv : RV h s A) (g : Nat → Int) : RV (hp h 1325 (al 176 g)) s (up A 1325 g) := RV_put hv (c := 1325) (by decide) (by decide) g
theorem Ra_wide {h : s_H} {s : Nat → Int} {A : Nat → Nat → Int} (hv : RV h s A) : s_get h 1326 = some (al 1920 (A 1326)) := hv.2 1326 (by decide) (by decide)
theorem Rp_wide {h : s_H} {s : Nat → Int} {A : Nat → Nat → Int} (hv : RV h s A) (g : Nat → Int) : RV (hp h 1326 (al 1920 g)) s (up A 1326 g) := RV_put hv (c := 1326) (by decide) (by decide) g
theorem Ra_wideRow {h : s_H} {s : Nat → Int} {A : Nat → Nat → Int} (hv : RV h s A) : s_get h 1327 = some (ai 21 (A 1327)) := hv.2 1327 (by decide) (by decide)
theorem Rp_wideRow {h : s_H} {s : Nat → Int} {A : Nat → Nat → Int} (hv : RV h s A) (g : Nat → Int) : RV (hp h 1327 (ai 21 g)) s (up A 1327 g) := RV_put hv (c := 1327) (by decide) (by decide) g
theorem Ra_terms {h : s_H} {s : Nat → Int} {A : Nat → Nat → Int} (hv : RV h s A) : s_get h 1328 = some (al 61 (A 1328)) := hv.2 1328 (by decide) (by decide)
theorem Rp_terms {h : s_H} {s : Nat → Int} {A : Nat → Nat → Int} (hv : RV h s A) (g : Nat → Int) : RV (hp h 1328 (al 61 g)) s (up A 1328 g) := RV_put hv (c := 1328) (by decide) (by decide) g
theorem Ra_minors {h : s_H} {s : Nat → Int} {A : Nat → Nat → Int} (hv : RV h s A) : s_get h 1329 = some (al 10496 (A 1329)) := hv.2 1329 (by decide) (by decide)
theorem Rp_minors {h : s_H} {s : Nat → Int} {A : Nat → Nat → Int} (hv : RV h s A) (g : Nat → Int) : RV (hp h 1329 (al 10496 g)) s (up A 1329 g) := RV_put hv (c := 1329) (by decide) (by decide) g
theorem Ra_powers {h : s_H} {s : Nat → Int} {A : Nat → Nat → Int} (hv : RV h s A) : s_get h 1330 = some (al 16 (A 1330)) := hv.2 1330 (by decide) (by decide)
theorem Rp_powers {h : s_H} {s : Nat → Int} {A : Nat → Nat → Int} (hv : RV h s A) (g : Nat → Int) : RV (hp h 1330 (al 16 g)) s (up A 1330 g) := RV_put hv (c := 1330) (by decide) (by decide) g
theorem Ra_answers {h : s_H} {s : Nat → Int} {A : Nat → Nat → Int} (hv : RV h s A) : s_get h 1331 = some (al 16 (A 1331)) := hv.2 1331 (by decide) (by decide)
theorem Rp_answers {h : s_H} {s : Nat → Int} {A : Nat → Nat → Int} (hv : RV h s A) (g : Nat → Int) : RV (hp h 1331 (al 16 g)) s (up A 1331 g) := RV_put hv (c := 1331) (by decide) (by decide) g
theorem Ra_spare {h : s_H} {s : Nat → Int} {A : Nat → Nat → Int} (hv : RV h s A) : s_get h 1332 = some (al 16 (A 1332)) := hv.2 1332 (by decide) (by decide)
theorem Rp_spare {h : s_H} {s : Nat → Int} {A : Nat → Nat → Int} (hv : RV h s A) (g : Nat → Int) : RV (hp h 1332 (al 16 g)) s (up A 1332 g) := RV_put hv (c := 1332) (by decide) (by decide) g
theorem Ra_text {h : s_H} {s : Nat → Int} {A : Nat → Nat → Int} (hv : RV h s A) : s_get h 1333 = some (ai 200 (A 1333)) := hv.2 1333 (by decide) (by decide)
theorem Rp_text {h : s_H} {s : Nat → Int} {A : Nat → Nat → Int} (hv : RV h s A) (g : Nat → Int) : RV (hp h 1333 (ai 200 g)) s (up A 1333 g) := RV_put hv (c := 1333) (by decide) (by decide) g
theorem Ra_source {h : s_H} {s : Nat → Int} {A : Nat → Nat → Int} (hv : RV h s A) : s_get h 1334 = some (ai 200 (A 1334)) := hv.2 1334 (by decide) (by decide)
theorem Rp_source {h : s_H} {s : Nat → Int} {A : Nat → Nat → Int} (hv : RV h s A) (g : Nat → Int) : RV (hp h 1334 (ai 200 g)) s (up A 1334 g) := RV_put hv (c := 1334) (by decide) (by decide) g
theorem Ra_hasSum {h : s_H} {s : Nat → Int} {A : Nat → Nat → Int} (hv : RV h s A) : s_get h 1335 = some (ab 21 (A 1335)) := hv.2 1335 (by decide) (by decide)
theorem Rp_hasSum {h : s_H} {s : Nat → Int} {A : Nat → Nat → Int} (hv : RV h s A) (g : Nat → Int) : RV (hp h 1335 (ab 21 g)) s (up A 1335 g) := RV_put hv (c := 1335) (by decide) (by decide) g
theorem Ra_hasTerm {h : s_H} {s : Nat → Int} {A : Nat → Nat → Int} (hv : RV h s A) : s_get h 1336 = some (ab 21 (A 1336)) := hv.2 1336 (by decide) (by decide)
theorem Rp_hasTerm {h : s_H} {s : Nat → Int} {A : Nat → Nat → Int} (hv : RV h s A) (g : Nat → Int) : RV (hp h 1336 (ab 21 g)) s (up A 1336 g) := RV_put hv (c := 1336) (by decide) (by decide) g
theorem Ra_lessAhead {h : s_H} {s : Nat → Int} {A : Nat → Nat → Int} (hv : RV h s A) : s_get h 1337 = some (ab 21 (A 1337)) := hv.2 1337 (by decide) (by decide)
theorem Rp_lessAhead {h : s_H} {s : Nat → Int} {A : Nat → Nat → Int} (hv : RV h s A) (g : Nat → Int) : RV (hp h 1337 (ab 21 g)) s (up A 1337 g) := RV_put hv (c := 1337) (by decide) (by decide) g
theorem Ra_sumSign {h : s_H} {s : Nat → Int} {A : Nat → Nat → Int} (hv : RV h s A) : s_get h 1338 = some (ai 21 (A 1338)) := hv.2 1338 (by decide) (by decide)
theorem Rp_sumSign {h : s_H} {s : Nat → Int} {A : Nat → Nat → Int} (hv : RV h s A) (g : Nat → Int) : RV (hp h 1338 (ai 21 g)) s (up A 1338 g) := RV_put hv (c := 1338) (by decide) (by decide) g
theorem Ra_termSign {h : s_H} {s : Nat → Int} {A : Nat → Nat → Int} (hv : RV h s A) : s_get h 1339 = some (ai 21 (A 1339)) := hv.2 1339 (by decide) (by decide)
theorem Rp_termSign {h : s_H} {s : Nat → Int} {A : Nat → Nat → Int} (hv : RV h s A) (g : Nat → Int) : RV (hp h 1339 (ai 21 g)) s (up A 1339 g) := RV_put hv (c := 1339) (by decide) (by decide) g
theorem Ra_sumPlace {h : s_H} {s : Nat → Int} {A : Nat → Nat → Int} (hv : RV h s A) : s_get h 1340 = some (ai 21 (A 1340)) := hv.2 1340 (by decide) (by decide)
theorem Rp_sumPlace {h : s_H} {s : Nat → Int} {A : Nat → Nat → Int} (hv : RV h s A) (g : Nat → Int) : RV (hp h 1340 (ai 21 g)) s (up A 1340 g) := RV_put hv (c := 1340) (by decide) (by decide) g
theorem Ra_termPlace {h : s_H} {s : Nat → Int} {A : Nat → Nat → Int} (hv : RV h s A) : s_get h 1341 = some (ai 21 (A 1341)) := hv.2 1341 (by decide) (by decide)
theorem Rp_termPlace {h : s_H} {s : Nat → Int} {A : Nat → Nat → Int} (hv : RV h s A) (g : Nat → Int) : RV (hp h 1341 (ai 21 g)) s (up A 1341 g) := RV_put hv (c := 1341) (by decide) (by decide) g
theorem Ra_sumTop {h : s_H} {s : Nat → Int} {A : Nat → Nat → Int} (hv : RV h s A) : s_get h 1342 = some (al 861 (A 1342)) := hv.2 1342 (by decide) (by decide)
theorem Rp_sumTop {h : s_H} {s : Nat → Int} {A : Nat → Nat → Int} (hv : RV h s A) (g : Nat → Int) : RV (hp h 1342 (al 861 g)) s (up A 1342 g) := RV_put hv (c := 1342) (by decide) (by decide) g
theorem Ra_sumBottom {h : s_H} {s : Nat → Int} {A : Nat → Nat → Int} (hv : RV h s A) : s_get h 1343 = some (al 861 (A 1343)) := hv.2 1343 (by decide) (by decide)
theorem Rp_sumBottom {h : s_H} {s : Nat → Int} {A : Nat → Nat → Int} (hv : RV h s A) (g : Nat → Int) : RV (hp h 1343 (al 861 g)) s (up A 1343 g) := RV_put hv (c := 1343) (by decide) (by decide) g
theorem Ra_termTop {h : s_H} {s : Nat → Int} {A : Nat → Nat → Int} (hv : RV h s A) : s_get h 1344 = some (al 861 (A 1344)) := hv.2 1344 (by decide) (by decide)
theorem Rp_termTop {h : s_H} {s : Nat → Int} {A : Nat → Nat → Int} (hv : RV h s A) (g : Nat → Int) : RV (hp h 1344 (al 861 g)) s (up A 1344 g) := RV_put hv (c := 1344) (by decide) (by decide) g
theorem Ra_termBottom {h : s_H} {s : Nat → Int} {A : Nat → Nat → Int} (hv : RV h s A) : s_get h 1345 = some (al 861 (A 1345)) := hv.2 1345 (by decide) (by decide)
theorem Rp_termBottom {h : s_H} {s : Nat → Int} {A : Nat → Nat → Int} (hv : RV h s A) (g : Nat → Int) : RV (hp h 1345 (al 861 g)) s (up A 1345 g) := RV_put hv (c := 1345) (by decide) (by decide) g
theorem Ra_claimTop {h : s_H} {s : Nat → Int} {A : Nat → Nat → Int} (hv : RV h s A) : s_get h 1346 = some (al 176 (A 1346)) := hv.2 1346 (by decide) (by decide)
theorem Rp_claimTop {h : s_H} {s : Nat → Int} {A : Nat → Nat → Int} (hv : RV h s A) (g : Nat → Int) : RV (hp h 1346 (al 176 g)) s (up A 1346 g) := RV_put hv (c := 1346) (by decide) (by decide) g
theorem Ra_claimBottom {h : s_H} {s : Nat → Int} {A : Nat → Nat → Int} (hv : RV h s A) : s_get h 1347 = some (al 176 (A 1347)) := hv.2 1347 (by decide) (by decide)
theorem Rp_claimBottom {h : s_H} {s : Nat → Int} {A : Nat → Nat → Int} (hv : RV h s A) (g : Nat → Int) : RV (hp h 1347 (al 176 g)) s (up A 1347 g) := RV_put hv (c := 1347) (by decide) (by decide) g
theorem Ra_out {h : s_H} {s : Nat → Int} {A : Nat → Nat → Int} (hv : RV h s A) : s_get h 1348 = some (ai 1200 (A 1348)) := hv.2 1348 (by decide) (by decide)
theorem Rp_out {h : s_H} {s : Nat → Int} {A : Nat → Nat → Int} (hv : RV h s A) (g : Nat → Int) : RV (hp h 1348 (ai 1200 g)) s (up A 1348 g) := RV_put hv (c := 1348) (by decide) (by decide) g
theorem Ra_sizes {h : s_H} {s : Nat → Int} {A : Nat → Nat → Int} (hv : RV h s A) : s_get h 1349 = some (ai 150 (A 1349)) := hv.2 1349 (by decide) (by decide)
theorem Rp_sizes {h : s_H} {s : Nat → Int} {A : Nat → Nat → Int} (hv : RV h s A) (g : Nat → Int) : RV (hp h 1349 (ai 150 g)) s (up A 1349 g) := RV_put hv (c := 1349) (by decide) (by decide) g
theorem Ra_sorts {h : s_H} {s : Nat → Int} {A : Nat → Nat → Int} (hv : RV h s A) : s_get h 1350 = some (ai 30000 (A 1350)) := hv.2 1350 (by decide) (by decide)
theorem Rp_sorts {h : s_H} {s : Nat → Int} {A : Nat → Nat → Int} (hv : RV h s A) (g : Nat → Int) : RV (hp h 1350 (ai 30000 g)) s (up A 1350 g) := RV_put hv (c := 1350) (by decide) (by decide) g
theorem Ra_values {h : s_H} {s : Nat → Int} {A : Nat → Nat → Int} (hv : RV h s A) : s_get h 1351 = some (ai 30000 (A 1351)) := hv.2 1351 (by decide) (by decide)
theorem Rp_values {h : s_H} {s : Nat → Int} {A : Nat → Nat → Int} (hv : RV h s A) (g : Nat → Int) : RV (hp h 1351 (ai 30000 g)) s (up A 1351 g) := RV_put hv (c := 1351) (by decide) (by decide) g
theorem Ra_nodeSort {h : s_H} {s : Nat → Int} {A : Nat → Nat → Int} (hv : RV h s A) : s_get h 1352 = some (ai 420 (A 1352)) := hv.2 1352 (by decide) (by decide)
theorem Rp_nodeSort {h : s_H} {s : Nat → Int} {A : Nat → Nat → Int} (hv : RV h s A) (g : Nat → Int) : RV (hp h 1352 (ai 420 g)) s (up A 1352 g) := RV_put hv (c := 1352) (by decide) (by decide) g
theorem Ra_nodeValue {h : s_H} {s : Nat → Int} {A : Nat → Nat → Int} (hv : RV h s A) : s_get h 1353 = some (ai 420 (A 1353)) := hv.2 1353 (by decide) (by decide)
theorem Rp_nodeValue {h : s_H} {s : Nat → Int} {A : Nat → Nat → Int} (hv : RV h s A) (g : Nat → Int) : RV (hp h 1353 (ai 420 g)) s (up A 1353 g) := RV_put hv (c := 1353) (by decide) (by decide) g
theorem Ra_newSort {h : s_H} {s : Nat → Int} {A : Nat → Nat → Int} (hv : RV h s A) : s_get h 1354 = some (ai 420 (A 1354)) := hv.2 1354 (by decide) (by decide)
theorem Rp_newSort {h : s_H} {s : Nat → Int} {A : Nat → Nat → Int} (hv : RV h s A) (g : Nat → Int) : RV (hp h 1354 (ai 420 g)) s (up A 1354 g) := RV_put hv (c := 1354) (by decide) (by decide) g
theorem Ra_newValue {h : s_H} {s : Nat → Int} {A : Nat → Nat → Int} (hv : RV h s A) : s_get h 1355 = some (ai 420 (A 1355)) := hv.2 1355 (by decide) (by decide)
theorem Rp_newValue {h : s_H} {s : Nat → Int} {A : Nat → Nat → Int} (hv : RV h s A) (g : Nat → Int) : RV (hp h 1355 (ai 420 g)) s (up A 1355 g) := RV_put hv (c := 1355) (by decide) (by decide) g
theorem Ra_emitSort {h : s_H} {s : Nat → Int} {A : Nat → Nat → Int} (hv : RV h s A) : s_get h 1356 = some (ai 200 (A 1356)) := hv.2 1356 (by decide) (by decide)
theorem Rp_emitSort {h : s_H} {s : Nat → Int} {A : Nat → Nat → Int} (hv : RV h s A) (g : Nat → Int) : RV (hp h 1356 (ai 200 g)) s (up A 1356 g) := RV_put hv (c := 1356) (by decide) (by decide) g
theorem Ra_emitValue {h : s_H} {s : Nat → Int} {A : Nat → Nat → Int} (hv : RV h s A) : s_get h 1357 = some (ai 200 (A 1357)) := hv.2 1357 (by decide) (by decide)
theorem Rp_emitValue {h : s_H} {s : Nat → Int} {A : Nat → Nat → Int} (hv : RV h s A) (g : Nat → Int) : RV (hp h 1357 (ai 200 g)) s (up A 1357 g) := RV_put hv (c := 1357) (by decide) (by decide) g
theorem Ra_firstPart {h : s_H} {s : Nat → Int} {A : Nat → Nat → Int} (hv : RV h s A) : s_get h 1358 = some (ai 200 (A 1358)) := hv.2 1358 (by decide) (by decide)
theorem Rp_firstPart {h : s_H} {s : Nat → Int} {A : Nat → Nat → Int} (hv : RV h s A) (g : Nat → Int) : RV (hp h 1358 (ai 200 g)) s (up A 1358 g) := RV_put hv (c := 1358) (by decide) (by decide) g
theorem Ra_secondPart {h : s_H} {s : Nat → Int} {A : Nat → Nat → Int} (hv : RV h s A) : s_get h 1359 = some (ai 200 (A 1359)) := hv.2 1359 (by decide) (by decide)
theorem Rp_secondPart {h : s_H} {s : Nat → Int} {A : Nat → Nat → Int} (hv : RV h s A) (g : Nat → Int) : RV (hp h 1359 (ai 200 g)) s (up A 1359 g) := RV_put hv (c := 1359) (by decide) (by decide) g
theorem Ra_pile {h : s_H} {s : Nat → Int} {A : Nat → Nat → Int} (hv : RV h s A) : s_get h 1360 = some (ai 1000 (A 1360)) := hv.2 1360 (by decide) (by decide)
theorem Rp_pile {h : s_H} {s : Nat → Int} {A : Nat → Nat → Int} (hv : RV h s A) (g : Nat → Int) : RV (hp h 1360 (ai 1000 g)) s (up A 1360 g) := RV_put hv (c := 1360) (by decide) (by decide) g
theorem Ra_worthTop {h : s_H} {s : Nat → Int} {A : Nat → Nat → Int} (hv : RV h s A) : s_get h 1361 = some (al 8200 (A 1361)) := hv.2 1361 (by decide) (by decide)
theorem Rp_worthTop {h : s_H} {s : Nat → Int} {A : Nat → Nat → Int} (hv : RV h s A) (g : Nat → Int) : RV (hp h 1361 (al 8200 g)) s (up A 1361 g) := RV_put hv (c := 1361) (by decide) (by decide) g
theorem Ra_worthBottom {h : s_H} {s : Nat → Int} {A : Nat → Nat → Int} (hv : RV h s A) : s_get h 1362 = some (al 8200 (A 1362)) := hv.2 1362 (by decide) (by decide)
theorem Rp_worthBottom {h : s_H} {s : Nat → Int} {A : Nat → Nat → Int} (hv : RV h s A) (g : Nat → Int) : RV (hp h 1362 (al 8200 g)) s (up A 1362 g) := RV_put hv (c := 1362) (by decide) (by decide) g
theorem Ra_deep {h : s_H} {s : Nat → Int} {A : Nat → Nat → Int} (hv : RV h s A) : s_get h 1363 = some (ai 200 (A 1363)) := hv.2 1363 (by decide) (by decide)
theorem Rp_deep {h : s_H} {s : Nat → Int} {A : Nat → Nat → Int} (hv : RV h s A) (g : Nat → Int) : RV (hp h 1363 (ai 200 g)) s (up A 1363 g) := RV_put hv (c := 1363) (by decide) (by decide) g
theorem Ra_failed {h : s_H} {s : Nat → Int} {A : Nat → Nat → Int} (hv : RV h s A) : s_get h 1364 = some (ai 200 (A 1364)) := hv.2 1364 (by decide) (by decide)
theorem Rp_failed {h : s_H} {s : Nat → Int} {A : Nat → Nat → Int} (hv : RV h s A) (g : Nat → Int) : RV (hp h 1364 (ai 200 g)) s (up A 1364 g) := RV_put hv (c := 1364) (by decide) (by decide) g
theorem Ra_rowNode {h : s_H} {s : Nat → Int} {A : Nat → Nat → Int} (hv : RV h s A) : s_get h 1365 = some (ai 200 (A 1365)) := hv.2 1365 (by decide) (by decide)
theorem Rp_rowNode {h : s_H} {s : Nat → Int} {A : Nat → Nat → Int} (hv : RV h s A) (g : Nat → Int) : RV (hp h 1365 (ai 200 g)) s (up A 1365 g) := RV_put hv (c := 1365) (by decide) (by decide) g
theorem Ra_rowLaw {h : s_H} {s : Nat → Int} {A : Nat → Nat → Int} (hv : RV h s A) : s_get h 1366 = some (ai 200 (A 1366)) := hv.2 1366 (by decide) (by decide)
theorem Rp_rowLaw {h : s_H} {s : Nat → Int} {A : Nat → Nat → Int} (hv : RV h s A) (g : Nat → Int) : RV (hp h 1366 (ai 200 g)) s (up A 1366 g) := RV_put hv (c := 1366) (by decide) (by decide) g
theorem Ra_cellLength {h : s_H} {s : Nat → Int} {A : Nat → Nat → Int} (hv : RV h s A) : s_get h 1367 = some (ai 16 (A 1367)) := hv.2 1367 (by decide) (by decide)
theorem Rp_cellLength {h : s_H} {s : Nat → Int} {A : Nat → Nat → Int} (hv : RV h s A) (g : Nat → Int) : RV (hp h 1367 (ai 16 g)) s (up A 1367 g) := RV_put hv (c := 1367) (by decide) (by decide) g
theorem Ra_cellText {h : s_H} {s : Nat → Int} {A : Nat → Nat → Int} (hv : RV h s A) : s_get h 1368 = some (ai 960 (A 1368)) := hv.2 1368 (by decide) (by decide)
theorem Rp_cellText {h : s_H} {s : Nat → Int} {A : Nat → Nat → Int} (hv : RV h s A) (g : Nat → Int) : RV (hp h 1368 (ai 960 g)) s (up A 1368 g) := RV_put hv (c := 1368) (by decide) (by decide) g
theorem Ra_cellTop {h : s_H} {s : Nat → Int} {A : Nat → Nat → Int} (hv : RV h s A) : s_get h 1369 = some (ai 656 (A 1369)) := hv.2 1369 (by decide) (by decide)
theorem Rp_cellTop {h : s_H} {s : Nat → Int} {A : Nat → Nat → Int} (hv : RV h s A) (g : Nat → Int) : RV (hp h 1369 (ai 656 g)) s (up A 1369 g) := RV_put hv (c := 1369) (by decide) (by decide) g
theorem Ra_cellBottom {h : s_H} {s : Nat → Int} {A : Nat → Nat → Int} (hv : RV h s A) : s_get h 1370 = some (ai 656 (A 1370)) := hv.2 1370 (by decide) (by decide)
theorem Rp_cellBottom {h : s_H} {s : Nat → Int} {A : Nat → Nat → Int} (hv : RV h s A) (g : Nat → Int) : RV (hp h 1370 (ai 656 g)) s (up A 1370 g) := RV_put hv (c := 1370) (by decide) (by decide) g
theorem Ra_cellFault {h : s_H} {s : Nat → Int} {A : Nat → Nat → Int} (hv : RV h s A) : s_get h 1371 = some (ai 16 (A 1371)) := hv.2 1371 (by decide) (by decide)
theorem Rp_cellFault {h : s_H} {s : Nat → Int} {A : Nat → Nat → Int} (hv : RV h s A) (g : Nat → Int) : RV (hp h 1371 (ai 16 g)) s (up A 1371 g) := RV_put hv (c := 1371) (by decide) (by decide) g
theorem Ra_cellPlace {h : s_H} {s : Nat → Int} {A : Nat → Nat → Int} (hv : RV h s A) : s_get h 1372 = some (ai 16 (A 1372)) := hv.2 1372 (by decide) (by decide)
theorem Rp_cellPlace {h : s_H} {s : Nat → Int} {A : Nat → Nat → Int} (hv : RV h s A) (g : Nat → Int) : RV (hp h 1372 (ai 16 g)) s (up A 1372 g) := RV_put hv (c := 1372) (by decide) (by decide) g
theorem Ra_enteredAt {h : s_H} {s : Nat → Int} {A : Nat → Nat → Int} (hv : RV h s A) : s_get h 1373 = some (ai 16 (A 1373)) := hv.2 1373 (by decide) (by decide)
theorem Rp_enteredAt {h : s_H} {s : Nat → Int} {A : Nat → Nat → Int} (hv : RV h s A) (g : Nat → Int) : RV (hp h 1373 (ai 16 g)) s (up A 1373 g) := RV_put hv (c := 1373) (by decide) (by decide) g
theorem Ra_workedAt {h : s_H} {s : Nat → Int} {A : Nat → Nat → Int} (hv : RV h s A) : s_get h 1374 = some (ai 16 (A 1374)) := hv.2 1374 (by decide) (by decide)
theorem Rp_workedAt {h : s_H} {s : Nat → Int} {A : Nat → Nat → Int} (hv : RV h s A) (g : Nat → Int) : RV (hp h 1374 (ai 16 g)) s (up A 1374 g) := RV_put hv (c := 1374) (by decide) (by decide) g
