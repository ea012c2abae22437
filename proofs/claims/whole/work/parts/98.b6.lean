/-! the wider picture: more rows and numbers that nothing speaks of -/
def scrA : List Nat := [1298, 1299, 1300, 1301, 1302, 1303, 1304, 1305, 1306, 1307, 1308, 1309, 1310, 1311, 1312, 1313, 1314, 1315, 1316, 1317, 1318, 1319, 1320, 1321, 1322, 1323, 1324, 1325, 1326, 1327, 1328, 1329, 1330, 1331, 1332, 1334, 1335, 1336, 1337, 1338, 1339, 1340, 1341, 1342, 1343, 1344, 1345, 1346, 1347, 1348, 1352, 1353, 1354, 1355, 1356, 1357, 1358, 1359, 1360, 1361, 1362, 1363, 1364]
def ssc : List Nat := [0, 26, 32, 33, 35, 37, 52, 54, 55, 56, 59, 71, 72, 75, 76, 77, 82, 85, 88]
/-- numbers unchanged but such as nothing speaks of (and the code) -/
def sq (s s' : Nat → Int) : Prop := ∀ j, ssc.contains j = false → s' j = s j
theorem sq_refl (s : Nat → Int) : sq s s := fun _ _ => rfl
theorem sq_tr {s s' s'' : Nat → Int} (a : sq s s') (b : sq s' s'') : sq s s'' := fun j hj => (b j hj).trans (a j hj)
theorem sq_up {s s' : Nat → Int} (a : sq s s') {c : Nat} (z : Int) (hc : ssc.contains c = true) : sq s (up s' c z) := fun j hj => by
  rw [up_ne _ _ (fun e => by rw [e, hc] at hj; exact Bool.noConfusion hj)]
  exact a j hj
theorem sq_1 {s s' : Nat → Int} (a : sq s s') : s' 1 = s 1 := a 1 rfl
theorem RI_st {s s' : Nat → Int} {A B : Nat → Nat → Int} {T : Nat → th} (h : RI s A T) (m : ∀ j, sto.contains j = true → B j = A j) (es : s' 1 = s 1) : RI s' B T := by
  have a0 : B 1291 = A 1291 := m 1291 rfl
  have a1 : B 1292 = A 1292 := m 1292 rfl
  have a2 : B 1293 = A 1293 := m 1293 rfl
  have a3 : B 1294 = A 1294 := m 1294 rfl
  have a4 : B 1295 = A 1295 := m 1295 rfl
  have a5 : B 1296 = A 1296 := m 1296 rfl
  refine ⟨?_, by rw [a5]; exact h.2.1, fun i hi2 => ?_⟩
  · unfold RB
    rw [es, a0, a1, a2]
    exact h.1
  · rw [es] at hi2
    exact isT_same (h.2.2 i hi2) (by rw [a0]) (by unfold fp; rw [a1]) (by unfold fp; rw [a2]) (by rw [a3]) (by rw [a4]) (fun _ _ _ _ => by unfold me; rw [a5]) (m 1349 rfl) (m 1350 rfl) (m 1351 rfl)
theorem sto_scrA {j : Nat} (h : sto.contains j = true) : scrA.contains j = false := by
  have : sto.all (fun j => scrA.contains j == false) = true := by decide +kernel
  rw [List.all_eq_true] at this
  have := this j (List.contains_iff_mem.mp h)
  exact eq_of_beq this
theorem RI_a {s s' : Nat → Int} {A B : Nat → Nat → Int} {T : Nat → th} (h : RI s A T) (m : sm A B scrA) (es : sq s s') : RI s' B T := RI_st h (fun j hj => m j (sto_scrA hj)) (sq_1 es)
theorem RI_k {s s' : Nat → Int} {A B : Nat → Nat → Int} {T : Nat → th} {c : Nat} (h : RI s A T) (o : ∀ x, x ≠ c → B x = A x) (hc : sto.contains c = false) (es : s' 1 = s 1) : RI s' B T := RI_st h (fun j hj => o j (fun e => by rw [e, hc] at hj; exact Bool.noConfusion hj)) es
theorem scr_A {A B : Nat → Nat → Int} (m : sm A B scr) : sm A B scrA := sm_sub m rfl
/-- a call's end, told by the wider picture -/
def endz (s : Nat → Int) (A : Nat → Nat → Int) (T : Nat → th) (res : Sum th Int) : Term → (Nat → Int) → (Nat → Nat → Int) → Prop := fun v s' A' => sm A A' (sto ++ scrA) ∧ (∀ j, j ≠ 1 → ssc.contains j = false → s' j = s j) ∧ match res with
  | .inl t => v = vi (s 1) ∧ s' 0 = 0 ∧ s' 1 = s 1 + 1 ∧ RI s' A' (up T (s 1).toNat t)
  | .inr k => v = vi 0 ∧ s' 0 = k ∧ s' 1 = s 1 ∧ RI s' A' T
theorem endz_of {s s1 : Nat → Int} {A B : Nat → Nat → Int} {T : Nat → th} {res : Sum th Int} {v : Term} {s' : Nat → Int} {A' : Nat → Nat → Int} (φ : ends s1 B T res v s' A') (e : sq s s1) (m : sm A B scrA) : endz s A T res v s' A' := by
  obtain ⟨z1, z2⟩ := φ
  have e1 := sq_1 e
  refine ⟨sm_tr (sm_sub m rfl) (sm_sub z1 rfl), ?_⟩
  rcases res with t | k
  · obtain ⟨y1, y2, y3⟩ := z2
    refine ⟨fun j h1 h0 => ?_, by rw [y1, e1], by rw [y2, up_ne _ _ (by decide), up_at], by rw [y2, up_at, e1], by rw [← e1]; exact y3⟩
    rw [y2, up_ne _ _ h1, up_ne _ _ (fun w => by rw [w] at h0; exact absurd h0 (by decide))]
    exact e j h0
  · obtain ⟨y1, y2, y3⟩ := z2
    refine ⟨fun j h1 h0 => ?_, y1, by rw [y2, up_at], by rw [y2, up_ne _ _ (by decide), e1], y3⟩
    rw [y2, up_ne _ _ (fun w => by rw [w] at h0; exact absurd h0 (by decide))]
    exact e j h0
theorem endz_vi {s : Nat → Int} {A : Nat → Nat → Int} {T : Nat → th} {res : Sum th Int} {v : Term} {s' : Nat → Int} {A' : Nat → Nat → Int} (h : endz s A T res v s' A') : ∃ u : Int, v = vi u := by
  rcases res with t | u
  · exact ⟨_, h.2.2.1⟩
  · exact ⟨_, h.2.2.1⟩
theorem up_same (s : Nat → Int) (j : Nat) : up s j (s j) = s := by
  funext x
  by_cases hx : x = j
  · rw [hx, up_at]
  · rw [up_ne _ _ hx]
/-- a fraction kept -/
theorem endz_kQ {s s1 : Nat → Int} {A B : Nat → Nat → Int} {T : Nat → th} {bad : Int} {N D : zp_R} (h : RI s A T) (e : sq s s1) (m : sm A B scrA) (hN : zp_deg N 176) (hD : zp_deg D 176) (mD : mo D) (hc : co N D) {v : Term} {s' : Nat → Int} {A' : Nat → Nat → Int} (φ : kQ s1 B bad N D v s' A') : ∃ res, (full s N D → res = .inr bad) ∧ (¬ full s N D → res = .inl (th_fr N D)) ∧ endz s A T res v s' A' := by
  have R1 := RI_a h m e
  obtain ⟨res, z1, z2, z3⟩ := ends_kQ (s1 0) R1 sm_refl hN hD mD hc (by rw [up_same]; exact φ)
  have ef : full s1 N D ↔ full s N D := by unfold full; rw [sq_1 e]
  exact ⟨res, fun w => z1 (ef.mpr w), fun w => z2 (fun q => w (ef.mp q)), endz_of z3 e m⟩
/-- a whole one kept -/
theorem endz_keeps {s s1 : Nat → Int} {A B : Nat → Nat → Int} {T : Nat → th} {bad : Int} {N : zp_R} (h : RI s A T) (e : sq s s1) (m : sm A B scrA) (hN : zp_deg N 176) {v : Term} {s' : Nat → Int} {A' : Nat → Nat → Int} (φ : kQ s1 B bad N (zp_C 1) v s' A') : ∃ res, keeps (s 1) N bad res ∧ endz s A T res v s' A' := by
  obtain ⟨res, z1, z2, z3⟩ := endz_kQ h e m hN (deg_le (zp_C_deg 1) (by decide)) ⟨0, rfl, zp_C_deg 1⟩ (co_1 N) φ
  exact ⟨res, ⟨z1, z2⟩, z3⟩
/-- a series kept -/
theorem endz_ksQ {s s1 : Nat → Int} {A B : Nat → Nat → Int} {T : Nat → th} {bad : Int} {f g : zp_R} (h : RI s A T) (e : sq s s1) (m : sm A B scrA) (hg : zp_deg g 25) (hfg : c25 f = cf g) {v : Term} {s' : Nat → Int} {A' : Nat → Nat → Int} (φ : ksQ s1 B bad f v s' A') : ∃ res, (s 1 = 150 → res = .inr bad) ∧ (s 1 ≠ 150 → res = .inl (th_se g)) ∧ endz s A T res v s' A' := by
  have R1 := RI_a h m e
  obtain ⟨res, z1, z2, z3⟩ := ends_ksQ (s1 0) R1 sm_refl hg hfg (by rw [up_same]; exact φ)
  rw [sq_1 e] at z1 z2
  exact ⟨res, z1, z2, endz_of z3 e m⟩
/-- a code and nothing more -/
theorem endz_bad {s s1 : Nat → Int} {A B : Nat → Nat → Int} {T : Nat → th} {k : Int} {v : Term} {s' : Nat → Int} {A' : Nat → Nat → Int} (h : RI s A T) (e : sq s s1) (m : sm A B scrA) (e1 : v = vi 0) (e2 : s' = up s1 0 k) (e3 : A' = B) : endz s A T (.inr k) v s' A' := by
  refine endz_of (s1 := s1) (B := B) ?_ e m
  exact ⟨by rw [e3]; exact sm_refl, e1, e2, by rw [e3]; exact RI_a h m (sq_tr e (by rw [e2]; exact sq_up (sq_refl s1) _ rfl))⟩
