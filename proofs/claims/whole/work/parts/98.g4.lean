/-! the reference's reader: what every step keeps -/
def rdF : List Nat := [55, 56, 59, 71, 72, 75, 76, 88]
def rdL : List Nat := [1298, 1299, 1300, 1301, 1302, 1303, 1304, 1305, 1306, 1307, 1308, 1309, 1310, 1311, 1312, 1335, 1336, 1337, 1338, 1339, 1340, 1341, 1342, 1343, 1344, 1345, 1346, 1347, 1356, 1357]
def kf (s s' : Nat → Int) : Prop := ∀ j, rdF.contains j = false → s' j = s j
theorem kf_up {s s' : Nat → Int} (k : kf s s') {c : Nat} (z : Int) (hc : rdF.contains c = true) : kf s (up s' c z) := fun j hj => by
  rw [up_ne _ _ (fun q => by rw [q, hc] at hj; cases hj)]
  exact k j hj
theorem kf_0 {s : Nat → Int} : kf s s := fun _ _ => rfl
def bl (x : Int) : Prop := x = 0 ∨ x = 1
/-- the sheet's fractions -/
def ShF (A : Nat → Nat → Int) : Prop := ∀ c, c < 16 → A 1373 c < A 1374 c → A 1371 c = 0 → ∃ a b, fp A 1369 c = cf a ∧ fp A 1370 c = cf b ∧ zp_deg a 41 ∧ zp_deg b 41 ∧ mo b ∧ co a b
/-- what the reader stands on -/
def rdE (s : Nat → Int) (A : Nat → Nat → Int) (T : Nat → th) : Prop := SX s A ∧ ShB A ∧ (∀ i, i < 656 → In3 (A 1369 i) ∧ In3 (A 1370 i)) ∧ ShF A ∧ RI s A T
theorem rdE_to {s s' : Nat → Int} {A B : Nat → Nat → Int} {T : Nat → th} (h : rdE s A T) (m : sm A B rdL) (k : kf s s') : rdE s' B T := by
  obtain ⟨h1, h2, h3, h4, h5⟩ := h
  have r : ∀ x, rdL.contains x = false → B x = A x := m
  have f : ∀ x c, rdL.contains x = false → fp B x c = fp A x c := fun x c hx => by
    unfold fp
    rw [r x hx]
  refine ⟨?_, ?_, ?_, ?_, RI_st h5 (fun j hj => m j ?_) (k 1 rfl)⟩
  · unfold SX at *
    rw [k 52 rfl, r 1334 rfl]
    exact h1
  · unfold ShB at *
    rw [r 1367 rfl, r 1371 rfl, r 1372 rfl, r 1373 rfl, r 1374 rfl, r 1368 rfl]
    exact h2
  · rw [r 1369 rfl, r 1370 rfl]
    exact h3
  · unfold ShF at *
    intro c hc
    rw [r 1373 rfl, r 1374 rfl, r 1371 rfl, f 1369 c rfl, f 1370 c rfl]
    exact h4 c hc
  · have : sto.all (fun j => !rdL.contains j) = true := rfl
    rw [List.all_eq_true] at this
    have w := this j (List.contains_iff_mem.mp hj)
    rw [Bool.not_eq_true'] at w
    exact w
def stf (A : Nat → Nat → Int) (t b k : Nat) : Prop := ∃ p q, fp A t k = cf p ∧ fp A b k = cf q ∧ zp_deg p 41 ∧ zp_deg q 41 ∧ mo q ∧ co p q
theorem stf_to {A B : Nat → Nat → Int} {t b k : Nat} (h : stf A t b k) (e1 : fp B t k = fp A t k) (e2 : fp B b k = fp A b k) : stf B t b k := by
  obtain ⟨p, q, x1, x2, x3⟩ := h
  exact ⟨p, q, e1.trans x1, e2.trans x2, x3⟩
theorem stf_pfn {A B : Nat → Nat → Int} {t b k : Nat} {x y : zp_R} (e1 : pfn A B t k x) (e2 : pfn A B b k y) (dx : zp_deg x 41) (dy : zp_deg y 41) (m : mo y) (c : co x y) : stf B t b k := ⟨x, y, e1.1, e2.1, dx, dy, m, c⟩
/-- an open bracket -/
def frk (A : Nat → Nat → Int) (k : Nat) : Prop := (bl (A 1335 k) ∧ bl (A 1336 k) ∧ bl (A 1337 k)) ∧ (A 1335 k ≠ 0 → (A 1338 k = 43 ∨ A 1338 k = 45) ∧ (0 ≤ A 1340 k ∧ A 1340 k ≤ 200) ∧ stf A 1342 1343 k) ∧ (A 1336 k ≠ 0 → (A 1339 k = 42 ∨ A 1339 k = 47) ∧ (0 ≤ A 1341 k ∧ A 1341 k ≤ 200) ∧ stf A 1344 1345 k)
theorem frk_to {A B : Nat → Nat → Int} {k : Nat} (h : frk A k) (e5 : B 1335 k = A 1335 k) (e6 : B 1336 k = A 1336 k) (e7 : bl (B 1337 k)) (e8 : B 1338 k = A 1338 k) (e9 : B 1339 k = A 1339 k) (ea : B 1340 k = A 1340 k) (eb : B 1341 k = A 1341 k) (f : ∀ x, x = 1342 ∨ x = 1343 ∨ x = 1344 ∨ x = 1345 → fp B x k = fp A x k) : frk B k := by
  obtain ⟨⟨a1, a2, a3⟩, b, c⟩ := h
  unfold frk
  rw [e5, e6, e8, e9, ea, eb]
  exact ⟨⟨a1, a2, e7⟩, fun w => ⟨(b w).1, (b w).2.1, stf_to (b w).2.2 (f 1342 (by omega)) (f 1343 (by omega))⟩, fun w => ⟨(c w).1, (c w).2.1, stf_to (c w).2.2 (f 1344 (by omega)) (f 1345 (by omega))⟩⟩
theorem frk_sm {A B : Nat → Nat → Int} {k : Nat} (h : frk A k) (e : ∀ x, 1335 ≤ x → x ≤ 1345 → B x = A x) : frk B k := by
  refine frk_to h (by rw [e 1335 (by decide) (by decide)]) (by rw [e 1336 (by decide) (by decide)]) (by rw [e 1337 (by decide) (by decide)]; exact h.1.2.2) (by rw [e 1338 (by decide) (by decide)]) (by rw [e 1339 (by decide) (by decide)]) (by rw [e 1340 (by decide) (by decide)]) (by rw [e 1341 (by decide) (by decide)]) (fun x hx => ?_)
  unfold fp
  rw [e x (by omega) (by omega)]
def frn (A : Nat → Nat → Int) (k : Nat) : Int := A 1335 k + A 1336 k + A 1337 k
def tot (A : Nat → Nat → Int) : Nat → Int
  | 0 => frn A 0
  | n + 1 => tot A n + frn A (n + 1)
theorem tot_to {A B : Nat → Nat → Int} : ∀ n, (∀ k, k ≤ n → frn B k = frn A k) → tot B n = tot A n
  | 0, h => h 0 (Nat.le_refl _)
  | n + 1, h => by
    unfold tot
    rw [tot_to n (fun k hk => h k (by omega)), h (n + 1) (Nat.le_refl _)]
theorem tot_top {A B : Nat → Nat → Int} : ∀ n, (∀ k, k < n → frn B k = frn A k) → tot B n = tot A n + frn B n - frn A n
  | 0, _ => by
    unfold tot
    omega
  | n + 1, h => by
    unfold tot
    rw [tot_to n (fun k hk => h k (by omega))]
    omega
theorem frn_b {A : Nat → Nat → Int} {k : Nat} (h : frk A k) : 0 ≤ frn A k ∧ frn A k ≤ 3 := by
  obtain ⟨⟨a1, a2, a3⟩, _⟩ := h
  unfold bl at *
  unfold frn
  omega
theorem tot_ge {A : Nat → Nat → Int} : ∀ n, (∀ k, k ≤ n → frk A k) → frn A n ≤ tot A n ∧ 0 ≤ tot A n
  | 0, h => ⟨Int.le_refl _, (frn_b (h 0 (Nat.le_refl _))).1⟩
  | n + 1, h => by
    have a := tot_ge n (fun k hk => h k (by omega))
    have b := frn_b (h (n + 1) (Nat.le_refl _))
    unfold tot
    omega
def stc (A : Nat → Nat → Int) : Prop := ∃ a b, A 1346 = cf a ∧ A 1347 = cf b ∧ zp_deg a 41 ∧ zp_deg b 41 ∧ mo b ∧ co a b
/-- the reader stands at i, n brackets are open, e nodes were put down -/
def cfg (s : Nat → Int) (A : Nat → Nat → Int) (i n e : Nat) : Prop := (s 55 = 0 ∧ s 56 = -1 ∧ s 76 = -1 ∧ bl (s 75)) ∧ (s 71 = (i : Int) ∧ (i : Int) ≤ s 52) ∧ (s 59 = (n : Int) ∧ n ≤ 20) ∧ s 88 = (e : Int) ∧ (∀ k, k ≤ n → frk A k) ∧ (e : Int) + tot A n ≤ (i : Int) ∧ (s 75 = 1 → stc A) ∧ ((s 72 = 0 ∨ s 72 = 1) ∨ ((s 72 = 2 ∨ s 72 = 3) ∧ ∃ a b, frc A a b))
/-- the text is read -/
def fin_ (m : Int) (s : Nat → Int) (A : Nat → Nat → Int) : Prop := s 55 = 0 ∧ s 56 = -1 ∧ s 76 = -1 ∧ s 72 = 4 ∧ (∃ a b, frc A a b) ∧ (∃ e : Nat, s 88 = (e : Int) ∧ e ≤ 200) ∧ (m = 3 → stc A)
/-- what a step leaves -/
def stq (s : Nat → Int) (A : Nat → Nat → Int) (i : Nat) (s' : Nat → Int) (A' : Nat → Nat → Int) : Prop := kf s s' ∧ sm A A' rdL ∧ (((1 ≤ s' 55 ∧ s' 55 ≤ 7) ∧ (0 ≤ s' 56 ∧ s' 56 ≤ 300) ∧ s' 76 = -1) ∨ ((s' 55 = 0 ∧ s' 56 = -1 ∧ 2 ≤ s 54) ∧ ∃ c : Nat, c < 16 ∧ s' 76 = (c : Int) ∧ due A c ∧ byt s A i = 65 + (c : Int)) ∨ fin_ (s 54) s' A' ∨ ∃ i' n' e', i < i' ∧ cfg s' A' i' n' e')
theorem stq_bad {s s1 s' : Nat → Int} {A A' : Nat → Nat → Int} {i : Nat} {w pl : Int} (k : kf s s1) (e76 : s1 76 = -1) (m : sm A A' rdL) (e : s' = fl1 s1 w pl) (hw : 1 ≤ w ∧ w ≤ 7) (hp2 : 0 ≤ pl ∧ pl ≤ 300) : stq s A i s' A' := by
  rw [e]
  refine ⟨kf_up (kf_up k _ rfl) _ rfl, m, .inl ⟨?_, ?_, ?_⟩⟩
  · unfold fl1
    rw [up_ne _ _ (by decide), up_at]
    exact hw
  · unfold fl1
    rw [up_at]
    exact hp2
  · unfold fl1
    rw [up_ne _ _ (by decide), up_ne _ _ (by decide)]
    exact e76
theorem frc_C (z : zp_F) {A : Nat → Nat → Int} (e1 : A 1302 = cf (zp_C z)) (e2 : A 1303 = cf (zp_C 1)) : frc A (zp_C z) (zp_C 1) := ⟨e1, e2, deg_le (zp_C_deg z) (by decide), deg_le (zp_C_deg 1) (by decide), ⟨0, rfl, zp_C_deg 1⟩, co_1 _⟩
