/-! the class's algebra: the rows in hand as one list -/
/-- n rows are lent above k of others, and they hold the polynomials of l -/
def RW (h : s_H) (k n : Nat) (l : List zp_R) : Prop := AL h (k + n) ∧ k + n ≤ 16 ∧ l.length = n ∧ ∀ (j : Nat) (f : zp_R), l[j]? = some f → PF h (7 + 2 * (k + j)) 192 f
theorem RW_0 {h : s_H} {k : Nat} (A : AL h k) (hk : k ≤ 16) : RW h k 0 [] := ⟨A, hk, rfl, fun j f e => by simp at e⟩
theorem RW_p {h : s_H} {k n : Nat} {l : List zp_R} (R : RW h k n l) (j : Nat) {f : zp_R} (e : l[j]? = some f) : PF h (7 + 2 * (k + j)) 192 f := R.2.2.2 j f e
/-- the numbers of a cell -/
noncomputable def pcf (h : s_H) (p : Nat) : List Term := match s_get h p with
  | some c => c.2.2
  | none => []
theorem PO_c {h : s_H} {p L : Nat} {d : Int} {g : Nat → Int} (H : PO h p L d g) : s_get h p = some (1, 4, pcf h p) := by
  unfold pcf
  rw [H.2.1]
theorem PF_c {h : s_H} {p L : Nat} {f : zp_R} (H : PF h p L f) : s_get h p = some (1, 4, pcf h p) := by
  obtain ⟨_, _, P, _⟩ := H
  exact PO_c P
theorem PE_c {h : s_H} {p L : Nat} (H : PE h p L) : s_get h p = some (1, 4, pcf h p) := by
  obtain ⟨⟨_, _, P, _⟩, _⟩ := H
  exact PO_c P
theorem PW_c {h : s_H} {p L : Nat} {f : zp_R} (H : PW h p L f) : s_get h p = some (1, 4, pcf h p) := by
  obtain ⟨_, _, P, _⟩ := H
  exact PO_c P
theorem RW_c {h : s_H} {k n : Nat} {l : List zp_R} (R : RW h k n l) (j : Nat) {f : zp_R} (e : l[j]? = some f) : s_get h (7 + 2 * (k + j)) = some (1, 4, pcf h (7 + 2 * (k + j))) := PF_c (RW_p R j e)
theorem RW_j {h : s_H} {k n : Nat} {l : List zp_R} (R : RW h k n l) {j : Nat} (jn : j < n) : ∃ f, l[j]? = some f := by
  have : j < l.length := by rw [R.2.2.1]; exact jn
  exact ⟨l[j], List.getElem?_eq_getElem this⟩
theorem set_get {l : List zp_R} {i j : Nat} {f x : zp_R} (e : (l.set j f)[i]? = some x) : (i = j ∧ x = f) ∨ (i ≠ j ∧ l[i]? = some x) := by
  by_cases q : i = j
  · subst q
    rw [List.getElem?_set] at e
    split at e
    · split at e
      · exact .inl ⟨rfl, (Option.some.inj e).symm⟩
      · exact absurd e (by simp)
    · exact absurd rfl (by assumption)
  · rw [List.getElem?_set_ne (fun w => q w.symm)] at e
    exact .inr ⟨q, e⟩
/-- two rows, and a row and another place, are apart -/
theorem aR {k i j : Nat} (ne : i ≠ j) : apt (7 + 2 * (k + i)) (7 + 2 * (k + j)) := by unfold apt; omega
theorem aX {k j p : Nat} (o : okp k p) (b : k + j < 16) : apt p (7 + 2 * (k + j)) := apt_row o (by omega) b
theorem fD {f : zp_R} {n : Nat} (df : zp_deg f n) {L : Int} (hL : (n : Int) ≤ L) : ∀ e, dgp f e → e < L := fun e he => Int.not_le.mp (fun q => he.2.2 e.toNat (by omega) (df e.toNat (by omega)))
theorem fP {h : s_H} {p L : Nat} {f : zp_R} (H : PF h p L f) {M : Int} (hL : (L : Int) ≤ M) : ∀ e, dgp f e → e < M := fun e he => by have := PF_lt H e he; omega
theorem nilA {q : Nat} : ∀ p, p ∈ ([] : List Nat) → apt q p := fun _ q => absurd q List.not_mem_nil
theorem RW_U {h h' : s_H} {k n : Nat} {l : List zp_R} (R : RW h k n l) {j : Nat} (jn : j < n) {f : zp_R} (F : FU [7 + 2 * (k + j)] h h') (P : PF h' (7 + 2 * (k + j)) 192 f) : RW h' k n (l.set j f) ∧ FA [] k h h' := by
  obtain ⟨A, kn, ln, g⟩ := R
  refine ⟨⟨AL_1 A F (okw_row (k := k + n) (i := k + j) (by omega)) kn P, kn, by rw [List.length_set]; exact ln, fun i x e => ?_⟩, FA_U F (fun p hp => .inr (by rw [List.mem_singleton.mp hp]; omega))⟩
  rcases set_get e with ⟨q, x1⟩ | ⟨q, x1⟩
  · subst q x1
    exact P
  · exact PF_keep (g i x x1) F (fun p hp => by rw [List.mem_singleton.mp hp]; exact aR q)
theorem RW_A {h h' : s_H} {k n : Nat} {l : List zp_R} (R : RW h k n l) {j : Nat} (jn : j < n) {f : zp_R} (F : FA [7 + 2 * (k + j)] (k + n) h h') (A' : AL h' (k + n)) (P : PF h' (7 + 2 * (k + j)) 192 f) : RW h' k n (l.set j f) ∧ FA [] k h h' := by
  obtain ⟨A, kn, ln, g⟩ := R
  refine ⟨⟨A', kn, by rw [List.length_set]; exact ln, fun i x e => ?_⟩, FA_sub F (by omega) (fun p hp => .inr (by rw [List.mem_singleton.mp hp]; omega))⟩
  rcases set_get e with ⟨q, x1⟩ | ⟨q, x1⟩
  · subst q x1
    exact P
  · have : i < n := by
      rw [← ln]
      exact (List.getElem?_eq_some_iff.mp x1).1
    exact PF_A (g i x x1) F (.inl ⟨by omega, by omega⟩) (fun p hp => by rw [List.mem_singleton.mp hp]; exact aR q)
/-- something else has changed -/
theorem RW_x {h h' : s_H} {k n : Nat} {l : List zp_R} {S : List Nat} (R : RW h k n l) (F : FA S (k + n) h h') (A' : AL h' (k + n)) (s : ∀ p, p ∈ S → 39 ≤ p ∨ p + 1 < 7 + 2 * k) : RW h' k n l := by
  obtain ⟨A, kn, ln, g⟩ := R
  refine ⟨A', kn, ln, fun i x e => ?_⟩
  have : i < n := by
    rw [← ln]
    exact (List.getElem?_eq_some_iff.mp e).1
  exact PF_A (g i x e) F (.inl ⟨by omega, by omega⟩) (fun p hp => by have := s p hp; unfold apt; omega)
theorem RW_xU {h h' : s_H} {k n : Nat} {l : List zp_R} {S : List Nat} (R : RW h k n l) (F : FU S h h') (s : ∀ p, p ∈ S → 39 ≤ p) : RW h' k n l := RW_x R (FA_of F) (AL_U R.1 F (fun p hp => .inl (s p hp))) (fun p hp => .inl (s p hp))
theorem FA_0 {S : List Nat} {k k' : Nat} {h h' : s_H} (F : FA [] k' h h') (kk : k ≤ k') : FA S k h h' := FA_sub F kk (fun _ q => absurd q List.not_mem_nil)
section
variable {D d nx kc ks k n : Nat} {cd : s_Cd} {hd : List s_Hd} {ls rest : List Term} {Q : s_O → Prop} {h h0 : s_H} {l : List zp_R} {S : List Nat}
theorem r_lend (R : RW h k n l) (E : FA S k h0 h) (kn : k + n < 16) (K : ∀ h', RW h' k (n + 1) (l ++ [zp_C 0]) → FA S k h0 h' → wr sw_P d cd hd (nx, ls, .index (7 + 2 * (k + n)) :: rest, h', kc, ks) Q) : wm sw_P (D + 1) 109 [.index 5] h (wq sw_P d cd hd nx ls rest kc ks Q) := by
  obtain ⟨A, kn', ln, g⟩ := R
  refine wm_mono (wq_AA (fun h' ⟨A', P⟩ F => K h' ⟨A', by omega, by rw [List.length_append, ln]; rfl, fun i x e => ?_⟩ (FA_trans E (FA_0 F (by omega))))) (u_lend A kn)
  by_cases q : i < n
  · rw [List.getElem?_append_left (by omega)] at e
    exact PF_A (g i x e) F (.inl ⟨by omega, by omega⟩) nilA
  · rw [List.getElem?_append_right (l₂ := [zp_C 0]) (show l.length ≤ i by omega), ln] at e
    have i0 : i - n = 0 := by
      by_cases z : i - n = 0
      · exact z
      · have z' : ([zp_C 0] : List zp_R)[i - n]? = none := List.getElem?_eq_none (by show 1 ≤ i - n; omega)
        rw [z'] at e
        exact absurd e (by simp)
    rw [i0] at e
    have ex : zp_C 0 = x := Option.some.inj e
    have ei : i = n := by omega
    subst ei ex
    exact P
/-- the rows come back; what stood in them stands there still -/
theorem r_release (R : RW h k n l) (E : FA S k h0 h) (K : ∀ h', AL h' k → (∀ j, j ≠ 5 → s_get h' j = s_get h j) → FA S k h0 h' → wr sw_P d cd hd (nx, ls, rest, h', kc, ks) Q) : wm sw_P (D + 1) 113 [.index 5, vi (k : Int)] h (wq sw_P d cd hd nx ls rest kc ks Q) :=
  wm_mono (wq_AN (fun h' o F A => K h' A o (FA_trans E (FA_0 F (Nat.le_refl _))))) (u_release R.1 (by have := R.2.1; omega))
theorem r_copy (R : RW h k n l) (E : FA S k h0 h) (j : Nat) (jn : j < n) {a La : Nat} {f : zp_R} (ha : PF h a La f) (ap : apt a (7 + 2 * (k + j))) (fit : ∀ e, dgp f e → e < 192) (K : ∀ h', RW h' k n (l.set j f) → FA S k h0 h' → wr sw_P d cd hd (nx, ls, rest, h', kc, ks) Q) : wm sw_P (D + 1) 179 [.index (7 + 2 * (k + j)), .index a] h (wq sw_P d cd hd nx ls rest kc ks Q) := by
  obtain ⟨x, ex⟩ := RW_j R jn
  obtain ⟨e, _, _, b, _⟩ := id ha
  refine wm_mono (wq_U (fun h' P F => ?_)) (u_setCopy (PF_E (RW_p R j ex)) ha ap b (fit e b))
  obtain ⟨a1, a2⟩ := RW_U R jn F P
  exact K h' a1 (FA_trans E (FA_0 a2 (Nat.le_refl _)))
theorem r_number (R : RW h k n l) (E : FA S k h0 h) (j : Nat) (jn : j < n) {x : Int} (hx : 0 ≤ x ∧ x < 32003) (K : ∀ h', RW h' k n (l.set j (zp_C (nF x))) → FA S k h0 h' → wr sw_P d cd hd (nx, ls, rest, h', kc, ks) Q) : wm sw_P (D + 1) 180 [.index (7 + 2 * (k + j)), vi x] h (wq sw_P d cd hd nx ls rest kc ks Q) := by
  obtain ⟨y, ey⟩ := RW_j R jn
  refine wm_mono (wq_U (fun h' P F => ?_)) (u_setNumber (PF_E (RW_p R j ey)) (by decide) hx)
  obtain ⟨a1, a2⟩ := RW_U R jn F P
  exact K h' a1 (FA_trans E (FA_0 a2 (Nat.le_refl _)))
theorem r_power (R : RW h k n l) (E : FA S k h0 h) (j : Nat) (jn : j < n) {m : Nat} (mL : m < 192) (K : ∀ h', RW h' k n (l.set j (zp_X m)) → FA S k h0 h' → wr sw_P d cd hd (nx, ls, rest, h', kc, ks) Q) : wm sw_P (D + 1) 181 [.index (7 + 2 * (k + j)), vi (m : Int)] h (wq sw_P d cd hd nx ls rest kc ks Q) := by
  obtain ⟨y, ey⟩ := RW_j R jn
  refine wm_mono (wq_U (fun h' P F => ?_)) (u_setPower (PF_E (RW_p R j ey)) mL)
  obtain ⟨a1, a2⟩ := RW_U R jn F P
  exact K h' a1 (FA_trans E (FA_0 a2 (Nat.le_refl _)))
theorem r_product (R : RW h k n l) (E : FA S k h0 h) (j : Nat) (jn : j < n) {a b La Lb : Nat} {f1 f2 : zp_R} (ha : PF h a La f1) (hb : PF h b Lb f2) (ap : apt a (7 + 2 * (k + j))) (bp : apt b (7 + 2 * (k + j))) (fit : ∀ e, dgp (zp_mul f1 f2) e → e < 192) (K : ∀ h', RW h' k n (l.set j (zp_mul f1 f2)) → FA S k h0 h' → wr sw_P d cd hd (nx, ls, rest, h', kc, ks) Q) : wm sw_P (D + 1) 182 [.index (7 + 2 * (k + j)), .index a, .index b] h (wq sw_P d cd hd nx ls rest kc ks Q) := by
  obtain ⟨y, ey⟩ := RW_j R jn
  refine wm_mono (wq_U (fun h' P F => ?_)) (u_setProduct (PF_E (RW_p R j ey)) (by decide) (PF_W ha) (PF_W hb) ap bp fit)
  obtain ⟨a1, a2⟩ := RW_U R jn F P
  exact K h' a1 (FA_trans E (FA_0 a2 (Nat.le_refl _)))
theorem r_sum (R : RW h k n l) (E : FA S k h0 h) (j : Nat) (jn : j < n) {a b La Lb : Nat} {f1 f2 : zp_R} (ha : PF h a La f1) (hb : PF h b Lb f2) (ap : apt a (7 + 2 * (k + j))) (bp : apt b (7 + 2 * (k + j))) {x : Int} (hx : 0 ≤ x ∧ x ≤ 32003) (l1 : ∀ e, dgp f1 e → e < 192) (l2 : ∀ e, dgp f2 e → e < 192) (K : ∀ h', RW h' k n (l.set j (zp_add f1 (zp_mul (zp_C (nF x)) f2))) → FA S k h0 h' → wr sw_P d cd hd (nx, ls, rest, h', kc, ks) Q) : wm sw_P (D + 2) 184 [.index (7 + 2 * (k + j)), .index a, .index b, vi x] h (wq sw_P d cd hd nx ls rest kc ks Q) := by
  obtain ⟨y, ey⟩ := RW_j R jn
  refine wm_mono (wq_U (fun h' P F => ?_)) (u_setSum (PF_E (RW_p R j ey)) ha hb ap bp hx l1 l2)
  obtain ⟨a1, a2⟩ := RW_U R jn F P
  exact K h' a1 (FA_trans E (FA_0 a2 (Nat.le_refl _)))
/-- a row plus something times another -/
theorem r_sum1 (R : RW h k n l) (E : FA S k h0 h) (j : Nat) (jn : j < n) {b Lb : Nat} {f1 f2 : zp_R} (e1 : l[j]? = some f1) (hb : PF h b Lb f2) (bp : apt b (7 + 2 * (k + j))) {x : Int} (hx : 0 ≤ x ∧ x ≤ 32003) (l2 : ∀ e, dgp f2 e → e < 192) (K : ∀ h', RW h' k n (l.set j (zp_add f1 (zp_mul (zp_C (nF x)) f2))) → FA S k h0 h' → wr sw_P d cd hd (nx, ls, rest, h', kc, ks) Q) : wm sw_P (D + 2) 184 [.index (7 + 2 * (k + j)), .index (7 + 2 * (k + j)), .index b, vi x] h (wq sw_P d cd hd nx ls rest kc ks Q) := by
  refine wm_mono (wq_U (fun h' P F => ?_)) (u_setSum1 (RW_p R j e1) hb bp hx l2)
  obtain ⟨a1, a2⟩ := RW_U R jn F P
  exact K h' a1 (FA_trans E (FA_0 a2 (Nat.le_refl _)))
theorem r_sum2 (R : RW h k n l) (E : FA S k h0 h) (j : Nat) (jn : j < n) {a La : Nat} {f1 f2 : zp_R} (ha : PF h a La f1) (e2 : l[j]? = some f2) (ap : apt a (7 + 2 * (k + j))) {x : Int} (hx : 0 ≤ x ∧ x ≤ 32003) (l1 : ∀ e, dgp f1 e → e < 192) (K : ∀ h', RW h' k n (l.set j (zp_add f1 (zp_mul (zp_C (nF x)) f2))) → FA S k h0 h' → wr sw_P d cd hd (nx, ls, rest, h', kc, ks) Q) : wm sw_P (D + 2) 184 [.index (7 + 2 * (k + j)), .index a, .index (7 + 2 * (k + j)), vi x] h (wq sw_P d cd hd nx ls rest kc ks Q) := by
  refine wm_mono (wq_U (fun h' P F => ?_)) (u_setSum2 ha (RW_p R j e2) ap hx l1)
  obtain ⟨a1, a2⟩ := RW_U R jn F P
  exact K h' a1 (FA_trans E (FA_0 a2 (Nat.le_refl _)))
theorem r_scale (R : RW h k n l) (E : FA S k h0 h) (j : Nat) (jn : j < n) {f : zp_R} (e : l[j]? = some f) {x : Int} (hx : 0 ≤ x ∧ x < 32003) (K : ∀ h', RW h' k n (l.set j (zp_mul (zp_C (nF x)) f)) → FA S k h0 h' → wr sw_P d cd hd (nx, ls, rest, h', kc, ks) Q) : wm sw_P (D + 1) 178 [.index (7 + 2 * (k + j)), vi x] h (wq sw_P d cd hd nx ls rest kc ks Q) := by
  refine wm_mono (wq_U (fun h' P F => ?_)) (u_scale (RW_p R j e) hx)
  obtain ⟨a1, a2⟩ := RW_U R jn F P
  exact K h' a1 (FA_trans E (FA_0 a2 (Nat.le_refl _)))
theorem r_monic (R : RW h k n l) (E : FA S k h0 h) (j : Nat) (jn : j < n) {f : zp_R} (e : l[j]? = some f) {m : Nat} (hm : dgp f m) (K : ∀ h', RW h' k n (l.set j (zp_mul (zp_C (f.1 m ^ 32001)) f)) → FA S k h0 h' → wr sw_P d cd hd (nx, ls, rest, h', kc, ks) Q) : wm sw_P (D + 2) 173 [.index (7 + 2 * (k + j))] h (wq sw_P d cd hd nx ls rest kc ks Q) := by
  refine wm_mono (wq_U (fun h' P F => ?_)) (u_makeMonic (RW_p R j e) hm)
  rw [if_pos (by omega), show ((m : Int).toNat) = m by omega] at P
  obtain ⟨a1, a2⟩ := RW_U R jn F P
  exact K h' a1 (FA_trans E (FA_0 a2 (Nat.le_refl _)))
theorem r_slope (R : RW h k n l) (E : FA S k h0 h) (j : Nat) (jn : j < n) {f : zp_R} (e : l[j]? = some f) {m : Nat} (hm : dgp f m) (K : ∀ h', RW h' k n (l.set j (zp_D f)) → FA S k h0 h' → wr sw_P d cd hd (nx, ls, rest, h', kc, ks) Q) : wm sw_P (D + 2) 174 [.index (7 + 2 * (k + j))] h (wq sw_P d cd hd nx ls rest kc ks Q) := by
  refine wm_mono (wq_U (fun h' P F => ?_)) (u_makeSlope (RW_p R j e) hm (by omega) (by have := PF_lt (RW_p R j e) m hm; omega))
  obtain ⟨a1, a2⟩ := RW_U R jn F P
  exact K h' a1 (FA_trans E (FA_0 a2 (Nat.le_refl _)))
theorem r_integral (R : RW h k n l) (E : FA S k h0 h) (j : Nat) (jn : j < n) {f : zp_R} (e : l[j]? = some f) (fit : ∀ e, dgp f e → e + 1 < 192) (K : ∀ h', RW h' k n (l.set j (zig f)) → FA S k h0 h' → wr sw_P d cd hd (nx, ls, rest, h', kc, ks) Q) : wm sw_P (D + 2) 172 [.index (7 + 2 * (k + j))] h (wq sw_P d cd hd nx ls rest kc ks Q) := by
  refine wm_mono (wq_U (fun h' P F => ?_)) (u_makeIntegral (RW_p R j e) fit)
  obtain ⟨a1, a2⟩ := RW_U R jn F P
  exact K h' a1 (FA_trans E (FA_0 a2 (Nat.le_refl _)))
theorem r_shift (R : RW h k n l) (E : FA S k h0 h) (j : Nat) (jn : j < n) {f : zp_R} (e : l[j]? = some f) (df : zp_deg f 176) {z : Int} (hz : In3 z) (K : ∀ h', RW h' k n (l.set j (mvf f (nF z))) → FA S k h0 h' → wr sw_P d cd hd (nx, ls, rest, h', kc, ks) Q) : wm sw_P (D + 2) 185 [.index (7 + 2 * (k + j)), vi z] h (wq sw_P d cd hd nx ls rest kc ks Q) := by
  refine wm_mono (wq_U (fun h' P F => ?_)) (u_shift (RW_p R j e) df hz)
  obtain ⟨a1, a2⟩ := RW_U R jn F P
  exact K h' a1 (FA_trans E (FA_0 a2 (Nat.le_refl _)))
theorem r_row (R : RW h k n l) (E : FA S k h0 h) (j : Nat) (jn : j < n) {r Lr : Nat} {v : Nat → Int} (gr0 : s_get h r = some (ai Lr v)) (r39 : 39 ≤ r) (R1 : Lr ≤ 100000) {x m : Nat} (x1 : x ≤ 100000) (mL : m ≤ 192) {f : zp_R} (G : ∀ i, i < m → cf f i = if x + i < Lr then v (x + i) else 0) (df : zp_deg f m) (K : ∀ h', RW h' k n (l.set j f) → FA S k h0 h' → wr sw_P d cd hd (nx, ls, rest, h', kc, ks) Q) : wm sw_P (D + 2) 183 [.index (7 + 2 * (k + j)), .index r, vi (x : Int), vi (m : Int)] h (wq sw_P d cd hd nx ls rest kc ks Q) := by
  obtain ⟨y, ey⟩ := RW_j R jn
  have kn := R.2.1
  refine wm_mono (wq_U (fun h' P F => ?_)) (u_setRow (PF_E (RW_p R j ey)) gr0 (by omega) R1 x1 mL G df)
  obtain ⟨a1, a2⟩ := RW_U R jn F P
  exact K h' a1 (FA_trans E (FA_0 a2 (Nat.le_refl _)))
/-- a row by another polynomial: what is left, no quotient -/
theorem r_reduce (R : RW h k n l) (E : FA S k h0 h) (j : Nat) (jn : j < n) {f g : zp_R} (e : l[j]? = some f) {q Lg : Nat} (hg : PF h q Lg g) {m : Nat} (dg : dgp g m) (ap : apt q (7 + 2 * (k + j))) {v : Int} (v0 : 0 ≤ v ∧ v ≤ 32002) (hv : nF v * g.1 m = 1) (K : ∀ T W h', f = zp_add (zp_mul g T) W → zp_deg W m → RW h' k n (l.set j W) → FA S k h0 h' → wr sw_P d cd hd (nx, ls, rest, h', kc, ks) Q) : wm sw_P (D + 1) 176 [.index (7 + 2 * (k + j)), .index q, vi v, .null] h (wq sw_P d cd hd nx ls rest kc ks Q) := by
  refine wm_mono (fun out => ?_) (u_reduceBy (RW_p R j e) hg dg ap v0 hv (rq := none) (Lq := 0) (fun r hr => nomatch hr))
  intro ⟨T, W, e1, dW, U⟩
  refine wq_U (fun h' ⟨P, _⟩ F => ?_) out U
  obtain ⟨a1, a2⟩ := RW_U R jn F P
  exact K T W h' e1 dW a1 (FA_trans E (FA_0 a2 (Nat.le_refl _)))
/-- the same, with the quotient in a row -/
theorem r_reduceQ (R : RW h k n l) (E : FA S k h0 h) (j i : Nat) (jn : j < n) (il : i < n) (ij : i ≠ j) {f g : zp_R} (e : l[j]? = some f) {q Lg : Nat} (hg : PF h q Lg g) {m : Nat} (dg : dgp g m) (ap : apt q (7 + 2 * (k + j))) (aq : apt q (7 + 2 * (k + i))) {v : Int} (v0 : 0 ≤ v ∧ v ≤ 32002) (hv : nF v * g.1 m = 1) (K : ∀ T W h', f = zp_add (zp_mul g T) W → zp_deg W m → RW h' k n ((l.set j W).set i T) → FA S k h0 h' → wr sw_P d cd hd (nx, ls, rest, h', kc, ks) Q) : wm sw_P (D + 1) 176 [.index (7 + 2 * (k + j)), .index q, vi v, .index (7 + 2 * (k + i))] h (wq sw_P d cd hd nx ls rest kc ks Q) := by
  obtain ⟨y, ey⟩ := RW_j R il
  have l192 := PF_lt (RW_p R j e)
  refine wm_mono (fun out => ?_) (u_reduceBy (RW_p R j e) hg dg ap v0 hv (rq := some (7 + 2 * (k + i))) (Lq := 192) (fun r hr => by
    have er : 7 + 2 * (k + i) = r := Option.some.inj hr
    subst er
    exact ⟨PF_E (RW_p R i ey), aR ij, aq, fun e he => by have := l192 e he; omega⟩))
  intro ⟨T, W, e1, dW, U⟩
  refine wq_U (fun h' ⟨P, T'⟩ F => ?_) out U
  have T2 : PF h' (7 + 2 * (k + i)) 192 T := T'
  have F2 : FU [7 + 2 * (k + j), 7 + 2 * (k + i)] h h' := F
  obtain ⟨A, kn, ln, g⟩ := R
  have m2 : ∀ {p}, p ∈ [7 + 2 * (k + j), 7 + 2 * (k + i)] → p = 7 + 2 * (k + j) ∨ p = 7 + 2 * (k + i) := fun hp => by
    rcases List.mem_cons.mp hp with w | w
    · exact .inl w
    · exact .inr (List.mem_singleton.mp w)
  refine K T W h' e1 dW ⟨AL_U A F2 (fun p hp => ?_), kn, by rw [List.length_set, List.length_set]; exact ln, fun i' x ex => ?_⟩ (FA_trans E (FA_U F2 (fun p hp => .inr (by rcases m2 hp with w | w <;> omega))))
  · rcases m2 hp with w | w
    · rw [w]; exact .inr ⟨k + j, by omega, rfl, PF_E P⟩
    · rw [w]; exact .inr ⟨k + i, by omega, rfl, PF_E T2⟩
  · rcases set_get ex with ⟨q1, x1⟩ | ⟨q1, ex⟩
    · subst q1 x1
      exact T2
    · rcases set_get ex with ⟨q2, x1⟩ | ⟨q2, ex⟩
      · subst q2 x1
        exact P
      · refine PF_keep (g i' x ex) F2 (fun p hp => ?_)
        rcases m2 hp with w | w
        · rw [w]; exact aR q2
        · rw [w]; exact aR q1
theorem r_multiply (R : RW h k n l) (E : FA S k h0 h) (kn : k + n < 16) (j : Nat) (jn : j < n) {b Lb : Nat} {f1 f2 : zp_R} (e : l[j]? = some f1) (hb : PF h b Lb f2) (ob : okp (k + n) b) (fit : ∀ e, dgp (zp_mul f1 f2) e → e < 192) (K : ∀ h', RW h' k n (l.set j (zp_mul f1 f2)) → FA S k h0 h' → wr sw_P d cd hd (nx, ls, rest, h', kc, ks) Q) : wm sw_P (D + 2) 111 [.index 5, .index (7 + 2 * (k + j)), .index b] h (wq sw_P d cd hd nx ls rest kc ks Q) := by
  refine wm_mono (wq_AN (fun h' P F A => ?_)) (u_multiply R.1 kn (RW_p R j e) hb (okw_row (i := k + j) (by omega)) ob (fun e he => ⟨fit e he, fit e he⟩))
  obtain ⟨a1, a2⟩ := RW_A R jn F A P
  exact K h' a1 (FA_trans E (FA_0 a2 (Nat.le_refl _)))
theorem r_divided (R : RW h k n l) (E : FA S k h0 h) (kn : k + n + 1 < 16) (j : Nat) (jn : j < n) {a b La Lb : Nat} {F G : zp_R} (ha : PF h a La F) (hb : PF h b Lb G) (oa : okp (k + n) a) (ob : okp (k + n) b) {m : Nat} (dG : dgp G m) (dF : ∀ e, dgp F e → e < 192) {z : Int} (iz : In3 z) (fit : ∀ T W, F = zp_add (zp_mul G T) W → zp_deg W m → ∀ e, dgp (if z = 0 then W else T) e → e < 192) (K : ∀ T W h', F = zp_add (zp_mul G T) W → zp_deg W m → RW h' k n (l.set j (if z = 0 then W else T)) → FA S k h0 h' → wr sw_P d cd hd (nx, ls, rest, h', kc, ks) Q) : wm sw_P (D + 2) 117 [.index 5, .index a, .index b, vi z, .index (7 + 2 * (k + j))] h (wq sw_P d cd hd nx ls rest kc ks Q) := by
  obtain ⟨y, ey⟩ := RW_j R jn
  refine wm_mono (wq_AN (fun h' ⟨T, W, e1, dW, P⟩ F A => ?_)) (u_setDivided R.1 kn ha hb (PF_E (RW_p R j ey)) oa ob (okw_row (i := k + j) (by omega)) dG dF iz fit)
  obtain ⟨a1, a2⟩ := RW_A R jn F A P
  exact K T W h' e1 dW a1 (FA_trans E (FA_0 a2 (Nat.le_refl _)))
theorem r_common (R : RW h k n l) (E : FA S k h0 h) (kn : k + n + 1 < 16) (j : Nat) (jn : j < n) {a b La Lb : Nat} {F G : zp_R} (ha : PF h a La F) (hb : PF h b Lb G) (oa : okp (k + n) a) (ob : okp (k + n) b) (dF : ∀ e, dgp F e → e < 192) (dG : ∀ e, dgp G e → e < 192) (fit : ∀ C, isG F G C → ∀ e, dgp C e → e < 192) (K : ∀ C h', isG F G C → RW h' k n (l.set j C) → FA S k h0 h' → wr sw_P d cd hd (nx, ls, rest, h', kc, ks) Q) : wm sw_P (D + 2) 116 [.index 5, .index a, .index b, .index (7 + 2 * (k + j))] h (wq sw_P d cd hd nx ls rest kc ks Q) := by
  obtain ⟨y, ey⟩ := RW_j R jn
  refine wm_mono (wq_AN (fun h' ⟨C, gC, P⟩ F A => ?_)) (u_setCommon R.1 kn ha hb (PF_E (RW_p R j ey)) oa ob (okw_row (i := k + j) (by omega)) dF dG fit)
  obtain ⟨a1, a2⟩ := RW_A R jn F A P
  exact K C h' gC a1 (FA_trans E (FA_0 a2 (Nat.le_refl _)))
theorem r_inverse (R : RW h k n l) (E : FA S k h0 h) (kn : k + n + 5 < 16) (j : Nat) (jn : j < n) {a b La Lb dm : Nat} {Aa M : zp_R} (ha : PF h a La Aa) (hb : PF h b Lb M) (oa : okp (k + n) a) (ob : okp (k + n) b) (dM : dgp M dm) (dm1 : 1 ≤ dm) (dm2 : dm < 192) (dA : ∀ e, dgp Aa e → e < 192) (one : lin M Aa (zp_C 1)) (K : ∀ W h', lvs Aa M W (zp_C 1) → zp_deg W dm → RW h' k n (l.set j W) → FA S k h0 h' → wr sw_P d cd hd (nx, ls, rest, h', kc, ks) Q) : wm sw_P (D + 3) 119 [.index 5, .index a, .index b, .index (7 + 2 * (k + j))] h (wq sw_P d cd hd nx ls rest kc ks Q) := by
  obtain ⟨y, ey⟩ := RW_j R jn
  refine wm_mono (wq_AN (fun h' ⟨W, e1, dW, P⟩ F A => ?_)) (u_setInverse R.1 kn ha hb (PF_E (RW_p R j ey)) oa ob (okw_row (i := k + j) (by omega)) dM dm1 (by omega) dm2 dA one)
  obtain ⟨a1, a2⟩ := RW_A R jn F A P
  exact K W h' e1 dW a1 (FA_trans E (FA_0 a2 (Nat.le_refl _)))
/-- reading a number of a polynomial, and its first one -/
theorem r_coef {p L : Nat} {f : zp_R} (hf : PF h p L f) {i : Nat} (i1 : i ≤ 100000) (K : wr sw_P d cd hd (nx, ls, vi (cf f i) :: rest, h, kc, ks) Q) : wm sw_P (D + 1) 167 [.index p, vi (i : Int)] h (wq sw_P d cd hd nx ls rest kc ks Q) := by
  refine wm_mono (wq_r ?_) (u_coef hf (x := (i : Int)) (by unfold In3; omega))
  rw [if_pos (by omega), show ((i : Int).toNat) = i by omega]
  exact K
theorem r_lead {p L : Nat} {f : zp_R} (hf : PF h p L f) {m : Nat} (dm : dgp f m) (K : wr sw_P d cd hd (nx, ls, vi ((f.1 m).val : Int) :: rest, h, kc, ks) Q) : wm sw_P (D + 1) 171 [.index p] h (wq sw_P d cd hd nx ls rest kc ks Q) := by
  refine wm_mono (wq_r ?_) (u_lead hf dm)
  rw [if_pos (by omega), show ((m : Int).toNat) = m by omega]
  exact K
/-- the inverse of a number that isn't 0 -/
theorem r_inv (c : zp_F) (c0 : c ≠ 0) (K : ∀ v : Int, 0 ≤ v ∧ v ≤ 32002 → nF v * c = 1 → nF v = c ^ 32001 → wr sw_P d cd hd (nx, ls, vi v :: rest, h, kc, ks) Q) : wm sw_P (D + 1) 168 [vi (c.val : Int)] h (wq sw_P d cd hd nx ls rest kc ks Q) := by
  have vc := c.isLt
  refine wm_mono (wq_r ?_) (u_inverseOf (v := c.val) vc)
  rw [nF_val]
  have vI := (c ^ 32001 : zp_F).isLt
  exact K _ ⟨by omega, by omega⟩ (by rw [nF_val, zp_h20]; exact zp_inv c0) (nF_val _)
end
