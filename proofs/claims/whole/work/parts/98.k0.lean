/-! the class's algebra: rows that it lends, row i at 7 + 2 i -/
def rws : List Term := [.index 7, .index 9, .index 11, .index 13, .index 15, .index 17, .index 19, .index 21, .index 23, .index 25, .index 27, .index 29, .index 31, .index 33, .index 35, .index 37]
theorem rws_n {k : Nat} (hk : k < 16) : s_nth rws k = some (.index (7 + 2 * k)) := by
  match k, hk with
  | 0, _ => rfl
  | 1, _ => rfl
  | 2, _ => rfl
  | 3, _ => rfl
  | 4, _ => rfl
  | 5, _ => rfl
  | 6, _ => rfl
  | 7, _ => rfl
  | 8, _ => rfl
  | 9, _ => rfl
  | 10, _ => rfl
  | 11, _ => rfl
  | 12, _ => rfl
  | 13, _ => rfl
  | 14, _ => rfl
  | 15, _ => rfl
  | k + 16, hk => exact absurd hk (by omega)
/-- k rows are lent -/
def AL (h : s_H) (k : Nat) : Prop := s_get h 5 = some (1, 0, [.index 6, vi (k : Int)]) ∧ s_get h 6 = some (0, 2, rws) ∧ ∀ i, i < 16 → PE h (7 + 2 * i) 192
/-- nothing but the polynomials of S, the rows from k on and the count of what is lent has changed, and nothing is new -/
def FA (S : List Nat) (k : Nat) (h h' : s_H) : Prop := h'.1 = h.1 ∧ ∀ j, (∀ p, p ∈ S → j ≠ p ∧ j ≠ p + 1) → (j < 7 + 2 * k ∨ 39 ≤ j) → j ≠ 5 → s_get h' j = s_get h j
theorem FA_refl (S : List Nat) (k : Nat) (h : s_H) : FA S k h h := ⟨rfl, fun _ _ _ _ => rfl⟩
theorem FA_trans {S : List Nat} {k : Nat} {h h' h'' : s_H} (a : FA S k h h') (b : FA S k h' h'') : FA S k h h'' := ⟨b.1.trans a.1, fun j h1 h2 h3 => (b.2 j h1 h2 h3).trans (a.2 j h1 h2 h3)⟩
/-- rows from k on may be left out of the list -/
theorem FA_sub {S S' : List Nat} {k k' : Nat} {h h' : s_H} (a : FA S k h h') (kk : k' ≤ k) (s : ∀ p, p ∈ S → p ∈ S' ∨ (7 + 2 * k' ≤ p ∧ p < 38)) : FA S' k' h h' := ⟨a.1, fun j h1 h2 h3 => a.2 j (fun p hp => by
  rcases s p hp with w | w
  · exact h1 p w
  · omega) (by omega) h3⟩
theorem FA_of {S : List Nat} {k : Nat} {h h' : s_H} (a : FU S h h') : FA S k h h' := ⟨a.1, fun j h1 _ _ => a.2 j h1⟩
theorem FA_U {S S' : List Nat} {k : Nat} {h h' : s_H} (a : FU S h h') (s : ∀ p, p ∈ S → p ∈ S' ∨ (7 + 2 * k ≤ p ∧ p < 38)) : FA S' k h h' := FA_sub (FA_of (k := k) a) (Nat.le_refl _) s
/-- where a polynomial may lie that stays: a row lent before, or elsewhere -/
def okp (k p : Nat) : Prop := (7 ≤ p ∧ p + 1 < 7 + 2 * k) ∨ 39 ≤ p
theorem okp_le {k k' p : Nat} (h : okp k p) (kk : k ≤ k') : okp k' p := by
  unfold okp at *
  omega
theorem PO_A {S : List Nat} {k : Nat} {h h' : s_H} {q L : Nat} {d : Int} {g : Nat → Int} (hq : PO h q L d g) (a : FA S k h h') (o : okp k q) (s : ∀ p, p ∈ S → apt q p) : PO h' q L d g := by
  obtain ⟨h0, h1, h2⟩ := hq
  unfold okp at o
  refine ⟨h0, ?_, ?_⟩
  · rw [a.2 q (fun p hp => ⟨(s p hp).1, (s p hp).2.2⟩) (by omega) (by omega)]
    exact h1
  · rw [a.2 (q + 1) (fun p hp => ⟨(s p hp).2.1, fun e => (s p hp).1 (by omega)⟩) (by omega) (by omega)]
    exact h2
theorem PF_A {S : List Nat} {k : Nat} {h h' : s_H} {q L : Nat} {f : zp_R} (hq : PF h q L f) (a : FA S k h h') (o : okp k q) (s : ∀ p, p ∈ S → apt q p) : PF h' q L f := by
  obtain ⟨d, g, b, c⟩ := hq
  exact ⟨d, g, PO_A b a o s, c⟩
theorem PE_A {S : List Nat} {k : Nat} {h h' : s_H} {q L : Nat} (hq : PE h q L) (a : FA S k h h') (o : okp k q) (s : ∀ p, p ∈ S → apt q p) : PE h' q L := by
  obtain ⟨⟨d, g, b, c⟩, e⟩ := hq
  exact ⟨⟨d, g, PO_A b a o s, c⟩, e⟩
theorem AL_U {S : List Nat} {k : Nat} {h h' : s_H} (A : AL h k) (a : FU S h h') (s : ∀ p, p ∈ S → 39 ≤ p ∨ ∃ i, i < 16 ∧ p = 7 + 2 * i ∧ PE h' p 192) : AL h' k := by
  obtain ⟨a1, a2, a3⟩ := A
  have far : ∀ p, p ∈ S → 7 ≤ p := fun p hp => by
    rcases s p hp with w | ⟨i, _, w, _⟩ <;> omega
  refine ⟨?_, ?_, fun i hi2 => ?_⟩
  · rw [a.2 5 (fun p hp => by have := far p hp; omega)]
    exact a1
  · rw [a.2 6 (fun p hp => by have := far p hp; omega)]
    exact a2
  · by_cases m : (7 + 2 * i) ∈ S
    · rcases s _ m with w | ⟨_, _, _, w⟩
      · omega
      · exact w
    · refine PE_keep (a3 i hi2) a (fun p hp => ?_)
      rcases s p hp with w | ⟨j, _, w, _⟩
      · unfold apt
        omega
      · have : i ≠ j := fun e => m (by rw [e, ← w]; exact hp)
        unfold apt
        omega
/-- a method of the algebra's end: with no answer, and as many rows lent as before -/
def AN (S : List Nat) (k : Nat) (h : s_H) (φ : s_H → Prop) : s_O → Prop := fun out => ∃ h', φ h' ∧ FA S k h h' ∧ AL h' k ∧ out = (.inl none, h', 0, 0)
theorem wq_AN {P : s_P} {d : Nat} {cd : s_Cd} {hd : List s_Hd} {nx : Nat} {ls rest : List Term} {kc ks : Nat} {Q : s_O → Prop} {S : List Nat} {k0 : Nat} {h0 : s_H} {φ : s_H → Prop} (k : ∀ h', φ h' → FA S k0 h0 h' → AL h' k0 → wr P d cd hd (nx, ls, rest, h', kc, ks) Q) : ∀ out, AN S k0 h0 φ out → wq P d cd hd nx ls rest kc ks Q out := by
  intro out ⟨h', a, b, c, e⟩
  exact wq_v (k h' a b c) out e
/-- a method that answers a reference -/
def AA (S : List Nat) (k : Nat) (h : s_H) (t : Term) (φ : s_H → Prop) : s_O → Prop := fun out => ∃ h', φ h' ∧ FA S k h h' ∧ qr t h' out
theorem wq_AA {P : s_P} {d : Nat} {cd : s_Cd} {hd : List s_Hd} {nx : Nat} {ls rest : List Term} {kc ks : Nat} {Q : s_O → Prop} {S : List Nat} {k0 : Nat} {h0 : s_H} {t : Term} {φ : s_H → Prop} (k : ∀ h', φ h' → FA S k0 h0 h' → wr P d cd hd (nx, ls, t :: rest, h', kc, ks) Q) : ∀ out, AA S k0 h0 t φ out → wq P d cd hd nx ls rest kc ks Q out := by
  intro out ⟨h', a, b, e⟩
  exact wq_r (k h' a b) out e
section
variable {D : Nat} {h : s_H} {k : Nat}
theorem u_lend (A : AL h k) (hk : k < 16) : wm sw_P (D + 1) 109 [.index 5] h (AA [] k h (.index (7 + 2 * k)) (fun h' => AL h' (k + 1) ∧ PF h' (7 + 2 * k) 192 (zp_C 0))) := by
  obtain ⟨a1, a2, a3⟩ := A
  obtain ⟨⟨d, g, P, dn, dL⟩, lL⟩ := a3 k hk
  refine wm_in (cd := sw_c109) (nL := 2) (hd := sw_h109) rfl rfl ?_
  refine k109_0 (z5 := (k : Int)) a1 (fun w => absurd w (by omega)) (fun _ => k109_9 (z5 := (k : Int)) a1 ?_) (c7 := by unfold In3; omega)
  have ne5 : ∀ {C : s_C} {j : Nat}, j ≠ 5 → s_get (hp h 5 C) j = s_get h j := fun {C j} hj => hp_ne a1 hj
  have P1 : PO (hp h 5 (1, 0, [.index 6, vi ((k : Int) + 1)])) (7 + 2 * k) 192 d g := ⟨P.1, (ne5 (by omega)).trans P.2.1, (ne5 (by omega)).trans P.2.2⟩
  obtain ⟨P2, F2⟩ := PO_d P1 (-1)
  have n14 : s_nth rws (Int.toNat ((k : Int) + 1 - 1)) = some (.index (7 + 2 * k)) := by
    rw [show ((k : Int) + 1 - 1).toNat = k by omega]
    exact rws_n hk
  refine k109_19 (z7 := (k : Int) + 1) (a10 := rws) (f20 := [.index (7 + 2 * k + 1), vi d]) (v13 := .index (7 + 2 * k)) (hp_at a1) ((ne5 (by decide)).trans a2) P1.2.1 ?_ (n14 := n14) (c16 := by unfold In3; omega) (c17 := by omega)
  refine ⟨_, ⟨⟨?_, ?_, fun i hi2 => ?_⟩, ⟨-1, g, P2, dgp_C0, fun i hi2 => absurd hi2 (by omega), by omega, lL⟩⟩, ⟨rfl, fun j _ h2 h3 => ?_⟩, rfl⟩
  · refine (F2.2 5 (fun p hp => by rw [List.mem_singleton.mp hp]; omega)).trans ?_
    rw [hp_at a1]
    rfl
  · exact (F2.2 6 (fun p hp => by rw [List.mem_singleton.mp hp]; omega)).trans ((ne5 (by decide)).trans a2)
  · by_cases e : i = k
    · subst e
      exact ⟨⟨-1, g, P2, by decide, by omega⟩, lL⟩
    · obtain ⟨⟨di, gI, Pi, ci⟩, li⟩ := a3 i hi2
      have Pi1 : PO (hp h 5 (1, 0, [.index 6, vi ((k : Int) + 1)])) (7 + 2 * i) 192 di gI := ⟨Pi.1, (ne5 (by omega)).trans Pi.2.1, (ne5 (by omega)).trans Pi.2.2⟩
      exact ⟨⟨di, gI, PO_keep Pi1 F2 (fun p hp => by rw [List.mem_singleton.mp hp]; unfold apt; omega), ci⟩, li⟩
  · exact (F2.2 j (fun p hp => by rw [List.mem_singleton.mp hp]; omega)).trans (ne5 h3)
theorem u_release {k0 : Nat} (A : AL h k0) (hk : k ≤ 16) : wm sw_P (D + 1) 113 [.index 5, vi (k : Int)] h (AN [] k h (fun h' => ∀ j, j ≠ 5 → s_get h' j = s_get h j)) := by
  obtain ⟨a1, a2, a3⟩ := A
  refine wm_in (cd := sw_c113) (nL := 2) (hd := sw_h113) rfl rfl ?_
  have ne5 : ∀ {C : s_C} {j : Nat}, j ≠ 5 → s_get (hp h 5 C) j = s_get h j := fun {C j} hj => hp_ne a1 hj
  refine k113_0 (fun w => absurd w (by omega)) (fun _ => k113_5 (fun _ => k113_15 (k113_16 a1 ?_)) (fun w => absurd (by omega) w) (c1 := by unfold In3; omega)) (c2 := by unfold In3; omega)
  refine ⟨_, fun j hj => ne5 hj, ⟨rfl, fun j _ _ h3 => ne5 h3⟩, ⟨hp_at a1, (ne5 (by decide)).trans a2, fun i hi2 => ?_⟩, rfl⟩
  obtain ⟨⟨di, gI, Pi, ci⟩, li⟩ := a3 i hi2
  exact ⟨⟨di, gI, ⟨Pi.1, (ne5 (by omega)).trans Pi.2.1, (ne5 (by omega)).trans Pi.2.2⟩, ci⟩, li⟩
/-- a place where a polynomial may be put down: its room is 192 if it is a row -/
def okw (k p L : Nat) : Prop := (∃ i, i < k ∧ p = 7 + 2 * i ∧ L = 192) ∨ 39 ≤ p
theorem okw_p {k p L : Nat} (h : okw k p L) : okp k p := by
  unfold okp
  rcases h with ⟨i, h1, h2, _⟩ | h <;> omega
theorem okw_le {k k' p L : Nat} (h : okw k p L) (kk : k ≤ k') : okw k' p L := by
  rcases h with ⟨i, h1, h2, h3⟩ | h
  · exact .inl ⟨i, by omega, h2, h3⟩
  · exact .inr h
theorem okw_row {k i : Nat} (hi2 : i < k) : okw k (7 + 2 * i) 192 := .inl ⟨i, hi2, rfl, rfl⟩
theorem AL_1 {k k1 p L : Nat} {h h' : s_H} {f : zp_R} (A : AL h k) (a : FU [p] h h') (o : okw k1 p L) (k16 : k1 ≤ 16) (P : PF h' p L f) : AL h' k := AL_U A a (fun q hq => by
  rw [List.mem_singleton.mp hq]
  rcases o with ⟨i, h1, h2, h3⟩ | o
  · subst h3
    exact .inr ⟨i, by omega, h2, PF_E P⟩
  · exact .inl o)
/-- a row from k on is apart from what stays -/
theorem apt_row {k i p : Nat} (o : okp k p) (hi2 : k ≤ i) (i16 : i < 16) : apt p (7 + 2 * i) := by
  unfold okp at o
  unfold apt
  omega
theorem u_multiply (A : AL h k) (hk : k < 16) {a b La Lb : Nat} {f1 f2 : zp_R} (ha : PF h a La f1) (hb : PF h b Lb f2) (oa : okw k a La) (ob : okp k b) (fit : ∀ e, dgp (zp_mul f1 f2) e → e < 192 ∧ e < La) : wm sw_P (D + 2) 111 [.index 5, .index a, .index b] h (AN [a] k h (fun h' => PF h' a La (zp_mul f1 f2))) := by
  refine wm_in (cd := sw_c111) (nL := 5) (hd := sw_h111) rfl rfl ?_
  have oa' := okw_p oa
  refine k111_0 (z5 := (k : Int)) A.1 (wm_mono (wq_AA (fun h1 ⟨A1, R1⟩ F1 => ?_)) (u_lend A hk))
  have ha1 := PF_A ha F1 oa' (fun _ q => absurd q List.not_mem_nil)
  have hb1 := PF_A hb F1 ob (fun _ q => absurd q List.not_mem_nil)
  obtain ⟨d1, g1, P1, _⟩ := id R1
  refine k111_9 P1.2.1 (wm_mono (wq_U (fun h2 R2 F2 => ?_)) (u_setProduct (PF_E R1) (by decide) (PF_W ha1) (PF_W hb1) (apt_row oa' (Nat.le_refl _) hk) (apt_row ob (Nat.le_refl _) hk) (fun e he => (fit e he).1)))
  have A2 := AL_1 A1 F2 (okw_row (k := k + 1) (by omega)) (by omega) R2
  have ha2 := PF_keep ha1 F2 (fun q hq => by rw [List.mem_singleton.mp hq]; exact apt_row oa' (Nat.le_refl _) hk)
  obtain ⟨d2, g2, P2, b2, c2⟩ := id R2
  obtain ⟨da, ga, Pa, _⟩ := id ha2
  refine k111_18 Pa.2.1 (wm_mono (wq_U (fun h3 R3 F3 => ?_)) (u_setCopy (PF_E ha2) R2 (apt_s (apt_row oa' (Nat.le_refl _) hk)) b2 (fit d2 b2).2))
  have A3 := AL_1 A2 F3 (okw_le oa (Nat.le_of_lt hk)) (by omega) R3
  refine k111_24 A3.1 (wm_mono (wq_AN (fun h4 R4 F4 A4 => k111_29 ⟨h4, ?_, ?_, A4, rfl⟩)) (u_release A3 (by omega)))
  · exact PF_A R3 F4 oa' (fun _ q => absurd q List.not_mem_nil)
  · refine FA_trans (FA_sub F1 (Nat.le_refl _) (fun _ q => absurd q List.not_mem_nil)) (FA_trans (FA_U F2 (fun q hq => ?_)) (FA_trans (FA_of F3) (FA_sub F4 (Nat.le_refl _) (fun _ q => absurd q List.not_mem_nil))))
    rw [List.mem_singleton.mp hq]
    exact .inr (by omega)
end
