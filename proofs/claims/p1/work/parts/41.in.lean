/-! AT THE LAW'S ENTRY, AND AT ITS END -/
def s_At (p : Program) (s : State) (m : MethodId) (meth : Method) (c : Code) (b L : Nat) (xs : Nat → Int32) : Prop := lw_At p s m meth c b L xs ∧ meth.name = "law" ∧ c.exceptionTable.toList = []
section S41
variable {p : Program} {l : Launch} {e : Env} {s : State} {m : MethodId} {below : List Frame} {meth : Method} {c : Code} {b Ls : Nat} {xs : Nat → Int32} {dC : Nat → ClassId} {dI : Nat → Nat → Nat} {ρ : Nat → Int32} {F : s_F}
theorem s_law_Cx (C0 : s_At p s m meth c b Ls xs) : s_Cx p s m #[Value.ref b] meth c sg_mL := ⟨C0.1.1, C0.1.2.1, C0.1.2.2.2.1, C0.1.2.2.1, C0.1.2.2.2.2.2.2.2.2.1, C0.1.2.2.2.2.1, C0.2.1, fun w hw => C0.1.2.2.2.2.2.1 w (s_gd_tbl hw), C0.2.2⟩
theorem s_law_tr (hflags : l.flags = flags0) : l.stackTraces = false := by
  unfold Launch.stackTraces
  rw [hflags]
  decide +kernel
theorem s_law_nc (C0 : s_At p s m meth c b Ls xs) : ∀ i j, i < 4 → j < 4 → i ≠ j → va_Nc (s_exn i) (s_exn j) s := by
  have hf := flat_of_before _ C0.1.2.2.2.2.2.2.2.2.2
  intro i j hi hj hij
  match i, j, hi, hj, hij with
  | 0, 0, _, _, h => exact absurd rfl h
  | 0, 1, _, _, _ => exact va_Nc.of (hf (.not (.castable "java/lang/IllegalStateException" "java/lang/IllegalArgumentException")) (by decide +kernel))
  | 0, 2, _, _, _ => exact va_Nc.of (hf (.not (.castable "java/lang/IllegalStateException" "java/lang/ArithmeticException")) (by decide +kernel))
  | 0, 3, _, _, _ => exact va_Nc.of (hf (.not (.castable "java/lang/IllegalStateException" "java/lang/IndexOutOfBoundsException")) (by decide +kernel))
  | 1, 0, _, _, _ => exact va_Nc.of (hf (.not (.castable "java/lang/IllegalArgumentException" "java/lang/IllegalStateException")) (by decide +kernel))
  | 1, 1, _, _, h => exact absurd rfl h
  | 1, 2, _, _, _ => exact va_Nc.of (hf (.not (.castable "java/lang/IllegalArgumentException" "java/lang/ArithmeticException")) (by decide +kernel))
  | 1, 3, _, _, _ => exact va_Nc.of (hf (.not (.castable "java/lang/IllegalArgumentException" "java/lang/IndexOutOfBoundsException")) (by decide +kernel))
  | 2, 0, _, _, _ => exact va_Nc.of (hf (.not (.castable "java/lang/ArithmeticException" "java/lang/IllegalStateException")) (by decide +kernel))
  | 2, 1, _, _, _ => exact va_Nc.of (hf (.not (.castable "java/lang/ArithmeticException" "java/lang/IllegalArgumentException")) (by decide +kernel))
  | 2, 2, _, _, h => exact absurd rfl h
  | 2, 3, _, _, _ => exact va_Nc.of (hf (.not (.castable "java/lang/ArithmeticException" "java/lang/IndexOutOfBoundsException")) (by decide +kernel))
  | 3, 0, _, _, _ => exact va_Nc.of (hf (.not (.castable "java/lang/IndexOutOfBoundsException" "java/lang/IllegalStateException")) (by decide +kernel))
  | 3, 1, _, _, _ => exact va_Nc.of (hf (.not (.castable "java/lang/IndexOutOfBoundsException" "java/lang/IllegalArgumentException")) (by decide +kernel))
  | 3, 2, _, _, _ => exact va_Nc.of (hf (.not (.castable "java/lang/IndexOutOfBoundsException" "java/lang/ArithmeticException")) (by decide +kernel))
  | 3, 3, _, _, h => exact absurd rfl h
theorem s_law_K (C0 : s_At p s m meth c b Ls xs) : ∃ (dC : Nat → ClassId) (dI : Nat → Nat → Nat), s_KK dC dI s.heap.size s s.heap := by
  have hts := C0.1.2.2.2.2.2.1
  have hf := flat_of_before _ C0.1.2.2.2.2.2.2.2.2.2
  have h1 : ∀ ci : Nat, ∃ q : ClassId × (Nat → Nat), ∀ r : vw_C, s_cl[ci]? = some r → u_Kn s r.1 r.2.1 r.2.2 q.1 q.2 := by
    intro ci
    cases hr : s_cl[ci]? with
    | none => exact ⟨(m.cls, fun _ => 0), fun r h => by cases h⟩
    | some r =>
      have hc := s_cf ci r hr
      obtain ⟨cC, iS, hk⟩ := u_known (args := #[Value.ref b]) (s := s) (ws := s_gd) (n := r.2.2) (fun w hw => hts w (s_gd_tbl hw)) hc.1 (hts _ (s_gd_tbl hc.2.2.2.2))
      exact ⟨(cC, iS), fun r' h => by cases h; exact hk⟩
  obtain ⟨f, hf1⟩ := Classical.axiomOfChoice h1
  have hn : ∀ a : Nat, a < s.heap.size → ¬ s.heap.size ≤ a := fun a h => Nat.not_le.mpr h
  refine ⟨fun ci => (f ci).1, fun ci => (f ci).2, fun ci r hr => hf1 ci r hr, s_law_nc C0, ?_, ?_, fun w hw => s_bw_any hw (hts w (s_bw_in w hw))⟩
  · exact vx_Zqof (args := #[Value.ref b]) (hts _ (List.mem_of_getElem? (i := 771) (by decide +kernel))) (hts _ (List.mem_of_getElem? (i := 236) (by decide +kernel))) (hf _ (by decide +kernel)) hn
  · exact vx_Zqof (args := #[Value.ref b]) (hts _ (List.mem_of_getElem? (i := 773) (by decide +kernel))) (hts _ (List.mem_of_getElem? (i := 236) (by decide +kernel))) (hf _ (by decide +kernel)) hn
theorem s_nth_rep {α : Type} {x y : α} {n k : Nat} (h : (List.replicate n x)[k]? = some y) : y = x := List.eq_of_mem_replicate (List.mem_of_getElem? h)
theorem s_h0_free {k : Nat} {c9 : s_C} (h : s_get sh_h0 k = some c9) : c9.1 = 9 := by
  rcases s_h1_get (c1 := sh_f) h with ⟨-, rfl⟩ | h
  · rfl
  · have e : sh_h0.2 = List.replicate 12 (List.replicate 12 (List.replicate 12 sh_f)) := rfl
    unfold s_get at h
    rw [show (s_h1 1 sh_f (List.replicate 11 sh_f) (List.replicate 11 (List.replicate 12 sh_f)) (List.replicate 11 (List.replicate 12 (List.replicate 12 sh_f)))).2 = List.replicate 12 (List.replicate 12 (List.replicate 12 sh_f)) from rfl] at h
    simp only [s_nth_eq] at h
    cases h1 : (List.replicate 12 (List.replicate 12 (List.replicate 12 sh_f)))[k / 144]? with
    | none => rw [h1] at h; cases h
    | some r =>
      rw [h1] at h
      cases s_nth_rep h1
      replace h : (match (List.replicate 12 (List.replicate 12 sh_f))[k / 12 % 12]? with
        | none => none
        | some r2 => r2[k % 12]?) = some c9 := h
      cases h2 : (List.replicate 12 (List.replicate 12 sh_f))[k / 12 % 12]? with
      | none => rw [h2] at h; cases h
      | some r2 =>
        rw [h2] at h
        cases s_nth_rep h2
        rw [s_nth_rep h]
        rfl
theorem s_HR_in (hb : b < s.heap.size) : s_HR s dC dI ρ [b] s.heap.size sh_h0 s.heap := by
  refine ⟨rfl, fun i j a hi hj => ?_, fun k a hk => ?_, fun k c9 hk => Or.inl (s_h0_free hk)⟩
  · have h1 : i < 1 := (List.getElem?_eq_some_iff.mp hi).1
    have h2 : j < 1 := (List.getElem?_eq_some_iff.mp hj).1
    omega
  · have h1 : k < 1 := (List.getElem?_eq_some_iff.mp hk).1
    have h2 : k = 0 := by omega
    subst h2
    cases hk
    exact ⟨hb, fun h => absurd h (by omega)⟩
/-- the law's run, from where it stands to a place in its code -/
theorem s_law_to {Q : State → Prop} {stop n pc pc9 : Nat} {L st L9 st9 : List Term} {h h9 : s_H} {kc ks kc9 ks9 : Nat} (C0 : s_At p s m meth c b Ls xs) (hflags : l.flags = flags0) (hK : s_KK dC dI s.heap.size s s.heap) (hFH : s_FH ρ F) (hr : s_runT F s_df s_comp (sh_call F) sg_cL sg_hL stop n (pc, L, st, h, kc, ks) = some (pc9, L9, st9, h9, kc9, ks9)) (hkc : kc9 ≤ 600006) (hks : ks9 ≤ 7302064) {ad : List Nat} {H : Heap} {ls : Array Slot} {vs : List Value} {locs : List Loc} (hS : s_SR s dC dI ρ s.heap.size 7 ad L st h H ls vs locs) (kk : s_Kk p l e room_1 s m #[Value.ref b] below meth c Q dC dI ρ s.heap.size 7 ad pc9 L9 st9 h9 kc9 ks9) : W p l e room_1 s m #[Value.ref b] below meth c H locs kc ks Q (F0 m pc ls vs) :=
  s_runT_s (Wm := s_gd) (mi := sg_mi) (d := 12) (s_law_Cx C0) (fun w h => h) rfl hFH (s_law_tr hflags) hK (Nat.le_refl _) C0.1.2.2.2.1.symm (s_call_s sg_ok hFH (s_law_tr hflags) 12) (by decide +kernel) (by decide +kernel) sg_oL hkc hks n pc L st h kc ks ad H ls vs locs hS hr kk
/-- the law's end -/
theorem s_law_end (C0 : s_At p s m meth c b Ls xs) {ad : List Nat} {L9 : List Term} {h9 : s_H} {kc9 ks9 : Nat} (hkc : kc9 ≤ 600006) (hks : ks9 ≤ 7302064) : s_Kk p l e room_1 s m #[Value.ref b] below meth c (lw_Z below #[Value.ref b] s) dC dI ρ s.heap.size 7 ad 5153 L9 [.int 1] h9 kc9 ks9 := by
  intro ad' H ls vs locs _ hS
  obtain ⟨v, vs', rfl, h1, h2⟩ := s_DS_c hS.2.1
  cases h1
  cases vs' with
  | cons v2 vs2 => exact absurd h2 id
  | nil => exact va_forget (fun q hq => hS.2.2.2.2.2 q hq) (W.widen hkc hks (lw_ret C0.1.1 C0.1.2.1 C0.1.2.2.1 C0.1.2.2.2.2.2.2.2.2.1 (by decide +kernel)))
/-- a run to the law's end -/
theorem s_law_go {n pc : Nat} {L st : List Term} {h : s_H} {kc ks : Nat} (C0 : s_At p s m meth c b Ls xs) (hflags : l.flags = flags0) (hK : s_KK dC dI s.heap.size s s.heap) (hFH : s_FH ρ F) (hr : s_ends 5153 600006 7302064 (s_runT F s_df s_comp (sh_call F) sg_cL sg_hL 5153 n (pc, L, st, h, kc, ks)) = true) {ad : List Nat} {H : Heap} {ls : Array Slot} {vs : List Value} {locs : List Loc} (hS : s_SR s dC dI ρ s.heap.size 7 ad L st h H ls vs locs) : W p l e room_1 s m #[Value.ref b] below meth c H locs kc ks (lw_Z below #[Value.ref b] s) (F0 m pc ls vs) := by
  obtain ⟨L9, h9, kc9, ks9, e1, e2, e3⟩ := s_ends_s hr
  exact s_law_to C0 hflags hK hFH e1 e2 e3 hS (s_law_end C0 e2 e3)
end S41
