/-! FROM THE ENTRY TO THE SWITCH, for a script of at most four ints -/
def sh_tn (n : Nat) : List Term := (List.range n).map Term.arg
theorem sh_e0 : s_ends 5153 600006 7302064 (s_runT [] s_df s_comp (sh_call []) sg_cL sg_hL 5153 50 (23, sh_L, [], sh_H (2, 0, sh_tn 0), 1375, 194968)) = true := by decide +kernel
theorem sh_e1 : s_ends 5153 600006 7302064 (s_runT [] s_df s_comp (sh_call []) sg_cL sg_hL 5153 50 (23, sh_L, [], sh_H (2, 0, sh_tn 1), 1375, 194968)) = true := by decide +kernel
theorem sh_e2 : s_ends 5153 600006 7302064 (s_runT [] s_df s_comp (sh_call []) sg_cL sg_hL 5153 50 (23, sh_L, [], sh_H (2, 0, sh_tn 2), 1375, 194968)) = true := by decide +kernel
theorem sh_e3 : s_ends 5153 600006 7302064 (s_runT [] s_df s_comp (sh_call []) sg_cL sg_hL 5153 50 (23, sh_L, [], sh_H (2, 0, sh_tn 3), 1375, 194968)) = true := by decide +kernel
set_option maxRecDepth 1000000 in
theorem sh_st2 : s_eqS (s_runT [] s_df s_comp (sh_call []) sg_cL sg_hL 39 50 (23, sh_L, [], sh_H (2, 0, sh_tn 4), 1375, 194968)) (39, sh_L, [.op2 .iand (.arg 0) (.int 127)], sh_H (2, 0, sh_tn 4), 1375, 194968) = true := by decide +kernel
section S44
variable {p : Program} {l : Launch} {e : Env} {s : State} {m : MethodId} {below : List Frame} {meth : Method} {c : Code} {b Ls : Nat} {xs : Nat → Int32} {dC : Nat → ClassId} {dI : Nat → Nat → Nat}
theorem sh_tn_s (ad : List Nat) : ∀ (js : List Nat), s_DS xs ad (js.map Term.arg) (js.map fun j => Value.int (xs j))
  | [] => by simp [s_DS]
  | j :: js => ⟨rfl, sh_tn_s ad js⟩
theorem sh_begin {Q : State → Prop} (C0 : s_At p s m meth c b Ls xs) (hflags : l.flags = flags0) (hK : s_KK dC dI s.heap.size s s.heap) (kk : ∀ (ad : List Nat) (H : Heap) (ls : Array Slot) (vs : List Value) (locs : List Loc), s_SR s dC dI xs s.heap.size 7 ad sh_L [] (sh_H (2, 0, sh_tn Ls)) H ls vs locs → W p l e room_1 s m #[Value.ref b] below meth c H locs 1375 194968 Q (F0 m 23 ls vs)) : W p l e room_1 s m #[Value.ref b] below meth c s.heap [] 0 0 Q (entryFrame m ([Value.ref b] : List Value).toArray 7) := by
  rw [lg_entry_eq]
  have hD : s_DS xs [b] [Term.index 0] [Value.ref b] := ⟨rfl, by simp [s_DS]⟩
  refine s_law_to (ρ := xs) (F := []) (stop := 23) (n := 100) (ad := [b]) C0 hflags hK s_FH_nil (s_eqS_s sh_st1) (by decide) (by decide) ⟨s_ini_LR (as := [Term.index 0]) hD (by decide), by simp [s_DS], s_HR_in C0.1.2.2.2.2.2.2.2.1, Nat.le_refl _, fun _ _ => rfl, fun z hz => by cases hz⟩ ?_
  intro ad' H ls vs locs hx hS
  obtain ⟨x, rfl⟩ := hx
  exact kk _ H ls vs locs ⟨hS.1, hS.2.1, s_scr hS.2.2.1 rfl C0.1.2.2.2.2.2.2.1 (hS.2.2.2.2.1 b C0.1.2.2.2.2.2.2.2.1) (sh_tn_s _ _), hS.2.2.2⟩
/-- the end where the script holds fewer than four ints; the switch where it holds four -/
theorem sh_four (C0 : s_At p s m meth c b Ls xs) (hflags : l.flags = flags0) (hLs : Ls ≤ 4) (hK : s_KK dC dI s.heap.size s s.heap) (kk : ∀ (k : Nat) (ad : List Nat) (H : Heap) (ls : Array Slot) (vs : List Value) (locs : List Loc), k < 128 → s_SR s dC dI xs s.heap.size 7 ad sh_L [.int (Int32.ofNat k)] (sh_H (2, 0, sh_tn 4)) H ls vs locs → W p l e room_1 s m #[Value.ref b] below meth c H locs 1375 194968 (lw_Z below #[Value.ref b] s) (F0 m 39 ls vs)) : W p l e room_1 s m #[Value.ref b] below meth c s.heap [] 0 0 (lw_Z below #[Value.ref b] s) (entryFrame m ([Value.ref b] : List Value).toArray 7) := by
  refine sh_begin C0 hflags hK fun ad H ls vs locs hS => ?_
  rcases (by omega : Ls = 0 ∨ Ls = 1 ∨ Ls = 2 ∨ Ls = 3 ∨ Ls = 4) with rfl | rfl | rfl | rfl | rfl
  · exact s_law_go C0 hflags hK s_FH_nil sh_e0 hS
  · exact s_law_go C0 hflags hK s_FH_nil sh_e1 hS
  · exact s_law_go C0 hflags hK s_FH_nil sh_e2 hS
  · exact s_law_go C0 hflags hK s_FH_nil sh_e3 hS
  · refine s_law_to C0 hflags hK s_FH_nil (s_eqS_s sh_st2) (by decide) (by decide) hS fun ad' H' ls' vs' locs' _ hS' => ?_
    obtain ⟨k, hk, he⟩ := s_and127 (xs 0)
    refine kk k ad' H' ls' vs' locs' hk ⟨hS'.1, ?_, hS'.2.2⟩
    obtain ⟨v, v0, rfl, h1, h2⟩ := s_DS_c hS'.2.1
    refine ⟨?_, h2⟩
    rw [← h1]
    show some (Value.int (Int32.ofNat k)) = some (Value.int (xs 0 &&& 127))
    rw [he]
end S44
