/-! CONTRACTS OUT OF RUNS: a method called on terms and a heap, with what the machine answers -/
def s_OV (ρ : Nat → Int32) (ad : List Nat) (t : Option Term) (v : Option Value) : Prop := match t with
  | none => v = none
  | some u => ∃ w, v = some w ∧ s_den ρ ad u = some w
def s_FRs (base : Nat) (st t : State) : Prop := st.heap.size ≤ t.heap.size ∧ ∀ q : Nat, q < base → t.heap[q]? = st.heap[q]?
def s_Qc (dC : Nat → ClassId) (dI : Nat → Nat → Nat) (ρ : Nat → Int32) (base : Nat) (ad : List Nat) (out : s_O) : Array Value → State → Outcome → State → Prop := fun _ st o t => ∃ tv, out.1 = .inl tv ∧ ∃ (x : List Nat) (v : Option Value), o = .returned v ∧ s_OV ρ (ad ++ x) tv v ∧ s_HR t dC dI ρ (ad ++ x) base out.2.1 t.heap ∧ s_FRs base st t
def s_XC (dC : Nat → ClassId) (dI : Nat → Nat → Nat) (ρ : Nat → Int32) (base : Nat) (ad : List Nat) (out : s_O) : String → State → State → Prop := fun E st t => ∃ k, k < 4 ∧ out.1 = .inr k ∧ E = s_exn k ∧ ∃ x : List Nat, s_HR t dC dI ρ (ad ++ x) base out.2.1 t.heap ∧ s_FRs base st t
def s_KK (dC : Nat → ClassId) (dI : Nat → Nat → Nat) (base : Nat) (U : State) (H : Heap) : Prop := s_Cl dC dI U ∧ (∀ i j, i < 4 → j < 4 → i ≠ j → va_Nc (s_exn i) (s_exn j) U) ∧ vx_Zq Bundle.tN "UNASSIGNED_STACK" Bundle.steD (fun q => base ≤ q) U H ∧ vx_Zq Bundle.tN "SUPPRESSED_SENTINEL" Bundle.listD (fun q => base ≤ q) U H ∧ ∀ w ∈ s_bw, w.before #[] U = true
def s_Pc (dC : Nat → ClassId) (dI : Nat → Nat → Nat) (ρ : Nat → Int32) (base : Nat) (ad : List Nat) (as : List Term) (h : s_H) : Array Value → State → Prop := fun a U => ∃ vs : List Value, a = vs.toArray ∧ s_DS ρ ad as vs ∧ s_HR U dC dI ρ ad base h U.heap ∧ s_KK dC dI base U U.heap ∧ base ≤ U.heap.size
def s_ws (M : s_M) : List Cond := s_cw M :: lw_tbl.filter goodWord
def s_rm (d : Nat) (out : s_O) : Room := { frames := 6 + d, cells := out.2.2.1, slots := out.2.2.2, locals := 100 + 70 * d }
def s_Met (l : Launch) (dC : Nat → ClassId) (dI : Nat → Nat → Nat) (ρ : Nat → Int32) (base d : Nat) (M : s_M) (as : List Term) (h : s_H) (out : s_O) : Prop := ∀ ad : List Nat, vx_Met l M.1 (s_ws M) (s_rm d out) (s_Pc dC dI ρ base ad as h) (s_Qc dC dI ρ base ad out) (s_XC dC dI ρ base ad out) out.2.2.1 out.2.2.2 (fun q => base ≤ q)
theorem s_HR_moved {s t : State} {dC : Nat → ClassId} {dI : Nat → Nat → Nat} {ρ : Nat → Int32} {ad : List Nat} {base : Nat} {h : s_H} {H : Heap} (hvm : s.vm.Alike t.vm) (hH : s_HR s dC dI ρ ad base h H) : s_HR t dC dI ρ ad base h H := by
  refine ⟨hH.1, hH.2.1, hH.2.2.1, fun k c hk => ?_⟩
  rcases hH.2.2.2 k c hk with q | ⟨a, q1, q2⟩
  · exact Or.inl q
  · refine Or.inr ⟨a, q1, ?_⟩
    rcases q2 with q2 | ⟨q2, cell, g1, g2, g3, g4, g5⟩
    · exact Or.inl q2
    · exact Or.inr ⟨q2, cell, g1, State.isArrayOf_alike hvm g2, g3, g4, fun z => (g5 z).moved hvm⟩
theorem s_HR_same {s : State} {dC : Nat → ClassId} {dI : Nat → Nat → Nat} {ρ : Nat → Int32} {ad : List Nat} {base : Nat} {h : s_H} {H H' : Heap} (hH : s_HR s dC dI ρ ad base h H) (hz : H.size ≤ H'.size) (ho : ∀ q : Nat, q < H.size → H'[q]? = H[q]?) (hb : base ≤ H.size) : s_HR s dC dI ρ ad base h H' := by
  have := s_HR_bulk (h' := h) hH hz ho [] rfl (fun i j a hi => by simp at hi) (fun i a hi => by simp at hi) hb (fun j c hj => Or.inl hj)
  rwa [List.append_nil] at this
theorem s_KK_to {dC : Nat → ClassId} {dI : Nat → Nat → Nat} {base : Nat} {s U : State} {H H' : Heap} (hW : s.WarmedH U.vm) (hk : s_KK dC dI base s H) (ho : ∀ q : Nat, q < base → H'[q]? = H[q]?) : s_KK dC dI base U H' := by
  obtain ⟨h1, h2, h3, h4, h5⟩ := hk
  have kp : ∀ a : Nat, a < H.size → ¬ base ≤ a → H'[a]? = H[a]? := fun a _ ha => ho a (Nat.not_le.mp ha)
  exact ⟨fun ci r hr => u_Kn_moved hW.alike (h1 ci r hr), fun i j hi hj hij => va_Nc.moved hW.alike (h2 i j hi hj hij), vx_Zq.moved hW.alike (h3.kept kp), vx_Zq.moved hW.alike (h4.kept kp), fun w hw => s_bw_moved hW hw (h5 w hw)⟩
theorem s_wsgood {s : State} {args : Array Value} {M : s_M} (hts : ∀ w ∈ s_gd, w.before args s = true) (hM : s_cw M ∈ lw_tbl) : ∀ w ∈ s_ws M, ∀ (a' : Array Value) (U : State), s.WarmedH U.vm → w.before a' U = true := by
  intro w hw a' U hW
  have hg : goodWord (s_cw M) = true := by
    unfold s_cw
    split <;> rfl
  rcases List.mem_cons.mp hw with rfl | hw
  · exact word_at hW (good_of_word hg) (hts _ (s_gdof hM hg))
  · obtain ⟨h1, h2⟩ := List.mem_filter.mp hw
    exact word_at hW (good_of_word h2) (hts _ (s_gdof h1 h2))
/-- a method that the machine knows: its code is a word, its class is initialised -/
def s_Kw (M : s_M) : Prop := s_cw M ∈ lw_tbl ∧ Cond.initialized M.1.cls ∈ lw_tbl ∧ plainFor M.1 = true ∧ (M.1.cls ≠ "java/lang/invoke/MethodHandle" ∧ M.1.cls ≠ "java/lang/invoke/VarHandle") ∧ M.2.2.1 ≤ 41
theorem s_np_s {d : String} {n : Nat} (h : s_np d = some n) : ∀ sig, parseMethodDescriptor d = some sig → n = sig.parameters.length := by
  intro sig hs
  unfold s_np at h
  rw [hs] at h
  exact (Option.some.inj h).symm
theorem s_cw_c {M : s_M} (h : M.2.2.2.2 = []) : s_cw M = .code M.1 M.2.1 M.2.2.1 M.2.2.2.1 := by
  unfold s_cw; rw [h]
theorem s_cw_h {M : s_M} (h : M.2.2.2.2 ≠ []) : s_cw M = .codeWith M.1 M.2.1 M.2.2.1 M.2.2.2.1 M.2.2.2.2 := by
  unfold s_cw
  split
  · rename_i q; exact absurd q h
  · rfl
section S17
variable {p : Program} {l : Launch} {e : Env} {R : Room} {s : State} {m : MethodId} {args : Array Value} {below : List Frame} {meth : Method} {c : Code} {Q : State → Prop} {M : s_M} {mi : Nat → Option s_M} {Wm : List Cond} {dC : Nat → ClassId} {dI : Nat → Nat → Nat} {ρ : Nat → Int32} {base nL : Nat} {ad : List Nat} {F : s_F} {df : Nat → List Term} {comp : Nat → Nat} {call : Nat → List Term → s_H → Option s_O} {hd : List s_Hd} {pc pc' : Nat} {L L' st st' : List Term} {h h' : s_H} {kc ks kc' ks' : Nat} {H : Heap} {ls : Array Slot} {vs : List Value} {locs : List Loc} {o nx a b c' : Nat} {as rest : List Term} {out : s_O}
/-- what a call's callee may take as given -/
theorem s_pre {a0 : List Value} (hD : s_DS ρ ad as a0) (hH : s_HR s dC dI ρ ad base h H) (hF : s_FR base s H locs) (hbase : base ≤ s.heap.size) (hK : s_KK dC dI base s s.heap) : FrameBlind (s_Pc dC dI ρ base ad as h) ∧ ∀ U : State, U.heap = H → s.WarmedH U.vm → s_Pc dC dI ρ base ad as h a0.toArray U := by
  refine ⟨fun a U g mk q => ?_, fun U hU hW => ⟨a0, rfl, hD, ?_, ?_, ?_⟩⟩
  · obtain ⟨vs, q0, q1, q2, q3, q4⟩ := q
    exact ⟨vs, q0, q1, s_HR_moved (s := U) (t := U.calling g mk a) (Vm.Alike.refl U.vm) q2, s_KK_to (s := U) (U := U.calling g mk a) (State.WarmedH.refl U) q3 (fun _ _ => rfl), q4⟩
  · rw [hU]; exact s_HR_moved hW.alike hH
  · rw [hU]; exact s_KK_to hW hK hF.2.1
  · rw [hU]; exact Nat.le_trans hbase hF.1
/-- behind a call that returned -/
theorem s_back {rv : List Value} {k n : Nat} {ao : Array Value} (hL : s_LR ρ ad nL L ls) (hDr : s_DS ρ ad rest rv) (hF : s_FR base s H locs) (hbase : base ≤ s.heap.size) {tv : Option Term} (ho : out.1 = .inl tv)
    (hr : vx_Run p l e R s m args below meth c H locs kc ks k n (F0 m pc ls vs) rv (s_Qc dC dI ρ base ad out ao) (s_XC dC dI ρ base ad out) (fun q => base ≤ q))
    (kk : s_Kk p l e R s m args below meth c Q dC dI ρ base nL ad (pc + 3) L (tv.toList ++ rest) out.2.1 (kc + k) (ks + n)) : W p l e R s m args below meth c H locs kc ks Q (F0 m pc ls vs) := by
  intro T hT X
  rcases hr T hT X with ⟨v, st₀, t, T', L1, h0, X', hL1, e1, e2, hq, st⟩ | ⟨q, st₀, t, T', L1, E, ce, h0, X', hL1, e1, e2, hx, -⟩
  · obtain ⟨tv', ho', x, v', hv, hov, hH, hz, hfr⟩ := hq
    rw [ho] at ho'; cases ho'
    cases hv
    have hal : t.vm.Alike s.vm := by rw [← e2]; exact X'.warmed.alike.symm
    have hSR : s_SR s dC dI ρ base nL (ad ++ x) L (tv.toList ++ rest) out.2.1 T'.heap ls (v.toList ++ rv) (locs ++ L1) := by
      refine ⟨s_LR_mono x hL, ?_, by rw [e1]; exact s_HR_moved hal hH, ?_, ?_, ?_⟩
      · refine s_DS_app ?_ (s_DS_mono x hDr)
        cases tv with
        | none => rw [show v = none from hov]; trivial
        | some u => obtain ⟨w, rfl, hw⟩ := hov; exact ⟨hw, trivial⟩
      · rw [e1]; exact Nat.le_trans hF.1 (by rw [← h0]; exact hz)
      · intro q hq; rw [e1, hfr q hq, h0]; exact hF.2.1 q hq
      · intro z hz9
        rcases List.mem_append.mp hz9 with h1 | h1
        · exact hF.2.2 z h1
        · exact hL1 z h1
    obtain ⟨t2, a1, b1⟩ := kk (ad ++ x) T'.heap ls (v.toList ++ rv) (locs ++ L1) ⟨x, rfl⟩ hSR T' rfl X'
    exact ⟨t2, st t2 a1, b1⟩
  · obtain ⟨k9, -, hk9, -⟩ := hx
    rw [ho] at hk9; cases hk9
/-- behind a call that threw -/
theorem s_thrown {rv : List Value} {k n E0 : Nat} {ao : Array Value} (hF : s_FR base s H locs) (ho : out.1 = .inr E0)
    (hr : vx_Run p l e R s m args below meth c H locs kc ks k n (F0 m pc ls vs) rv (s_Qc dC dI ρ base ad out ao) (s_XC dC dI ρ base ad out) (fun q => base ≤ q))
    (kk : ∀ (x : List Nat) (H1 : Heap) (locs1 : List Loc) (q : Nat) (ce : Cell), s_HR s dC dI ρ (ad ++ x) base out.2.1 H1 → s_FR base s H1 locs1 → E0 < 4 → H1[q]? = some ce → ce.vm = .none → s.vm.findClass (s_exn E0) = some ce.cls → vx_W p l e R s m args below meth c H1 locs1 (kc + k) (ks + n) Q (F0 m pc ls rv) q) : W p l e R s m args below meth c H locs kc ks Q (F0 m pc ls vs) := by
  intro T hT X
  rcases hr T hT X with ⟨v, st₀, t, T', L1, h0, X', hL1, e1, e2, hq, st⟩ | ⟨q, st₀, t, T', L1, E, ce, h0, X', hL1, e1, e2, hx, hce, hcv, hcl, st⟩
  · obtain ⟨tv', ho', -⟩ := hq
    rw [ho] at ho'; cases ho'
  · obtain ⟨k9, hk4, hk9, rfl, x, hH, hz, hfr⟩ := hx
    rw [ho] at hk9; cases hk9
    have hal : t.vm.Alike s.vm := by rw [← e2]; exact X'.warmed.alike.symm
    have hF1 : s_FR base s T'.heap (locs ++ L1) := by
      refine ⟨?_, ?_, ?_⟩
      · rw [e1]; exact Nat.le_trans hF.1 (by rw [← h0]; exact hz)
      · intro q hq; rw [e1, hfr q hq, h0]; exact hF.2.1 q hq
      · intro z hz9
        rcases List.mem_append.mp hz9 with h1 | h1
        · exact hF.2.2 z h1
        · exact hL1 z h1
    obtain ⟨t2, a1, b1⟩ := kk x T'.heap (locs ++ L1) q ce (by rw [e1]; exact s_HR_moved hal hH) hF1 hk4 (by rw [e1]; exact hce) hcv hcl T' rfl X'
    exact ⟨t2, st.trans a1, b1⟩
end S17
