/-! WHAT A THROWN EXCEPTION STANDS ON -/
section S12T
def s_thrC (X : String) : List Cond := [.instantiable X 6, .castable X X, .selects X Bundle.tFill0 Bundle.tFill0, .selects X Bundle.tFill Bundle.tFill, .lays X Bundle.tN "cause" "Ljava/lang/Throwable;", .lays X Bundle.tN "stackTrace" Bundle.steD, .lays X Bundle.tN "suppressedExceptions" Bundle.listD, .lays X Bundle.tN "detailMessage" "Ljava/lang/String;", .isRef (.static Bundle.tN "UNASSIGNED_STACK" Bundle.steD), .isRef (.static Bundle.tN "SUPPRESSED_SENTINEL" Bundle.listD), .fieldLink Bundle.tN 198 Bundle.tN "backtrace" "Ljava/lang/Object;", .lays Bundle.tN Bundle.tN "backtrace" "Ljava/lang/Object;", .lays X Bundle.tN "backtrace" "Ljava/lang/Object;"]
def s_thrL (X : String) : List Cond := (.initialized X :: (Bundle.throwableAtoms ++ Bundle.chain0Atoms X s_exs ++ s_thrC X)).filter vx_no
set_option maxRecDepth 100000 in
theorem s_thr0 : s_thrL "java/lang/IllegalStateException" = ([239, 236, 766, 775, 781, 784, 786, 767, 768, 263, 264, 769, 774, 782, 799, 756, 800, 758, 801, 760, 770, 772, 762, 788, 789, 790, 791, 747, 791, 792, 793, 794, 749, 794, 795, 796, 767, 751, 745, 746, 753, 754, 755, 757, 759, 761, 765, 764, 763] : List Nat).filterMap (fun i => lw_tbl[i]?) := by decide +kernel
theorem s_tho0 : (s_thrL "java/lang/IllegalStateException").all (fun w => (goodWord w || decide (w ∈ s_bw)) && vx_ot w) = true := by decide +kernel
set_option maxRecDepth 100000 in
theorem s_thr1 : s_thrL "java/lang/IllegalArgumentException" = ([241, 236, 766, 775, 781, 784, 786, 767, 768, 263, 264, 769, 774, 782, 799, 756, 800, 758, 801, 760, 770, 772, 762, 1024, 1025, 1026, 791, 747, 791, 792, 793, 794, 749, 794, 795, 796, 767, 751, 1015, 1016, 1017, 779, 1018, 1019, 1020, 1021, 765, 764, 1022] : List Nat).filterMap (fun i => lw_tbl[i]?) := by decide +kernel
theorem s_tho1 : (s_thrL "java/lang/IllegalArgumentException").all (fun w => (goodWord w || decide (w ∈ s_bw)) && vx_ot w) = true := by decide +kernel
set_option maxRecDepth 100000 in
theorem s_thr2 : s_thrL "java/lang/ArithmeticException" = ([242, 236, 766, 775, 781, 784, 786, 767, 768, 263, 264, 769, 774, 782, 799, 756, 800, 758, 801, 760, 770, 772, 762, 1043, 1044, 1045, 791, 747, 791, 792, 793, 794, 749, 794, 795, 796, 767, 751, 1034, 1035, 1036, 777, 1037, 1038, 1039, 1040, 765, 764, 1041] : List Nat).filterMap (fun i => lw_tbl[i]?) := by decide +kernel
theorem s_tho2 : (s_thrL "java/lang/ArithmeticException").all (fun w => (goodWord w || decide (w ∈ s_bw)) && vx_ot w) = true := by decide +kernel
set_option maxRecDepth 100000 in
theorem s_thr3 : s_thrL "java/lang/IndexOutOfBoundsException" = ([243, 236, 766, 775, 781, 784, 786, 767, 768, 263, 264, 769, 774, 782, 799, 756, 800, 758, 801, 760, 770, 772, 762, 1120, 1121, 1122, 791, 747, 791, 792, 793, 794, 749, 794, 795, 796, 767, 751, 1111, 1112, 1113, 780, 1114, 1115, 1116, 1117, 765, 764, 1118] : List Nat).filterMap (fun i => lw_tbl[i]?) := by decide +kernel
theorem s_tho3 : (s_thrL "java/lang/IndexOutOfBoundsException").all (fun w => (goodWord w || decide (w ∈ s_bw)) && vx_ot w) = true := by decide +kernel
theorem s_thr_a {X : String} {ps : List Nat} (h1 : s_thrL X = ps.filterMap (fun i => lw_tbl[i]?)) (h2 : (s_thrL X).all (fun w => (goodWord w || decide (w ∈ s_bw)) && vx_ot w) = true) : ∀ w ∈ s_thrL X, w ∈ s_gd ∧ vx_ot w = true := by
  intro w hw
  have g := List.all_eq_true.mp h2 w hw
  simp only [Bool.and_eq_true, Bool.or_eq_true, decide_eq_true_eq] at g
  refine ⟨?_, g.2⟩
  rcases g.1 with q | q
  · exact s_gdof (s_sub h1 w hw) q
  · exact List.mem_append_right _ q
theorem s_thr_e : ∀ k, k < 4 → ∀ w ∈ s_thrL (s_exn k), w ∈ s_gd ∧ vx_ot w = true := by
  intro k hk
  match k, hk with
  | 0, _ => exact s_thr_a s_thr0 s_tho0
  | 1, _ => exact s_thr_a s_thr1 s_tho1
  | 2, _ => exact s_thr_a s_thr2 s_tho2
  | 3, _ => exact s_thr_a s_thr3 s_tho3
theorem s_thr_s {own : String} {ic k : Nat} (hk : k < 4) {w : Cond} (hw : w ∈ Cond.initialized (s_exn k) :: vx_at0 own ic (s_exn k) s_exs) : w = .methodLink own ic (Bundle.init0 (s_exn k)) ∨ (w ∈ s_gd ∧ vx_ot w = true) := by
  rcases List.mem_cons.mp hw with rfl | hw
  · exact Or.inr (s_thr_e k hk _ (List.mem_filter.mpr ⟨List.mem_cons_self, rfl⟩))
  · obtain ⟨h1, h2⟩ := List.mem_filter.mp hw
    unfold Bundle.ownAtoms0 at h1
    rcases List.mem_append.mp h1 with h1 | h1
    · exact Or.inr (s_thr_e k hk _ (List.mem_filter.mpr ⟨List.mem_cons_of_mem _ (List.mem_append_left _ h1), h2⟩))
    · rcases List.mem_cons.mp h1 with h1 | h1
      · exact Or.inl h1
      · exact Or.inr (s_thr_e k hk _ (List.mem_filter.mpr ⟨List.mem_cons_of_mem _ (List.mem_append_right _ h1), h2⟩))
theorem s_ml_ot (own : String) (ic : Nat) (x : MethodName) : vx_ot (.methodLink own ic x) = true := rfl
end S12T
