/-! THE TABLES (by program): the classes, their fields, what new objects hold -/
def s_L0 : List (String × String × String × Bool) := [("FormulaWorks$Algebra", "rows", "[LFormulaWorks$Poly;", true), ("FormulaWorks$Algebra", "lent", "I", false)]
def s_T0 : u_T := fun k => s_L0.getD k ("", "", "", false)
def s_L1 : List (String × String × String × Bool) := [("FormulaWorks$Linear", "a", "[[I", true), ("FormulaWorks$Linear", "pivotRow", "[I", true), ("FormulaWorks$Linear", "weights", "[I", true), ("FormulaWorks$Linear", "rows", "I", false), ("FormulaWorks$Linear", "columns", "I", false)]
def s_T1 : u_T := fun k => s_L1.getD k ("", "", "", false)
def s_L2 : List (String × String × String × Bool) := [("FormulaWorks$Minors", "algebra", "LFormulaWorks$Algebra;", true), ("FormulaWorks$Minors", "minor", "[LFormulaWorks$Poly;", true), ("FormulaWorks$Minors", "alive", "[I", true), ("FormulaWorks$Minors", "chosen", "[I", true)]
def s_T2 : u_T := fun k => s_L2.getD k ("", "", "", false)
def s_L3 : List (String × String × String × Bool) := [("FormulaWorks$Parts", "algebra", "LFormulaWorks$Algebra;", true), ("FormulaWorks$Parts", "linear", "LFormulaWorks$Linear;", true), ("FormulaWorks$Parts", "factors", "[LFormulaWorks$Poly;", true), ("FormulaWorks$Parts", "times", "[I", true), ("FormulaWorks$Parts", "found", "I", false), ("FormulaWorks$Parts", "conjugates", "[LFormulaWorks$Poly;", true), ("FormulaWorks$Parts", "images", "[LFormulaWorks$Poly;", true), ("FormulaWorks$Parts", "latest", "LFormulaWorks$Poly;", false)]
def s_T3 : u_T := fun k => s_L3.getD k ("", "", "", false)
def s_L4 : List (String × String × String × Bool) := [("FormulaWorks$Poly", "c", "[I", true), ("FormulaWorks$Poly", "degree", "I", false)]
def s_T4 : u_T := fun k => s_L4.getD k ("", "", "", false)
def s_L5 : List (String × String × String × Bool) := [("FormulaWorks$Reader", "algebra", "LFormulaWorks$Algebra;", true), ("FormulaWorks$Reader", "trees", "LFormulaWorks$Trees;", true), ("FormulaWorks$Reader", "things", "[LFormulaWorks$Thing;", true), ("FormulaWorks$Reader", "values", "[LFormulaWorks$Thing;", true), ("FormulaWorks$Reader", "held", "I", false), ("FormulaWorks$Reader", "lessAt", "[I", true), ("FormulaWorks$Reader", "sumAt", "[I", true), ("FormulaWorks$Reader", "productAt", "[I", true), ("FormulaWorks$Reader", "waiting", "[I", true), ("FormulaWorks$Reader", "text", "[I", false), ("FormulaWorks$Reader", "length", "I", false), ("FormulaWorks$Reader", "mode", "I", false), ("FormulaWorks$Reader", "thingCount", "I", false), ("FormulaWorks$Reader", "here", "I", false), ("FormulaWorks$Reader", "open", "I", false), ("FormulaWorks$Reader", "state", "I", false), ("FormulaWorks$Reader", "equalsMet", "Z", false), ("FormulaWorks$Reader", "over", "Z", false), ("FormulaWorks$Reader", "fault", "I", false), ("FormulaWorks$Reader", "faultPlace", "I", false)]
def s_T5 : u_T := fun k => s_L5.getD k ("", "", "", false)
def s_L6 : List (String × String × String × Bool) := [("FormulaWorks$Rules", "algebra", "LFormulaWorks$Algebra;", true), ("FormulaWorks$Rules", "linear", "LFormulaWorks$Linear;", true)]
def s_T6 : u_T := fun k => s_L6.getD k ("", "", "", false)
def s_L7 : List (String × String × String × Bool) := [("FormulaWorks$Sheet", "reader", "LFormulaWorks$Reader;", true), ("FormulaWorks$Sheet", "texts", "[[I", true), ("FormulaWorks$Sheet", "lengths", "[I", true), ("FormulaWorks$Sheet", "named", "[I", true), ("FormulaWorks$Sheet", "hangs", "[I", true), ("FormulaWorks$Sheet", "fractions", "[LFormulaWorks$Thing;", true), ("FormulaWorks$Sheet", "faults", "[I", true), ("FormulaWorks$Sheet", "places", "[I", true), ("FormulaWorks$Sheet", "fresh", "I", false), ("FormulaWorks$Sheet", "worked", "I", false)]
def s_T7 : u_T := fun k => s_L7.getD k ("", "", "", false)
def s_L8 : List (String × String × String × Bool) := [("FormulaWorks$Thing", "kind", "I", true), ("FormulaWorks$Thing", "top", "LFormulaWorks$Poly;", true), ("FormulaWorks$Thing", "bottom", "LFormulaWorks$Poly;", true), ("FormulaWorks$Thing", "rows", "I", true), ("FormulaWorks$Thing", "columns", "I", true), ("FormulaWorks$Thing", "entries", "[LFormulaWorks$Poly;", true), ("FormulaWorks$Thing", "numbers", "[I", true), ("FormulaWorks$Thing", "fault", "I", false)]
def s_T8 : u_T := fun k => s_L8.getD k ("", "", "", false)
def s_L9 : List (String × String × String × Bool) := [("FormulaWorks$Trees", "nodes", "[I", true), ("FormulaWorks$Trees", "length", "I", false), ("FormulaWorks$Trees", "sizes", "[I", true), ("FormulaWorks$Trees", "starts", "[I", true), ("FormulaWorks$Trees", "begun", "I", false), ("FormulaWorks$Trees", "piece", "[I", true), ("FormulaWorks$Trees", "pieceLength", "I", false), ("FormulaWorks$Trees", "shown", "[I", true), ("FormulaWorks$Trees", "shownLength", "I", false), ("FormulaWorks$Trees", "waiting", "[I", true), ("FormulaWorks$Trees", "waits", "I", false), ("FormulaWorks$Trees", "rowNodes", "[I", true), ("FormulaWorks$Trees", "rowLaws", "[I", true), ("FormulaWorks$Trees", "rowCount", "I", false)]
def s_T9 : u_T := fun k => s_L9.getD k ("", "", "", false)
def s_L10 : List (String × String × String × Bool) := [("FormulaWorks", "things", "[LFormulaWorks$Thing;", true), ("FormulaWorks", "thingCount", "I", false), ("FormulaWorks", "text", "[I", true), ("FormulaWorks", "textLength", "I", false), ("FormulaWorks", "lastFault", "I", false), ("FormulaWorks", "lastPlace", "I", false), ("FormulaWorks", "taken", "[LFormulaWorks$Poly;", true), ("FormulaWorks", "takenCount", "I", false), ("FormulaWorks", "algebra", "LFormulaWorks$Algebra;", true), ("FormulaWorks", "parts", "LFormulaWorks$Parts;", true), ("FormulaWorks", "minors", "LFormulaWorks$Minors;", true), ("FormulaWorks", "rules", "LFormulaWorks$Rules;", true), ("FormulaWorks", "trees", "LFormulaWorks$Trees;", true), ("FormulaWorks", "reader", "LFormulaWorks$Reader;", true), ("FormulaWorks", "sheet", "LFormulaWorks$Sheet;", true), ("FormulaWorks", "one", "LFormulaWorks$Poly;", true), ("FormulaWorks", "wide", "LFormulaWorks$Poly;", true), ("FormulaWorks", "result", "LFormulaWorks$Thing;", true), ("FormulaWorks", "spare", "LFormulaWorks$Thing;", true)]
def s_T10 : u_T := fun k => s_L10.getD k ("", "", "", false)
def s_L11 : List (String × String × String × Bool) := [("FormulaWorksModel", "code", "I", false), ("FormulaWorksModel", "many", "I", false), ("FormulaWorksModel", "kind", "[I", true), ("FormulaWorksModel", "tops", "[I", true), ("FormulaWorksModel", "bottoms", "[I", true), ("FormulaWorksModel", "rows", "[I", true), ("FormulaWorksModel", "columns", "[I", true), ("FormulaWorksModel", "entries", "[I", true), ("FormulaWorksModel", "taken", "I", false), ("FormulaWorksModel", "takes", "[I", true), ("FormulaWorksModel", "at", "[J", true), ("FormulaWorksModel", "ab", "[J", true), ("FormulaWorksModel", "bt", "[J", true), ("FormulaWorksModel", "bb", "[J", true), ("FormulaWorksModel", "rt", "[J", true), ("FormulaWorksModel", "rb", "[J", true), ("FormulaWorksModel", "x", "[J", true), ("FormulaWorksModel", "quotient", "[J", true), ("FormulaWorksModel", "g", "[J", true), ("FormulaWorksModel", "h", "[J", true), ("FormulaWorksModel", "s", "[J", true), ("FormulaWorksModel", "t", "[J", true), ("FormulaWorksModel", "u", "[J", true), ("FormulaWorksModel", "v", "[J", true), ("FormulaWorksModel", "w", "[J", true), ("FormulaWorksModel", "shifted", "[J", true), ("FormulaWorksModel", "factors", "I", false), ("FormulaWorksModel", "factorDegree", "[I", true), ("FormulaWorksModel", "factorAt", "[J", true), ("FormulaWorksModel", "factorOften", "[I", true), ("FormulaWorksModel", "table", "[J", true), ("FormulaWorksModel", "row", "[I", true), ("FormulaWorksModel", "free", "I", false), ("FormulaWorksModel", "parts", "I", false), ("FormulaWorksModel", "partAt", "[J", true), ("FormulaWorksModel", "fixed", "I", false), ("FormulaWorksModel", "fixedAt", "[J", true), ("FormulaWorksModel", "rank", "I", false), ("FormulaWorksModel", "under", "[J", true), ("FormulaWorksModel", "once", "[J", true), ("FormulaWorksModel", "coreTop", "[J", true), ("FormulaWorksModel", "restTop", "[J", true), ("FormulaWorksModel", "whole", "[J", true), ("FormulaWorksModel", "wide", "[J", true), ("FormulaWorksModel", "wideRow", "[I", true), ("FormulaWorksModel", "terms", "[J", true), ("FormulaWorksModel", "minors", "[J", true), ("FormulaWorksModel", "powers", "[J", true), ("FormulaWorksModel", "answers", "[J", true), ("FormulaWorksModel", "spare", "[J", true), ("FormulaWorksModel", "length", "I", false), ("FormulaWorksModel", "text", "[I", true), ("FormulaWorksModel", "sourceLength", "I", false), ("FormulaWorksModel", "source", "[I", true), ("FormulaWorksModel", "mode", "I", false), ("FormulaWorksModel", "bad", "I", false), ("FormulaWorksModel", "badPlace", "I", false), ("FormulaWorksModel", "fault", "I", false), ("FormulaWorksModel", "faultPlace", "I", false), ("FormulaWorksModel", "open", "I", false), ("FormulaWorksModel", "hasSum", "[Z", true), ("FormulaWorksModel", "hasTerm", "[Z", true), ("FormulaWorksModel", "lessAhead", "[Z", true), ("FormulaWorksModel", "sumSign", "[I", true), ("FormulaWorksModel", "termSign", "[I", true), ("FormulaWorksModel", "sumPlace", "[I", true), ("FormulaWorksModel", "termPlace", "[I", true), ("FormulaWorksModel", "sumTop", "[J", true), ("FormulaWorksModel", "sumBottom", "[J", true), ("FormulaWorksModel", "termTop", "[J", true), ("FormulaWorksModel", "termBottom", "[J", true), ("FormulaWorksModel", "here", "I", false), ("FormulaWorksModel", "state", "I", false), ("FormulaWorksModel", "claimTop", "[J", true), ("FormulaWorksModel", "claimBottom", "[J", true), ("FormulaWorksModel", "isSecond", "Z", false), ("FormulaWorksModel", "wanted", "I", false), ("FormulaWorksModel", "printed", "I", false), ("FormulaWorksModel", "out", "[I", true), ("FormulaWorksModel", "sizes", "[I", true), ("FormulaWorksModel", "sorts", "[I", true), ("FormulaWorksModel", "values", "[I", true), ("FormulaWorksModel", "nodes", "I", false), ("FormulaWorksModel", "nodeSort", "[I", true), ("FormulaWorksModel", "nodeValue", "[I", true), ("FormulaWorksModel", "newNodes", "I", false), ("FormulaWorksModel", "newSort", "[I", true), ("FormulaWorksModel", "newValue", "[I", true), ("FormulaWorksModel", "emitted", "I", false), ("FormulaWorksModel", "emitSort", "[I", true), ("FormulaWorksModel", "emitValue", "[I", true), ("FormulaWorksModel", "firstPart", "[I", true), ("FormulaWorksModel", "secondPart", "[I", true), ("FormulaWorksModel", "pile", "[I", true), ("FormulaWorksModel", "worthTop", "[J", true), ("FormulaWorksModel", "worthBottom", "[J", true), ("FormulaWorksModel", "deep", "[I", true), ("FormulaWorksModel", "failed", "[I", true), ("FormulaWorksModel", "rowsMade", "I", false), ("FormulaWorksModel", "rowNode", "[I", true), ("FormulaWorksModel", "rowLaw", "[I", true), ("FormulaWorksModel", "cellLength", "[I", true), ("FormulaWorksModel", "cellText", "[I", true), ("FormulaWorksModel", "cellTop", "[I", true), ("FormulaWorksModel", "cellBottom", "[I", true), ("FormulaWorksModel", "cellFault", "[I", true), ("FormulaWorksModel", "cellPlace", "[I", true), ("FormulaWorksModel", "clock", "I", false), ("FormulaWorksModel", "enteredAt", "[I", true), ("FormulaWorksModel", "workedAt", "[I", true), ("FormulaWorksModel", "workings", "I", false)]
def s_T11 : u_T := fun k => s_L11.getD k ("", "", "", false)
abbrev s_cl : List vw_C := [("FormulaWorks$Algebra", s_T0, 2), ("FormulaWorks$Linear", s_T1, 5), ("FormulaWorks$Minors", s_T2, 4), ("FormulaWorks$Parts", s_T3, 8), ("FormulaWorks$Poly", s_T4, 2), ("FormulaWorks$Reader", s_T5, 20), ("FormulaWorks$Rules", s_T6, 2), ("FormulaWorks$Sheet", s_T7, 10), ("FormulaWorks$Thing", s_T8, 8), ("FormulaWorks$Trees", s_T9, 14), ("FormulaWorks", s_T10, 19), ("FormulaWorksModel", s_T11, 111)]
def s_fts : List (List FieldType) := [[.array (.object "FormulaWorks$Poly"), .int], [.array (.array .int), .array .int, .array .int, .int, .int], [.object "FormulaWorks$Algebra", .array (.object "FormulaWorks$Poly"), .array .int, .array .int], [.object "FormulaWorks$Algebra", .object "FormulaWorks$Linear", .array (.object "FormulaWorks$Poly"), .array .int, .int, .array (.object "FormulaWorks$Poly"), .array (.object "FormulaWorks$Poly"), .object "FormulaWorks$Poly"], [.array .int, .int], [.object "FormulaWorks$Algebra", .object "FormulaWorks$Trees", .array (.object "FormulaWorks$Thing"), .array (.object "FormulaWorks$Thing"), .int, .array .int, .array .int, .array .int, .array .int, .array .int, .int, .int, .int, .int, .int, .int, .boolean, .boolean, .int, .int], [.object "FormulaWorks$Algebra", .object "FormulaWorks$Linear"], [.object "FormulaWorks$Reader", .array (.array .int), .array .int, .array .int, .array .int, .array (.object "FormulaWorks$Thing"), .array .int, .array .int, .int, .int], [.int, .object "FormulaWorks$Poly", .object "FormulaWorks$Poly", .int, .int, .array (.object "FormulaWorks$Poly"), .array .int, .int], [.array .int, .int, .array .int, .array .int, .int, .array .int, .int, .array .int, .int, .array .int, .int, .array .int, .array .int, .int], [.array (.object "FormulaWorks$Thing"), .int, .array .int, .int, .int, .int, .array (.object "FormulaWorks$Poly"), .int, .object "FormulaWorks$Algebra", .object "FormulaWorks$Parts", .object "FormulaWorks$Minors", .object "FormulaWorks$Rules", .object "FormulaWorks$Trees", .object "FormulaWorks$Reader", .object "FormulaWorks$Sheet", .object "FormulaWorks$Poly", .object "FormulaWorks$Poly", .object "FormulaWorks$Thing", .object "FormulaWorks$Thing"], [.int, .int, .array .int, .array .int, .array .int, .array .int, .array .int, .array .int, .int, .array .int, .array .long, .array .long, .array .long, .array .long, .array .long, .array .long, .array .long, .array .long, .array .long, .array .long, .array .long, .array .long, .array .long, .array .long, .array .long, .array .long, .int, .array .int, .array .long, .array .int, .array .long, .array .int, .int, .int, .array .long, .int, .array .long, .int, .array .long, .array .long, .array .long, .array .long, .array .long, .array .long, .array .int, .array .long, .array .long, .array .long, .array .long, .array .long, .int, .array .int, .int, .array .int, .int, .int, .int, .int, .int, .int, .array .boolean, .array .boolean, .array .boolean, .array .int, .array .int, .array .int, .array .int, .array .long, .array .long, .array .long, .array .long, .int, .int, .array .long, .array .long, .boolean, .int, .int, .array .int, .array .int, .array .int, .array .int, .int, .array .int, .array .int, .int, .array .int, .array .int, .int, .array .int, .array .int, .array .int, .array .int, .array .int, .array .long, .array .long, .array .int, .array .int, .int, .array .int, .array .int, .array .int, .array .int, .array .int, .array .int, .array .int, .array .int, .int, .array .int, .array .int, .int]]
def s_ft (ci k : Nat) : FieldType := (s_fts.getD ci []).getD k .int
def s_dt (t : FieldType) : Term := match t with
  | .long => .long 0
  | .object _ => .null
  | .array _ => .null
  | _ => .int 0
def s_dfs : List (List Term) := [[.null, .int 0], [.null, .null, .null, .int 0, .int 0], [.null, .null, .null, .null], [.null, .null, .null, .null, .int 0, .null, .null, .null], [.null, .int 0], [.null, .null, .null, .null, .int 0, .null, .null, .null, .null, .null, .int 0, .int 0, .int 0, .int 0, .int 0, .int 0, .int 0, .int 0, .int 0, .int 0], [.null, .null], [.null, .null, .null, .null, .null, .null, .null, .null, .int 0, .int 0], [.int 0, .null, .null, .int 0, .int 0, .null, .null, .int 0], [.null, .int 0, .null, .null, .int 0, .null, .int 0, .null, .int 0, .null, .int 0, .null, .null, .int 0], [.null, .int 0, .null, .int 0, .int 0, .int 0, .null, .int 0, .null, .null, .null, .null, .null, .null, .null, .null, .null, .null, .null], [.int 0, .int 0, .null, .null, .null, .null, .null, .null, .int 0, .null, .null, .null, .null, .null, .null, .null, .null, .null, .null, .null, .null, .null, .null, .null, .null, .null, .int 0, .null, .null, .null, .null, .null, .int 0, .int 0, .null, .int 0, .null, .int 0, .null, .null, .null, .null, .null, .null, .null, .null, .null, .null, .null, .null, .int 0, .null, .int 0, .null, .int 0, .int 0, .int 0, .int 0, .int 0, .int 0, .null, .null, .null, .null, .null, .null, .null, .null, .null, .null, .null, .int 0, .int 0, .null, .null, .int 0, .int 0, .int 0, .null, .null, .null, .null, .int 0, .null, .null, .int 0, .null, .null, .int 0, .null, .null, .null, .null, .null, .null, .null, .null, .null, .int 0, .null, .null, .null, .null, .null, .null, .null, .null, .int 0, .null, .null, .int 0]]
noncomputable def s_df (ci : Nat) : List Term := match s_nth s_dfs ci with
  | some l => l
  | none => []
def s_aty (tag : Nat) : FieldType := match tag with
  | 0 => .int
  | 1 => .long
  | 2 => .object "FormulaWorks$Poly"
  | 3 => .object "FormulaWorks$Thing"
  | 4 => .array .int
  | 5 => .boolean
  | _ => .byte
def s_comp (tag : Nat) : Nat := match tag with
  | 2 => 4
  | 3 => 8
  | _ => 99
def s_exn (k : Nat) : String := match k with
  | 0 => "java/lang/IllegalStateException"
  | 1 => "java/lang/IllegalArgumentException"
  | 2 => "java/lang/ArithmeticException"
  | _ => "java/lang/IndexOutOfBoundsException"
def s_exs : List String := ["java/lang/RuntimeException", "java/lang/Exception"]
def s_W0 : List Nat := [301, 303]
set_option maxRecDepth 100000 in
theorem s_in0 : u_ws "FormulaWorks$Algebra" s_T0 2 = s_W0.filterMap (fun i => lw_tbl[i]?) := by decide +kernel
set_option maxRecDepth 100000 in
theorem s_nm0 : ∀ a, a < 2 → ∀ b, b < 2 → a ≠ b → (s_T0 a).2.1 ≠ (s_T0 b).2.1 := by decide +kernel
set_option maxRecDepth 100000 in
theorem s_tq0 : ∀ k, k < 2 → parseFieldDescriptor (s_T0 k).2.2.1 = some (s_ft 0 k) ∧ (s_T0 k).1 = "FormulaWorks$Algebra" ∧ s_nth (s_df 0) k = some (s_dt (s_ft 0 k)) ∧ s_ft 0 k ≠ .float ∧ s_ft 0 k ≠ .double := by decide +kernel
theorem s_ln0 : (s_df 0).length = 2 := by decide +kernel
theorem s_ip0 : Cond.instantiable "FormulaWorks$Algebra" 2 ∈ lw_tbl := List.mem_of_getElem? (i := 270) (by decide +kernel)
def s_W1 : List Nat := [321, 323, 325, 327, 329]
set_option maxRecDepth 100000 in
theorem s_in1 : u_ws "FormulaWorks$Linear" s_T1 5 = s_W1.filterMap (fun i => lw_tbl[i]?) := by decide +kernel
set_option maxRecDepth 100000 in
theorem s_nm1 : ∀ a, a < 5 → ∀ b, b < 5 → a ≠ b → (s_T1 a).2.1 ≠ (s_T1 b).2.1 := by decide +kernel
set_option maxRecDepth 100000 in
theorem s_tq1 : ∀ k, k < 5 → parseFieldDescriptor (s_T1 k).2.2.1 = some (s_ft 1 k) ∧ (s_T1 k).1 = "FormulaWorks$Linear" ∧ s_nth (s_df 1) k = some (s_dt (s_ft 1 k)) ∧ s_ft 1 k ≠ .float ∧ s_ft 1 k ≠ .double := by decide +kernel
theorem s_ln1 : (s_df 1).length = 5 := by decide +kernel
theorem s_ip1 : Cond.instantiable "FormulaWorks$Linear" 5 ∈ lw_tbl := List.mem_of_getElem? (i := 307) (by decide +kernel)
def s_W2 : List Nat := [380, 382, 384, 386]
set_option maxRecDepth 100000 in
theorem s_in2 : u_ws "FormulaWorks$Minors" s_T2 4 = s_W2.filterMap (fun i => lw_tbl[i]?) := by decide +kernel
set_option maxRecDepth 100000 in
theorem s_nm2 : ∀ a, a < 4 → ∀ b, b < 4 → a ≠ b → (s_T2 a).2.1 ≠ (s_T2 b).2.1 := by decide +kernel
set_option maxRecDepth 100000 in
theorem s_tq2 : ∀ k, k < 4 → parseFieldDescriptor (s_T2 k).2.2.1 = some (s_ft 2 k) ∧ (s_T2 k).1 = "FormulaWorks$Minors" ∧ s_nth (s_df 2) k = some (s_dt (s_ft 2 k)) ∧ s_ft 2 k ≠ .float ∧ s_ft 2 k ≠ .double := by decide +kernel
theorem s_ln2 : (s_df 2).length = 4 := by decide +kernel
theorem s_ip2 : Cond.instantiable "FormulaWorks$Minors" 4 ∈ lw_tbl := List.mem_of_getElem? (i := 369) (by decide +kernel)
def s_W3 : List Nat := [351, 353, 355, 357, 359, 361, 363, 365]
set_option maxRecDepth 100000 in
theorem s_in3 : u_ws "FormulaWorks$Parts" s_T3 8 = s_W3.filterMap (fun i => lw_tbl[i]?) := by decide +kernel
set_option maxRecDepth 100000 in
theorem s_nm3 : ∀ a, a < 8 → ∀ b, b < 8 → a ≠ b → (s_T3 a).2.1 ≠ (s_T3 b).2.1 := by decide +kernel
set_option maxRecDepth 100000 in
theorem s_tq3 : ∀ k, k < 8 → parseFieldDescriptor (s_T3 k).2.2.1 = some (s_ft 3 k) ∧ (s_T3 k).1 = "FormulaWorks$Parts" ∧ s_nth (s_df 3) k = some (s_dt (s_ft 3 k)) ∧ s_ft 3 k ≠ .float ∧ s_ft 3 k ≠ .double := by decide +kernel
theorem s_ln3 : (s_df 3).length = 8 := by decide +kernel
theorem s_ip3 : Cond.instantiable "FormulaWorks$Parts" 8 ∈ lw_tbl := List.mem_of_getElem? (i := 333) (by decide +kernel)
def s_W4 : List Nat := [293, 295]
set_option maxRecDepth 100000 in
theorem s_in4 : u_ws "FormulaWorks$Poly" s_T4 2 = s_W4.filterMap (fun i => lw_tbl[i]?) := by decide +kernel
set_option maxRecDepth 100000 in
theorem s_nm4 : ∀ a, a < 2 → ∀ b, b < 2 → a ≠ b → (s_T4 a).2.1 ≠ (s_T4 b).2.1 := by decide +kernel
set_option maxRecDepth 100000 in
theorem s_tq4 : ∀ k, k < 2 → parseFieldDescriptor (s_T4 k).2.2.1 = some (s_ft 4 k) ∧ (s_T4 k).1 = "FormulaWorks$Poly" ∧ s_nth (s_df 4) k = some (s_dt (s_ft 4 k)) ∧ s_ft 4 k ≠ .float ∧ s_ft 4 k ≠ .double := by decide +kernel
theorem s_ln4 : (s_df 4).length = 2 := by decide +kernel
theorem s_ip4 : Cond.instantiable "FormulaWorks$Poly" 2 ∈ lw_tbl := List.mem_of_getElem? (i := 276) (by decide +kernel)
def s_W5 : List Nat := [558, 560, 562, 564, 566, 568, 570, 572, 574, 576, 578, 580, 582, 584, 586, 588, 590, 592, 594, 596]
set_option maxRecDepth 100000 in
theorem s_in5 : u_ws "FormulaWorks$Reader" s_T5 20 = s_W5.filterMap (fun i => lw_tbl[i]?) := by decide +kernel
set_option maxRecDepth 100000 in
theorem s_nm5 : ∀ a, a < 20 → ∀ b, b < 20 → a ≠ b → (s_T5 a).2.1 ≠ (s_T5 b).2.1 := by decide +kernel
set_option maxRecDepth 100000 in
theorem s_tq5 : ∀ k, k < 20 → parseFieldDescriptor (s_T5 k).2.2.1 = some (s_ft 5 k) ∧ (s_T5 k).1 = "FormulaWorks$Reader" ∧ s_nth (s_df 5) k = some (s_dt (s_ft 5 k)) ∧ s_ft 5 k ≠ .float ∧ s_ft 5 k ≠ .double := by decide +kernel
theorem s_ln5 : (s_df 5).length = 20 := by decide +kernel
theorem s_ip5 : Cond.instantiable "FormulaWorks$Reader" 20 ∈ lw_tbl := List.mem_of_getElem? (i := 459) (by decide +kernel)
def s_W6 : List Nat := [397, 399]
set_option maxRecDepth 100000 in
theorem s_in6 : u_ws "FormulaWorks$Rules" s_T6 2 = s_W6.filterMap (fun i => lw_tbl[i]?) := by decide +kernel
set_option maxRecDepth 100000 in
theorem s_nm6 : ∀ a, a < 2 → ∀ b, b < 2 → a ≠ b → (s_T6 a).2.1 ≠ (s_T6 b).2.1 := by decide +kernel
set_option maxRecDepth 100000 in
theorem s_tq6 : ∀ k, k < 2 → parseFieldDescriptor (s_T6 k).2.2.1 = some (s_ft 6 k) ∧ (s_T6 k).1 = "FormulaWorks$Rules" ∧ s_nth (s_df 6) k = some (s_dt (s_ft 6 k)) ∧ s_ft 6 k ≠ .float ∧ s_ft 6 k ≠ .double := by decide +kernel
theorem s_ln6 : (s_df 6).length = 2 := by decide +kernel
theorem s_ip6 : Cond.instantiable "FormulaWorks$Rules" 2 ∈ lw_tbl := List.mem_of_getElem? (i := 390) (by decide +kernel)
def s_W7 : List Nat := [620, 622, 624, 626, 628, 630, 632, 634, 636, 638]
set_option maxRecDepth 100000 in
theorem s_in7 : u_ws "FormulaWorks$Sheet" s_T7 10 = s_W7.filterMap (fun i => lw_tbl[i]?) := by decide +kernel
set_option maxRecDepth 100000 in
theorem s_nm7 : ∀ a, a < 10 → ∀ b, b < 10 → a ≠ b → (s_T7 a).2.1 ≠ (s_T7 b).2.1 := by decide +kernel
set_option maxRecDepth 100000 in
theorem s_tq7 : ∀ k, k < 10 → parseFieldDescriptor (s_T7 k).2.2.1 = some (s_ft 7 k) ∧ (s_T7 k).1 = "FormulaWorks$Sheet" ∧ s_nth (s_df 7) k = some (s_dt (s_ft 7 k)) ∧ s_ft 7 k ≠ .float ∧ s_ft 7 k ≠ .double := by decide +kernel
theorem s_ln7 : (s_df 7).length = 10 := by decide +kernel
theorem s_ip7 : Cond.instantiable "FormulaWorks$Sheet" 10 ∈ lw_tbl := List.mem_of_getElem? (i := 600) (by decide +kernel)
def s_W8 : List Nat := [515, 517, 519, 521, 523, 525, 527, 529]
set_option maxRecDepth 100000 in
theorem s_in8 : u_ws "FormulaWorks$Thing" s_T8 8 = s_W8.filterMap (fun i => lw_tbl[i]?) := by decide +kernel
set_option maxRecDepth 100000 in
theorem s_nm8 : ∀ a, a < 8 → ∀ b, b < 8 → a ≠ b → (s_T8 a).2.1 ≠ (s_T8 b).2.1 := by decide +kernel
set_option maxRecDepth 100000 in
theorem s_tq8 : ∀ k, k < 8 → parseFieldDescriptor (s_T8 k).2.2.1 = some (s_ft 8 k) ∧ (s_T8 k).1 = "FormulaWorks$Thing" ∧ s_nth (s_df 8) k = some (s_dt (s_ft 8 k)) ∧ s_ft 8 k ≠ .float ∧ s_ft 8 k ≠ .double := by decide +kernel
theorem s_ln8 : (s_df 8).length = 8 := by decide +kernel
theorem s_ip8 : Cond.instantiable "FormulaWorks$Thing" 8 ∈ lw_tbl := List.mem_of_getElem? (i := 465) (by decide +kernel)
def s_W9 : List Nat := [429, 431, 433, 435, 437, 439, 441, 443, 445, 447, 449, 451, 453, 455]
set_option maxRecDepth 100000 in
theorem s_in9 : u_ws "FormulaWorks$Trees" s_T9 14 = s_W9.filterMap (fun i => lw_tbl[i]?) := by decide +kernel
set_option maxRecDepth 100000 in
theorem s_nm9 : ∀ a, a < 14 → ∀ b, b < 14 → a ≠ b → (s_T9 a).2.1 ≠ (s_T9 b).2.1 := by decide +kernel
set_option maxRecDepth 100000 in
theorem s_tq9 : ∀ k, k < 14 → parseFieldDescriptor (s_T9 k).2.2.1 = some (s_ft 9 k) ∧ (s_T9 k).1 = "FormulaWorks$Trees" ∧ s_nth (s_df 9) k = some (s_dt (s_ft 9 k)) ∧ s_ft 9 k ≠ .float ∧ s_ft 9 k ≠ .double := by decide +kernel
theorem s_ln9 : (s_df 9).length = 14 := by decide +kernel
theorem s_ip9 : Cond.instantiable "FormulaWorks$Trees" 14 ∈ lw_tbl := List.mem_of_getElem? (i := 403) (by decide +kernel)
def s_W10 : List Nat := [663, 665, 667, 669, 671, 673, 675, 677, 679, 681, 683, 685, 687, 689, 691, 693, 695, 697, 699]
set_option maxRecDepth 100000 in
theorem s_in10 : u_ws "FormulaWorks" s_T10 19 = s_W10.filterMap (fun i => lw_tbl[i]?) := by decide +kernel
set_option maxRecDepth 100000 in
theorem s_nm10 : ∀ a, a < 19 → ∀ b, b < 19 → a ≠ b → (s_T10 a).2.1 ≠ (s_T10 b).2.1 := by decide +kernel
set_option maxRecDepth 100000 in
theorem s_tq10 : ∀ k, k < 19 → parseFieldDescriptor (s_T10 k).2.2.1 = some (s_ft 10 k) ∧ (s_T10 k).1 = "FormulaWorks" ∧ s_nth (s_df 10) k = some (s_dt (s_ft 10 k)) ∧ s_ft 10 k ≠ .float ∧ s_ft 10 k ≠ .double := by decide +kernel
theorem s_ln10 : (s_df 10).length = 19 := by decide +kernel
theorem s_ip10 : Cond.instantiable "FormulaWorks" 19 ∈ lw_tbl := List.mem_of_getElem? (i := 258) (by decide +kernel)
def s_W11 : List Nat := [2783, 2785, 2787, 2789, 2791, 2793, 2795, 2797, 2799, 2801, 2803, 2805, 2807, 2809, 2811, 2813, 2815, 2817, 2819, 2821, 2823, 2825, 2827, 2829, 2831, 2833, 2835, 2837, 2839, 2841, 2843, 2845, 2847, 2849, 2851, 2853, 2855, 2857, 2859, 2861, 2863, 2865, 2867, 2869, 2871, 2873, 2875, 2877, 2879, 2881, 2883, 2885, 2887, 2889, 2891, 2893, 2895, 2897, 2899, 2901, 2903, 2905, 2907, 2909, 2911, 2913, 2915, 2917, 2919, 2921, 2923, 2925, 2927, 2929, 2931, 2933, 2935, 2937, 2939, 2941, 2943, 2945, 2947, 2949, 2951, 2953, 2955, 2957, 2959, 2961, 2963, 2965, 2967, 2969, 2971, 2973, 2975, 2977, 2979, 2981, 2983, 2985, 2987, 2989, 2991, 2993, 2995, 2997, 2999, 3001, 3003]
set_option maxRecDepth 100000 in
theorem s_in11 : u_ws "FormulaWorksModel" s_T11 111 = s_W11.filterMap (fun i => lw_tbl[i]?) := by decide +kernel
set_option maxRecDepth 100000 in
theorem s_nm11 : ∀ a, a < 111 → ∀ b, b < 111 → a ≠ b → (s_T11 a).2.1 ≠ (s_T11 b).2.1 := by decide +kernel
set_option maxRecDepth 100000 in
theorem s_tq11 : ∀ k, k < 111 → parseFieldDescriptor (s_T11 k).2.2.1 = some (s_ft 11 k) ∧ (s_T11 k).1 = "FormulaWorksModel" ∧ s_nth (s_df 11) k = some (s_dt (s_ft 11 k)) ∧ s_ft 11 k ≠ .float ∧ s_ft 11 k ≠ .double := by decide +kernel
theorem s_ln11 : (s_df 11).length = 111 := by decide +kernel
theorem s_ip11 : Cond.instantiable "FormulaWorksModel" 111 ∈ lw_tbl := List.mem_of_getElem? (i := 2667) (by decide +kernel)
theorem s_sub {A B : List Cond} {is : List Nat} (h : A = is.filterMap (fun i => B[i]?)) : ∀ w ∈ A, w ∈ B := by
  intro w hw
  rw [h] at hw
  obtain ⟨i, -, hi⟩ := List.mem_filterMap.mp hw
  exact List.mem_of_getElem? hi
def s_bw : List Cond := [.castable "java/lang/IllegalStateException" "java/lang/IllegalStateException", .castable "java/lang/IllegalArgumentException" "java/lang/IllegalArgumentException", .castable "java/lang/ArithmeticException" "java/lang/ArithmeticException", .castable "java/lang/IndexOutOfBoundsException" "java/lang/IndexOutOfBoundsException", .methodLinkNest "FormulaWorks" 34 ⟨"FormulaWorks$Linear", "<init>", "()V"⟩ "FormulaWorks", .methodLinkNest "FormulaWorks" 62 ⟨"FormulaWorks$Trees", "<init>", "()V"⟩ "FormulaWorks", .arrayOver (.object "FormulaWorks$Thing"), .arrayOver (.object "FormulaWorks$Poly"), .arrayOver (.array .int), .declares ⟨"java/lang/RuntimeException", "<init>", "()V"⟩, .declares ⟨"java/lang/Exception", "<init>", "()V"⟩, .declares ⟨"java/lang/Throwable", "<init>", "()V"⟩]
theorem s_bw_in : ∀ w ∈ s_bw, w ∈ lw_tbl := by decide +kernel
def s_gd : List Cond := lw_tbl.filter goodWord ++ s_bw
theorem s_gdof {w : Cond} (h : w ∈ lw_tbl) (g : goodWord w = true) : w ∈ s_gd := List.mem_append_left _ (List.mem_filter.mpr ⟨h, g⟩)
theorem s_gd_tbl {w : Cond} (h : w ∈ s_gd) : w ∈ lw_tbl := by
  rcases List.mem_append.mp h with h | h
  · exact (List.mem_filter.mp h).1
  · exact s_bw_in w h
theorem s_layg {C : String} {T : u_T} {N : Nat} (h : ∀ w ∈ u_ws C T N, w ∈ lw_tbl) : ∀ w ∈ u_ws C T N, w ∈ s_gd := by
  intro w hw
  refine s_gdof (h w hw) ?_
  obtain ⟨k, -, rfl⟩ := List.mem_map.mp hw
  unfold u_lay
  split <;> rfl
/-- the words that aren't kept as the others are -/
theorem s_bw_moved {s U : State} {A A' : Array Value} (hW : s.WarmedH U.vm) {w : Cond} (hw : w ∈ s_bw) (h : w.before A s = true) : w.before A' U = true := by
  simp only [s_bw, List.mem_cons, List.not_mem_nil, or_false] at hw
  have f : ∀ c : Cond, c.onTables = true → c.keepsFace = true → c.before A s = true → c.before A' U = true := fun c h1 h2 h3 => va_tabs h1 (rfl : (s.setVm U.vm).vm = U.vm) (Cond.before_shiftedFace (State.Shifted.of_warmed hW) c h2 h3)
  have g : ∀ t : FieldType, (Cond.arrayOver t).before A s = true → (Cond.arrayOver t).before A' U = true := fun t h3 => by
    have h4 := Cond.arrayOver_setVmC (args := A) hW.alike t
    rw [h3] at h4
    exact h4
  rcases hw with rfl | rfl | rfl | rfl | rfl | rfl | rfl | rfl | rfl | rfl | rfl | rfl
  · exact f _ rfl rfl h
  · exact f _ rfl rfl h
  · exact f _ rfl rfl h
  · exact f _ rfl rfl h
  · exact va_tabs rfl (rfl : (s.setVm U.vm).vm = U.vm) (Cond.methodLinkNest_warmed hW h)
  · exact va_tabs rfl (rfl : (s.setVm U.vm).vm = U.vm) (Cond.methodLinkNest_warmed hW h)
  · exact g _ h
  · exact g _ h
  · exact g _ h
  · exact f _ rfl rfl h
  · exact f _ rfl rfl h
  · exact f _ rfl rfl h
theorem s_bw_any {s : State} {A A' : Array Value} {w : Cond} (hw : w ∈ s_bw) (h : w.before A s = true) : w.before A' s = true := s_bw_moved (State.WarmedH.refl s) hw h

/-- of each class: its words, its fields' names and types, a new object's fields -/
def s_CF (ci : Nat) (r : vw_C) : Prop := (∀ w ∈ u_ws r.1 r.2.1 r.2.2, w ∈ s_gd) ∧ (∀ a, a < r.2.2 → ∀ b, b < r.2.2 → a ≠ b → (r.2.1 a).2.1 ≠ (r.2.1 b).2.1) ∧ (∀ k, k < r.2.2 → parseFieldDescriptor (r.2.1 k).2.2.1 = some (s_ft ci k) ∧ (r.2.1 k).1 = r.1 ∧ s_nth (s_df ci) k = some (s_dt (s_ft ci k)) ∧ s_ft ci k ≠ .float ∧ s_ft ci k ≠ .double) ∧ (s_df ci).length = r.2.2 ∧ Cond.instantiable r.1 r.2.2 ∈ s_gd
theorem s_cf : ∀ (ci : Nat) (r : vw_C), s_cl[ci]? = some r → s_CF ci r := by
  intro ci r h
  match ci, h with
  | 0, h => cases h; exact ⟨s_layg (s_sub s_in0), s_nm0, s_tq0, s_ln0, s_gdof s_ip0 rfl⟩
  | 1, h => cases h; exact ⟨s_layg (s_sub s_in1), s_nm1, s_tq1, s_ln1, s_gdof s_ip1 rfl⟩
  | 2, h => cases h; exact ⟨s_layg (s_sub s_in2), s_nm2, s_tq2, s_ln2, s_gdof s_ip2 rfl⟩
  | 3, h => cases h; exact ⟨s_layg (s_sub s_in3), s_nm3, s_tq3, s_ln3, s_gdof s_ip3 rfl⟩
  | 4, h => cases h; exact ⟨s_layg (s_sub s_in4), s_nm4, s_tq4, s_ln4, s_gdof s_ip4 rfl⟩
  | 5, h => cases h; exact ⟨s_layg (s_sub s_in5), s_nm5, s_tq5, s_ln5, s_gdof s_ip5 rfl⟩
  | 6, h => cases h; exact ⟨s_layg (s_sub s_in6), s_nm6, s_tq6, s_ln6, s_gdof s_ip6 rfl⟩
  | 7, h => cases h; exact ⟨s_layg (s_sub s_in7), s_nm7, s_tq7, s_ln7, s_gdof s_ip7 rfl⟩
  | 8, h => cases h; exact ⟨s_layg (s_sub s_in8), s_nm8, s_tq8, s_ln8, s_gdof s_ip8 rfl⟩
  | 9, h => cases h; exact ⟨s_layg (s_sub s_in9), s_nm9, s_tq9, s_ln9, s_gdof s_ip9 rfl⟩
  | 10, h => cases h; exact ⟨s_layg (s_sub s_in10), s_nm10, s_tq10, s_ln10, s_gdof s_ip10 rfl⟩
  | 11, h => cases h; exact ⟨s_layg (s_sub s_in11), s_nm11, s_tq11, s_ln11, s_gdof s_ip11 rfl⟩
  | k + 12, h => simp [s_cl] at h
