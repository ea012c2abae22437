def sg_w90 : List Cond := [.methodLink "FormulaWorks$Parts" 3 ⟨"java/lang/Object", "<init>", "()V"⟩, .instanceMethod ⟨"java/lang/Object", "<init>", "()V"⟩, .code ⟨"java/lang/Object", "<init>", "()V"⟩ object_method_1_code 1 (Option.none : Option FieldType), .classLink "FormulaWorks$Parts" 9 "FormulaWorks$Poly", .arrayClass FieldType.int, .initialized "FormulaWorks$Poly", .methodLink "FormulaWorks$Parts" 35 ⟨"FormulaWorks$Poly", "<init>", "(I)V"⟩, .instanceMethod ⟨"FormulaWorks$Poly", "<init>", "(I)V"⟩]
set_option maxRecDepth 100000 in
theorem sg_q90 : s_okE sg_mi 90 sg_c90 4 sg_h90 := s_mkL (np := sg_np) sg_m90 (sg_K4 true) sg_w90 [337, 263, 264, 338, 298, 226, 339, 278] 336 rfl (s_isCw_s (by decide +kernel)) (plainFor_of_name sg_N4) sg_C4 rfl (by decide +kernel) (sg_K4_s rfl (fun _ => rfl)) (by decide +kernel) (by decide +kernel) (by decide +kernel) (by decide +kernel)
def sg_w91 : List Cond := [.methodLink "FormulaWorks$Poly" 3 ⟨"java/lang/Object", "<init>", "()V"⟩, .instanceMethod ⟨"java/lang/Object", "<init>", "()V"⟩, .code ⟨"java/lang/Object", "<init>", "()V"⟩ object_method_1_code 1 (Option.none : Option FieldType), .arrayClass FieldType.int]
set_option maxRecDepth 100000 in
theorem sg_q91 : s_okE sg_mi 91 sg_c91 2 sg_h91 := s_mkL (np := sg_np) sg_m91 (sg_K5 true) sg_w91 [280, 263, 264, 298] 279 rfl (by decide +kernel) (plainFor_of_name sg_N5) sg_C5 rfl (by decide +kernel) (sg_K5_s rfl (fun _ => rfl)) (by decide +kernel) (by decide +kernel) (by decide +kernel) (by decide +kernel)
def sg_w92 : List Cond := [.classLink "FormulaWorks$Poly" 10 "FormulaWorks$Poly", .initialized "FormulaWorks$Poly", .methodLink "FormulaWorks$Poly" 23 ⟨"FormulaWorks$Poly", "<init>", "(I)V"⟩, .instanceMethod ⟨"FormulaWorks$Poly", "<init>", "(I)V"⟩]
set_option maxRecDepth 100000 in
theorem sg_q92 : s_okE sg_mi 92 sg_c92 2 sg_h92 := s_mkL (np := sg_np) sg_m92 (sg_K5 false) sg_w92 [1052, 226, 1053, 278] 1051 rfl (by decide +kernel) (plainFor_of_name sg_N5) sg_C5 rfl (by decide +kernel) (sg_K5_s rfl (fun h => by cases h)) (by decide +kernel) (by decide +kernel) (by decide +kernel) (by decide +kernel)
def sg_w93 : List Cond := []
set_option maxRecDepth 100000 in
theorem sg_q93 : s_okE sg_mi 93 sg_c93 3 sg_h93 := s_mkL (np := sg_np) sg_m93 (sg_K5 false) sg_w93 [] 889 rfl (by decide +kernel) (plainFor_of_name sg_N5) sg_C5 rfl (by decide +kernel) (sg_K5_s rfl (fun h => by cases h)) (by decide +kernel) (by decide +kernel) (by decide +kernel) (by decide +kernel)
def sg_w94 : List Cond := []
set_option maxRecDepth 100000 in
theorem sg_q94 : s_okE sg_mi 94 sg_c94 2 sg_h94 := s_mkL (np := sg_np) sg_m94 (sg_K5 false) sg_w94 [] 475 rfl (by decide +kernel) (plainFor_of_name sg_N5) sg_C5 rfl (by decide +kernel) (sg_K5_s rfl (fun h => by cases h)) (by decide +kernel) (by decide +kernel) (by decide +kernel) (by decide +kernel)
def sg_w95 : List Cond := [.methodLink "FormulaWorks$Reader" 3 ⟨"java/lang/Object", "<init>", "()V"⟩, .instanceMethod ⟨"java/lang/Object", "<init>", "()V"⟩, .code ⟨"java/lang/Object", "<init>", "()V"⟩ object_method_1_code 1 (Option.none : Option FieldType), .arrayClass FieldType.int, .classLink "FormulaWorks$Reader" 36 "FormulaWorks$Thing", .initialized "FormulaWorks$Thing", .methodLink "FormulaWorks$Reader" 41 ⟨"FormulaWorks$Thing", "<init>", "(I)V"⟩, .instanceMethod ⟨"FormulaWorks$Thing", "<init>", "(I)V"⟩]
set_option maxRecDepth 100000 in
theorem sg_q95 : s_okE sg_mi 95 sg_c95 6 sg_h95 := s_mkL (np := sg_np) sg_m95 (sg_K6 true) sg_w95 [463, 263, 264, 298, 464, 233, 466, 467] 462 rfl (s_isCw_s (by decide +kernel)) (plainFor_of_name sg_N6) sg_C6 rfl (by decide +kernel) (sg_K6_s rfl (fun _ => rfl)) (by decide +kernel) (by decide +kernel) (by decide +kernel) (by decide +kernel)
def sg_w96 : List Cond := []
set_option maxRecDepth 100000 in
theorem sg_q96 : s_okE sg_mi 96 sg_c96 2 sg_h96 := s_mkL (np := sg_np) sg_m96 (sg_K6 false) sg_w96 [] 833 rfl (s_isCw_s (by decide +kernel)) (plainFor_of_name sg_N6) sg_C6 rfl (by decide +kernel) (sg_K6_s rfl (fun h => by cases h)) (by decide +kernel) (by decide +kernel) (by decide +kernel) (by decide +kernel)
def sg_w97 : List Cond := []
set_option maxRecDepth 100000 in
theorem sg_q97 : s_okE sg_mi 97 sg_c97 5 sg_h97 := s_mkL (np := sg_np) sg_m97 (sg_K6 false) sg_w97 [] 813 rfl (by decide +kernel) (plainFor_of_name sg_N6) sg_C6 rfl (by decide +kernel) (sg_K6_s rfl (fun h => by cases h)) (by decide +kernel) (by decide +kernel) (by decide +kernel) (by decide +kernel)
def sg_w98 : List Cond := []
set_option maxRecDepth 100000 in
theorem sg_q98 : s_okE sg_mi 98 sg_c98 3 sg_h98 := s_mkL (np := sg_np) sg_m98 (sg_K6 false) sg_w98 [] 849 rfl (by decide +kernel) (plainFor_of_name sg_N6) sg_C6 rfl (by decide +kernel) (sg_K6_s rfl (fun h => by cases h)) (by decide +kernel) (by decide +kernel) (by decide +kernel) (by decide +kernel)
def sg_w99 : List Cond := []
set_option maxRecDepth 100000 in
theorem sg_q99 : s_okE sg_mi 99 sg_c99 1 sg_h99 := s_mkL (np := sg_np) sg_m99 (sg_K6 false) sg_w99 [] 841 rfl (by decide +kernel) (plainFor_of_name sg_N6) sg_C6 rfl (by decide +kernel) (sg_K6_s rfl (fun h => by cases h)) (by decide +kernel) (by decide +kernel) (by decide +kernel) (by decide +kernel)
def sg_w100 : List Cond := []
set_option maxRecDepth 100000 in
theorem sg_q100 : s_okE sg_mi 100 sg_c100 1 sg_h100 := s_mkL (np := sg_np) sg_m100 (sg_K6 false) sg_w100 [] 837 rfl (by decide +kernel) (plainFor_of_name sg_N6) sg_C6 rfl (by decide +kernel) (sg_K6_s rfl (fun h => by cases h)) (by decide +kernel) (by decide +kernel) (by decide +kernel) (by decide +kernel)
def sg_w101 : List Cond := []
set_option maxRecDepth 100000 in
theorem sg_q101 : s_okE sg_mi 101 sg_c101 2 sg_h101 := s_mkL (np := sg_np) sg_m101 (sg_K6 false) sg_w101 [] 817 rfl (by decide +kernel) (plainFor_of_name sg_N6) sg_C6 rfl (by decide +kernel) (sg_K6_s rfl (fun h => by cases h)) (by decide +kernel) (by decide +kernel) (by decide +kernel) (by decide +kernel)
def sg_w102 : List Cond := []
set_option maxRecDepth 100000 in
theorem sg_q102 : s_okE sg_mi 102 sg_c102 3 sg_h102 := s_mkL (np := sg_np) sg_m102 (sg_K6 false) sg_w102 [] 829 rfl (s_isCw_s (by decide +kernel)) (plainFor_of_name sg_N6) sg_C6 rfl (by decide +kernel) (sg_K6_s rfl (fun h => by cases h)) (by decide +kernel) (by decide +kernel) (by decide +kernel) (by decide +kernel)
def sg_w103 : List Cond := []
set_option maxRecDepth 100000 in
theorem sg_q103 : s_okE sg_mi 103 sg_c103 1 sg_h103 := s_mkL (np := sg_np) sg_m103 (sg_K6 false) sg_w103 [] 825 rfl (by decide +kernel) (plainFor_of_name sg_N6) sg_C6 rfl (by decide +kernel) (sg_K6_s rfl (fun h => by cases h)) (by decide +kernel) (by decide +kernel) (by decide +kernel) (by decide +kernel)
def sg_w104 : List Cond := [.methodLink "FormulaWorks$Rules" 3 ⟨"java/lang/Object", "<init>", "()V"⟩, .instanceMethod ⟨"java/lang/Object", "<init>", "()V"⟩, .code ⟨"java/lang/Object", "<init>", "()V"⟩ object_method_1_code 1 (Option.none : Option FieldType)]
set_option maxRecDepth 100000 in
theorem sg_q104 : s_okE sg_mi 104 sg_c104 3 sg_h104 := s_mkL (np := sg_np) sg_m104 (sg_K7 true) sg_w104 [394, 263, 264] 393 rfl (by decide +kernel) (plainFor_of_name sg_N7) sg_C7 rfl (by decide +kernel) (sg_K7_s rfl (fun _ => rfl)) (by decide +kernel) (by decide +kernel) (by decide +kernel) (by decide +kernel)
def sg_w105 : List Cond := [.methodLink "FormulaWorks$Sheet" 3 ⟨"java/lang/Object", "<init>", "()V"⟩, .instanceMethod ⟨"java/lang/Object", "<init>", "()V"⟩, .code ⟨"java/lang/Object", "<init>", "()V"⟩ object_method_1_code 1 (Option.none : Option FieldType), .classLink "FormulaWorks$Sheet" 9 "[[I", .arrayClass FieldType.int, .classLink "FormulaWorks$Sheet" 26 "FormulaWorks$Thing", .initialized "FormulaWorks$Thing", .methodLink "FormulaWorks$Sheet" 42 ⟨"FormulaWorks$Thing", "<init>", "(I)V"⟩, .instanceMethod ⟨"FormulaWorks$Thing", "<init>", "(I)V"⟩]
set_option maxRecDepth 100000 in
theorem sg_q105 : s_okE sg_mi 105 sg_c105 3 sg_h105 := s_mkL (np := sg_np) sg_m105 (sg_K8 true) sg_w105 [604, 263, 264, 605, 298, 606, 233, 607, 467] 603 rfl (by decide +kernel) (plainFor_of_name sg_N8) sg_C8 rfl (by decide +kernel) (sg_K8_s rfl (fun _ => rfl)) (by decide +kernel) (by decide +kernel) (by decide +kernel) (by decide +kernel)
def sg_w106 : List Cond := []
set_option maxRecDepth 100000 in
theorem sg_q106 : s_okE sg_mi 106 sg_c106 6 sg_h106 := s_mkL (np := sg_np) sg_m106 (sg_K8 false) sg_w106 [] 2544 rfl (s_isCw_s (by decide +kernel)) (plainFor_of_name sg_N8) sg_C8 rfl (by decide +kernel) (sg_K8_s rfl (fun h => by cases h)) (by decide +kernel) (by decide +kernel) (by decide +kernel) (by decide +kernel)
def sg_w107 : List Cond := []
set_option maxRecDepth 100000 in
theorem sg_q107 : s_okE sg_mi 107 sg_c107 6 sg_h107 := s_mkL (np := sg_np) sg_m107 (sg_K8 false) sg_w107 [] 2608 rfl (s_isCw_s (by decide +kernel)) (plainFor_of_name sg_N8) sg_C8 rfl (by decide +kernel) (sg_K8_s rfl (fun h => by cases h)) (by decide +kernel) (by decide +kernel) (by decide +kernel) (by decide +kernel)
def sg_w108 : List Cond := []
set_option maxRecDepth 100000 in
theorem sg_q108 : s_okE sg_mi 108 sg_c108 2 sg_h108 := s_mkL (np := sg_np) sg_m108 (sg_K8 false) sg_w108 [] 2574 rfl (by decide +kernel) (plainFor_of_name sg_N8) sg_C8 rfl (by decide +kernel) (sg_K8_s rfl (fun h => by cases h)) (by decide +kernel) (by decide +kernel) (by decide +kernel) (by decide +kernel)
def sg_w109 : List Cond := []
set_option maxRecDepth 100000 in
theorem sg_q109 : s_okE sg_mi 109 sg_c109 5 sg_h109 := s_mkL (np := sg_np) sg_m109 (sg_K8 false) sg_w109 [] 2613 rfl (by decide +kernel) (plainFor_of_name sg_N8) sg_C8 rfl (by decide +kernel) (sg_K8_s rfl (fun h => by cases h)) (by decide +kernel) (by decide +kernel) (by decide +kernel) (by decide +kernel)
def sg_w110 : List Cond := []
set_option maxRecDepth 100000 in
theorem sg_q110 : s_okE sg_mi 110 sg_c110 2 sg_h110 := s_mkL (np := sg_np) sg_m110 (sg_K8 false) sg_w110 [] 2566 rfl (by decide +kernel) (plainFor_of_name sg_N8) sg_C8 rfl (by decide +kernel) (sg_K8_s rfl (fun h => by cases h)) (by decide +kernel) (by decide +kernel) (by decide +kernel) (by decide +kernel)
def sg_w111 : List Cond := []
set_option maxRecDepth 100000 in
theorem sg_q111 : s_okE sg_mi 111 sg_c111 2 sg_h111 := s_mkL (np := sg_np) sg_m111 (sg_K8 false) sg_w111 [] 2552 rfl (by decide +kernel) (plainFor_of_name sg_N8) sg_C8 rfl (by decide +kernel) (sg_K8_s rfl (fun h => by cases h)) (by decide +kernel) (by decide +kernel) (by decide +kernel) (by decide +kernel)
def sg_w112 : List Cond := []
set_option maxRecDepth 100000 in
theorem sg_q112 : s_okE sg_mi 112 sg_c112 5 sg_h112 := s_mkL (np := sg_np) sg_m112 (sg_K8 false) sg_w112 [] 2548 rfl (by decide +kernel) (plainFor_of_name sg_N8) sg_C8 rfl (by decide +kernel) (sg_K8_s rfl (fun h => by cases h)) (by decide +kernel) (by decide +kernel) (by decide +kernel) (by decide +kernel)
def sg_w113 : List Cond := []
set_option maxRecDepth 100000 in
theorem sg_q113 : s_okE sg_mi 113 sg_c113 2 sg_h113 := s_mkL (np := sg_np) sg_m113 (sg_K8 false) sg_w113 [] 2627 rfl (by decide +kernel) (plainFor_of_name sg_N8) sg_C8 rfl (by decide +kernel) (sg_K8_s rfl (fun h => by cases h)) (by decide +kernel) (by decide +kernel) (by decide +kernel) (by decide +kernel)
def sg_w114 : List Cond := []
set_option maxRecDepth 100000 in
theorem sg_q114 : s_okE sg_mi 114 sg_c114 2 sg_h114 := s_mkL (np := sg_np) sg_m114 (sg_K8 false) sg_w114 [] 2570 rfl (by decide +kernel) (plainFor_of_name sg_N8) sg_C8 rfl (by decide +kernel) (sg_K8_s rfl (fun h => by cases h)) (by decide +kernel) (by decide +kernel) (by decide +kernel) (by decide +kernel)
def sg_w115 : List Cond := [.methodLink "FormulaWorks$Thing" 3 ⟨"java/lang/Object", "<init>", "()V"⟩, .instanceMethod ⟨"java/lang/Object", "<init>", "()V"⟩, .code ⟨"java/lang/Object", "<init>", "()V"⟩ object_method_1_code 1 (Option.none : Option FieldType), .classLink "FormulaWorks$Thing" 15 "FormulaWorks$Poly", .initialized "FormulaWorks$Poly", .methodLink "FormulaWorks$Thing" 17 ⟨"FormulaWorks$Poly", "<init>", "(I)V"⟩, .instanceMethod ⟨"FormulaWorks$Poly", "<init>", "(I)V"⟩]
set_option maxRecDepth 100000 in
theorem sg_q115 : s_okE sg_mi 115 sg_c115 2 sg_h115 := s_mkL (np := sg_np) sg_m115 (sg_K9 true) sg_w115 [469, 263, 264, 470, 226, 471, 278] 468 rfl (by decide +kernel) (plainFor_of_name sg_N9) sg_C9 rfl (by decide +kernel) (sg_K9_s rfl (fun _ => rfl)) (by decide +kernel) (by decide +kernel) (by decide +kernel) (by decide +kernel)
def sg_w116 : List Cond := [.methodLink "FormulaWorks$Thing" 3 ⟨"java/lang/Object", "<init>", "()V"⟩, .instanceMethod ⟨"java/lang/Object", "<init>", "()V"⟩, .code ⟨"java/lang/Object", "<init>", "()V"⟩ object_method_1_code 1 (Option.none : Option FieldType)]
set_option maxRecDepth 100000 in
theorem sg_q116 : s_okE sg_mi 116 sg_c116 3 sg_h116 := s_mkL (np := sg_np) sg_m116 (sg_K9 true) sg_w116 [469, 263, 264] 1061 rfl (by decide +kernel) (plainFor_of_name sg_N9) sg_C9 rfl (by decide +kernel) (sg_K9_s rfl (fun _ => rfl)) (by decide +kernel) (by decide +kernel) (by decide +kernel) (by decide +kernel)
def sg_w117 : List Cond := [.methodLink "FormulaWorks$Trees" 3 ⟨"java/lang/Object", "<init>", "()V"⟩, .instanceMethod ⟨"java/lang/Object", "<init>", "()V"⟩, .code ⟨"java/lang/Object", "<init>", "()V"⟩ object_method_1_code 1 (Option.none : Option FieldType), .arrayClass FieldType.int]
set_option maxRecDepth 100000 in
theorem sg_q117 : s_okE sg_mi 117 sg_c117 1 sg_h117 := s_mkL (np := sg_np) sg_m117 (sg_K10 true) sg_w117 [407, 263, 264, 298] 406 rfl (by decide +kernel) (plainFor_of_name sg_N10) sg_C10 rfl (by decide +kernel) (sg_K10_s rfl (fun _ => rfl)) (by decide +kernel) (by decide +kernel) (by decide +kernel) (by decide +kernel)
def sg_w118 : List Cond := []
set_option maxRecDepth 100000 in
theorem sg_q118 : s_okE sg_mi 118 sg_c118 1 sg_h118 := s_mkL (np := sg_np) sg_m118 (sg_K10 false) sg_w118 [] 821 rfl (by decide +kernel) (plainFor_of_name sg_N10) sg_C10 rfl (by decide +kernel) (sg_K10_s rfl (fun h => by cases h)) (by decide +kernel) (by decide +kernel) (by decide +kernel) (by decide +kernel)
def sg_w119 : List Cond := [.classLink "FormulaWorksLaw" 21 "java/lang/IndexOutOfBoundsException", .classLink "FormulaWorksLaw" 15 "java/lang/IllegalArgumentException", .classLink "FormulaWorksLaw" 13 "java/lang/IllegalStateException"]
set_option maxRecDepth 100000 in
theorem sg_C11 : Cond.initialized "FormulaWorksLaw" ∈ lw_tbl ∧ "FormulaWorksLaw" ≠ "java/lang/invoke/MethodHandle" ∧ "FormulaWorksLaw" ≠ "java/lang/invoke/VarHandle" := ⟨List.mem_of_getElem? (i := 223) (by decide +kernel), by decide +kernel, by decide +kernel⟩
theorem sg_N11 : plainName "FormulaWorksLaw" = true := by decide +kernel
set_option maxRecDepth 100000 in
theorem sg_q119 : s_okE sg_mi 119 sg_c119 5 sg_h119 := s_mkL (np := sg_np) sg_m119 (sg_K11 false) sg_w119 [1069, 735, 734] 1228 rfl (by decide +kernel) (plainFor_of_name sg_N11) sg_C11 rfl (by decide +kernel) (sg_K11_s rfl (fun h => by cases h)) (by decide +kernel) (by decide +kernel) (by decide +kernel) (by decide +kernel)
