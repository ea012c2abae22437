def sg_w60 : List Cond := []
set_option maxRecDepth 100000 in
theorem sg_q60 : s_okE sg_mi 60 sg_c60 3 sg_h60 := s_mkL (np := sg_np) sg_m60 (sg_K0 false) sg_w60 [] 1603 rfl (by decide +kernel) (plainFor_of_name sg_N0) sg_C0 rfl (by decide +kernel) (sg_K0_s rfl (fun h => by cases h)) (by decide +kernel) (by decide +kernel) (by decide +kernel) (by decide +kernel)
def sg_w61 : List Cond := [.constantLong "FormulaWorks" 529 (32003 : Int64)]
set_option maxRecDepth 100000 in
theorem sg_q61 : s_okE sg_mi 61 sg_c61 2 sg_h61 := s_mkL (np := sg_np) sg_m61 (sg_K0 false) sg_w61 [1218] 1217 rfl (by decide +kernel) (plainFor_of_name sg_N0) sg_C0 rfl (by decide +kernel) (sg_K0_s rfl (fun h => by cases h)) (by decide +kernel) (by decide +kernel) (by decide +kernel) (by decide +kernel)
def sg_w62 : List Cond := []
set_option maxRecDepth 100000 in
theorem sg_q62 : s_okE sg_mi 62 sg_c62 2 sg_h62 := s_mkL (np := sg_np) sg_m62 (sg_K0 false) sg_w62 [] 1648 rfl (by decide +kernel) (plainFor_of_name sg_N0) sg_C0 rfl (by decide +kernel) (sg_K0_s rfl (fun h => by cases h)) (by decide +kernel) (by decide +kernel) (by decide +kernel) (by decide +kernel)
def sg_w63 : List Cond := [.classLink "FormulaWorks" 171 "java/lang/IllegalArgumentException", .methodLink "FormulaWorks" 173 ⟨"java/lang/IllegalArgumentException", "<init>", "()V"⟩]
set_option maxRecDepth 100000 in
theorem sg_q63 : s_okE sg_mi 63 sg_c63 5 sg_h63 := s_mkL (np := sg_np) sg_m63 (sg_K0 false) sg_w63 [1014, 1023] 1415 rfl (by decide +kernel) (plainFor_of_name sg_N0) sg_C0 rfl (by decide +kernel) (sg_K0_s rfl (fun h => by cases h)) (by decide +kernel) (by decide +kernel) (by decide +kernel) (by decide +kernel)
def sg_w64 : List Cond := [.classLink "FormulaWorks" 171 "java/lang/IllegalArgumentException", .methodLink "FormulaWorks" 173 ⟨"java/lang/IllegalArgumentException", "<init>", "()V"⟩]
set_option maxRecDepth 100000 in
theorem sg_q64 : s_okE sg_mi 64 sg_c64 3 sg_h64 := s_mkL (np := sg_np) sg_m64 (sg_K0 false) sg_w64 [1014, 1023] 1778 rfl (by decide +kernel) (plainFor_of_name sg_N0) sg_C0 rfl (by decide +kernel) (sg_K0_s rfl (fun h => by cases h)) (by decide +kernel) (by decide +kernel) (by decide +kernel) (by decide +kernel)
def sg_w65 : List Cond := [.classLink "FormulaWorks" 171 "java/lang/IllegalArgumentException", .methodLink "FormulaWorks" 173 ⟨"java/lang/IllegalArgumentException", "<init>", "()V"⟩]
set_option maxRecDepth 100000 in
theorem sg_q65 : s_okE sg_mi 65 sg_c65 4 sg_h65 := s_mkL (np := sg_np) sg_m65 (sg_K0 false) sg_w65 [1014, 1023] 2034 rfl (by decide +kernel) (plainFor_of_name sg_N0) sg_C0 rfl (by decide +kernel) (sg_K0_s rfl (fun h => by cases h)) (by decide +kernel) (by decide +kernel) (by decide +kernel) (by decide +kernel)
def sg_w66 : List Cond := []
set_option maxRecDepth 100000 in
theorem sg_q66 : s_okE sg_mi 66 sg_c66 3 sg_h66 := s_mkL (np := sg_np) sg_m66 (sg_K0 false) sg_w66 [] 718 rfl (by decide +kernel) (plainFor_of_name sg_N0) sg_C0 rfl (by decide +kernel) (sg_K0_s rfl (fun h => by cases h)) (by decide +kernel) (by decide +kernel) (by decide +kernel) (by decide +kernel)
def sg_w67 : List Cond := []
set_option maxRecDepth 100000 in
theorem sg_q67 : s_okE sg_mi 67 sg_c67 1 sg_h67 := s_mkL (np := sg_np) sg_m67 (sg_K0 false) sg_w67 [] 714 rfl (by decide +kernel) (plainFor_of_name sg_N0) sg_C0 rfl (by decide +kernel) (sg_K0_s rfl (fun h => by cases h)) (by decide +kernel) (by decide +kernel) (by decide +kernel) (by decide +kernel)
def sg_w68 : List Cond := [.classLink "FormulaWorks" 171 "java/lang/IllegalArgumentException", .methodLink "FormulaWorks" 173 ⟨"java/lang/IllegalArgumentException", "<init>", "()V"⟩]
set_option maxRecDepth 100000 in
theorem sg_q68 : s_okE sg_mi 68 sg_c68 6 sg_h68 := s_mkL (np := sg_np) sg_m68 (sg_K0 false) sg_w68 [1014, 1023] 2332 rfl (by decide +kernel) (plainFor_of_name sg_N0) sg_C0 rfl (by decide +kernel) (sg_K0_s rfl (fun h => by cases h)) (by decide +kernel) (by decide +kernel) (by decide +kernel) (by decide +kernel)
def sg_w69 : List Cond := []
set_option maxRecDepth 100000 in
theorem sg_q69 : s_okE sg_mi 69 sg_c69 4 sg_h69 := s_mkL (np := sg_np) sg_m69 (sg_K0 false) sg_w69 [] 2665 rfl (by decide +kernel) (plainFor_of_name sg_N0) sg_C0 rfl (by decide +kernel) (sg_K0_s rfl (fun h => by cases h)) (by decide +kernel) (by decide +kernel) (by decide +kernel) (by decide +kernel)
def sg_w70 : List Cond := [.classLink "FormulaWorks" 238 "java/lang/ArithmeticException", .methodLink "FormulaWorks" 240 ⟨"java/lang/ArithmeticException", "<init>", "()V"⟩]
set_option maxRecDepth 100000 in
theorem sg_q70 : s_okE sg_mi 70 sg_c70 3 sg_h70 := s_mkL (np := sg_np) sg_m70 (sg_K0 false) sg_w70 [1033, 1042] 1745 rfl (by decide +kernel) (plainFor_of_name sg_N0) sg_C0 rfl (by decide +kernel) (sg_K0_s rfl (fun h => by cases h)) (by decide +kernel) (by decide +kernel) (by decide +kernel) (by decide +kernel)
def sg_w71 : List Cond := []
set_option maxRecDepth 100000 in
theorem sg_q71 : s_okE sg_mi 71 sg_c71 3 sg_h71 := s_mkL (np := sg_np) sg_m71 (sg_K0 false) sg_w71 [] 2523 rfl (by decide +kernel) (plainFor_of_name sg_N0) sg_C0 rfl (by decide +kernel) (sg_K0_s rfl (fun h => by cases h)) (by decide +kernel) (by decide +kernel) (by decide +kernel) (by decide +kernel)
def sg_w72 : List Cond := []
set_option maxRecDepth 100000 in
theorem sg_q72 : s_okE sg_mi 72 sg_c72 4 sg_h72 := s_mkL (np := sg_np) sg_m72 (sg_K0 false) sg_w72 [] 2217 rfl (by decide +kernel) (plainFor_of_name sg_N0) sg_C0 rfl (by decide +kernel) (sg_K0_s rfl (fun h => by cases h)) (by decide +kernel) (by decide +kernel) (by decide +kernel) (by decide +kernel)
def sg_w73 : List Cond := []
set_option maxRecDepth 100000 in
theorem sg_q73 : s_okE sg_mi 73 sg_c73 7 sg_h73 := s_mkL (np := sg_np) sg_m73 (sg_K0 false) sg_w73 [] 1738 rfl (by decide +kernel) (plainFor_of_name sg_N0) sg_C0 rfl (by decide +kernel) (sg_K0_s rfl (fun h => by cases h)) (by decide +kernel) (by decide +kernel) (by decide +kernel) (by decide +kernel)
def sg_w74 : List Cond := [.classLink "FormulaWorks" 171 "java/lang/IllegalArgumentException", .methodLink "FormulaWorks" 173 ⟨"java/lang/IllegalArgumentException", "<init>", "()V"⟩]
set_option maxRecDepth 100000 in
theorem sg_q74 : s_okE sg_mi 74 sg_c74 3 sg_h74 := s_mkL (np := sg_np) sg_m74 (sg_K0 false) sg_w74 [1014, 1023] 2068 rfl (by decide +kernel) (plainFor_of_name sg_N0) sg_C0 rfl (by decide +kernel) (sg_K0_s rfl (fun h => by cases h)) (by decide +kernel) (by decide +kernel) (by decide +kernel) (by decide +kernel)
def sg_w75 : List Cond := [.classLink "FormulaWorks" 171 "java/lang/IllegalArgumentException", .methodLink "FormulaWorks" 173 ⟨"java/lang/IllegalArgumentException", "<init>", "()V"⟩]
set_option maxRecDepth 100000 in
theorem sg_q75 : s_okE sg_mi 75 sg_c75 1 sg_h75 := s_mkL (np := sg_np) sg_m75 (sg_K0 false) sg_w75 [1014, 1023] 1013 rfl (by decide +kernel) (plainFor_of_name sg_N0) sg_C0 rfl (by decide +kernel) (sg_K0_s rfl (fun h => by cases h)) (by decide +kernel) (by decide +kernel) (by decide +kernel) (by decide +kernel)
def sg_w76 : List Cond := []
set_option maxRecDepth 100000 in
theorem sg_q76 : s_okE sg_mi 76 sg_c76 6 sg_h76 := s_mkL (np := sg_np) sg_m76 (sg_K0 false) sg_w76 [] 1725 rfl (by decide +kernel) (plainFor_of_name sg_N0) sg_C0 rfl (by decide +kernel) (sg_K0_s rfl (fun h => by cases h)) (by decide +kernel) (by decide +kernel) (by decide +kernel) (by decide +kernel)
def sg_w77 : List Cond := [.classLink "FormulaWorks" 279 "java/lang/IndexOutOfBoundsException", .methodLink "FormulaWorks" 281 ⟨"java/lang/IndexOutOfBoundsException", "<init>", "()V"⟩]
set_option maxRecDepth 100000 in
theorem sg_q77 : s_okE sg_mi 77 sg_c77 3 sg_h77 := s_mkL (np := sg_np) sg_m77 (sg_K0 false) sg_w77 [1110, 1119] 1109 rfl (by decide +kernel) (plainFor_of_name sg_N0) sg_C0 rfl (by decide +kernel) (sg_K0_s rfl (fun h => by cases h)) (by decide +kernel) (by decide +kernel) (by decide +kernel) (by decide +kernel)
def sg_w78 : List Cond := []
set_option maxRecDepth 100000 in
theorem sg_q78 : s_okE sg_mi 78 sg_c78 3 sg_h78 := s_mkL (np := sg_np) sg_m78 (sg_K0 false) sg_w78 [] 1314 rfl (by decide +kernel) (plainFor_of_name sg_N0) sg_C0 rfl (by decide +kernel) (sg_K0_s rfl (fun h => by cases h)) (by decide +kernel) (by decide +kernel) (by decide +kernel) (by decide +kernel)
def sg_w79 : List Cond := [.classLink "FormulaWorks" 9 "FormulaWorks$Thing", .initialized "FormulaWorks$Thing", .classLink "FormulaWorks" 19 "FormulaWorks$Poly"]
set_option maxRecDepth 100000 in
theorem sg_q79 : s_okE sg_mi 79 sg_c79 6 sg_h79 := s_mkL (np := sg_np) sg_m79 (sg_K0 false) sg_w79 [265, 233, 267] 2091 rfl (by decide +kernel) (plainFor_of_name sg_N0) sg_C0 rfl (by decide +kernel) (sg_K0_s rfl (fun h => by cases h)) (by decide +kernel) (by decide +kernel) (by decide +kernel) (by decide +kernel)
def sg_w80 : List Cond := [.constantLong "FormulaWorks" 110 (255 : Int64)]
set_option maxRecDepth 100000 in
theorem sg_q80 : s_okE sg_mi 80 sg_c80 6 sg_h80 := s_mkL (np := sg_np) sg_m80 (sg_K0 false) sg_w80 [706] 705 rfl (s_isCw_s (by decide +kernel)) (plainFor_of_name sg_N0) sg_C0 rfl (by decide +kernel) (sg_K0_s rfl (fun h => by cases h)) (by decide +kernel) (by decide +kernel) (by decide +kernel) (by decide +kernel)
def sg_w81 : List Cond := [.classLink "FormulaWorks" 238 "java/lang/ArithmeticException", .methodLink "FormulaWorks" 240 ⟨"java/lang/ArithmeticException", "<init>", "()V"⟩]
set_option maxRecDepth 100000 in
theorem sg_q81 : s_okE sg_mi 81 sg_c81 7 sg_h81 := s_mkL (np := sg_np) sg_m81 (sg_K0 false) sg_w81 [1033, 1042] 2297 rfl (by decide +kernel) (plainFor_of_name sg_N0) sg_C0 rfl (by decide +kernel) (sg_K0_s rfl (fun h => by cases h)) (by decide +kernel) (by decide +kernel) (by decide +kernel) (by decide +kernel)
def sg_w82 : List Cond := []
set_option maxRecDepth 100000 in
theorem sg_q82 : s_okE sg_mi 82 sg_c82 4 sg_h82 := s_mkL (np := sg_np) sg_m82 (sg_K0 false) sg_w82 [] 1386 rfl (by decide +kernel) (plainFor_of_name sg_N0) sg_C0 rfl (by decide +kernel) (sg_K0_s rfl (fun h => by cases h)) (by decide +kernel) (by decide +kernel) (by decide +kernel) (by decide +kernel)
def sg_w83 : List Cond := [.classLink "FormulaWorks" 171 "java/lang/IllegalArgumentException", .methodLink "FormulaWorks" 173 ⟨"java/lang/IllegalArgumentException", "<init>", "()V"⟩]
set_option maxRecDepth 100000 in
theorem sg_q83 : s_okE sg_mi 83 sg_c83 6 sg_h83 := s_mkL (np := sg_np) sg_m83 (sg_K0 false) sg_w83 [1014, 1023] 2203 rfl (by decide +kernel) (plainFor_of_name sg_N0) sg_C0 rfl (by decide +kernel) (sg_K0_s rfl (fun h => by cases h)) (by decide +kernel) (by decide +kernel) (by decide +kernel) (by decide +kernel)
def sg_w84 : List Cond := []
set_option maxRecDepth 100000 in
theorem sg_q84 : s_okE sg_mi 84 sg_c84 1 sg_h84 := s_mkL (np := sg_np) sg_m84 (sg_K0 false) sg_w84 [] 722 rfl (by decide +kernel) (plainFor_of_name sg_N0) sg_C0 rfl (by decide +kernel) (sg_K0_s rfl (fun h => by cases h)) (by decide +kernel) (by decide +kernel) (by decide +kernel) (by decide +kernel)
def sg_w85 : List Cond := []
set_option maxRecDepth 100000 in
theorem sg_q85 : s_okE sg_mi 85 sg_c85 3 sg_h85 := s_mkL (np := sg_np) sg_m85 (sg_K0 false) sg_w85 [] 2390 rfl (by decide +kernel) (plainFor_of_name sg_N0) sg_C0 rfl (by decide +kernel) (sg_K0_s rfl (fun h => by cases h)) (by decide +kernel) (by decide +kernel) (by decide +kernel) (by decide +kernel)
def sg_w86 : List Cond := []
set_option maxRecDepth 100000 in
theorem sg_q86 : s_okE sg_mi 86 sg_c86 2 sg_h86 := s_mkL (np := sg_np) sg_m86 (sg_K0 false) sg_w86 [] 2383 rfl (by decide +kernel) (plainFor_of_name sg_N0) sg_C0 rfl (by decide +kernel) (sg_K0_s rfl (fun h => by cases h)) (by decide +kernel) (by decide +kernel) (by decide +kernel) (by decide +kernel)
def sg_w87 : List Cond := [.methodLink "FormulaWorks$Algebra" 3 ⟨"java/lang/Object", "<init>", "()V"⟩, .instanceMethod ⟨"java/lang/Object", "<init>", "()V"⟩, .code ⟨"java/lang/Object", "<init>", "()V"⟩ object_method_1_code 1 (Option.none : Option FieldType), .classLink "FormulaWorks$Algebra" 11 "FormulaWorks$Poly", .initialized "FormulaWorks$Poly", .methodLink "FormulaWorks$Algebra" 17 ⟨"FormulaWorks$Poly", "<init>", "(I)V"⟩, .instanceMethod ⟨"FormulaWorks$Poly", "<init>", "(I)V"⟩]
set_option maxRecDepth 100000 in
theorem sg_q87 : s_okE sg_mi 87 sg_c87 2 sg_h87 := s_mkL (np := sg_np) sg_m87 (sg_K1 true) sg_w87 [274, 263, 264, 275, 226, 277, 278] 273 rfl (by decide +kernel) (plainFor_of_name sg_N1) sg_C1 rfl (by decide +kernel) (sg_K1_s rfl (fun _ => rfl)) (by decide +kernel) (by decide +kernel) (by decide +kernel) (by decide +kernel)
def sg_w88 : List Cond := [.methodLink "FormulaWorks$Linear" 3 ⟨"java/lang/Object", "<init>", "()V"⟩, .instanceMethod ⟨"java/lang/Object", "<init>", "()V"⟩, .code ⟨"java/lang/Object", "<init>", "()V"⟩ object_method_1_code 1 (Option.none : Option FieldType), .classLink "FormulaWorks$Linear" 11 "[[I", .arrayClass FieldType.int]
set_option maxRecDepth 100000 in
theorem sg_q88 : s_okE sg_mi 88 sg_c88 1 sg_h88 := s_mkL (np := sg_np) sg_m88 (sg_K2 true) sg_w88 [311, 263, 264, 312, 298] 310 rfl (by decide +kernel) (plainFor_of_name sg_N2) sg_C2 rfl (by decide +kernel) (sg_K2_s rfl (fun _ => rfl)) (by decide +kernel) (by decide +kernel) (by decide +kernel) (by decide +kernel)
def sg_w89 : List Cond := [.methodLink "FormulaWorks$Minors" 3 ⟨"java/lang/Object", "<init>", "()V"⟩, .instanceMethod ⟨"java/lang/Object", "<init>", "()V"⟩, .code ⟨"java/lang/Object", "<init>", "()V"⟩ object_method_1_code 1 (Option.none : Option FieldType), .classLink "FormulaWorks$Minors" 9 "FormulaWorks$Poly", .arrayClass FieldType.int, .initialized "FormulaWorks$Poly", .methodLink "FormulaWorks$Minors" 28 ⟨"FormulaWorks$Poly", "<init>", "(I)V"⟩, .instanceMethod ⟨"FormulaWorks$Poly", "<init>", "(I)V"⟩]
set_option maxRecDepth 100000 in
theorem sg_q89 : s_okE sg_mi 89 sg_c89 3 sg_h89 := s_mkL (np := sg_np) sg_m89 (sg_K3 true) sg_w89 [373, 263, 264, 374, 298, 226, 375, 278] 372 rfl (by decide +kernel) (plainFor_of_name sg_N3) sg_C3 rfl (by decide +kernel) (sg_K3_s rfl (fun _ => rfl)) (by decide +kernel) (by decide +kernel) (by decide +kernel) (by decide +kernel)
