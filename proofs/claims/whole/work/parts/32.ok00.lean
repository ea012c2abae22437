def sg_w0 : List Cond := [.methodLink "FormulaWorks" 1 ⟨"java/lang/Object", "<init>", "()V"⟩, .instanceMethod ⟨"java/lang/Object", "<init>", "()V"⟩, .code ⟨"java/lang/Object", "<init>", "()V"⟩ object_method_1_code 1 (Option.none : Option FieldType), .classLink "FormulaWorks" 9 "FormulaWorks$Thing", .arrayClass FieldType.int, .classLink "FormulaWorks" 19 "FormulaWorks$Poly", .classLink "FormulaWorks" 25 "FormulaWorks$Algebra", .initialized "FormulaWorks$Algebra", .methodLink "FormulaWorks" 27 ⟨"FormulaWorks$Algebra", "<init>", "()V"⟩, .instanceMethod ⟨"FormulaWorks$Algebra", "<init>", "()V"⟩, .classLink "FormulaWorks" 32 "FormulaWorks$Linear", .initialized "FormulaWorks$Linear", .instanceMethod ⟨"FormulaWorks$Linear", "<init>", "()V"⟩, .classLink "FormulaWorks" 35 "FormulaWorks$Parts", .initialized "FormulaWorks$Parts", .methodLink "FormulaWorks" 37 ⟨"FormulaWorks$Parts", "<init>", "(LFormulaWorks$Algebra;LFormulaWorks$Linear;)V"⟩, .instanceMethod ⟨"FormulaWorks$Parts", "<init>", "(LFormulaWorks$Algebra;LFormulaWorks$Linear;)V"⟩, .classLink "FormulaWorks" 44 "FormulaWorks$Minors", .initialized "FormulaWorks$Minors", .methodLink "FormulaWorks" 46 ⟨"FormulaWorks$Minors", "<init>", "(LFormulaWorks$Algebra;)V"⟩, .instanceMethod ⟨"FormulaWorks$Minors", "<init>", "(LFormulaWorks$Algebra;)V"⟩, .classLink "FormulaWorks" 53 "FormulaWorks$Rules", .initialized "FormulaWorks$Rules", .methodLink "FormulaWorks" 55 ⟨"FormulaWorks$Rules", "<init>", "(LFormulaWorks$Algebra;LFormulaWorks$Linear;)V"⟩, .instanceMethod ⟨"FormulaWorks$Rules", "<init>", "(LFormulaWorks$Algebra;LFormulaWorks$Linear;)V"⟩, .classLink "FormulaWorks" 60 "FormulaWorks$Trees", .initialized "FormulaWorks$Trees", .instanceMethod ⟨"FormulaWorks$Trees", "<init>", "()V"⟩, .classLink "FormulaWorks" 67 "FormulaWorks$Reader", .initialized "FormulaWorks$Reader", .methodLink "FormulaWorks" 69 ⟨"FormulaWorks$Reader", "<init>", "(LFormulaWorks$Algebra;LFormulaWorks$Trees;[LFormulaWorks$Thing;I)V"⟩, .instanceMethod ⟨"FormulaWorks$Reader", "<init>", "(LFormulaWorks$Algebra;LFormulaWorks$Trees;[LFormulaWorks$Thing;I)V"⟩, .classLink "FormulaWorks" 76 "FormulaWorks$Sheet", .initialized "FormulaWorks$Sheet", .methodLink "FormulaWorks" 78 ⟨"FormulaWorks$Sheet", "<init>", "(LFormulaWorks$Reader;)V"⟩, .instanceMethod ⟨"FormulaWorks$Sheet", "<init>", "(LFormulaWorks$Reader;)V"⟩, .initialized "FormulaWorks$Poly", .methodLink "FormulaWorks" 85 ⟨"FormulaWorks$Poly", "<init>", "(I)V"⟩, .instanceMethod ⟨"FormulaWorks$Poly", "<init>", "(I)V"⟩, .initialized "FormulaWorks$Thing", .methodLink "FormulaWorks" 98 ⟨"FormulaWorks$Thing", "<init>", "(I)V"⟩, .instanceMethod ⟨"FormulaWorks$Thing", "<init>", "(I)V"⟩]
set_option maxRecDepth 100000 in
theorem sg_q0 : s_okE sg_mi 0 sg_c0 2 sg_h0 := s_mkL (np := sg_np) sg_m0 (sg_K0 true) sg_w0 [262, 263, 264, 265, 298, 267, 269, 225, 271, 272, 306, 227, 309, 332, 228, 334, 335, 368, 229, 370, 371, 389, 230, 391, 392, 402, 231, 405, 458, 232, 460, 461, 599, 234, 601, 602, 226, 641, 278, 233, 643, 467] 261 rfl (s_isCw_s (by decide +kernel)) (plainFor_of_name sg_N0) sg_C0 rfl (by decide +kernel) (sg_K0_s rfl (fun _ => rfl)) (by decide +kernel) (by decide +kernel) (by decide +kernel) (by decide +kernel)
def sg_w1 : List Cond := []
set_option maxRecDepth 100000 in
theorem sg_q1 : s_okE sg_mi 1 sg_c1 3 sg_h1 := s_mkL (np := sg_np) sg_m1 (sg_K0 false) sg_w1 [] 1232 rfl (by decide +kernel) (plainFor_of_name sg_N0) sg_C0 rfl (by decide +kernel) (sg_K0_s rfl (fun h => by cases h)) (by decide +kernel) (by decide +kernel) (by decide +kernel) (by decide +kernel)
def sg_w2 : List Cond := []
set_option maxRecDepth 100000 in
theorem sg_q2 : s_okE sg_mi 2 sg_c2 3 sg_h2 := s_mkL (np := sg_np) sg_m2 (sg_K0 false) sg_w2 [] 2177 rfl (by decide +kernel) (plainFor_of_name sg_N0) sg_C0 rfl (by decide +kernel) (sg_K0_s rfl (fun h => by cases h)) (by decide +kernel) (by decide +kernel) (by decide +kernel) (by decide +kernel)
def sg_w3 : List Cond := []
set_option maxRecDepth 100000 in
theorem sg_q3 : s_okE sg_mi 3 sg_c3 5 sg_h3 := s_mkL (np := sg_np) sg_m3 (sg_K0 false) sg_w3 [] 2275 rfl (by decide +kernel) (plainFor_of_name sg_N0) sg_C0 rfl (by decide +kernel) (sg_K0_s rfl (fun h => by cases h)) (by decide +kernel) (by decide +kernel) (by decide +kernel) (by decide +kernel)
def sg_w4 : List Cond := []
set_option maxRecDepth 100000 in
theorem sg_q4 : s_okE sg_mi 4 sg_c4 4 sg_h4 := s_mkL (np := sg_np) sg_m4 (sg_K0 false) sg_w4 [] 2255 rfl (by decide +kernel) (plainFor_of_name sg_N0) sg_C0 rfl (by decide +kernel) (sg_K0_s rfl (fun h => by cases h)) (by decide +kernel) (by decide +kernel) (by decide +kernel) (by decide +kernel)
def sg_w5 : List Cond := []
set_option maxRecDepth 100000 in
theorem sg_q5 : s_okE sg_mi 5 sg_c5 5 sg_h5 := s_mkL (np := sg_np) sg_m5 (sg_K0 false) sg_w5 [] 2658 rfl (by decide +kernel) (plainFor_of_name sg_N0) sg_C0 rfl (by decide +kernel) (sg_K0_s rfl (fun h => by cases h)) (by decide +kernel) (by decide +kernel) (by decide +kernel) (by decide +kernel)
def sg_w6 : List Cond := [.classLink "FormulaWorks" 171 "java/lang/IllegalArgumentException", .methodLink "FormulaWorks" 173 ⟨"java/lang/IllegalArgumentException", "<init>", "()V"⟩]
set_option maxRecDepth 100000 in
theorem sg_q6 : s_okE sg_mi 6 sg_c6 3 sg_h6 := s_mkL (np := sg_np) sg_m6 (sg_K0 false) sg_w6 [1014, 1023] 2620 rfl (by decide +kernel) (plainFor_of_name sg_N0) sg_C0 rfl (by decide +kernel) (sg_K0_s rfl (fun h => by cases h)) (by decide +kernel) (by decide +kernel) (by decide +kernel) (by decide +kernel)
def sg_w7 : List Cond := [.classLink "FormulaWorks" 171 "java/lang/IllegalArgumentException", .methodLink "FormulaWorks" 173 ⟨"java/lang/IllegalArgumentException", "<init>", "()V"⟩]
set_option maxRecDepth 100000 in
theorem sg_q7 : s_okE sg_mi 7 sg_c7 5 sg_h7 := s_mkL (np := sg_np) sg_m7 (sg_K0 false) sg_w7 [1014, 1023] 2435 rfl (by decide +kernel) (plainFor_of_name sg_N0) sg_C0 rfl (by decide +kernel) (sg_K0_s rfl (fun h => by cases h)) (by decide +kernel) (by decide +kernel) (by decide +kernel) (by decide +kernel)
def sg_w8 : List Cond := []
set_option maxRecDepth 100000 in
theorem sg_q8 : s_okE sg_mi 8 sg_c8 3 sg_h8 := s_mkL (np := sg_np) sg_m8 (sg_K0 false) sg_w8 [] 2540 rfl (s_isCw_s (by decide +kernel)) (plainFor_of_name sg_N0) sg_C0 rfl (by decide +kernel) (sg_K0_s rfl (fun h => by cases h)) (by decide +kernel) (by decide +kernel) (by decide +kernel) (by decide +kernel)
def sg_w9 : List Cond := []
set_option maxRecDepth 100000 in
theorem sg_q9 : s_okE sg_mi 9 sg_c9 2 sg_h9 := s_mkL (np := sg_np) sg_m9 (sg_K0 false) sg_w9 [] 730 rfl (by decide +kernel) (plainFor_of_name sg_N0) sg_C0 rfl (by decide +kernel) (sg_K0_s rfl (fun h => by cases h)) (by decide +kernel) (by decide +kernel) (by decide +kernel) (by decide +kernel)
def sg_w10 : List Cond := [.classLink "FormulaWorks" 171 "java/lang/IllegalArgumentException", .methodLink "FormulaWorks" 173 ⟨"java/lang/IllegalArgumentException", "<init>", "()V"⟩]
set_option maxRecDepth 100000 in
theorem sg_q10 : s_okE sg_mi 10 sg_c10 3 sg_h10 := s_mkL (np := sg_np) sg_m10 (sg_K0 false) sg_w10 [1014, 1023] 1679 rfl (by decide +kernel) (plainFor_of_name sg_N0) sg_C0 rfl (by decide +kernel) (sg_K0_s rfl (fun h => by cases h)) (by decide +kernel) (by decide +kernel) (by decide +kernel) (by decide +kernel)
def sg_w11 : List Cond := []
set_option maxRecDepth 100000 in
theorem sg_q11 : s_okE sg_mi 11 sg_c11 6 sg_h11 := s_mkL (np := sg_np) sg_m11 (sg_K0 false) sg_w11 [] 1440 rfl (by decide +kernel) (plainFor_of_name sg_N0) sg_C0 rfl (by decide +kernel) (sg_K0_s rfl (fun h => by cases h)) (by decide +kernel) (by decide +kernel) (by decide +kernel) (by decide +kernel)
def sg_w12 : List Cond := []
set_option maxRecDepth 100000 in
theorem sg_q12 : s_okE sg_mi 12 sg_c12 5 sg_h12 := s_mkL (np := sg_np) sg_m12 (sg_K0 false) sg_w12 [] 1401 rfl (by decide +kernel) (plainFor_of_name sg_N0) sg_C0 rfl (by decide +kernel) (sg_K0_s rfl (fun h => by cases h)) (by decide +kernel) (by decide +kernel) (by decide +kernel) (by decide +kernel)
def sg_w13 : List Cond := [.classLink "FormulaWorks" 171 "java/lang/IllegalArgumentException", .methodLink "FormulaWorks" 173 ⟨"java/lang/IllegalArgumentException", "<init>", "()V"⟩]
set_option maxRecDepth 100000 in
theorem sg_q13 : s_okE sg_mi 13 sg_c13 4 sg_h13 := s_mkL (np := sg_np) sg_m13 (sg_K0 false) sg_w13 [1014, 1023] 2190 rfl (by decide +kernel) (plainFor_of_name sg_N0) sg_C0 rfl (by decide +kernel) (sg_K0_s rfl (fun h => by cases h)) (by decide +kernel) (by decide +kernel) (by decide +kernel) (by decide +kernel)
def sg_w14 : List Cond := []
set_option maxRecDepth 100000 in
theorem sg_q14 : s_okE sg_mi 14 sg_c14 2 sg_h14 := s_mkL (np := sg_np) sg_m14 (sg_K0 false) sg_w14 [] 1623 rfl (by decide +kernel) (plainFor_of_name sg_N0) sg_C0 rfl (by decide +kernel) (sg_K0_s rfl (fun h => by cases h)) (by decide +kernel) (by decide +kernel) (by decide +kernel) (by decide +kernel)
def sg_w15 : List Cond := []
set_option maxRecDepth 100000 in
theorem sg_q15 : s_okE sg_mi 15 sg_c15 1 sg_h15 := s_mkL (np := sg_np) sg_m15 (sg_K0 false) sg_w15 [] 726 rfl (by decide +kernel) (plainFor_of_name sg_N0) sg_C0 rfl (by decide +kernel) (sg_K0_s rfl (fun h => by cases h)) (by decide +kernel) (by decide +kernel) (by decide +kernel) (by decide +kernel)
def sg_w16 : List Cond := []
set_option maxRecDepth 100000 in
theorem sg_q16 : s_okE sg_mi 16 sg_c16 4 sg_h16 := s_mkL (np := sg_np) sg_m16 (sg_K0 false) sg_w16 [] 2648 rfl (by decide +kernel) (plainFor_of_name sg_N0) sg_C0 rfl (by decide +kernel) (sg_K0_s rfl (fun h => by cases h)) (by decide +kernel) (by decide +kernel) (by decide +kernel) (by decide +kernel)
def sg_w17 : List Cond := []
set_option maxRecDepth 100000 in
theorem sg_q17 : s_okE sg_mi 17 sg_c17 3 sg_h17 := s_mkL (np := sg_np) sg_m17 (sg_K0 false) sg_w17 [] 1344 rfl (by decide +kernel) (plainFor_of_name sg_N0) sg_C0 rfl (by decide +kernel) (sg_K0_s rfl (fun h => by cases h)) (by decide +kernel) (by decide +kernel) (by decide +kernel) (by decide +kernel)
def sg_w18 : List Cond := []
set_option maxRecDepth 100000 in
theorem sg_q18 : s_okE sg_mi 18 sg_c18 4 sg_h18 := s_mkL (np := sg_np) sg_m18 (sg_K0 false) sg_w18 [] 2099 rfl (by decide +kernel) (plainFor_of_name sg_N0) sg_C0 rfl (by decide +kernel) (sg_K0_s rfl (fun h => by cases h)) (by decide +kernel) (by decide +kernel) (by decide +kernel) (by decide +kernel)
def sg_w19 : List Cond := [.classLink "FormulaWorks" 238 "java/lang/ArithmeticException", .methodLink "FormulaWorks" 240 ⟨"java/lang/ArithmeticException", "<init>", "()V"⟩]
set_option maxRecDepth 100000 in
theorem sg_q19 : s_okE sg_mi 19 sg_c19 6 sg_h19 := s_mkL (np := sg_np) sg_m19 (sg_K0 false) sg_w19 [1033, 1042] 1429 rfl (by decide +kernel) (plainFor_of_name sg_N0) sg_C0 rfl (by decide +kernel) (sg_K0_s rfl (fun h => by cases h)) (by decide +kernel) (by decide +kernel) (by decide +kernel) (by decide +kernel)
def sg_w20 : List Cond := [.classLink "FormulaWorks" 171 "java/lang/IllegalArgumentException", .methodLink "FormulaWorks" 173 ⟨"java/lang/IllegalArgumentException", "<init>", "()V"⟩]
set_option maxRecDepth 100000 in
theorem sg_q20 : s_okE sg_mi 20 sg_c20 3 sg_h20 := s_mkL (np := sg_np) sg_m20 (sg_K0 false) sg_w20 [1014, 1023] 2604 rfl (by decide +kernel) (plainFor_of_name sg_N0) sg_C0 rfl (by decide +kernel) (sg_K0_s rfl (fun h => by cases h)) (by decide +kernel) (by decide +kernel) (by decide +kernel) (by decide +kernel)
def sg_w21 : List Cond := []
set_option maxRecDepth 100000 in
theorem sg_q21 : s_okE sg_mi 21 sg_c21 5 sg_h21 := s_mkL (np := sg_np) sg_m21 (sg_K0 false) sg_w21 [] 2083 rfl (by decide +kernel) (plainFor_of_name sg_N0) sg_C0 rfl (by decide +kernel) (sg_K0_s rfl (fun h => by cases h)) (by decide +kernel) (by decide +kernel) (by decide +kernel) (by decide +kernel)
def sg_w22 : List Cond := [.classLink "FormulaWorks" 171 "java/lang/IllegalArgumentException", .methodLink "FormulaWorks" 173 ⟨"java/lang/IllegalArgumentException", "<init>", "()V"⟩]
set_option maxRecDepth 100000 in
theorem sg_q22 : s_okE sg_mi 22 sg_c22 3 sg_h22 := s_mkL (np := sg_np) sg_m22 (sg_K0 false) sg_w22 [1014, 1023] 1761 rfl (by decide +kernel) (plainFor_of_name sg_N0) sg_C0 rfl (by decide +kernel) (sg_K0_s rfl (fun h => by cases h)) (by decide +kernel) (by decide +kernel) (by decide +kernel) (by decide +kernel)
def sg_w23 : List Cond := []
set_option maxRecDepth 100000 in
theorem sg_q23 : s_okE sg_mi 23 sg_c23 3 sg_h23 := s_mkL (np := sg_np) sg_m23 (sg_K0 false) sg_w23 [] 1586 rfl (by decide +kernel) (plainFor_of_name sg_N0) sg_C0 rfl (by decide +kernel) (sg_K0_s rfl (fun h => by cases h)) (by decide +kernel) (by decide +kernel) (by decide +kernel) (by decide +kernel)
def sg_w24 : List Cond := []
set_option maxRecDepth 100000 in
theorem sg_q24 : s_okE sg_mi 24 sg_c24 2 sg_h24 := s_mkL (np := sg_np) sg_m24 (sg_K0 false) sg_w24 [] 1514 rfl (by decide +kernel) (plainFor_of_name sg_N0) sg_C0 rfl (by decide +kernel) (sg_K0_s rfl (fun h => by cases h)) (by decide +kernel) (by decide +kernel) (by decide +kernel) (by decide +kernel)
def sg_w25 : List Cond := []
set_option maxRecDepth 100000 in
theorem sg_q25 : s_okE sg_mi 25 sg_c25 2 sg_h25 := s_mkL (np := sg_np) sg_m25 (sg_K0 false) sg_w25 [] 710 rfl (by decide +kernel) (plainFor_of_name sg_N0) sg_C0 rfl (by decide +kernel) (sg_K0_s rfl (fun h => by cases h)) (by decide +kernel) (by decide +kernel) (by decide +kernel) (by decide +kernel)
def sg_w26 : List Cond := []
set_option maxRecDepth 100000 in
theorem sg_q26 : s_okE sg_mi 26 sg_c26 5 sg_h26 := s_mkL (np := sg_np) sg_m26 (sg_K0 false) sg_w26 [] 2321 rfl (by decide +kernel) (plainFor_of_name sg_N0) sg_C0 rfl (by decide +kernel) (sg_K0_s rfl (fun h => by cases h)) (by decide +kernel) (by decide +kernel) (by decide +kernel) (by decide +kernel)
def sg_w27 : List Cond := []
set_option maxRecDepth 100000 in
theorem sg_q27 : s_okE sg_mi 27 sg_c27 1 sg_h27 := s_mkL (np := sg_np) sg_m27 (sg_K0 false) sg_w27 [] 2365 rfl (by decide +kernel) (plainFor_of_name sg_N0) sg_C0 rfl (by decide +kernel) (sg_K0_s rfl (fun h => by cases h)) (by decide +kernel) (by decide +kernel) (by decide +kernel) (by decide +kernel)
def sg_w28 : List Cond := [.classLink "FormulaWorks" 171 "java/lang/IllegalArgumentException", .methodLink "FormulaWorks" 173 ⟨"java/lang/IllegalArgumentException", "<init>", "()V"⟩]
set_option maxRecDepth 100000 in
theorem sg_q28 : s_okE sg_mi 28 sg_c28 3 sg_h28 := s_mkL (np := sg_np) sg_m28 (sg_K0 false) sg_w28 [1014, 1023] 2634 rfl (by decide +kernel) (plainFor_of_name sg_N0) sg_C0 rfl (by decide +kernel) (sg_K0_s rfl (fun h => by cases h)) (by decide +kernel) (by decide +kernel) (by decide +kernel) (by decide +kernel)
def sg_w29 : List Cond := []
set_option maxRecDepth 100000 in
theorem sg_q29 : s_okE sg_mi 29 sg_c29 2 sg_h29 := s_mkL (np := sg_np) sg_m29 (sg_K0 false) sg_w29 [] 2049 rfl (by decide +kernel) (plainFor_of_name sg_N0) sg_C0 rfl (by decide +kernel) (sg_K0_s rfl (fun h => by cases h)) (by decide +kernel) (by decide +kernel) (by decide +kernel) (by decide +kernel)
