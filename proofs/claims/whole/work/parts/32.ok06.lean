def sg_w180 : List Cond := [.classLink "FormulaWorksLaw" 21 "java/lang/IndexOutOfBoundsException", .classLink "FormulaWorksLaw" 15 "java/lang/IllegalArgumentException", .classLink "FormulaWorksLaw" 43 "java/lang/ArithmeticException"]
set_option maxRecDepth 100000 in
theorem sg_q180 : s_okE sg_mi 180 sg_c180 5 sg_h180 := s_mkL (np := sg_np) sg_m180 (sg_K11 false) sg_w180 [1069, 735, 1318] 1734 rfl (by decide +kernel) (plainFor_of_name sg_N11) sg_C11 rfl (by decide +kernel) (sg_K11_s rfl (fun h => by cases h)) (by decide +kernel) (by decide +kernel) (by decide +kernel) (by decide +kernel)
def sg_w181 : List Cond := [.classLink "FormulaWorksLaw" 21 "java/lang/IndexOutOfBoundsException", .classLink "FormulaWorksLaw" 15 "java/lang/IllegalArgumentException"]
set_option maxRecDepth 100000 in
theorem sg_q181 : s_okE sg_mi 181 sg_c181 4 sg_h181 := s_mkL (np := sg_np) sg_m181 (sg_K11 false) sg_w181 [1069, 735] 2064 rfl (by decide +kernel) (plainFor_of_name sg_N11) sg_C11 rfl (by decide +kernel) (sg_K11_s rfl (fun h => by cases h)) (by decide +kernel) (by decide +kernel) (by decide +kernel) (by decide +kernel)
def sg_w182 : List Cond := [.classLink "FormulaWorksLaw" 21 "java/lang/IndexOutOfBoundsException", .classLink "FormulaWorksLaw" 15 "java/lang/IllegalArgumentException", .classLink "FormulaWorksLaw" 43 "java/lang/ArithmeticException"]
set_option maxRecDepth 100000 in
theorem sg_q182 : s_okE sg_mi 182 sg_c182 5 sg_h182 := s_mkL (np := sg_np) sg_m182 (sg_K11 false) sg_w182 [1069, 735, 1318] 1721 rfl (by decide +kernel) (plainFor_of_name sg_N11) sg_C11 rfl (by decide +kernel) (sg_K11_s rfl (fun h => by cases h)) (by decide +kernel) (by decide +kernel) (by decide +kernel) (by decide +kernel)
def sg_w183 : List Cond := [.classLink "FormulaWorksLaw" 21 "java/lang/IndexOutOfBoundsException", .classLink "FormulaWorksLaw" 15 "java/lang/IllegalArgumentException", .classLink "FormulaWorksLaw" 13 "java/lang/IllegalStateException"]
set_option maxRecDepth 100000 in
theorem sg_q183 : s_okE sg_mi 183 sg_c183 5 sg_h183 := s_mkL (np := sg_np) sg_m183 (sg_K11 false) sg_w183 [1069, 735, 734] 1310 rfl (by decide +kernel) (plainFor_of_name sg_N11) sg_C11 rfl (by decide +kernel) (sg_K11_s rfl (fun h => by cases h)) (by decide +kernel) (by decide +kernel) (by decide +kernel) (by decide +kernel)
def sg_w184 : List Cond := [.classLink "FormulaWorksLaw" 21 "java/lang/IndexOutOfBoundsException", .classLink "FormulaWorksLaw" 15 "java/lang/IllegalArgumentException", .classLink "FormulaWorksLaw" 13 "java/lang/IllegalStateException"]
set_option maxRecDepth 100000 in
theorem sg_q184 : s_okE sg_mi 184 sg_c184 4 sg_h184 := s_mkL (np := sg_np) sg_m184 (sg_K11 false) sg_w184 [1069, 735, 734] 2087 rfl (by decide +kernel) (plainFor_of_name sg_N11) sg_C11 rfl (by decide +kernel) (sg_K11_s rfl (fun h => by cases h)) (by decide +kernel) (by decide +kernel) (by decide +kernel) (by decide +kernel)
def sg_w185 : List Cond := [.classLink "FormulaWorksLaw" 21 "java/lang/IndexOutOfBoundsException", .classLink "FormulaWorksLaw" 15 "java/lang/IllegalArgumentException", .classLink "FormulaWorksLaw" 43 "java/lang/ArithmeticException", .classLink "FormulaWorksLaw" 13 "java/lang/IllegalStateException"]
set_option maxRecDepth 100000 in
theorem sg_q185 : s_okE sg_mi 185 sg_c185 5 sg_h185 := s_mkL (np := sg_np) sg_m185 (sg_K11 false) sg_w185 [1069, 735, 1318, 734] 2293 rfl (by decide +kernel) (plainFor_of_name sg_N11) sg_C11 rfl (by decide +kernel) (sg_K11_s rfl (fun h => by cases h)) (by decide +kernel) (by decide +kernel) (by decide +kernel) (by decide +kernel)
def sg_w186 : List Cond := [.classLink "FormulaWorksLaw" 21 "java/lang/IndexOutOfBoundsException", .classLink "FormulaWorksLaw" 15 "java/lang/IllegalArgumentException"]
set_option maxRecDepth 100000 in
theorem sg_q186 : s_okE sg_mi 186 sg_c186 6 sg_h186 := s_mkL (np := sg_np) sg_m186 (sg_K11 false) sg_w186 [1069, 735] 1382 rfl (by decide +kernel) (plainFor_of_name sg_N11) sg_C11 rfl (by decide +kernel) (sg_K11_s rfl (fun h => by cases h)) (by decide +kernel) (by decide +kernel) (by decide +kernel) (by decide +kernel)
def sg_w187 : List Cond := [.classLink "FormulaWorksLaw" 21 "java/lang/IndexOutOfBoundsException", .classLink "FormulaWorksLaw" 15 "java/lang/IllegalArgumentException", .classLink "FormulaWorksLaw" 13 "java/lang/IllegalStateException"]
set_option maxRecDepth 100000 in
theorem sg_q187 : s_okE sg_mi 187 sg_c187 5 sg_h187 := s_mkL (np := sg_np) sg_m187 (sg_K11 false) sg_w187 [1069, 735, 734] 2199 rfl (by decide +kernel) (plainFor_of_name sg_N11) sg_C11 rfl (by decide +kernel) (sg_K11_s rfl (fun h => by cases h)) (by decide +kernel) (by decide +kernel) (by decide +kernel) (by decide +kernel)
def sg_w188 : List Cond := [.classLink "FormulaWorksLaw" 21 "java/lang/IndexOutOfBoundsException", .classLink "FormulaWorksLaw" 15 "java/lang/IllegalArgumentException", .classLink "FormulaWorksLaw" 43 "java/lang/ArithmeticException", .classLink "FormulaWorksLaw" 13 "java/lang/IllegalStateException"]
set_option maxRecDepth 100000 in
theorem sg_q188 : s_okE sg_mi 188 sg_c188 4 sg_h188 := s_mkL (np := sg_np) sg_m188 (sg_K11 false) sg_w188 [1069, 735, 1318, 734] 2386 rfl (by decide +kernel) (plainFor_of_name sg_N11) sg_C11 rfl (by decide +kernel) (sg_K11_s rfl (fun h => by cases h)) (by decide +kernel) (by decide +kernel) (by decide +kernel) (by decide +kernel)
def sg_w189 : List Cond := [.classLink "FormulaWorksLaw" 21 "java/lang/IndexOutOfBoundsException", .classLink "FormulaWorksLaw" 15 "java/lang/IllegalArgumentException", .classLink "FormulaWorksLaw" 13 "java/lang/IllegalStateException"]
set_option maxRecDepth 100000 in
theorem sg_q189 : s_okE sg_mi 189 sg_c189 4 sg_h189 := s_mkL (np := sg_np) sg_m189 (sg_K11 false) sg_w189 [1069, 735, 734] 2379 rfl (by decide +kernel) (plainFor_of_name sg_N11) sg_C11 rfl (by decide +kernel) (sg_K11_s rfl (fun h => by cases h)) (by decide +kernel) (by decide +kernel) (by decide +kernel) (by decide +kernel)
def sg_w190 : List Cond := [.methodLink "FormulaWorksModel" 1 ⟨"java/lang/Object", "<init>", "()V"⟩, .instanceMethod ⟨"java/lang/Object", "<init>", "()V"⟩, .code ⟨"java/lang/Object", "<init>", "()V"⟩ object_method_1_code 1 (Option.none : Option FieldType), .arrayClass FieldType.int, .arrayClass FieldType.long, .arrayClass FieldType.boolean]
set_option maxRecDepth 100000 in
theorem sg_g190 : sg_w190 = ([2671, 263, 264, 298, 3006, 3007] : List Nat).filterMap (fun i => lw_tbl[i]?) := by decide +kernel
theorem sg_a190 : sg_w190.all goodWord = true := by decide +kernel
