def sg_w30 : List Cond := []
set_option maxRecDepth 100000 in
theorem sg_q30 : s_okE sg_mi 30 sg_c30 4 sg_h30 := s_mkL (np := sg_np) sg_m30 (sg_K0 false) sg_w30 [] 1669 rfl (by decide +kernel) (plainFor_of_name sg_N0) sg_C0 rfl (by decide +kernel) (sg_K0_s rfl (fun h => by cases h)) (by decide +kernel) (by decide +kernel) (by decide +kernel) (by decide +kernel)
def sg_w31 : List Cond := []
set_option maxRecDepth 100000 in
theorem sg_q31 : s_okE sg_mi 31 sg_c31 4 sg_h31 := s_mkL (np := sg_np) sg_m31 (sg_K0 false) sg_w31 [] 2148 rfl (by decide +kernel) (plainFor_of_name sg_N0) sg_C0 rfl (by decide +kernel) (sg_K0_s rfl (fun h => by cases h)) (by decide +kernel) (by decide +kernel) (by decide +kernel) (by decide +kernel)
def sg_w32 : List Cond := []
set_option maxRecDepth 100000 in
theorem sg_q32 : s_okE sg_mi 32 sg_c32 2 sg_h32 := s_mkL (np := sg_np) sg_m32 (sg_K0 false) sg_w32 [] 1065 rfl (by decide +kernel) (plainFor_of_name sg_N0) sg_C0 rfl (by decide +kernel) (sg_K0_s rfl (fun h => by cases h)) (by decide +kernel) (by decide +kernel) (by decide +kernel) (by decide +kernel)
def sg_w33 : List Cond := [.classLink "FormulaWorks" 537 "java/lang/IllegalStateException", .methodLink "FormulaWorks" 539 ⟨"java/lang/IllegalStateException", "<init>", "()V"⟩, .classLink "FormulaWorks" 9 "FormulaWorks$Thing", .initialized "FormulaWorks$Thing", .methodLink "FormulaWorks" 581 ⟨"FormulaWorks$Thing", "<init>", "(LFormulaWorks$Poly;LFormulaWorks$Poly;)V"⟩, .instanceMethod ⟨"FormulaWorks$Thing", "<init>", "(LFormulaWorks$Poly;LFormulaWorks$Poly;)V"⟩]
set_option maxRecDepth 100000 in
theorem sg_q33 : s_okE sg_mi 33 sg_c33 2 sg_h33 := s_mkL (np := sg_np) sg_m33 (sg_K0 false) sg_w33 [744, 787, 265, 233, 1059, 1060] 1225 rfl (by decide +kernel) (plainFor_of_name sg_N0) sg_C0 rfl (by decide +kernel) (sg_K0_s rfl (fun h => by cases h)) (by decide +kernel) (by decide +kernel) (by decide +kernel) (by decide +kernel)
def sg_w34 : List Cond := []
set_option maxRecDepth 100000 in
theorem sg_q34 : s_okE sg_mi 34 sg_c34 2 sg_h34 := s_mkL (np := sg_np) sg_m34 (sg_K0 false) sg_w34 [] 2641 rfl (by decide +kernel) (plainFor_of_name sg_N0) sg_C0 rfl (by decide +kernel) (sg_K0_s rfl (fun h => by cases h)) (by decide +kernel) (by decide +kernel) (by decide +kernel) (by decide +kernel)
def sg_w35 : List Cond := [.classLink "FormulaWorks" 171 "java/lang/IllegalArgumentException", .methodLink "FormulaWorks" 173 ⟨"java/lang/IllegalArgumentException", "<init>", "()V"⟩]
set_option maxRecDepth 100000 in
theorem sg_q35 : s_okE sg_mi 35 sg_c35 5 sg_h35 := s_mkL (np := sg_np) sg_m35 (sg_K0 false) sg_w35 [1014, 1023] 1455 rfl (by decide +kernel) (plainFor_of_name sg_N0) sg_C0 rfl (by decide +kernel) (sg_K0_s rfl (fun h => by cases h)) (by decide +kernel) (by decide +kernel) (by decide +kernel) (by decide +kernel)
def sg_w36 : List Cond := []
set_option maxRecDepth 100000 in
theorem sg_q36 : s_okE sg_mi 36 sg_c36 3 sg_h36 := s_mkL (np := sg_np) sg_m36 (sg_K0 false) sg_w36 [] 1307 rfl (by decide +kernel) (plainFor_of_name sg_N0) sg_C0 rfl (by decide +kernel) (sg_K0_s rfl (fun h => by cases h)) (by decide +kernel) (by decide +kernel) (by decide +kernel) (by decide +kernel)
def sg_w37 : List Cond := []
set_option maxRecDepth 100000 in
theorem sg_q37 : s_okE sg_mi 37 sg_c37 3 sg_h37 := s_mkL (np := sg_np) sg_m37 (sg_K0 false) sg_w37 [] 1207 rfl (by decide +kernel) (plainFor_of_name sg_N0) sg_C0 rfl (by decide +kernel) (sg_K0_s rfl (fun h => by cases h)) (by decide +kernel) (by decide +kernel) (by decide +kernel) (by decide +kernel)
def sg_w38 : List Cond := [.classLink "FormulaWorks" 279 "java/lang/IndexOutOfBoundsException", .methodLink "FormulaWorks" 281 ⟨"java/lang/IndexOutOfBoundsException", "<init>", "()V"⟩]
set_option maxRecDepth 100000 in
theorem sg_q38 : s_okE sg_mi 38 sg_c38 3 sg_h38 := s_mkL (np := sg_np) sg_m38 (sg_K0 false) sg_w38 [1110, 1119] 1655 rfl (by decide +kernel) (plainFor_of_name sg_N0) sg_C0 rfl (by decide +kernel) (sg_K0_s rfl (fun h => by cases h)) (by decide +kernel) (by decide +kernel) (by decide +kernel) (by decide +kernel)
def sg_w39 : List Cond := [.classLink "FormulaWorks" 171 "java/lang/IllegalArgumentException", .methodLink "FormulaWorks" 173 ⟨"java/lang/IllegalArgumentException", "<init>", "()V"⟩]
set_option maxRecDepth 100000 in
theorem sg_q39 : s_okE sg_mi 39 sg_c39 3 sg_h39 := s_mkL (np := sg_np) sg_m39 (sg_K0 false) sg_w39 [1014, 1023] 1771 rfl (by decide +kernel) (plainFor_of_name sg_N0) sg_C0 rfl (by decide +kernel) (sg_K0_s rfl (fun h => by cases h)) (by decide +kernel) (by decide +kernel) (by decide +kernel) (by decide +kernel)
def sg_w40 : List Cond := []
set_option maxRecDepth 100000 in
theorem sg_q40 : s_okE sg_mi 40 sg_c40 6 sg_h40 := s_mkL (np := sg_np) sg_m40 (sg_K0 false) sg_w40 [] 2229 rfl (by decide +kernel) (plainFor_of_name sg_N0) sg_C0 rfl (by decide +kernel) (sg_K0_s rfl (fun h => by cases h)) (by decide +kernel) (by decide +kernel) (by decide +kernel) (by decide +kernel)
def sg_w41 : List Cond := [.classLink "FormulaWorks" 171 "java/lang/IllegalArgumentException", .methodLink "FormulaWorks" 173 ⟨"java/lang/IllegalArgumentException", "<init>", "()V"⟩, .classLink "FormulaWorks" 9 "FormulaWorks$Thing", .initialized "FormulaWorks$Thing", .classLink "FormulaWorks" 19 "FormulaWorks$Poly"]
set_option maxRecDepth 100000 in
theorem sg_q41 : s_okE sg_mi 41 sg_c41 5 sg_h41 := s_mkL (np := sg_np) sg_m41 (sg_K0 false) sg_w41 [1014, 1023, 265, 233, 267] 2075 rfl (s_isCw_s (by decide +kernel)) (plainFor_of_name sg_N0) sg_C0 rfl (by decide +kernel) (sg_K0_s rfl (fun h => by cases h)) (by decide +kernel) (by decide +kernel) (by decide +kernel) (by decide +kernel)
def sg_w42 : List Cond := []
set_option maxRecDepth 100000 in
theorem sg_q42 : s_okE sg_mi 42 sg_c42 6 sg_h42 := s_mkL (np := sg_np) sg_m42 (sg_K0 false) sg_w42 [] 2286 rfl (by decide +kernel) (plainFor_of_name sg_N0) sg_C0 rfl (by decide +kernel) (sg_K0_s rfl (fun h => by cases h)) (by decide +kernel) (by decide +kernel) (by decide +kernel) (by decide +kernel)
def sg_w43 : List Cond := [.classLink "FormulaWorks" 279 "java/lang/IndexOutOfBoundsException", .methodLink "FormulaWorks" 281 ⟨"java/lang/IndexOutOfBoundsException", "<init>", "()V"⟩]
set_option maxRecDepth 100000 in
theorem sg_q43 : s_okE sg_mi 43 sg_c43 2 sg_h43 := s_mkL (np := sg_np) sg_m43 (sg_K0 false) sg_w43 [1110, 1119] 1589 rfl (by decide +kernel) (plainFor_of_name sg_N0) sg_C0 rfl (by decide +kernel) (sg_K0_s rfl (fun h => by cases h)) (by decide +kernel) (by decide +kernel) (by decide +kernel) (by decide +kernel)
def sg_w44 : List Cond := [.classLink "FormulaWorks" 537 "java/lang/IllegalStateException", .methodLink "FormulaWorks" 539 ⟨"java/lang/IllegalStateException", "<init>", "()V"⟩]
set_option maxRecDepth 100000 in
theorem sg_q44 : s_okE sg_mi 44 sg_c44 1 sg_h44 := s_mkL (np := sg_np) sg_m44 (sg_K0 false) sg_w44 [744, 787] 743 rfl (by decide +kernel) (plainFor_of_name sg_N0) sg_C0 rfl (by decide +kernel) (sg_K0_s rfl (fun h => by cases h)) (by decide +kernel) (by decide +kernel) (by decide +kernel) (by decide +kernel)
def sg_w45 : List Cond := [.classLink "FormulaWorks" 171 "java/lang/IllegalArgumentException", .methodLink "FormulaWorks" 173 ⟨"java/lang/IllegalArgumentException", "<init>", "()V"⟩]
set_option maxRecDepth 100000 in
theorem sg_q45 : s_okE sg_mi 45 sg_c45 5 sg_h45 := s_mkL (np := sg_np) sg_m45 (sg_K0 false) sg_w45 [1014, 1023] 2420 rfl (by decide +kernel) (plainFor_of_name sg_N0) sg_C0 rfl (by decide +kernel) (sg_K0_s rfl (fun h => by cases h)) (by decide +kernel) (by decide +kernel) (by decide +kernel) (by decide +kernel)
def sg_w46 : List Cond := []
set_option maxRecDepth 100000 in
theorem sg_q46 : s_okE sg_mi 46 sg_c46 2 sg_h46 := s_mkL (np := sg_np) sg_m46 (sg_K0 false) sg_w46 [] 2413 rfl (by decide +kernel) (plainFor_of_name sg_N0) sg_C0 rfl (by decide +kernel) (sg_K0_s rfl (fun h => by cases h)) (by decide +kernel) (by decide +kernel) (by decide +kernel) (by decide +kernel)
def sg_w47 : List Cond := []
set_option maxRecDepth 100000 in
theorem sg_q47 : s_okE sg_mi 47 sg_c47 3 sg_h47 := s_mkL (np := sg_np) sg_m47 (sg_K0 false) sg_w47 [] 1214 rfl (by decide +kernel) (plainFor_of_name sg_N0) sg_C0 rfl (by decide +kernel) (sg_K0_s rfl (fun h => by cases h)) (by decide +kernel) (by decide +kernel) (by decide +kernel) (by decide +kernel)
def sg_w48 : List Cond := []
set_option maxRecDepth 100000 in
theorem sg_q48 : s_okE sg_mi 48 sg_c48 5 sg_h48 := s_mkL (np := sg_np) sg_m48 (sg_K0 false) sg_w48 [] 2311 rfl (by decide +kernel) (plainFor_of_name sg_N0) sg_C0 rfl (by decide +kernel) (sg_K0_s rfl (fun h => by cases h)) (by decide +kernel) (by decide +kernel) (by decide +kernel) (by decide +kernel)
def sg_w49 : List Cond := []
set_option maxRecDepth 100000 in
theorem sg_q49 : s_okE sg_mi 49 sg_c49 4 sg_h49 := s_mkL (np := sg_np) sg_m49 (sg_K0 false) sg_w49 [] 1336 rfl (by decide +kernel) (plainFor_of_name sg_N0) sg_C0 rfl (by decide +kernel) (sg_K0_s rfl (fun h => by cases h)) (by decide +kernel) (by decide +kernel) (by decide +kernel) (by decide +kernel)
def sg_w50 : List Cond := []
set_option maxRecDepth 100000 in
theorem sg_q50 : s_okE sg_mi 50 sg_c50 3 sg_h50 := s_mkL (np := sg_np) sg_m50 (sg_K0 false) sg_w50 [] 1596 rfl (by decide +kernel) (plainFor_of_name sg_N0) sg_C0 rfl (by decide +kernel) (sg_K0_s rfl (fun h => by cases h)) (by decide +kernel) (by decide +kernel) (by decide +kernel) (by decide +kernel)
def sg_w51 : List Cond := [.classLink "FormulaWorks" 171 "java/lang/IllegalArgumentException", .methodLink "FormulaWorks" 173 ⟨"java/lang/IllegalArgumentException", "<init>", "()V"⟩]
set_option maxRecDepth 100000 in
theorem sg_q51 : s_okE sg_mi 51 sg_c51 5 sg_h51 := s_mkL (np := sg_np) sg_m51 (sg_K0 false) sg_w51 [1014, 1023] 1325 rfl (by decide +kernel) (plainFor_of_name sg_N0) sg_C0 rfl (by decide +kernel) (sg_K0_s rfl (fun h => by cases h)) (by decide +kernel) (by decide +kernel) (by decide +kernel) (by decide +kernel)
def sg_w52 : List Cond := []
set_option maxRecDepth 100000 in
theorem sg_q52 : s_okE sg_mi 52 sg_c52 3 sg_h52 := s_mkL (np := sg_np) sg_m52 (sg_K0 false) sg_w52 [] 2165 rfl (by decide +kernel) (plainFor_of_name sg_N0) sg_C0 rfl (by decide +kernel) (sg_K0_s rfl (fun h => by cases h)) (by decide +kernel) (by decide +kernel) (by decide +kernel) (by decide +kernel)
def sg_w53 : List Cond := [.classLink "FormulaWorks" 279 "java/lang/IndexOutOfBoundsException", .methodLink "FormulaWorks" 281 ⟨"java/lang/IndexOutOfBoundsException", "<init>", "()V"⟩]
set_option maxRecDepth 100000 in
theorem sg_q53 : s_okE sg_mi 53 sg_c53 5 sg_h53 := s_mkL (np := sg_np) sg_m53 (sg_K0 false) sg_w53 [1110, 1119] 1610 rfl (by decide +kernel) (plainFor_of_name sg_N0) sg_C0 rfl (by decide +kernel) (sg_K0_s rfl (fun h => by cases h)) (by decide +kernel) (by decide +kernel) (by decide +kernel) (by decide +kernel)
def sg_w54 : List Cond := [.classLink "FormulaWorks" 171 "java/lang/IllegalArgumentException", .methodLink "FormulaWorks" 173 ⟨"java/lang/IllegalArgumentException", "<init>", "()V"⟩]
set_option maxRecDepth 100000 in
theorem sg_q54 : s_okE sg_mi 54 sg_c54 4 sg_h54 := s_mkL (np := sg_np) sg_m54 (sg_K0 false) sg_w54 [1014, 1023] 1332 rfl (by decide +kernel) (plainFor_of_name sg_N0) sg_C0 rfl (by decide +kernel) (sg_K0_s rfl (fun h => by cases h)) (by decide +kernel) (by decide +kernel) (by decide +kernel) (by decide +kernel)
def sg_w55 : List Cond := []
set_option maxRecDepth 100000 in
theorem sg_q55 : s_okE sg_mi 55 sg_c55 2 sg_h55 := s_mkL (np := sg_np) sg_m55 (sg_K0 false) sg_w55 [] 1105 rfl (by decide +kernel) (plainFor_of_name sg_N0) sg_C0 rfl (by decide +kernel) (sg_K0_s rfl (fun h => by cases h)) (by decide +kernel) (by decide +kernel) (by decide +kernel) (by decide +kernel)
def sg_w56 : List Cond := [.classLink "FormulaWorks" 171 "java/lang/IllegalArgumentException", .methodLink "FormulaWorks" 173 ⟨"java/lang/IllegalArgumentException", "<init>", "()V"⟩]
set_option maxRecDepth 100000 in
theorem sg_q56 : s_okE sg_mi 56 sg_c56 5 sg_h56 := s_mkL (np := sg_np) sg_m56 (sg_K0 false) sg_w56 [1014, 1023] 1366 rfl (by decide +kernel) (plainFor_of_name sg_N0) sg_C0 rfl (by decide +kernel) (sg_K0_s rfl (fun h => by cases h)) (by decide +kernel) (by decide +kernel) (by decide +kernel) (by decide +kernel)
def sg_w57 : List Cond := []
set_option maxRecDepth 100000 in
theorem sg_q57 : s_okE sg_mi 57 sg_c57 2 sg_h57 := s_mkL (np := sg_np) sg_m57 (sg_K0 false) sg_w57 [] 2128 rfl (by decide +kernel) (plainFor_of_name sg_N0) sg_C0 rfl (by decide +kernel) (sg_K0_s rfl (fun h => by cases h)) (by decide +kernel) (by decide +kernel) (by decide +kernel) (by decide +kernel)
def sg_w58 : List Cond := []
set_option maxRecDepth 100000 in
theorem sg_q58 : s_okE sg_mi 58 sg_c58 1 sg_h58 := s_mkL (np := sg_np) sg_m58 (sg_K0 false) sg_w58 [] 739 rfl (by decide +kernel) (plainFor_of_name sg_N0) sg_C0 rfl (by decide +kernel) (sg_K0_s rfl (fun h => by cases h)) (by decide +kernel) (by decide +kernel) (by decide +kernel) (by decide +kernel)
def sg_w59 : List Cond := []
set_option maxRecDepth 100000 in
theorem sg_q59 : s_okE sg_mi 59 sg_c59 3 sg_h59 := s_mkL (np := sg_np) sg_m59 (sg_K0 false) sg_w59 [] 2348 rfl (by decide +kernel) (plainFor_of_name sg_N0) sg_C0 rfl (by decide +kernel) (sg_K0_s rfl (fun h => by cases h)) (by decide +kernel) (by decide +kernel) (by decide +kernel) (by decide +kernel)
