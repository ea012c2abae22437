def sg_w120 : List Cond := [.classLink "FormulaWorksLaw" 21 "java/lang/IndexOutOfBoundsException", .classLink "FormulaWorksLaw" 15 "java/lang/IllegalArgumentException", .classLink "FormulaWorksLaw" 13 "java/lang/IllegalStateException"]
set_option maxRecDepth 100000 in
theorem sg_q120 : s_okE sg_mi 120 sg_c120 4 sg_h120 := s_mkL (np := sg_np) sg_m120 (sg_K11 false) sg_w120 [1069, 735, 734] 2173 rfl (by decide +kernel) (plainFor_of_name sg_N11) sg_C11 rfl (by decide +kernel) (sg_K11_s rfl (fun h => by cases h)) (by decide +kernel) (by decide +kernel) (by decide +kernel) (by decide +kernel)
def sg_w121 : List Cond := [.classLink "FormulaWorksLaw" 21 "java/lang/IndexOutOfBoundsException", .classLink "FormulaWorksLaw" 15 "java/lang/IllegalArgumentException", .classLink "FormulaWorksLaw" 13 "java/lang/IllegalStateException"]
set_option maxRecDepth 100000 in
theorem sg_q121 : s_okE sg_mi 121 sg_c121 6 sg_h121 := s_mkL (np := sg_np) sg_m121 (sg_K11 false) sg_w121 [1069, 735, 734] 2271 rfl (by decide +kernel) (plainFor_of_name sg_N11) sg_C11 rfl (by decide +kernel) (sg_K11_s rfl (fun h => by cases h)) (by decide +kernel) (by decide +kernel) (by decide +kernel) (by decide +kernel)
def sg_w122 : List Cond := [.classLink "FormulaWorksLaw" 21 "java/lang/IndexOutOfBoundsException", .classLink "FormulaWorksLaw" 15 "java/lang/IllegalArgumentException"]
set_option maxRecDepth 100000 in
theorem sg_q122 : s_okE sg_mi 122 sg_c122 5 sg_h122 := s_mkL (np := sg_np) sg_m122 (sg_K11 false) sg_w122 [1069, 735] 2251 rfl (by decide +kernel) (plainFor_of_name sg_N11) sg_C11 rfl (by decide +kernel) (sg_K11_s rfl (fun h => by cases h)) (by decide +kernel) (by decide +kernel) (by decide +kernel) (by decide +kernel)
def sg_w123 : List Cond := [.classLink "FormulaWorksLaw" 21 "java/lang/IndexOutOfBoundsException", .classLink "FormulaWorksLaw" 15 "java/lang/IllegalArgumentException"]
set_option maxRecDepth 100000 in
theorem sg_q123 : s_okE sg_mi 123 sg_c123 6 sg_h123 := s_mkL (np := sg_np) sg_m123 (sg_K11 false) sg_w123 [1069, 735] 2654 rfl (by decide +kernel) (plainFor_of_name sg_N11) sg_C11 rfl (by decide +kernel) (sg_K11_s rfl (fun h => by cases h)) (by decide +kernel) (by decide +kernel) (by decide +kernel) (by decide +kernel)
def sg_w124 : List Cond := [.classLink "FormulaWorksLaw" 21 "java/lang/IndexOutOfBoundsException", .classLink "FormulaWorksLaw" 15 "java/lang/IllegalArgumentException"]
set_option maxRecDepth 100000 in
theorem sg_q124 : s_okE sg_mi 124 sg_c124 5 sg_h124 := s_mkL (np := sg_np) sg_m124 (sg_K11 false) sg_w124 [1069, 735] 2616 rfl (by decide +kernel) (plainFor_of_name sg_N11) sg_C11 rfl (by decide +kernel) (sg_K11_s rfl (fun h => by cases h)) (by decide +kernel) (by decide +kernel) (by decide +kernel) (by decide +kernel)
def sg_w125 : List Cond := [.classLink "FormulaWorksLaw" 21 "java/lang/IndexOutOfBoundsException", .classLink "FormulaWorksLaw" 15 "java/lang/IllegalArgumentException", .classLink "FormulaWorksLaw" 13 "java/lang/IllegalStateException"]
set_option maxRecDepth 100000 in
theorem sg_q125 : s_okE sg_mi 125 sg_c125 6 sg_h125 := s_mkL (np := sg_np) sg_m125 (sg_K11 false) sg_w125 [1069, 735, 734] 2431 rfl (by decide +kernel) (plainFor_of_name sg_N11) sg_C11 rfl (by decide +kernel) (sg_K11_s rfl (fun h => by cases h)) (by decide +kernel) (by decide +kernel) (by decide +kernel) (by decide +kernel)
def sg_w126 : List Cond := [.classLink "FormulaWorksLaw" 15 "java/lang/IllegalArgumentException"]
set_option maxRecDepth 100000 in
theorem sg_q126 : s_okE sg_mi 126 sg_c126 3 sg_h126 := s_mkL (np := sg_np) sg_m126 (sg_K11 false) sg_w126 [735] 2536 rfl (by decide +kernel) (plainFor_of_name sg_N11) sg_C11 rfl (by decide +kernel) (sg_K11_s rfl (fun h => by cases h)) (by decide +kernel) (by decide +kernel) (by decide +kernel) (by decide +kernel)
def sg_w127 : List Cond := [.classLink "FormulaWorksLaw" 21 "java/lang/IndexOutOfBoundsException", .classLink "FormulaWorksLaw" 15 "java/lang/IllegalArgumentException", .classLink "FormulaWorksLaw" 13 "java/lang/IllegalStateException"]
set_option maxRecDepth 100000 in
theorem sg_q127 : s_okE sg_mi 127 sg_c127 4 sg_h127 := s_mkL (np := sg_np) sg_m127 (sg_K11 false) sg_w127 [1069, 735, 734] 1675 rfl (by decide +kernel) (plainFor_of_name sg_N11) sg_C11 rfl (by decide +kernel) (sg_K11_s rfl (fun h => by cases h)) (by decide +kernel) (by decide +kernel) (by decide +kernel) (by decide +kernel)
def sg_w128 : List Cond := [.classLink "FormulaWorksLaw" 21 "java/lang/IndexOutOfBoundsException", .classLink "FormulaWorksLaw" 15 "java/lang/IllegalArgumentException", .classLink "FormulaWorksLaw" 13 "java/lang/IllegalStateException"]
set_option maxRecDepth 100000 in
theorem sg_q128 : s_okE sg_mi 128 sg_c128 6 sg_h128 := s_mkL (np := sg_np) sg_m128 (sg_K11 false) sg_w128 [1069, 735, 734] 1436 rfl (by decide +kernel) (plainFor_of_name sg_N11) sg_C11 rfl (by decide +kernel) (sg_K11_s rfl (fun h => by cases h)) (by decide +kernel) (by decide +kernel) (by decide +kernel) (by decide +kernel)
def sg_w129 : List Cond := [.classLink "FormulaWorksLaw" 21 "java/lang/IndexOutOfBoundsException", .classLink "FormulaWorksLaw" 15 "java/lang/IllegalArgumentException", .classLink "FormulaWorksLaw" 13 "java/lang/IllegalStateException"]
set_option maxRecDepth 100000 in
theorem sg_q129 : s_okE sg_mi 129 sg_c129 5 sg_h129 := s_mkL (np := sg_np) sg_m129 (sg_K11 false) sg_w129 [1069, 735, 734] 1397 rfl (by decide +kernel) (plainFor_of_name sg_N11) sg_C11 rfl (by decide +kernel) (sg_K11_s rfl (fun h => by cases h)) (by decide +kernel) (by decide +kernel) (by decide +kernel) (by decide +kernel)
def sg_w130 : List Cond := [.classLink "FormulaWorksLaw" 21 "java/lang/IndexOutOfBoundsException", .classLink "FormulaWorksLaw" 15 "java/lang/IllegalArgumentException", .classLink "FormulaWorksLaw" 13 "java/lang/IllegalStateException"]
set_option maxRecDepth 100000 in
theorem sg_q130 : s_okE sg_mi 130 sg_c130 4 sg_h130 := s_mkL (np := sg_np) sg_m130 (sg_K11 false) sg_w130 [1069, 735, 734] 2186 rfl (by decide +kernel) (plainFor_of_name sg_N11) sg_C11 rfl (by decide +kernel) (sg_K11_s rfl (fun h => by cases h)) (by decide +kernel) (by decide +kernel) (by decide +kernel) (by decide +kernel)
def sg_w131 : List Cond := [.classLink "FormulaWorksLaw" 21 "java/lang/IndexOutOfBoundsException", .classLink "FormulaWorksLaw" 15 "java/lang/IllegalArgumentException", .classLink "FormulaWorksLaw" 13 "java/lang/IllegalStateException"]
set_option maxRecDepth 100000 in
theorem sg_q131 : s_okE sg_mi 131 sg_c131 4 sg_h131 := s_mkL (np := sg_np) sg_m131 (sg_K11 false) sg_w131 [1069, 735, 734] 1619 rfl (by decide +kernel) (plainFor_of_name sg_N11) sg_C11 rfl (by decide +kernel) (sg_K11_s rfl (fun h => by cases h)) (by decide +kernel) (by decide +kernel) (by decide +kernel) (by decide +kernel)
def sg_w132 : List Cond := [.classLink "FormulaWorksLaw" 21 "java/lang/IndexOutOfBoundsException", .classLink "FormulaWorksLaw" 15 "java/lang/IllegalArgumentException"]
set_option maxRecDepth 100000 in
theorem sg_q132 : s_okE sg_mi 132 sg_c132 5 sg_h132 := s_mkL (np := sg_np) sg_m132 (sg_K11 false) sg_w132 [1069, 735] 2644 rfl (by decide +kernel) (plainFor_of_name sg_N11) sg_C11 rfl (by decide +kernel) (sg_K11_s rfl (fun h => by cases h)) (by decide +kernel) (by decide +kernel) (by decide +kernel) (by decide +kernel)
def sg_w133 : List Cond := [.classLink "FormulaWorksLaw" 21 "java/lang/IndexOutOfBoundsException", .classLink "FormulaWorksLaw" 15 "java/lang/IllegalArgumentException", .classLink "FormulaWorksLaw" 13 "java/lang/IllegalStateException"]
set_option maxRecDepth 100000 in
theorem sg_q133 : s_okE sg_mi 133 sg_c133 4 sg_h133 := s_mkL (np := sg_np) sg_m133 (sg_K11 false) sg_w133 [1069, 735, 734] 1340 rfl (by decide +kernel) (plainFor_of_name sg_N11) sg_C11 rfl (by decide +kernel) (sg_K11_s rfl (fun h => by cases h)) (by decide +kernel) (by decide +kernel) (by decide +kernel) (by decide +kernel)
def sg_w134 : List Cond := [.classLink "FormulaWorksLaw" 21 "java/lang/IndexOutOfBoundsException", .classLink "FormulaWorksLaw" 15 "java/lang/IllegalArgumentException", .classLink "FormulaWorksLaw" 13 "java/lang/IllegalStateException"]
set_option maxRecDepth 100000 in
theorem sg_q134 : s_okE sg_mi 134 sg_c134 4 sg_h134 := s_mkL (np := sg_np) sg_m134 (sg_K11 false) sg_w134 [1069, 735, 734] 2095 rfl (by decide +kernel) (plainFor_of_name sg_N11) sg_C11 rfl (by decide +kernel) (sg_K11_s rfl (fun h => by cases h)) (by decide +kernel) (by decide +kernel) (by decide +kernel) (by decide +kernel)
def sg_w135 : List Cond := [.classLink "FormulaWorksLaw" 21 "java/lang/IndexOutOfBoundsException", .classLink "FormulaWorksLaw" 15 "java/lang/IllegalArgumentException", .classLink "FormulaWorksLaw" 43 "java/lang/ArithmeticException", .classLink "FormulaWorksLaw" 13 "java/lang/IllegalStateException"]
set_option maxRecDepth 100000 in
theorem sg_q135 : s_okE sg_mi 135 sg_c135 6 sg_h135 := s_mkL (np := sg_np) sg_m135 (sg_K11 false) sg_w135 [1069, 735, 1318, 734] 1425 rfl (by decide +kernel) (plainFor_of_name sg_N11) sg_C11 rfl (by decide +kernel) (sg_K11_s rfl (fun h => by cases h)) (by decide +kernel) (by decide +kernel) (by decide +kernel) (by decide +kernel)
def sg_w136 : List Cond := [.classLink "FormulaWorksLaw" 21 "java/lang/IndexOutOfBoundsException", .classLink "FormulaWorksLaw" 15 "java/lang/IllegalArgumentException"]
set_option maxRecDepth 100000 in
theorem sg_q136 : s_okE sg_mi 136 sg_c136 4 sg_h136 := s_mkL (np := sg_np) sg_m136 (sg_K11 false) sg_w136 [1069, 735] 2600 rfl (by decide +kernel) (plainFor_of_name sg_N11) sg_C11 rfl (by decide +kernel) (sg_K11_s rfl (fun h => by cases h)) (by decide +kernel) (by decide +kernel) (by decide +kernel) (by decide +kernel)
def sg_w137 : List Cond := [.classLink "FormulaWorksLaw" 21 "java/lang/IndexOutOfBoundsException", .classLink "FormulaWorksLaw" 15 "java/lang/IllegalArgumentException", .classLink "FormulaWorksLaw" 13 "java/lang/IllegalStateException"]
set_option maxRecDepth 100000 in
theorem sg_q137 : s_okE sg_mi 137 sg_c137 6 sg_h137 := s_mkL (np := sg_np) sg_m137 (sg_K11 false) sg_w137 [1069, 735, 734] 2079 rfl (by decide +kernel) (plainFor_of_name sg_N11) sg_C11 rfl (by decide +kernel) (sg_K11_s rfl (fun h => by cases h)) (by decide +kernel) (by decide +kernel) (by decide +kernel) (by decide +kernel)
def sg_w138 : List Cond := [.classLink "FormulaWorksLaw" 21 "java/lang/IndexOutOfBoundsException", .classLink "FormulaWorksLaw" 15 "java/lang/IllegalArgumentException", .classLink "FormulaWorksLaw" 13 "java/lang/IllegalStateException"]
set_option maxRecDepth 100000 in
theorem sg_q138 : s_okE sg_mi 138 sg_c138 4 sg_h138 := s_mkL (np := sg_np) sg_m138 (sg_K11 false) sg_w138 [1069, 735, 734] 1757 rfl (by decide +kernel) (plainFor_of_name sg_N11) sg_C11 rfl (by decide +kernel) (sg_K11_s rfl (fun h => by cases h)) (by decide +kernel) (by decide +kernel) (by decide +kernel) (by decide +kernel)
def sg_w139 : List Cond := [.classLink "FormulaWorksLaw" 21 "java/lang/IndexOutOfBoundsException", .classLink "FormulaWorksLaw" 15 "java/lang/IllegalArgumentException", .classLink "FormulaWorksLaw" 13 "java/lang/IllegalStateException"]
set_option maxRecDepth 100000 in
theorem sg_q139 : s_okE sg_mi 139 sg_c139 5 sg_h139 := s_mkL (np := sg_np) sg_m139 (sg_K11 false) sg_w139 [1069, 735, 734] 1582 rfl (by decide +kernel) (plainFor_of_name sg_N11) sg_C11 rfl (by decide +kernel) (sg_K11_s rfl (fun h => by cases h)) (by decide +kernel) (by decide +kernel) (by decide +kernel) (by decide +kernel)
def sg_w140 : List Cond := [.classLink "FormulaWorksLaw" 21 "java/lang/IndexOutOfBoundsException", .classLink "FormulaWorksLaw" 15 "java/lang/IllegalArgumentException"]
set_option maxRecDepth 100000 in
theorem sg_q140 : s_okE sg_mi 140 sg_c140 4 sg_h140 := s_mkL (np := sg_np) sg_m140 (sg_K11 false) sg_w140 [1069, 735] 1510 rfl (by decide +kernel) (plainFor_of_name sg_N11) sg_C11 rfl (by decide +kernel) (sg_K11_s rfl (fun h => by cases h)) (by decide +kernel) (by decide +kernel) (by decide +kernel) (by decide +kernel)
def sg_w141 : List Cond := [.classLink "FormulaWorksLaw" 21 "java/lang/IndexOutOfBoundsException", .classLink "FormulaWorksLaw" 15 "java/lang/IllegalArgumentException", .classLink "FormulaWorksLaw" 13 "java/lang/IllegalStateException"]
set_option maxRecDepth 100000 in
theorem sg_q141 : s_okE sg_mi 141 sg_c141 5 sg_h141 := s_mkL (np := sg_np) sg_m141 (sg_K11 false) sg_w141 [1069, 735, 734] 2317 rfl (by decide +kernel) (plainFor_of_name sg_N11) sg_C11 rfl (by decide +kernel) (sg_K11_s rfl (fun h => by cases h)) (by decide +kernel) (by decide +kernel) (by decide +kernel) (by decide +kernel)
def sg_w142 : List Cond := [.classLink "FormulaWorksLaw" 13 "java/lang/IllegalStateException", .classLink "FormulaWorksLaw" 15 "java/lang/IllegalArgumentException"]
set_option maxRecDepth 100000 in
theorem sg_q142 : s_okE sg_mi 142 sg_c142 3 sg_h142 := s_mkL (np := sg_np) sg_m142 (sg_K11 false) sg_w142 [734, 735] 2361 rfl (by decide +kernel) (plainFor_of_name sg_N11) sg_C11 rfl (by decide +kernel) (sg_K11_s rfl (fun h => by cases h)) (by decide +kernel) (by decide +kernel) (by decide +kernel) (by decide +kernel)
def sg_w143 : List Cond := [.classLink "FormulaWorksLaw" 21 "java/lang/IndexOutOfBoundsException", .classLink "FormulaWorksLaw" 15 "java/lang/IllegalArgumentException", .classLink "FormulaWorksLaw" 13 "java/lang/IllegalStateException"]
set_option maxRecDepth 100000 in
theorem sg_q143 : s_okE sg_mi 143 sg_c143 4 sg_h143 := s_mkL (np := sg_np) sg_m143 (sg_K11 false) sg_w143 [1069, 735, 734] 2630 rfl (by decide +kernel) (plainFor_of_name sg_N11) sg_C11 rfl (by decide +kernel) (sg_K11_s rfl (fun h => by cases h)) (by decide +kernel) (by decide +kernel) (by decide +kernel) (by decide +kernel)
def sg_w144 : List Cond := [.classLink "FormulaWorksLaw" 21 "java/lang/IndexOutOfBoundsException", .classLink "FormulaWorksLaw" 15 "java/lang/IllegalArgumentException", .classLink "FormulaWorksLaw" 13 "java/lang/IllegalStateException"]
set_option maxRecDepth 100000 in
theorem sg_q144 : s_okE sg_mi 144 sg_c144 4 sg_h144 := s_mkL (np := sg_np) sg_m144 (sg_K11 false) sg_w144 [1069, 735, 734] 2045 rfl (by decide +kernel) (plainFor_of_name sg_N11) sg_C11 rfl (by decide +kernel) (sg_K11_s rfl (fun h => by cases h)) (by decide +kernel) (by decide +kernel) (by decide +kernel) (by decide +kernel)
def sg_w145 : List Cond := [.classLink "FormulaWorksLaw" 21 "java/lang/IndexOutOfBoundsException", .classLink "FormulaWorksLaw" 15 "java/lang/IllegalArgumentException", .classLink "FormulaWorksLaw" 13 "java/lang/IllegalStateException"]
set_option maxRecDepth 100000 in
theorem sg_q145 : s_okE sg_mi 145 sg_c145 4 sg_h145 := s_mkL (np := sg_np) sg_m145 (sg_K11 false) sg_w145 [1069, 735, 734] 1665 rfl (by decide +kernel) (plainFor_of_name sg_N11) sg_C11 rfl (by decide +kernel) (sg_K11_s rfl (fun h => by cases h)) (by decide +kernel) (by decide +kernel) (by decide +kernel) (by decide +kernel)
def sg_w146 : List Cond := [.classLink "FormulaWorksLaw" 21 "java/lang/IndexOutOfBoundsException", .classLink "FormulaWorksLaw" 15 "java/lang/IllegalArgumentException", .classLink "FormulaWorksLaw" 13 "java/lang/IllegalStateException"]
set_option maxRecDepth 100000 in
theorem sg_q146 : s_okE sg_mi 146 sg_c146 5 sg_h146 := s_mkL (np := sg_np) sg_m146 (sg_K11 false) sg_w146 [1069, 735, 734] 2144 rfl (by decide +kernel) (plainFor_of_name sg_N11) sg_C11 rfl (by decide +kernel) (sg_K11_s rfl (fun h => by cases h)) (by decide +kernel) (by decide +kernel) (by decide +kernel) (by decide +kernel)
def sg_w147 : List Cond := [.classLink "FormulaWorksLaw" 21 "java/lang/IndexOutOfBoundsException"]
set_option maxRecDepth 100000 in
theorem sg_q147 : s_okE sg_mi 147 sg_c147 4 sg_h147 := s_mkL (np := sg_np) sg_m147 (sg_K11 false) sg_w147 [1069] 2637 rfl (by decide +kernel) (plainFor_of_name sg_N11) sg_C11 rfl (by decide +kernel) (sg_K11_s rfl (fun h => by cases h)) (by decide +kernel) (by decide +kernel) (by decide +kernel) (by decide +kernel)
def sg_w148 : List Cond := [.classLink "FormulaWorksLaw" 21 "java/lang/IndexOutOfBoundsException", .classLink "FormulaWorksLaw" 15 "java/lang/IllegalArgumentException", .classLink "FormulaWorksLaw" 13 "java/lang/IllegalStateException"]
set_option maxRecDepth 100000 in
theorem sg_q148 : s_okE sg_mi 148 sg_c148 5 sg_h148 := s_mkL (np := sg_np) sg_m148 (sg_K11 false) sg_w148 [1069, 735, 734] 1451 rfl (by decide +kernel) (plainFor_of_name sg_N11) sg_C11 rfl (by decide +kernel) (sg_K11_s rfl (fun h => by cases h)) (by decide +kernel) (by decide +kernel) (by decide +kernel) (by decide +kernel)
def sg_w149 : List Cond := [.classLink "FormulaWorksLaw" 21 "java/lang/IndexOutOfBoundsException", .classLink "FormulaWorksLaw" 15 "java/lang/IllegalArgumentException", .classLink "FormulaWorksLaw" 13 "java/lang/IllegalStateException"]
set_option maxRecDepth 100000 in
theorem sg_q149 : s_okE sg_mi 149 sg_c149 5 sg_h149 := s_mkL (np := sg_np) sg_m149 (sg_K11 false) sg_w149 [1069, 735, 734] 1303 rfl (by decide +kernel) (plainFor_of_name sg_N11) sg_C11 rfl (by decide +kernel) (sg_K11_s rfl (fun h => by cases h)) (by decide +kernel) (by decide +kernel) (by decide +kernel) (by decide +kernel)
