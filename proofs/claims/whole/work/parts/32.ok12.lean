def sg_w240 : List Cond := []
set_option maxRecDepth 100000 in
theorem sg_q240 : s_okE sg_mi 240 sg_c240 3 sg_h240 := s_mkL (np := sg_np) sg_m240 (sg_K12 false) sg_w240 [] 3190 rfl (by decide +kernel) (plainFor_of_name sg_N12) sg_C12 rfl (by decide +kernel) (sg_K12_s rfl (fun h => by cases h)) (by decide +kernel) (by decide +kernel) (by decide +kernel) (by decide +kernel)
def sg_w241 : List Cond := []
set_option maxRecDepth 100000 in
theorem sg_q241 : s_okE sg_mi 241 sg_c241 2 sg_h241 := s_mkL (np := sg_np) sg_m241 (sg_K12 false) sg_w241 [] 3709 rfl (by decide +kernel) (plainFor_of_name sg_N12) sg_C12 rfl (by decide +kernel) (sg_K12_s rfl (fun h => by cases h)) (by decide +kernel) (by decide +kernel) (by decide +kernel) (by decide +kernel)
def sg_w242 : List Cond := []
set_option maxRecDepth 100000 in
theorem sg_q242 : s_okE sg_mi 242 sg_c242 3 sg_h242 := s_mkL (np := sg_np) sg_m242 (sg_K12 false) sg_w242 [] 3530 rfl (by decide +kernel) (plainFor_of_name sg_N12) sg_C12 rfl (by decide +kernel) (sg_K12_s rfl (fun h => by cases h)) (by decide +kernel) (by decide +kernel) (by decide +kernel) (by decide +kernel)
def sg_w243 : List Cond := [.constantLong "FormulaWorksModel" 530 (4 : Int64)]
set_option maxRecDepth 100000 in
theorem sg_q243 : s_okE sg_mi 243 sg_c243 3 sg_h243 := s_mkL (np := sg_np) sg_m243 (sg_K12 false) sg_w243 [3426] 3425 rfl (by decide +kernel) (plainFor_of_name sg_N12) sg_C12 rfl (by decide +kernel) (sg_K12_s rfl (fun h => by cases h)) (by decide +kernel) (by decide +kernel) (by decide +kernel) (by decide +kernel)
def sg_w244 : List Cond := []
set_option maxRecDepth 100000 in
theorem sg_q244 : s_okE sg_mi 244 sg_c244 2 sg_h244 := s_mkL (np := sg_np) sg_m244 (sg_K12 false) sg_w244 [] 3473 rfl (by decide +kernel) (plainFor_of_name sg_N12) sg_C12 rfl (by decide +kernel) (sg_K12_s rfl (fun h => by cases h)) (by decide +kernel) (by decide +kernel) (by decide +kernel) (by decide +kernel)
def sg_w245 : List Cond := []
set_option maxRecDepth 100000 in
theorem sg_q245 : s_okE sg_mi 245 sg_c245 2 sg_h245 := s_mkL (np := sg_np) sg_m245 (sg_K12 false) sg_w245 [] 3053 rfl (by decide +kernel) (plainFor_of_name sg_N12) sg_C12 rfl (by decide +kernel) (sg_K12_s rfl (fun h => by cases h)) (by decide +kernel) (by decide +kernel) (by decide +kernel) (by decide +kernel)
def sg_w246 : List Cond := []
set_option maxRecDepth 100000 in
theorem sg_q246 : s_okE sg_mi 246 sg_c246 2 sg_h246 := s_mkL (np := sg_np) sg_m246 (sg_K12 false) sg_w246 [] 3641 rfl (by decide +kernel) (plainFor_of_name sg_N12) sg_C12 rfl (by decide +kernel) (sg_K12_s rfl (fun h => by cases h)) (by decide +kernel) (by decide +kernel) (by decide +kernel) (by decide +kernel)
def sg_w247 : List Cond := []
set_option maxRecDepth 100000 in
theorem sg_q247 : s_okE sg_mi 247 sg_c247 3 sg_h247 := s_mkL (np := sg_np) sg_m247 (sg_K12 false) sg_w247 [] 3026 rfl (s_isCw_s (by decide +kernel)) (plainFor_of_name sg_N12) sg_C12 rfl (by decide +kernel) (sg_K12_s rfl (fun h => by cases h)) (by decide +kernel) (by decide +kernel) (by decide +kernel) (by decide +kernel)
def sg_w248 : List Cond := []
set_option maxRecDepth 100000 in
theorem sg_q248 : s_okE sg_mi 248 sg_c248 2 sg_h248 := s_mkL (np := sg_np) sg_m248 (sg_K12 false) sg_w248 [] 3896 rfl (by decide +kernel) (plainFor_of_name sg_N12) sg_C12 rfl (by decide +kernel) (sg_K12_s rfl (fun h => by cases h)) (by decide +kernel) (by decide +kernel) (by decide +kernel) (by decide +kernel)
def sg_w249 : List Cond := []
set_option maxRecDepth 100000 in
theorem sg_q249 : s_okE sg_mi 249 sg_c249 4 sg_h249 := s_mkL (np := sg_np) sg_m249 (sg_K12 false) sg_w249 [] 3243 rfl (by decide +kernel) (plainFor_of_name sg_N12) sg_C12 rfl (by decide +kernel) (sg_K12_s rfl (fun h => by cases h)) (by decide +kernel) (by decide +kernel) (by decide +kernel) (by decide +kernel)
def sg_w250 : List Cond := [.constantLong "FormulaWorksModel" 372 (-1 : Int64)]
set_option maxRecDepth 100000 in
theorem sg_q250 : s_okE sg_mi 250 sg_c250 3 sg_h250 := s_mkL (np := sg_np) sg_m250 (sg_K12 false) sg_w250 [3135] 3134 rfl (by decide +kernel) (plainFor_of_name sg_N12) sg_C12 rfl (by decide +kernel) (sg_K12_s rfl (fun h => by cases h)) (by decide +kernel) (by decide +kernel) (by decide +kernel) (by decide +kernel)
def sg_w251 : List Cond := []
set_option maxRecDepth 100000 in
theorem sg_q251 : s_okE sg_mi 251 sg_c251 3 sg_h251 := s_mkL (np := sg_np) sg_m251 (sg_K12 false) sg_w251 [] 3755 rfl (by decide +kernel) (plainFor_of_name sg_N12) sg_C12 rfl (by decide +kernel) (sg_K12_s rfl (fun h => by cases h)) (by decide +kernel) (by decide +kernel) (by decide +kernel) (by decide +kernel)
def sg_w252 : List Cond := [.constantLong "FormulaWorksModel" 271 (32003 : Int64)]
set_option maxRecDepth 100000 in
theorem sg_q252 : s_okE sg_mi 252 sg_c252 6 sg_h252 := s_mkL (np := sg_np) sg_m252 (sg_K12 false) sg_w252 [3022] 3351 rfl (s_isCw_s (by decide +kernel)) (plainFor_of_name sg_N12) sg_C12 rfl (by decide +kernel) (sg_K12_s rfl (fun h => by cases h)) (by decide +kernel) (by decide +kernel) (by decide +kernel) (by decide +kernel)
def sg_w253 : List Cond := [.constantLong "FormulaWorksModel" 271 (32003 : Int64)]
set_option maxRecDepth 100000 in
theorem sg_q253 : s_okE sg_mi 253 sg_c253 6 sg_h253 := s_mkL (np := sg_np) sg_m253 (sg_K12 false) sg_w253 [3022] 3399 rfl (s_isCw_s (by decide +kernel)) (plainFor_of_name sg_N12) sg_C12 rfl (by decide +kernel) (sg_K12_s rfl (fun h => by cases h)) (by decide +kernel) (by decide +kernel) (by decide +kernel) (by decide +kernel)
def sg_w254 : List Cond := []
set_option maxRecDepth 100000 in
theorem sg_q254 : s_okE sg_mi 254 sg_c254 5 sg_h254 := s_mkL (np := sg_np) sg_m254 (sg_K12 false) sg_w254 [] 3506 rfl (s_isCw_s (by decide +kernel)) (plainFor_of_name sg_N12) sg_C12 rfl (by decide +kernel) (sg_K12_s rfl (fun h => by cases h)) (by decide +kernel) (by decide +kernel) (by decide +kernel) (by decide +kernel)
def sg_w255 : List Cond := []
set_option maxRecDepth 100000 in
theorem sg_q255 : s_okE sg_mi 255 sg_c255 3 sg_h255 := s_mkL (np := sg_np) sg_m255 (sg_K12 false) sg_w255 [] 3884 rfl (by decide +kernel) (plainFor_of_name sg_N12) sg_C12 rfl (by decide +kernel) (sg_K12_s rfl (fun h => by cases h)) (by decide +kernel) (by decide +kernel) (by decide +kernel) (by decide +kernel)
def sg_w256 : List Cond := []
set_option maxRecDepth 100000 in
theorem sg_q256 : s_okE sg_mi 256 sg_c256 6 sg_h256 := s_mkL (np := sg_np) sg_m256 (sg_K12 false) sg_w256 [] 3421 rfl (s_isCw_s (by decide +kernel)) (plainFor_of_name sg_N12) sg_C12 rfl (by decide +kernel) (sg_K12_s rfl (fun h => by cases h)) (by decide +kernel) (by decide +kernel) (by decide +kernel) (by decide +kernel)
def sg_w257 : List Cond := []
set_option maxRecDepth 100000 in
theorem sg_q257 : s_okE sg_mi 257 sg_c257 5 sg_h257 := s_mkL (np := sg_np) sg_m257 (sg_K12 false) sg_w257 [] 3546 rfl (s_isCw_s (by decide +kernel)) (plainFor_of_name sg_N12) sg_C12 rfl (by decide +kernel) (sg_K12_s rfl (fun h => by cases h)) (by decide +kernel) (by decide +kernel) (by decide +kernel) (by decide +kernel)
def sg_w258 : List Cond := [.constantLong "FormulaWorksModel" 271 (32003 : Int64)]
set_option maxRecDepth 100000 in
theorem sg_q258 : s_okE sg_mi 258 sg_c258 4 sg_h258 := s_mkL (np := sg_np) sg_m258 (sg_K12 false) sg_w258 [3022] 3021 rfl (by decide +kernel) (plainFor_of_name sg_N12) sg_C12 rfl (by decide +kernel) (sg_K12_s rfl (fun h => by cases h)) (by decide +kernel) (by decide +kernel) (by decide +kernel) (by decide +kernel)
def sg_w259 : List Cond := [.constantLong "FormulaWorksModel" 656 (65 : Int64), .constantLong "FormulaWorksModel" 658 (80 : Int64)]
set_option maxRecDepth 100000 in
theorem sg_q259 : s_okE sg_mi 259 sg_c259 5 sg_h259 := s_mkL (np := sg_np) sg_m259 (sg_K12 false) sg_w259 [3628, 3629] 3653 rfl (by decide +kernel) (plainFor_of_name sg_N12) sg_C12 rfl (by decide +kernel) (sg_K12_s rfl (fun h => by cases h)) (by decide +kernel) (by decide +kernel) (by decide +kernel) (by decide +kernel)
def sg_w260 : List Cond := [.constantLong "FormulaWorksModel" 604 (3 : Int64)]
set_option maxRecDepth 100000 in
theorem sg_q260 : s_okE sg_mi 260 sg_c260 5 sg_h260 := s_mkL (np := sg_np) sg_m260 (sg_K12 false) sg_w260 [3567] 3803 rfl (s_isCw_s (by decide +kernel)) (plainFor_of_name sg_N12) sg_C12 rfl (by decide +kernel) (sg_K12_s rfl (fun h => by cases h)) (by decide +kernel) (by decide +kernel) (by decide +kernel) (by decide +kernel)
def sg_w261 : List Cond := []
set_option maxRecDepth 100000 in
theorem sg_q261 : s_okE sg_mi 261 sg_c261 2 sg_h261 := s_mkL (np := sg_np) sg_m261 (sg_K12 false) sg_w261 [] 3799 rfl (by decide +kernel) (plainFor_of_name sg_N12) sg_C12 rfl (by decide +kernel) (sg_K12_s rfl (fun h => by cases h)) (by decide +kernel) (by decide +kernel) (by decide +kernel) (by decide +kernel)
def sg_w262 : List Cond := []
set_option maxRecDepth 100000 in
theorem sg_q262 : s_okE sg_mi 262 sg_c262 3 sg_h262 := s_mkL (np := sg_np) sg_m262 (sg_K12 false) sg_w262 [] 3015 rfl (by decide +kernel) (plainFor_of_name sg_N12) sg_C12 rfl (by decide +kernel) (sg_K12_s rfl (fun h => by cases h)) (by decide +kernel) (by decide +kernel) (by decide +kernel) (by decide +kernel)
def sg_w263 : List Cond := [.constantLong "FormulaWorksModel" 271 (32003 : Int64)]
set_option maxRecDepth 100000 in
theorem sg_q263 : s_okE sg_mi 263 sg_c263 8 sg_h263 := s_mkL (np := sg_np) sg_m263 (sg_K12 false) sg_w263 [3022] 3558 rfl (s_isCw_s (by decide +kernel)) (plainFor_of_name sg_N12) sg_C12 rfl (by decide +kernel) (sg_K12_s rfl (fun h => by cases h)) (by decide +kernel) (by decide +kernel) (by decide +kernel) (by decide +kernel)
def sg_w264 : List Cond := []
set_option maxRecDepth 100000 in
theorem sg_q264 : s_okE sg_mi 264 sg_c264 3 sg_h264 := s_mkL (np := sg_np) sg_m264 (sg_K12 false) sg_w264 [] 3315 rfl (by decide +kernel) (plainFor_of_name sg_N12) sg_C12 rfl (by decide +kernel) (sg_K12_s rfl (fun h => by cases h)) (by decide +kernel) (by decide +kernel) (by decide +kernel) (by decide +kernel)
def sg_w265 : List Cond := []
set_option maxRecDepth 100000 in
theorem sg_q265 : s_okE sg_mi 265 sg_c265 3 sg_h265 := s_mkL (np := sg_np) sg_m265 (sg_K12 false) sg_w265 [] 3151 rfl (by decide +kernel) (plainFor_of_name sg_N12) sg_C12 rfl (by decide +kernel) (sg_K12_s rfl (fun h => by cases h)) (by decide +kernel) (by decide +kernel) (by decide +kernel) (by decide +kernel)
def sg_w266 : List Cond := [.constantLong "FormulaWorksModel" 567 (32002 : Int64), .constantLong "FormulaWorksModel" 271 (32003 : Int64)]
set_option maxRecDepth 100000 in
theorem sg_q266 : s_okE sg_mi 266 sg_c266 4 sg_h266 := s_mkL (np := sg_np) sg_m266 (sg_K12 false) sg_w266 [3474, 3022] 3469 rfl (s_isCw_s (by decide +kernel)) (plainFor_of_name sg_N12) sg_C12 rfl (by decide +kernel) (sg_K12_s rfl (fun h => by cases h)) (by decide +kernel) (by decide +kernel) (by decide +kernel) (by decide +kernel)
def sg_w267 : List Cond := []
set_option maxRecDepth 100000 in
theorem sg_q267 : s_okE sg_mi 267 sg_c267 11 sg_h267 := s_mkL (np := sg_np) sg_m267 (sg_K12 false) sg_w267 [] 3327 rfl (s_isCw_s (by decide +kernel)) (plainFor_of_name sg_N12) sg_C12 rfl (by decide +kernel) (sg_K12_s rfl (fun h => by cases h)) (by decide +kernel) (by decide +kernel) (by decide +kernel) (by decide +kernel)
def sg_w268 : List Cond := [.constantLong "FormulaWorksModel" 393 (99 : Int64)]
set_option maxRecDepth 100000 in
theorem sg_q268 : s_okE sg_mi 268 sg_c268 3 sg_h268 := s_mkL (np := sg_np) sg_m268 (sg_K12 false) sg_w268 [3164] 3163 rfl (by decide +kernel) (plainFor_of_name sg_N12) sg_C12 rfl (by decide +kernel) (sg_K12_s rfl (fun h => by cases h)) (by decide +kernel) (by decide +kernel) (by decide +kernel) (by decide +kernel)
def sg_w269 : List Cond := []
set_option maxRecDepth 100000 in
theorem sg_q269 : s_okE sg_mi 269 sg_c269 2 sg_h269 := s_mkL (np := sg_np) sg_m269 (sg_K12 false) sg_w269 [] 3705 rfl (by decide +kernel) (plainFor_of_name sg_N12) sg_C12 rfl (by decide +kernel) (sg_K12_s rfl (fun h => by cases h)) (by decide +kernel) (by decide +kernel) (by decide +kernel) (by decide +kernel)
