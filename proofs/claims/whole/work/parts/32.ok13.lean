def sg_w270 : List Cond := []
set_option maxRecDepth 100000 in
theorem sg_q270 : s_okE sg_mi 270 sg_c270 5 sg_h270 := s_mkL (np := sg_np) sg_m270 (sg_K12 false) sg_w270 [] 3197 rfl (s_isCw_s (by decide +kernel)) (plainFor_of_name sg_N12) sg_C12 rfl (by decide +kernel) (sg_K12_s rfl (fun h => by cases h)) (by decide +kernel) (by decide +kernel) (by decide +kernel) (by decide +kernel)
def sg_w271 : List Cond := []
set_option maxRecDepth 100000 in
theorem sg_q271 : s_okE sg_mi 271 sg_c271 2 sg_h271 := s_mkL (np := sg_np) sg_m271 (sg_K12 false) sg_w271 [] 3037 rfl (by decide +kernel) (plainFor_of_name sg_N12) sg_C12 rfl (by decide +kernel) (sg_K12_s rfl (fun h => by cases h)) (by decide +kernel) (by decide +kernel) (by decide +kernel) (by decide +kernel)
def sg_w272 : List Cond := []
set_option maxRecDepth 100000 in
theorem sg_q272 : s_okE sg_mi 272 sg_c272 2 sg_h272 := s_mkL (np := sg_np) sg_m272 (sg_K12 false) sg_w272 [] 3453 rfl (by decide +kernel) (plainFor_of_name sg_N12) sg_C12 rfl (by decide +kernel) (sg_K12_s rfl (fun h => by cases h)) (by decide +kernel) (by decide +kernel) (by decide +kernel) (by decide +kernel)
def sg_w273 : List Cond := []
set_option maxRecDepth 100000 in
theorem sg_q273 : s_okE sg_mi 273 sg_c273 1 sg_h273 := s_mkL (np := sg_np) sg_m273 (sg_K12 false) sg_w273 [] 3581 rfl (by decide +kernel) (plainFor_of_name sg_N12) sg_C12 rfl (by decide +kernel) (sg_K12_s rfl (fun h => by cases h)) (by decide +kernel) (by decide +kernel) (by decide +kernel) (by decide +kernel)
def sg_w274 : List Cond := [.constantLong "FormulaWorksModel" 656 (65 : Int64), .constantLong "FormulaWorksModel" 658 (80 : Int64)]
set_option maxRecDepth 100000 in
theorem sg_q274 : s_okE sg_mi 274 sg_c274 3 sg_h274 := s_mkL (np := sg_np) sg_m274 (sg_K12 false) sg_w274 [3628, 3629] 3601 rfl (s_isCw_s (by decide +kernel)) (plainFor_of_name sg_N12) sg_C12 rfl (by decide +kernel) (sg_K12_s rfl (fun h => by cases h)) (by decide +kernel) (by decide +kernel) (by decide +kernel) (by decide +kernel)
def sg_w275 : List Cond := []
set_option maxRecDepth 100000 in
theorem sg_q275 : s_okE sg_mi 275 sg_c275 2 sg_h275 := s_mkL (np := sg_np) sg_m275 (sg_K12 false) sg_w275 [] 3593 rfl (s_isCw_s (by decide +kernel)) (plainFor_of_name sg_N12) sg_C12 rfl (by decide +kernel) (sg_K12_s rfl (fun h => by cases h)) (by decide +kernel) (by decide +kernel) (by decide +kernel) (by decide +kernel)
def sg_w276 : List Cond := []
set_option maxRecDepth 100000 in
theorem sg_q276 : s_okE sg_mi 276 sg_c276 2 sg_h276 := s_mkL (np := sg_np) sg_m276 (sg_K12 false) sg_w276 [] 3585 rfl (by decide +kernel) (plainFor_of_name sg_N12) sg_C12 rfl (by decide +kernel) (sg_K12_s rfl (fun h => by cases h)) (by decide +kernel) (by decide +kernel) (by decide +kernel) (by decide +kernel)
def sg_w277 : List Cond := [.constantLong "FormulaWorksModel" 606 (10 : Int64)]
set_option maxRecDepth 100000 in
theorem sg_q277 : s_okE sg_mi 277 sg_c277 8 sg_h277 := s_mkL (np := sg_np) sg_m277 (sg_K12 false) sg_w277 [3572] 3571 rfl (s_isCw_s (by decide +kernel)) (plainFor_of_name sg_N12) sg_C12 rfl (by decide +kernel) (sg_K12_s rfl (fun h => by cases h)) (by decide +kernel) (by decide +kernel) (by decide +kernel) (by decide +kernel)
def sg_w278 : List Cond := []
set_option maxRecDepth 100000 in
theorem sg_q278 : s_okE sg_mi 278 sg_c278 2 sg_h278 := s_mkL (np := sg_np) sg_m278 (sg_K12 false) sg_w278 [] 3319 rfl (by decide +kernel) (plainFor_of_name sg_N12) sg_C12 rfl (by decide +kernel) (sg_K12_s rfl (fun h => by cases h)) (by decide +kernel) (by decide +kernel) (by decide +kernel) (by decide +kernel)
def sg_w279 : List Cond := []
set_option maxRecDepth 100000 in
theorem sg_q279 : s_okE sg_mi 279 sg_c279 2 sg_h279 := s_mkL (np := sg_np) sg_m279 (sg_K12 false) sg_w279 [] 3343 rfl (by decide +kernel) (plainFor_of_name sg_N12) sg_C12 rfl (by decide +kernel) (sg_K12_s rfl (fun h => by cases h)) (by decide +kernel) (by decide +kernel) (by decide +kernel) (by decide +kernel)
def sg_w280 : List Cond := [.constantLong "FormulaWorksModel" 271 (32003 : Int64)]
set_option maxRecDepth 100000 in
theorem sg_q280 : s_okE sg_mi 280 sg_c280 15 sg_h280 := s_mkL (np := sg_np) sg_m280 (sg_K12 false) sg_w280 [3022] 3223 rfl (s_isCw_s (by decide +kernel)) (plainFor_of_name sg_N12) sg_C12 rfl (by decide +kernel) (sg_K12_s rfl (fun h => by cases h)) (by decide +kernel) (by decide +kernel) (by decide +kernel) (by decide +kernel)
def sg_w281 : List Cond := [.constantLong "FormulaWorksModel" 271 (32003 : Int64)]
set_option maxRecDepth 100000 in
theorem sg_q281 : s_okE sg_mi 281 sg_c281 5 sg_h281 := s_mkL (np := sg_np) sg_m281 (sg_K12 false) sg_w281 [3022] 3403 rfl (s_isCw_s (by decide +kernel)) (plainFor_of_name sg_N12) sg_C12 rfl (by decide +kernel) (sg_K12_s rfl (fun h => by cases h)) (by decide +kernel) (by decide +kernel) (by decide +kernel) (by decide +kernel)
def sg_w282 : List Cond := [.constantLong "FormulaWorksModel" 526 (16001 : Int64), .constantLong "FormulaWorksModel" 271 (32003 : Int64), .constantLong "FormulaWorksModel" 528 (2 : Int64)]
set_option maxRecDepth 100000 in
theorem sg_q282 : s_okE sg_mi 282 sg_c282 10 sg_h282 := s_mkL (np := sg_np) sg_m282 (sg_K12 false) sg_w282 [3408, 3022, 3409] 3407 rfl (s_isCw_s (by decide +kernel)) (plainFor_of_name sg_N12) sg_C12 rfl (by decide +kernel) (sg_K12_s rfl (fun h => by cases h)) (by decide +kernel) (by decide +kernel) (by decide +kernel) (by decide +kernel)
def sg_w283 : List Cond := []
set_option maxRecDepth 100000 in
theorem sg_q283 : s_okE sg_mi 283 sg_c283 3 sg_h283 := s_mkL (np := sg_np) sg_m283 (sg_K12 false) sg_w283 [] 3860 rfl (by decide +kernel) (plainFor_of_name sg_N12) sg_C12 rfl (by decide +kernel) (sg_K12_s rfl (fun h => by cases h)) (by decide +kernel) (by decide +kernel) (by decide +kernel) (by decide +kernel)
def sg_w284 : List Cond := []
set_option maxRecDepth 100000 in
theorem sg_q284 : s_okE sg_mi 284 sg_c284 1 sg_h284 := s_mkL (np := sg_np) sg_m284 (sg_K12 false) sg_w284 [] 3856 rfl (by decide +kernel) (plainFor_of_name sg_N12) sg_C12 rfl (by decide +kernel) (sg_K12_s rfl (fun h => by cases h)) (by decide +kernel) (by decide +kernel) (by decide +kernel) (by decide +kernel)
def sg_w285 : List Cond := [.constantLong "FormulaWorksModel" 604 (3 : Int64), .constantLong "FormulaWorksModel" 530 (4 : Int64), .constantLong "FormulaWorksModel" 271 (32003 : Int64)]
set_option maxRecDepth 100000 in
theorem sg_q285 : s_okE sg_mi 285 sg_c285 11 sg_h285 := s_mkL (np := sg_np) sg_m285 (sg_K12 false) sg_w285 [3567, 3426, 3022] 3566 rfl (s_isCw_s (by decide +kernel)) (plainFor_of_name sg_N12) sg_C12 rfl (by decide +kernel) (sg_K12_s rfl (fun h => by cases h)) (by decide +kernel) (by decide +kernel) (by decide +kernel) (by decide +kernel)
def sg_w286 : List Cond := []
set_option maxRecDepth 100000 in
theorem sg_q286 : s_okE sg_mi 286 sg_c286 6 sg_h286 := s_mkL (np := sg_np) sg_m286 (sg_K12 false) sg_w286 [] 3909 rfl (s_isCw_s (by decide +kernel)) (plainFor_of_name sg_N12) sg_C12 rfl (by decide +kernel) (sg_K12_s rfl (fun h => by cases h)) (by decide +kernel) (by decide +kernel) (by decide +kernel) (by decide +kernel)
def sg_w287 : List Cond := []
set_option maxRecDepth 100000 in
theorem sg_q287 : s_okE sg_mi 287 sg_c287 2 sg_h287 := s_mkL (np := sg_np) sg_m287 (sg_K12 false) sg_w287 [] 3391 rfl (by decide +kernel) (plainFor_of_name sg_N12) sg_C12 rfl (by decide +kernel) (sg_K12_s rfl (fun h => by cases h)) (by decide +kernel) (by decide +kernel) (by decide +kernel) (by decide +kernel)
def sg_w288 : List Cond := []
set_option maxRecDepth 100000 in
theorem sg_q288 : s_okE sg_mi 288 sg_c288 3 sg_h288 := s_mkL (np := sg_np) sg_m288 (sg_K12 false) sg_w288 [] 3848 rfl (by decide +kernel) (plainFor_of_name sg_N12) sg_C12 rfl (by decide +kernel) (sg_K12_s rfl (fun h => by cases h)) (by decide +kernel) (by decide +kernel) (by decide +kernel) (by decide +kernel)
def sg_w289 : List Cond := [.constantLong "FormulaWorksModel" 567 (32002 : Int64)]
set_option maxRecDepth 100000 in
theorem sg_q289 : s_okE sg_mi 289 sg_c289 6 sg_h289 := s_mkL (np := sg_np) sg_m289 (sg_K12 false) sg_w289 [3474] 3498 rfl (s_isCw_s (by decide +kernel)) (plainFor_of_name sg_N12) sg_C12 rfl (by decide +kernel) (sg_K12_s rfl (fun h => by cases h)) (by decide +kernel) (by decide +kernel) (by decide +kernel) (by decide +kernel)
def sg_w290 : List Cond := [.constantLong "FormulaWorksModel" 271 (32003 : Int64)]
set_option maxRecDepth 100000 in
theorem sg_q290 : s_okE sg_mi 290 sg_c290 6 sg_h290 := s_mkL (np := sg_np) sg_m290 (sg_K12 false) sg_w290 [3022] 3387 rfl (by decide +kernel) (plainFor_of_name sg_N12) sg_C12 rfl (by decide +kernel) (sg_K12_s rfl (fun h => by cases h)) (by decide +kernel) (by decide +kernel) (by decide +kernel) (by decide +kernel)
def sg_w291 : List Cond := []
set_option maxRecDepth 100000 in
theorem sg_q291 : s_okE sg_mi 291 sg_c291 3 sg_h291 := s_mkL (np := sg_np) sg_m291 (sg_K12 false) sg_w291 [] 3417 rfl (by decide +kernel) (plainFor_of_name sg_N12) sg_C12 rfl (by decide +kernel) (sg_K12_s rfl (fun h => by cases h)) (by decide +kernel) (by decide +kernel) (by decide +kernel) (by decide +kernel)
def sg_w292 : List Cond := []
set_option maxRecDepth 100000 in
theorem sg_q292 : s_okE sg_mi 292 sg_c292 2 sg_h292 := s_mkL (np := sg_np) sg_m292 (sg_K12 false) sg_w292 [] 3589 rfl (by decide +kernel) (plainFor_of_name sg_N12) sg_C12 rfl (by decide +kernel) (sg_K12_s rfl (fun h => by cases h)) (by decide +kernel) (by decide +kernel) (by decide +kernel) (by decide +kernel)
def sg_w293 : List Cond := []
set_option maxRecDepth 100000 in
theorem sg_q293 : s_okE sg_mi 293 sg_c293 3 sg_h293 := s_mkL (np := sg_np) sg_m293 (sg_K12 false) sg_w293 [] 3378 rfl (by decide +kernel) (plainFor_of_name sg_N12) sg_C12 rfl (by decide +kernel) (sg_K12_s rfl (fun h => by cases h)) (by decide +kernel) (by decide +kernel) (by decide +kernel) (by decide +kernel)
def sg_w294 : List Cond := []
set_option maxRecDepth 100000 in
theorem sg_q294 : s_okE sg_mi 294 sg_c294 1 sg_h294 := s_mkL (np := sg_np) sg_m294 (sg_K12 false) sg_w294 [] 3011 rfl (by decide +kernel) (plainFor_of_name sg_N12) sg_C12 rfl (by decide +kernel) (sg_K12_s rfl (fun h => by cases h)) (by decide +kernel) (by decide +kernel) (by decide +kernel) (by decide +kernel)
def sg_w295 : List Cond := []
set_option maxRecDepth 100000 in
theorem sg_q295 : s_okE sg_mi 295 sg_c295 3 sg_h295 := s_mkL (np := sg_np) sg_m295 (sg_K12 false) sg_w295 [] 3139 rfl (by decide +kernel) (plainFor_of_name sg_N12) sg_C12 rfl (by decide +kernel) (sg_K12_s rfl (fun h => by cases h)) (by decide +kernel) (by decide +kernel) (by decide +kernel) (by decide +kernel)
def sg_w296 : List Cond := []
set_option maxRecDepth 100000 in
theorem sg_q296 : s_okE sg_mi 296 sg_c296 4 sg_h296 := s_mkL (np := sg_np) sg_m296 (sg_K12 false) sg_w296 [] 3434 rfl (by decide +kernel) (plainFor_of_name sg_N12) sg_C12 rfl (by decide +kernel) (sg_K12_s rfl (fun h => by cases h)) (by decide +kernel) (by decide +kernel) (by decide +kernel) (by decide +kernel)
def sg_w297 : List Cond := [.constantLong "FormulaWorksModel" 608 (255 : Int64)]
set_option maxRecDepth 100000 in
theorem sg_q297 : s_okE sg_mi 297 sg_c297 5 sg_h297 := s_mkL (np := sg_np) sg_m297 (sg_K12 false) sg_w297 [3577] 3576 rfl (s_isCw_s (by decide +kernel)) (plainFor_of_name sg_N12) sg_C12 rfl (by decide +kernel) (sg_K12_s rfl (fun h => by cases h)) (by decide +kernel) (by decide +kernel) (by decide +kernel) (by decide +kernel)
def sg_w298 : List Cond := [.constantLong "FormulaWorksModel" 271 (32003 : Int64)]
set_option maxRecDepth 100000 in
theorem sg_q298 : s_okE sg_mi 298 sg_c298 10 sg_h298 := s_mkL (np := sg_np) sg_m298 (sg_K12 false) sg_w298 [3022] 3550 rfl (s_isCw_s (by decide +kernel)) (plainFor_of_name sg_N12) sg_C12 rfl (by decide +kernel) (sg_K12_s rfl (fun h => by cases h)) (by decide +kernel) (by decide +kernel) (by decide +kernel) (by decide +kernel)
def sg_w299 : List Cond := [.constantLong "FormulaWorksModel" 271 (32003 : Int64)]
set_option maxRecDepth 100000 in
theorem sg_q299 : s_okE sg_mi 299 sg_c299 6 sg_h299 := s_mkL (np := sg_np) sg_m299 (sg_K12 false) sg_w299 [3022] 3186 rfl (by decide +kernel) (plainFor_of_name sg_N12) sg_C12 rfl (by decide +kernel) (sg_K12_s rfl (fun h => by cases h)) (by decide +kernel) (by decide +kernel) (by decide +kernel) (by decide +kernel)
