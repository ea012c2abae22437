def sg_w210 : List Cond := [.constantLong "FormulaWorksModel" 530 (4 : Int64)]
set_option maxRecDepth 100000 in
theorem sg_q210 : s_okE sg_mi 210 sg_c210 5 sg_h210 := s_mkL (np := sg_np) sg_m210 (sg_K12 false) sg_w210 [3426] 3482 rfl (s_isCw_s (by decide +kernel)) (plainFor_of_name sg_N12) sg_C12 rfl (by decide +kernel) (sg_K12_s rfl (fun h => by cases h)) (by decide +kernel) (by decide +kernel) (by decide +kernel) (by decide +kernel)
def sg_w211 : List Cond := []
set_option maxRecDepth 100000 in
theorem sg_q211 : s_okE sg_mi 211 sg_c211 2 sg_h211 := s_mkL (np := sg_np) sg_m211 (sg_K12 false) sg_w211 [] 3331 rfl (by decide +kernel) (plainFor_of_name sg_N12) sg_C12 rfl (by decide +kernel) (sg_K12_s rfl (fun h => by cases h)) (by decide +kernel) (by decide +kernel) (by decide +kernel) (by decide +kernel)
def sg_w212 : List Cond := []
set_option maxRecDepth 100000 in
theorem sg_q212 : s_okE sg_mi 212 sg_c212 1 sg_h212 := s_mkL (np := sg_np) sg_m212 (sg_K12 false) sg_w212 [] 3917 rfl (by decide +kernel) (plainFor_of_name sg_N12) sg_C12 rfl (by decide +kernel) (sg_K12_s rfl (fun h => by cases h)) (by decide +kernel) (by decide +kernel) (by decide +kernel) (by decide +kernel)
def sg_w213 : List Cond := []
set_option maxRecDepth 100000 in
theorem sg_q213 : s_okE sg_mi 213 sg_c213 4 sg_h213 := s_mkL (np := sg_np) sg_m213 (sg_K12 false) sg_w213 [] 3900 rfl (s_isCw_s (by decide +kernel)) (plainFor_of_name sg_N12) sg_C12 rfl (by decide +kernel) (sg_K12_s rfl (fun h => by cases h)) (by decide +kernel) (by decide +kernel) (by decide +kernel) (by decide +kernel)
def sg_w214 : List Cond := [.constantLong "FormulaWorksModel" 372 (-1 : Int64)]
set_option maxRecDepth 100000 in
theorem sg_q214 : s_okE sg_mi 214 sg_c214 2 sg_h214 := s_mkL (np := sg_np) sg_m214 (sg_K12 false) sg_w214 [3135] 3179 rfl (s_isCw_s (by decide +kernel)) (plainFor_of_name sg_N12) sg_C12 rfl (by decide +kernel) (sg_K12_s rfl (fun h => by cases h)) (by decide +kernel) (by decide +kernel) (by decide +kernel) (by decide +kernel)
def sg_w215 : List Cond := []
set_option maxRecDepth 100000 in
theorem sg_q215 : s_okE sg_mi 215 sg_c215 2 sg_h215 := s_mkL (np := sg_np) sg_m215 (sg_K12 false) sg_w215 [] 3438 rfl (by decide +kernel) (plainFor_of_name sg_N12) sg_C12 rfl (by decide +kernel) (sg_K12_s rfl (fun h => by cases h)) (by decide +kernel) (by decide +kernel) (by decide +kernel) (by decide +kernel)
def sg_w216 : List Cond := []
set_option maxRecDepth 100000 in
theorem sg_q216 : s_okE sg_mi 216 sg_c216 4 sg_h216 := s_mkL (np := sg_np) sg_m216 (sg_K12 false) sg_w216 [] 3227 rfl (by decide +kernel) (plainFor_of_name sg_N12) sg_C12 rfl (by decide +kernel) (sg_K12_s rfl (fun h => by cases h)) (by decide +kernel) (by decide +kernel) (by decide +kernel) (by decide +kernel)
def sg_w217 : List Cond := [.constantLong "FormulaWorksModel" 857 (15 : Int64)]
set_option maxRecDepth 100000 in
theorem sg_q217 : s_okE sg_mi 217 sg_c217 3 sg_h217 := s_mkL (np := sg_np) sg_m217 (sg_K12 false) sg_w217 [3877] 3876 rfl (s_isCw_s (by decide +kernel)) (plainFor_of_name sg_N12) sg_C12 rfl (by decide +kernel) (sg_K12_s rfl (fun h => by cases h)) (by decide +kernel) (by decide +kernel) (by decide +kernel) (by decide +kernel)
def sg_w218 : List Cond := []
set_option maxRecDepth 100000 in
theorem sg_q218 : s_okE sg_mi 218 sg_c218 4 sg_h218 := s_mkL (np := sg_np) sg_m218 (sg_K12 false) sg_w218 [] 3430 rfl (by decide +kernel) (plainFor_of_name sg_N12) sg_C12 rfl (by decide +kernel) (sg_K12_s rfl (fun h => by cases h)) (by decide +kernel) (by decide +kernel) (by decide +kernel) (by decide +kernel)
def sg_w219 : List Cond := [.constantLong "FormulaWorksModel" 271 (32003 : Int64)]
set_option maxRecDepth 100000 in
theorem sg_q219 : s_okE sg_mi 219 sg_c219 6 sg_h219 := s_mkL (np := sg_np) sg_m219 (sg_K12 false) sg_w219 [3022] 3395 rfl (s_isCw_s (by decide +kernel)) (plainFor_of_name sg_N12) sg_C12 rfl (by decide +kernel) (sg_K12_s rfl (fun h => by cases h)) (by decide +kernel) (by decide +kernel) (by decide +kernel) (by decide +kernel)
def sg_w220 : List Cond := []
set_option maxRecDepth 100000 in
theorem sg_q220 : s_okE sg_mi 220 sg_c220 3 sg_h220 := s_mkL (np := sg_np) sg_m220 (sg_K12 false) sg_w220 [] 3303 rfl (by decide +kernel) (plainFor_of_name sg_N12) sg_C12 rfl (by decide +kernel) (sg_K12_s rfl (fun h => by cases h)) (by decide +kernel) (by decide +kernel) (by decide +kernel) (by decide +kernel)
def sg_w221 : List Cond := []
set_option maxRecDepth 100000 in
theorem sg_q221 : s_okE sg_mi 221 sg_c221 2 sg_h221 := s_mkL (np := sg_np) sg_m221 (sg_K12 false) sg_w221 [] 3263 rfl (by decide +kernel) (plainFor_of_name sg_N12) sg_C12 rfl (by decide +kernel) (sg_K12_s rfl (fun h => by cases h)) (by decide +kernel) (by decide +kernel) (by decide +kernel) (by decide +kernel)
def sg_w222 : List Cond := []
set_option maxRecDepth 100000 in
theorem sg_q222 : s_okE sg_mi 222 sg_c222 3 sg_h222 := s_mkL (np := sg_np) sg_m222 (sg_K12 false) sg_w222 [] 3619 rfl (by decide +kernel) (plainFor_of_name sg_N12) sg_C12 rfl (by decide +kernel) (sg_K12_s rfl (fun h => by cases h)) (by decide +kernel) (by decide +kernel) (by decide +kernel) (by decide +kernel)
def sg_w223 : List Cond := []
set_option maxRecDepth 100000 in
theorem sg_q223 : s_okE sg_mi 223 sg_c223 2 sg_h223 := s_mkL (np := sg_np) sg_m223 (sg_K12 false) sg_w223 [] 3701 rfl (by decide +kernel) (plainFor_of_name sg_N12) sg_C12 rfl (by decide +kernel) (sg_K12_s rfl (fun h => by cases h)) (by decide +kernel) (by decide +kernel) (by decide +kernel) (by decide +kernel)
def sg_w224 : List Cond := []
set_option maxRecDepth 100000 in
theorem sg_q224 : s_okE sg_mi 224 sg_c224 6 sg_h224 := s_mkL (np := sg_np) sg_m224 (sg_K12 false) sg_w224 [] 3562 rfl (s_isCw_s (by decide +kernel)) (plainFor_of_name sg_N12) sg_C12 rfl (by decide +kernel) (sg_K12_s rfl (fun h => by cases h)) (by decide +kernel) (by decide +kernel) (by decide +kernel) (by decide +kernel)
def sg_w225 : List Cond := []
set_option maxRecDepth 100000 in
theorem sg_q225 : s_okE sg_mi 225 sg_c225 1 sg_h225 := s_mkL (np := sg_np) sg_m225 (sg_K12 false) sg_w225 [] 3759 rfl (by decide +kernel) (plainFor_of_name sg_N12) sg_C12 rfl (by decide +kernel) (sg_K12_s rfl (fun h => by cases h)) (by decide +kernel) (by decide +kernel) (by decide +kernel) (by decide +kernel)
def sg_w226 : List Cond := [.constantLong "FormulaWorksModel" 857 (15 : Int64)]
set_option maxRecDepth 100000 in
theorem sg_q226 : s_okE sg_mi 226 sg_c226 2 sg_h226 := s_mkL (np := sg_np) sg_m226 (sg_K12 false) sg_w226 [3877] 3888 rfl (by decide +kernel) (plainFor_of_name sg_N12) sg_C12 rfl (by decide +kernel) (sg_K12_s rfl (fun h => by cases h)) (by decide +kernel) (by decide +kernel) (by decide +kernel) (by decide +kernel)
def sg_w227 : List Cond := []
set_option maxRecDepth 100000 in
theorem sg_q227 : s_okE sg_mi 227 sg_c227 4 sg_h227 := s_mkL (np := sg_np) sg_m227 (sg_K12 false) sg_w227 [] 3413 rfl (s_isCw_s (by decide +kernel)) (plainFor_of_name sg_N12) sg_C12 rfl (by decide +kernel) (sg_K12_s rfl (fun h => by cases h)) (by decide +kernel) (by decide +kernel) (by decide +kernel) (by decide +kernel)
def sg_w228 : List Cond := []
set_option maxRecDepth 100000 in
theorem sg_q228 : s_okE sg_mi 228 sg_c228 5 sg_h228 := s_mkL (np := sg_np) sg_m228 (sg_K12 false) sg_w228 [] 3649 rfl (by decide +kernel) (plainFor_of_name sg_N12) sg_C12 rfl (by decide +kernel) (sg_K12_s rfl (fun h => by cases h)) (by decide +kernel) (by decide +kernel) (by decide +kernel) (by decide +kernel)
def sg_w229 : List Cond := []
set_option maxRecDepth 100000 in
theorem sg_q229 : s_okE sg_mi 229 sg_c229 2 sg_h229 := s_mkL (np := sg_np) sg_m229 (sg_K12 false) sg_w229 [] 3661 rfl (by decide +kernel) (plainFor_of_name sg_N12) sg_C12 rfl (by decide +kernel) (sg_K12_s rfl (fun h => by cases h)) (by decide +kernel) (by decide +kernel) (by decide +kernel) (by decide +kernel)
def sg_w230 : List Cond := [.constantLong "FormulaWorksModel" 518 (60 : Int64), .constantLong "FormulaWorksModel" 271 (32003 : Int64)]
set_option maxRecDepth 100000 in
theorem sg_q230 : s_okE sg_mi 230 sg_c230 7 sg_h230 := s_mkL (np := sg_np) sg_m230 (sg_K12 false) sg_w230 [3383, 3022] 3382 rfl (s_isCw_s (by decide +kernel)) (plainFor_of_name sg_N12) sg_C12 rfl (by decide +kernel) (sg_K12_s rfl (fun h => by cases h)) (by decide +kernel) (by decide +kernel) (by decide +kernel) (by decide +kernel)
def sg_w231 : List Cond := []
set_option maxRecDepth 100000 in
theorem sg_q231 : s_okE sg_mi 231 sg_c231 2 sg_h231 := s_mkL (np := sg_np) sg_m231 (sg_K12 false) sg_w231 [] 3033 rfl (by decide +kernel) (plainFor_of_name sg_N12) sg_C12 rfl (by decide +kernel) (sg_K12_s rfl (fun h => by cases h)) (by decide +kernel) (by decide +kernel) (by decide +kernel) (by decide +kernel)
def sg_w232 : List Cond := []
set_option maxRecDepth 100000 in
theorem sg_q232 : s_okE sg_mi 232 sg_c232 6 sg_h232 := s_mkL (np := sg_np) sg_m232 (sg_K12 false) sg_w232 [] 3056 rfl (by decide +kernel) (plainFor_of_name sg_N12) sg_C12 rfl (by decide +kernel) (sg_K12_s rfl (fun h => by cases h)) (by decide +kernel) (by decide +kernel) (by decide +kernel) (by decide +kernel)
def sg_w233 : List Cond := [.constantLong "FormulaWorksModel" 271 (32003 : Int64)]
set_option maxRecDepth 100000 in
theorem sg_q233 : s_okE sg_mi 233 sg_c233 3 sg_h233 := s_mkL (np := sg_np) sg_m233 (sg_K12 false) sg_w233 [3022] 3355 rfl (s_isCw_s (by decide +kernel)) (plainFor_of_name sg_N12) sg_C12 rfl (by decide +kernel) (sg_K12_s rfl (fun h => by cases h)) (by decide +kernel) (by decide +kernel) (by decide +kernel) (by decide +kernel)
def sg_w234 : List Cond := []
set_option maxRecDepth 100000 in
theorem sg_q234 : s_okE sg_mi 234 sg_c234 3 sg_h234 := s_mkL (np := sg_np) sg_m234 (sg_K12 false) sg_w234 [] 3465 rfl (by decide +kernel) (plainFor_of_name sg_N12) sg_C12 rfl (by decide +kernel) (sg_K12_s rfl (fun h => by cases h)) (by decide +kernel) (by decide +kernel) (by decide +kernel) (by decide +kernel)
def sg_w235 : List Cond := []
set_option maxRecDepth 100000 in
theorem sg_q235 : s_okE sg_mi 235 sg_c235 2 sg_h235 := s_mkL (np := sg_np) sg_m235 (sg_K12 false) sg_w235 [] 3645 rfl (by decide +kernel) (plainFor_of_name sg_N12) sg_C12 rfl (by decide +kernel) (sg_K12_s rfl (fun h => by cases h)) (by decide +kernel) (by decide +kernel) (by decide +kernel) (by decide +kernel)
def sg_w236 : List Cond := [.constantLong "FormulaWorksModel" 619 (48 : Int64), .constantLong "FormulaWorksModel" 621 (57 : Int64)]
set_option maxRecDepth 100000 in
theorem sg_q236 : s_okE sg_mi 236 sg_c236 2 sg_h236 := s_mkL (np := sg_np) sg_m236 (sg_K12 false) sg_w236 [3610, 3611] 3609 rfl (by decide +kernel) (plainFor_of_name sg_N12) sg_C12 rfl (by decide +kernel) (sg_K12_s rfl (fun h => by cases h)) (by decide +kernel) (by decide +kernel) (by decide +kernel) (by decide +kernel)
def sg_w237 : List Cond := []
set_option maxRecDepth 100000 in
theorem sg_q237 : s_okE sg_mi 237 sg_c237 2 sg_h237 := s_mkL (np := sg_np) sg_m237 (sg_K12 false) sg_w237 [] 3637 rfl (by decide +kernel) (plainFor_of_name sg_N12) sg_C12 rfl (by decide +kernel) (sg_K12_s rfl (fun h => by cases h)) (by decide +kernel) (by decide +kernel) (by decide +kernel) (by decide +kernel)
def sg_w238 : List Cond := []
set_option maxRecDepth 100000 in
theorem sg_q238 : s_okE sg_mi 238 sg_c238 3 sg_h238 := s_mkL (np := sg_np) sg_m238 (sg_K12 false) sg_w238 [] 3307 rfl (by decide +kernel) (plainFor_of_name sg_N12) sg_C12 rfl (by decide +kernel) (sg_K12_s rfl (fun h => by cases h)) (by decide +kernel) (by decide +kernel) (by decide +kernel) (by decide +kernel)
def sg_w239 : List Cond := []
set_option maxRecDepth 100000 in
theorem sg_q239 : s_okE sg_mi 239 sg_c239 1 sg_h239 := s_mkL (np := sg_np) sg_m239 (sg_K12 false) sg_w239 [] 3030 rfl (by decide +kernel) (plainFor_of_name sg_N12) sg_C12 rfl (by decide +kernel) (sg_K12_s rfl (fun h => by cases h)) (by decide +kernel) (by decide +kernel) (by decide +kernel) (by decide +kernel)
