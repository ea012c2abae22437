set_option maxRecDepth 100000 in
theorem sg_o190_8 : s_okCL sg_mi sg_np sg_m190 (sg_K12 true) (sg_w190 ++ s_bw) (32 * (2 * 8)) (prog_14_method_1_code.data.toList.drop (32 * (2 * 8))) ((sg_c190.drop (2 * 8)).take 2) = true := by decide +kernel
set_option maxRecDepth 100000 in
theorem sg_o190_9 : s_okCL sg_mi sg_np sg_m190 (sg_K12 true) (sg_w190 ++ s_bw) (32 * (2 * 9)) (prog_14_method_1_code.data.toList.drop (32 * (2 * 9))) ((sg_c190.drop (2 * 9)).take 2) = true := by decide +kernel
set_option maxRecDepth 100000 in
theorem sg_o190_10 : s_okCL sg_mi sg_np sg_m190 (sg_K12 true) (sg_w190 ++ s_bw) (32 * (2 * 10)) (prog_14_method_1_code.data.toList.drop (32 * (2 * 10))) ((sg_c190.drop (2 * 10)).take 2) = true := by decide +kernel
set_option maxRecDepth 100000 in
theorem sg_o190_11 : s_okCL sg_mi sg_np sg_m190 (sg_K12 true) (sg_w190 ++ s_bw) (32 * (2 * 11)) (prog_14_method_1_code.data.toList.drop (32 * (2 * 11))) ((sg_c190.drop (2 * 11)).take 2) = true := by decide +kernel
