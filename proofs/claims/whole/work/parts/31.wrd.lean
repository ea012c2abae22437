/-! THE WORDS BY NUMBERS -/
def sg_npL : List (List (Option Nat)) := [[some 0, some 2, some 1, some 3, some 2, some 3, some 2, some 3, some 0, some 0, some 1, some 3, some 2, some 1, some 1, some 0],
  [some 2, some 1, some 1, some 3, some 1, some 3, some 1, some 2, some 1, some 1, some 2, some 0, some 1, some 1, some 1, some 2],
  [some 1, some 1, some 1, some 2, some 2, some 2, some 2, some 1, some 3, some 2, some 3, some 2, some 0, some 3, some 1, some 1],
  [some 2, some 2, some 2, some 2, some 1, some 3, some 2, some 1, some 2, some 1, some 0, some 1, some 1, some 1, some 1, some 2],
  [some 1, some 1, some 2, some 0, some 3, some 2, some 1, some 1, some 2, some 2, some 1, some 0, some 2, some 1, some 2, some 1],
  [some 1, some 2, some 2, some 2, some 0, some 1, some 1, some 0, some 0, some 1, some 2, some 1, some 0, some 1, some 1, some 4],
  [some 0, some 4, some 2, some 0, some 0, some 1, some 0, some 0, some 2, some 1, some 1, some 3, some 1, some 1, some 1, some 1],
  [some 1, some 1, some 1, some 1, some 2, some 0, some 0, some 4, some 3, some 5, some 4, some 5, some 4, some 5, some 2, some 3],
  [some 5, some 4, some 3, some 3, some 4, some 3, some 3, some 5, some 3, some 5, some 3, some 4, some 3, some 4, some 2, some 3],
  [some 3, some 3, some 4, some 3, some 4, some 4, some 4, some 4, some 3, some 5, some 4, some 5, some 5, some 3, some 3, some 4],
  [some 4, some 4, some 3, some 5, some 4, some 3, some 4, some 3, some 2, some 3, some 3, some 3, some 4, some 3, some 3, some 5],
  [some 4, some 3, some 3, some 4, some 4, some 3, some 4, some 4, some 3, some 4, some 4, some 4, some 3, some 3, some 0, some 2],
  [some 3, some 1, some 3, some 2, some 3, some 2, some 3, some 3, some 2, some 0, some 1, some 2, some 3, some 0, some 0, some 1],
  [some 3, some 2, some 1, some 1, some 0, some 2, some 1, some 1, some 3, some 1, some 3, some 1, some 2, some 1, some 2, some 1],
  [some 2, some 0, some 1, some 1, some 1, some 1, some 3, some 1, some 3, some 1, some 2, some 1, some 1, some 1, some 2, some 0],
  [some 2, some 1, some 2, some 2, some 1, some 1, some 1, some 1, some 1, some 2, some 2, some 2, some 2, some 1, some 3, some 1],
  [some 2, some 3, some 1, some 1, some 3, some 1, some 1, some 2, some 2, some 2, some 1, some 3, some 2, some 1, some 2, some 1],
  [some 1, some 0, some 0, some 1, some 1, some 1, some 1, some 1, some 2, some 1, some 1, some 2, some 0, some 3, some 2, some 1],
  [some 1, some 2, some 2, some 1, some 0, some 2, some 0, some 2, some 1, some 1, some 2, some 2, some 2, some 1, some 0, some 1],
  [some 1, some 1, some 2, some 2]]
noncomputable def sg_np (y : Nat) : Nat := match s_at 16 sg_npL y with
  | some k => k
  | none => 0
noncomputable def sg_npo (y : Nat) : Bool := match sg_mi y with
  | some N => decide (s_np N.1.desc = some (sg_np y))
  | none => true
set_option maxRecDepth 100000 in
theorem sg_npo0 : (List.range 16).all (fun j => sg_npo (16 * 0 + j)) = true := by decide +kernel
set_option maxRecDepth 100000 in
theorem sg_npo1 : (List.range 16).all (fun j => sg_npo (16 * 1 + j)) = true := by decide +kernel
set_option maxRecDepth 100000 in
theorem sg_npo2 : (List.range 16).all (fun j => sg_npo (16 * 2 + j)) = true := by decide +kernel
set_option maxRecDepth 100000 in
theorem sg_npo3 : (List.range 16).all (fun j => sg_npo (16 * 3 + j)) = true := by decide +kernel
set_option maxRecDepth 100000 in
theorem sg_npo4 : (List.range 16).all (fun j => sg_npo (16 * 4 + j)) = true := by decide +kernel
set_option maxRecDepth 100000 in
theorem sg_npo5 : (List.range 16).all (fun j => sg_npo (16 * 5 + j)) = true := by decide +kernel
set_option maxRecDepth 100000 in
theorem sg_npo6 : (List.range 16).all (fun j => sg_npo (16 * 6 + j)) = true := by decide +kernel
set_option maxRecDepth 100000 in
theorem sg_npo7 : (List.range 16).all (fun j => sg_npo (16 * 7 + j)) = true := by decide +kernel
set_option maxRecDepth 100000 in
theorem sg_npo8 : (List.range 16).all (fun j => sg_npo (16 * 8 + j)) = true := by decide +kernel
set_option maxRecDepth 100000 in
theorem sg_npo9 : (List.range 16).all (fun j => sg_npo (16 * 9 + j)) = true := by decide +kernel
set_option maxRecDepth 100000 in
theorem sg_npo10 : (List.range 16).all (fun j => sg_npo (16 * 10 + j)) = true := by decide +kernel
set_option maxRecDepth 100000 in
theorem sg_npo11 : (List.range 16).all (fun j => sg_npo (16 * 11 + j)) = true := by decide +kernel
set_option maxRecDepth 100000 in
theorem sg_npo12 : (List.range 16).all (fun j => sg_npo (16 * 12 + j)) = true := by decide +kernel
set_option maxRecDepth 100000 in
theorem sg_npo13 : (List.range 16).all (fun j => sg_npo (16 * 13 + j)) = true := by decide +kernel
set_option maxRecDepth 100000 in
theorem sg_npo14 : (List.range 16).all (fun j => sg_npo (16 * 14 + j)) = true := by decide +kernel
set_option maxRecDepth 100000 in
theorem sg_npo15 : (List.range 16).all (fun j => sg_npo (16 * 15 + j)) = true := by decide +kernel
set_option maxRecDepth 100000 in
theorem sg_npo16 : (List.range 16).all (fun j => sg_npo (16 * 16 + j)) = true := by decide +kernel
set_option maxRecDepth 100000 in
theorem sg_npo17 : (List.range 16).all (fun j => sg_npo (16 * 17 + j)) = true := by decide +kernel
set_option maxRecDepth 100000 in
theorem sg_npo18 : (List.range 16).all (fun j => sg_npo (16 * 18 + j)) = true := by decide +kernel
set_option maxRecDepth 100000 in
theorem sg_npo19 : (List.range 16).all (fun j => sg_npo (16 * 19 + j)) = true := by decide +kernel
theorem sg_np_s : ∀ y N, sg_mi y = some N → s_np N.1.desc = some (sg_np y) := by
  intro y N h
  obtain ⟨r, h1, -⟩ := s_at_s (show s_at 16 sg_ML y = some N from h)
  have hl : y / 16 < 20 := (List.getElem?_eq_some_iff.mp h1).1
  have key : (List.range 16).all (fun j => sg_npo (16 * (y / 16) + j)) = true := by
    generalize y / 16 = z at hl
    rcases (by omega : z = 0 ∨ z = 1 ∨ z = 2 ∨ z = 3 ∨ z = 4 ∨ z = 5 ∨ z = 6 ∨ z = 7 ∨ z = 8 ∨ z = 9 ∨ z = 10 ∨ z = 11 ∨ z = 12 ∨ z = 13 ∨ z = 14 ∨ z = 15 ∨ z = 16 ∨ z = 17 ∨ z = 18 ∨ z = 19) with rfl | rfl | rfl | rfl | rfl | rfl | rfl | rfl | rfl | rfl | rfl | rfl | rfl | rfl | rfl | rfl | rfl | rfl | rfl | rfl
    · exact sg_npo0
    · exact sg_npo1
    · exact sg_npo2
    · exact sg_npo3
    · exact sg_npo4
    · exact sg_npo5
    · exact sg_npo6
    · exact sg_npo7
    · exact sg_npo8
    · exact sg_npo9
    · exact sg_npo10
    · exact sg_npo11
    · exact sg_npo12
    · exact sg_npo13
    · exact sg_npo14
    · exact sg_npo15
    · exact sg_npo16
    · exact sg_npo17
    · exact sg_npo18
    · exact sg_npo19
  have h2 := List.all_eq_true.mp key (y % 16) (List.mem_range.mpr (by omega))
  rw [show 16 * (y / 16) + y % 16 = y by omega] at h2
  unfold sg_npo at h2
  rw [h] at h2
  exact of_decide_eq_true h2
def sg_F0_0 : List (Nat × Nat × Nat) := [(11, 10, 0), (15, 10, 2), (21, 10, 6), (28, 10, 8), (40, 10, 9), (49, 10, 10), (56, 10, 11), (63, 10, 12), (72, 10, 13), (81, 10, 14), (88, 10, 15), (95, 10, 16), (99, 10, 17), (103, 10, 18), (106, 10, 5), (112, 10, 3), (118, 10, 1), (132, 5, 3), (139, 10, 4), (150, 9, 8), (153, 9, 7), (168, 8, 0), (182, 8, 6), (221, 8, 1), (228, 4, 1)]
set_option maxRecDepth 100000 in
theorem sg_F0_0_s : s_isg (s_fw "FormulaWorks") sg_F0_0 := s_isg_of (ps := [644, 646, 650, 652, 653, 654, 655, 656, 657, 658, 659, 660, 661, 662, 649, 647, 645, 536, 648, 419, 418, 477, 508, 486, 291]) (by decide +kernel) s_fw_g
def sg_F0_1 : List (Nat × Nat × Nat) := [(259, 3, 4), (266, 3, 2), (269, 3, 3), (272, 8, 2), (336, 10, 7), (342, 8, 5), (348, 8, 3), (351, 8, 4), (480, 9, 13), (483, 9, 11), (486, 9, 12), (506, 7, 4), (523, 7, 9), (543, 5, 18), (546, 5, 19)]
set_option maxRecDepth 100000 in
theorem sg_F0_1_s : s_isg (s_fw "FormulaWorks") sg_F0_1 := s_isg_of (ps := [347, 343, 345, 495, 651, 506, 499, 504, 428, 424, 426, 613, 619, 554, 557]) (by decide +kernel) s_fw_g
def sg_F0 : List (Nat × Nat × Nat) := sg_F0_0 ++ (sg_F0_1)
theorem sg_F0_s : s_isg (s_fw "FormulaWorks") sg_F0 := (s_isg_app sg_F0_0_s sg_F0_1_s)
def sg_Q0_0 : List (Nat × Nat) := [(92, 94), (115, 44), (121, 97), (125, 102), (129, 75), (142, 77), (156, 61), (160, 33), (174, 49), (262, 43), (345, 32), (489, 106), (492, 110), (502, 107), (509, 305), (514, 114), (517, 108), (520, 113), (531, 306), (578, 92)]
set_option maxRecDepth 100000 in
theorem sg_Q0_0_s : s_isg (s_lw sg_mi "FormulaWorks") sg_Q0_0 := s_isg_of (ps := [642, 740, 810, 826, 1010, 1106, 1215, 1222, 1333, 1587, 1062, 2541, 2580, 2605, 2621, 2622, 2623, 2624, 1219, 1048]) (by decide +kernel) s_lw_g
def sg_Q0 : List (Nat × Nat) := sg_Q0_0
theorem sg_Q0_s : s_isg (s_lw sg_mi "FormulaWorks") sg_Q0 := sg_Q0_0_s
def sg_F1_0 : List (Nat × Nat × Nat) := [(13, 0, 0)]
set_option maxRecDepth 100000 in
theorem sg_F1_0_s : s_isg (s_fw "FormulaWorks$Algebra") sg_F1_0 := s_isg_of (ps := [299]) (by decide +kernel) s_fw_g
def sg_F1 : List (Nat × Nat × Nat) := sg_F1_0
theorem sg_F1_s : s_isg (s_fw "FormulaWorks$Algebra") sg_F1 := sg_F1_0_s
def sg_Q1_0 : List (Nat × Nat) := []
set_option maxRecDepth 100000 in
theorem sg_Q1_0_s : s_isg (s_lw sg_mi "FormulaWorks$Algebra") sg_Q1_0 := s_isg_of (ps := []) (by decide +kernel) s_lw_g
def sg_Q1 : List (Nat × Nat) := sg_Q1_0
theorem sg_Q1_s : s_isg (s_lw sg_mi "FormulaWorks$Algebra") sg_Q1 := sg_Q1_0_s
def sg_F2_0 : List (Nat × Nat × Nat) := [(13, 1, 0), (16, 1, 1), (20, 1, 2)]
set_option maxRecDepth 100000 in
theorem sg_F2_0_s : s_isg (s_fw "FormulaWorks$Linear") sg_F2_0 := s_isg_of (ps := [314, 315, 316]) (by decide +kernel) s_fw_g
def sg_F2 : List (Nat × Nat × Nat) := sg_F2_0
theorem sg_F2_s : s_isg (s_fw "FormulaWorks$Linear") sg_F2 := sg_F2_0_s
def sg_Q2_0 : List (Nat × Nat) := []
set_option maxRecDepth 100000 in
theorem sg_Q2_0_s : s_isg (s_lw sg_mi "FormulaWorks$Linear") sg_Q2_0 := s_isg_of (ps := []) (by decide +kernel) s_lw_g
def sg_Q2 : List (Nat × Nat) := sg_Q2_0
theorem sg_Q2_s : s_isg (s_lw sg_mi "FormulaWorks$Linear") sg_Q2 := sg_Q2_0_s
def sg_F3_0 : List (Nat × Nat × Nat) := [(11, 2, 1), (17, 2, 2), (21, 2, 3), (24, 2, 0)]
set_option maxRecDepth 100000 in
theorem sg_F3_0_s : s_isg (s_fw "FormulaWorks$Minors") sg_F3_0 := s_isg_of (ps := [377, 378, 379, 376]) (by decide +kernel) s_fw_g
def sg_F3 : List (Nat × Nat × Nat) := sg_F3_0
theorem sg_F3_s : s_isg (s_fw "FormulaWorks$Minors") sg_F3 := sg_F3_0_s
def sg_Q3_0 : List (Nat × Nat) := []
set_option maxRecDepth 100000 in
theorem sg_Q3_0_s : s_isg (s_lw sg_mi "FormulaWorks$Minors") sg_Q3_0 := s_isg_of (ps := []) (by decide +kernel) s_lw_g
def sg_Q3 : List (Nat × Nat) := sg_Q3_0
theorem sg_Q3_s : s_isg (s_lw sg_mi "FormulaWorks$Minors") sg_Q3 := sg_Q3_0_s
def sg_F4_0 : List (Nat × Nat × Nat) := [(11, 3, 2), (17, 3, 3), (21, 3, 5), (24, 3, 6), (27, 3, 0), (31, 3, 1)]
set_option maxRecDepth 100000 in
theorem sg_F4_0_s : s_isg (s_fw "FormulaWorks$Parts") sg_F4_0 := s_isg_of (ps := [342, 344, 348, 349, 340, 341]) (by decide +kernel) s_fw_g
def sg_F4 : List (Nat × Nat × Nat) := sg_F4_0
theorem sg_F4_s : s_isg (s_fw "FormulaWorks$Parts") sg_F4 := sg_F4_0_s
def sg_Q4_0 : List (Nat × Nat) := []
set_option maxRecDepth 100000 in
theorem sg_Q4_0_s : s_isg (s_lw sg_mi "FormulaWorks$Parts") sg_Q4_0 := s_isg_of (ps := []) (by decide +kernel) s_lw_g
def sg_Q4 : List (Nat × Nat) := sg_Q4_0
theorem sg_Q4_s : s_isg (s_lw sg_mi "FormulaWorks$Parts") sg_Q4 := sg_Q4_0_s
def sg_F5_0 : List (Nat × Nat × Nat) := [(9, 4, 0), (15, 4, 1)]
set_option maxRecDepth 100000 in
theorem sg_F5_0_s : s_isg (s_fw "FormulaWorks$Poly") sg_F5_0 := s_isg_of (ps := [281, 284]) (by decide +kernel) s_fw_g
def sg_F5 : List (Nat × Nat × Nat) := sg_F5_0
theorem sg_F5_s : s_isg (s_fw "FormulaWorks$Poly") sg_F5 := sg_F5_0_s
def sg_Q5_0 : List (Nat × Nat) := [(25, 93)]
set_option maxRecDepth 100000 in
theorem sg_Q5_0_s : s_isg (s_lw sg_mi "FormulaWorks$Poly") sg_Q5_0 := s_isg_of (ps := [1054]) (by decide +kernel) s_lw_g
def sg_Q5 : List (Nat × Nat) := sg_Q5_0
theorem sg_Q5_s : s_isg (s_lw sg_mi "FormulaWorks$Poly") sg_Q5 := sg_Q5_0_s
def sg_F6_0 : List (Nat × Nat × Nat) := [(9, 5, 5), (15, 5, 6), (18, 5, 7), (21, 5, 8), (24, 5, 0), (28, 5, 1), (32, 5, 2), (38, 5, 3), (44, 5, 9), (47, 5, 10), (51, 5, 11), (54, 5, 12), (57, 5, 4), (60, 5, 13), (63, 5, 14), (66, 5, 16), (70, 5, 17), (73, 5, 18), (76, 5, 19), (91, 5, 15)]
set_option maxRecDepth 100000 in
theorem sg_F6_0_s : s_isg (s_fw "FormulaWorks$Reader") sg_F6_0 := s_isg_of (ps := [539, 540, 541, 542, 532, 533, 534, 535, 543, 544, 545, 546, 538, 547, 548, 550, 551, 552, 555, 549]) (by decide +kernel) s_fw_g
def sg_F6 : List (Nat × Nat × Nat) := sg_F6_0
theorem sg_F6_s : s_isg (s_fw "FormulaWorks$Reader") sg_F6 := sg_F6_0_s
def sg_Q6_0 : List (Nat × Nat) := [(79, 101), (83, 118), (88, 103), (94, 96), (114, 100), (117, 99), (140, 98)]
set_option maxRecDepth 100000 in
theorem sg_Q6_0_s : s_isg (s_lw sg_mi "FormulaWorks$Reader") sg_Q6_0 := s_isg_of (ps := [814, 818, 822, 830, 834, 838, 846]) (by decide +kernel) s_lw_g
def sg_Q6 : List (Nat × Nat) := sg_Q6_0
theorem sg_Q6_s : s_isg (s_lw sg_mi "FormulaWorks$Reader") sg_Q6 := sg_Q6_0_s
def sg_F7_0 : List (Nat × Nat × Nat) := [(9, 6, 0), (15, 6, 1)]
set_option maxRecDepth 100000 in
theorem sg_F7_0_s : s_isg (s_fw "FormulaWorks$Rules") sg_F7_0 := s_isg_of (ps := [395, 396]) (by decide +kernel) s_fw_g
def sg_F7 : List (Nat × Nat × Nat) := sg_F7_0
theorem sg_F7_s : s_isg (s_fw "FormulaWorks$Rules") sg_F7 := sg_F7_0_s
def sg_Q7_0 : List (Nat × Nat) := []
set_option maxRecDepth 100000 in
theorem sg_Q7_0_s : s_isg (s_lw sg_mi "FormulaWorks$Rules") sg_Q7_0 := s_isg_of (ps := []) (by decide +kernel) s_lw_g
def sg_Q7 : List (Nat × Nat) := sg_Q7_0
theorem sg_Q7_s : s_isg (s_lw sg_mi "FormulaWorks$Rules") sg_Q7 := sg_Q7_0_s
def sg_F8_0 : List (Nat × Nat × Nat) := [(11, 7, 1), (16, 7, 2), (20, 7, 3), (23, 7, 4), (28, 7, 5), (32, 7, 6), (35, 7, 7), (38, 7, 0), (54, 7, 8), (66, 7, 9), (87, 5, 18), (90, 5, 19), (93, 5, 3), (96, 8, 1), (100, 8, 2)]
set_option maxRecDepth 100000 in
theorem sg_F8_0_s : s_isg (s_fw "FormulaWorks$Sheet") sg_F8_0 := s_isg_of (ps := [609, 610, 611, 612, 614, 615, 616, 608, 617, 618, 553, 556, 537, 481, 490]) (by decide +kernel) s_fw_g
def sg_F8 : List (Nat × Nat × Nat) := sg_F8_0
theorem sg_F8_s : s_isg (s_fw "FormulaWorks$Sheet") sg_F8 := sg_F8_0_s
def sg_Q8_0 : List (Nat × Nat) := [(45, 307), (51, 109), (62, 112), (71, 97), (75, 102), (79, 110), (107, 111), (113, 108), (116, 114)]
set_option maxRecDepth 100000 in
theorem sg_Q8_0_s : s_isg (s_lw sg_mi "FormulaWorks$Sheet") sg_Q8_0 := s_isg_of (ps := [2609, 2610, 2545, 2561, 2562, 2563, 2549, 2571, 2567]) (by decide +kernel) s_lw_g
def sg_Q8 : List (Nat × Nat) := sg_Q8_0
theorem sg_Q8_s : s_isg (s_lw sg_mi "FormulaWorks$Sheet") sg_Q8 := sg_Q8_0_s
def sg_F9_0 : List (Nat × Nat × Nat) := [(9, 8, 0), (20, 8, 1), (24, 8, 2), (30, 8, 3), (33, 8, 4), (36, 8, 5), (40, 8, 6)]
set_option maxRecDepth 100000 in
theorem sg_F9_0_s : s_isg (s_fw "FormulaWorks$Thing") sg_F9_0 := s_isg_of (ps := [476, 479, 488, 497, 500, 505, 507]) (by decide +kernel) s_fw_g
def sg_F9 : List (Nat × Nat × Nat) := sg_F9_0
theorem sg_F9_s : s_isg (s_fw "FormulaWorks$Thing") sg_F9 := sg_F9_0_s
def sg_Q9_0 : List (Nat × Nat) := [(27, 94)]
set_option maxRecDepth 100000 in
theorem sg_Q9_0_s : s_isg (s_lw sg_mi "FormulaWorks$Thing") sg_Q9_0 := s_isg_of (ps := [472]) (by decide +kernel) s_lw_g
def sg_Q9 : List (Nat × Nat) := sg_Q9_0
theorem sg_Q9_s : s_isg (s_lw sg_mi "FormulaWorks$Thing") sg_Q9 := sg_Q9_0_s
def sg_F10_0 : List (Nat × Nat × Nat) := [(11, 9, 0), (15, 9, 2), (18, 9, 3), (21, 9, 5), (24, 9, 7), (27, 9, 9), (30, 9, 11), (33, 9, 12), (36, 9, 1), (40, 9, 4)]
set_option maxRecDepth 100000 in
theorem sg_F10_0_s : s_isg (s_fw "FormulaWorks$Trees") sg_F10_0 := s_isg_of (ps := [408, 412, 413, 415, 417, 421, 423, 425, 409, 414]) (by decide +kernel) s_fw_g
def sg_F10 : List (Nat × Nat × Nat) := sg_F10_0
theorem sg_F10_s : s_isg (s_fw "FormulaWorks$Trees") sg_F10 := sg_F10_0_s
def sg_Q10_0 : List (Nat × Nat) := []
set_option maxRecDepth 100000 in
theorem sg_Q10_0_s : s_isg (s_lw sg_mi "FormulaWorks$Trees") sg_Q10_0 := s_isg_of (ps := []) (by decide +kernel) s_lw_g
def sg_Q10 : List (Nat × Nat) := sg_Q10_0
theorem sg_Q10_s : s_isg (s_lw sg_mi "FormulaWorks$Trees") sg_Q10 := sg_Q10_0_s
def sg_F11_0 : List (Nat × Nat × Nat) := []
set_option maxRecDepth 100000 in
theorem sg_F11_0_s : s_isg (s_fw "FormulaWorksLaw") sg_F11_0 := s_isg_of (ps := []) (by decide +kernel) s_fw_g
def sg_F11 : List (Nat × Nat × Nat) := sg_F11_0
theorem sg_F11_s : s_isg (s_fw "FormulaWorksLaw") sg_F11 := sg_F11_0_s
def sg_Q11_0 : List (Nat × Nat) := [(7, 58), (17, 55), (23, 37), (27, 47), (31, 1), (34, 36), (37, 78), (40, 51), (45, 54), (48, 17), (51, 56), (54, 82), (58, 12), (61, 63), (64, 19), (68, 11), (71, 35), (74, 24), (77, 23), (80, 50), (83, 60), (86, 53), (89, 14), (92, 62), (95, 38)]
set_option maxRecDepth 100000 in
theorem sg_Q11_0_s : s_isg (s_lw sg_mi "FormulaWorksLaw") sg_Q11_0 := s_isg_of (ps := [736, 1102, 1204, 1211, 1229, 1304, 1311, 1322, 1329, 1341, 1363, 1383, 1398, 1412, 1426, 1437, 1452, 1511, 1583, 1593, 1600, 1607, 1620, 1645, 1652]) (by decide +kernel) s_lw_g
def sg_Q11_1 : List (Nat × Nat) := [(98, 30), (101, 10), (104, 76), (107, 73), (110, 70), (113, 22), (116, 39), (119, 64), (122, 65), (125, 29), (128, 74), (131, 41), (134, 21), (137, 79), (140, 18), (143, 57), (146, 31), (149, 52), (152, 2), (155, 13), (158, 83), (161, 72), (164, 40), (167, 4), (170, 3)]
set_option maxRecDepth 100000 in
theorem sg_Q11_1_s : s_isg (s_lw sg_mi "FormulaWorksLaw") sg_Q11_1 := s_isg_of (ps := [1666, 1676, 1722, 1735, 1742, 1758, 1768, 1775, 2031, 2046, 2065, 2072, 2080, 2088, 2096, 2125, 2145, 2162, 2174, 2187, 2200, 2214, 2226, 2252, 2272]) (by decide +kernel) s_lw_g
def sg_Q11_2 : List (Nat × Nat) := [(173, 42), (176, 81), (179, 48), (183, 26), (186, 68), (189, 59), (192, 27), (195, 86), (198, 85), (201, 46), (204, 45), (207, 7), (210, 71), (213, 8), (217, 20), (220, 6), (223, 28), (226, 34), (229, 16), (232, 5), (235, 69), (244, 80), (247, 297), (248, 168), (253, 273)]
set_option maxRecDepth 100000 in
theorem sg_Q11_2_s : s_isg (s_lw sg_mi "FormulaWorksLaw") sg_Q11_2 := s_isg_of (ps := [2283, 2294, 2308, 2318, 2329, 2345, 2362, 2380, 2387, 2410, 2417, 2432, 2520, 2537, 2601, 2617, 2631, 2638, 2645, 2655, 2662, 702, 3573, 731, 3578]) (by decide +kernel) s_lw_g
def sg_Q11_3 : List (Nat × Nat) := [(254, 294), (257, 25), (260, 223), (261, 165), (264, 269), (265, 150), (268, 251), (269, 158), (272, 262), (273, 119), (275, 191), (276, 149), (278, 250), (279, 183), (281, 295), (282, 161), (284, 265), (285, 164), (287, 268), (288, 133), (290, 214), (291, 166), (293, 270), (294, 186), (297, 299)]
set_option maxRecDepth 100000 in
theorem sg_Q11_3_s : s_isg (s_lw sg_mi "FormulaWorksLaw") sg_Q11_3 := s_isg_of (ps := [3008, 707, 3698, 1066, 3702, 1201, 3752, 1208, 3012, 1226, 3038, 1301, 3131, 1308, 3136, 1315, 3148, 1326, 3160, 1338, 3176, 1360, 3194, 1380, 3183]) (by decide +kernel) s_lw_g
def sg_Q11_4 : List (Nat × Nat) := [(298, 129), (300, 209), (301, 172), (303, 280), (304, 135), (307, 216), (308, 128), (310, 208), (311, 148), (313, 249), (314, 140), (316, 221), (317, 139), (319, 220), (320, 160), (322, 264), (323, 170), (325, 278), (326, 163), (328, 267), (329, 131), (331, 211), (332, 171), (334, 279), (335, 151)]
set_option maxRecDepth 100000 in
theorem sg_Q11_4_s : s_isg (s_lw sg_mi "FormulaWorksLaw") sg_Q11_4 := s_isg_of (ps := [1395, 3209, 1409, 3220, 1423, 3224, 1434, 3232, 1449, 3240, 1508, 3260, 1580, 3300, 1590, 3312, 1597, 3316, 1604, 3324, 1617, 3328, 1642, 3340, 1649]) (by decide +kernel) s_lw_g
def sg_Q11_5 : List (Nat × Nat) := [(337, 252), (338, 145), (340, 233), (341, 127), (343, 207), (344, 182), (346, 293), (347, 180), (349, 290), (350, 177), (352, 287), (353, 138), (355, 219), (356, 152), (358, 253), (359, 173), (361, 281), (362, 174), (364, 282), (365, 144), (367, 227), (368, 181), (370, 291), (371, 154), (373, 256)]
set_option maxRecDepth 100000 in
theorem sg_Q11_5_s : s_isg (s_lw sg_mi "FormulaWorksLaw") sg_Q11_5 := s_isg_of (ps := [3348, 1663, 3352, 1673, 3356, 1719, 3375, 1732, 3384, 1739, 3388, 1755, 3392, 1765, 3396, 1772, 3400, 2028, 3404, 2043, 3410, 2062, 3414, 2069, 3418]) (by decide +kernel) s_lw_g
def sg_Q11_6 : List (Nat × Nat) := [(374, 137), (376, 218), (377, 184), (379, 296), (380, 134), (382, 215), (383, 167), (385, 272), (386, 146), (388, 234), (389, 162), (391, 266), (392, 120), (394, 193), (395, 130), (397, 210), (398, 187), (400, 300), (401, 179), (403, 289), (404, 153), (406, 254), (407, 122), (409, 195), (410, 121)]
set_option maxRecDepth 100000 in
theorem sg_Q11_6_s : s_isg (s_lw sg_mi "FormulaWorksLaw") sg_Q11_6 := s_isg_of (ps := [2077, 3427, 2085, 3431, 2093, 3435, 2122, 3450, 2142, 3462, 2159, 3466, 2171, 3475, 2184, 3479, 2197, 3483, 2211, 3495, 2223, 3503, 2249, 3523, 2269]) (by decide +kernel) s_lw_g
def sg_Q11_7 : List (Nat × Nat) := [(412, 194), (413, 155), (415, 257), (416, 185), (418, 298), (419, 159), (421, 263), (422, 141), (424, 224), (425, 175), (427, 285), (428, 169), (430, 277), (431, 142), (433, 225), (434, 189), (436, 304), (437, 188), (439, 303), (440, 157), (442, 261), (443, 156), (445, 260), (446, 125), (448, 204)]
set_option maxRecDepth 100000 in
theorem sg_Q11_7_s : s_isg (s_lw sg_mi "FormulaWorksLaw") sg_Q11_7 := s_isg_of (ps := [3539, 2280, 3543, 2291, 3547, 2305, 3555, 2315, 3559, 2326, 3563, 2342, 3568, 2359, 3756, 2377, 3772, 2384, 3780, 2407, 3796, 2414, 3800, 2429, 3804]) (by decide +kernel) s_lw_g
def sg_Q11_8 : List (Nat × Nat) := [(449, 178), (451, 288), (452, 67), (455, 284), (456, 66), (459, 283), (460, 126), (462, 205), (463, 136), (465, 217), (466, 124), (468, 203), (469, 143), (471, 226), (472, 84), (475, 302), (476, 147), (478, 248), (479, 132), (481, 213), (482, 123), (484, 199), (485, 176), (487, 286), (488, 15)]
set_option maxRecDepth 100000 in
theorem sg_Q11_8_s : s_isg (s_lw sg_mi "FormulaWorksLaw") sg_Q11_8 := s_isg_of (ps := [2517, 3845, 711, 3853, 715, 3857, 2534, 3861, 2598, 3873, 2614, 3878, 2628, 3885, 719, 3889, 2635, 3893, 2642, 3897, 2652, 3901, 2659, 3906, 723]) (by decide +kernel) s_lw_g
def sg_Q11_9 : List (Nat × Nat) := [(491, 212), (492, 9), (495, 206)]
set_option maxRecDepth 100000 in
theorem sg_Q11_9_s : s_isg (s_lw sg_mi "FormulaWorksLaw") sg_Q11_9 := s_isg_of (ps := [3914, 727, 3918]) (by decide +kernel) s_lw_g
def sg_Q11 : List (Nat × Nat) := sg_Q11_0 ++ (sg_Q11_1 ++ (sg_Q11_2 ++ (sg_Q11_3 ++ (sg_Q11_4 ++ (sg_Q11_5 ++ (sg_Q11_6 ++ (sg_Q11_7 ++ (sg_Q11_8 ++ (sg_Q11_9)))))))))
theorem sg_Q11_s : s_isg (s_lw sg_mi "FormulaWorksLaw") sg_Q11 := (s_isg_app sg_Q11_0_s (s_isg_app sg_Q11_1_s (s_isg_app sg_Q11_2_s (s_isg_app sg_Q11_3_s (s_isg_app sg_Q11_4_s (s_isg_app sg_Q11_5_s (s_isg_app sg_Q11_6_s (s_isg_app sg_Q11_7_s (s_isg_app sg_Q11_8_s sg_Q11_9_s)))))))))
def sg_F12_0 : List (Nat × Nat × Nat) := [(7, 11, 2), (13, 11, 3), (16, 11, 4), (19, 11, 5), (22, 11, 6), (25, 11, 7), (28, 11, 9), (31, 11, 10), (35, 11, 11), (38, 11, 12), (41, 11, 13), (44, 11, 14), (47, 11, 15), (50, 11, 16), (53, 11, 17), (56, 11, 18), (59, 11, 19), (62, 11, 20), (65, 11, 21), (68, 11, 22), (71, 11, 23), (74, 11, 24), (77, 11, 25), (80, 11, 27), (83, 11, 28)]
set_option maxRecDepth 100000 in
theorem sg_F12_0_s : s_isg (s_fw "FormulaWorksModel") sg_F12_0 := s_isg_of (ps := [2674, 2675, 2676, 2677, 2678, 2679, 2681, 2682, 2683, 2684, 2685, 2686, 2687, 2688, 2689, 2690, 2691, 2692, 2693, 2694, 2695, 2696, 2697, 2699, 2700]) (by decide +kernel) s_fw_g
def sg_F12_1 : List (Nat × Nat × Nat) := [(86, 11, 29), (89, 11, 30), (92, 11, 31), (95, 11, 34), (98, 11, 36), (101, 11, 38), (104, 11, 39), (107, 11, 40), (110, 11, 41), (113, 11, 42), (116, 11, 43), (119, 11, 44), (122, 11, 45), (125, 11, 46), (128, 11, 47), (131, 11, 48), (134, 11, 49), (137, 11, 51), (140, 11, 53), (143, 11, 58), (147, 11, 60), (151, 11, 61), (154, 11, 62), (157, 11, 63), (160, 11, 64)]
set_option maxRecDepth 100000 in
theorem sg_F12_1_s : s_isg (s_fw "FormulaWorksModel") sg_F12_1 := s_isg_of (ps := [2701, 2702, 2703, 2706, 2708, 2710, 2711, 2712, 2713, 2714, 2715, 2716, 2717, 2718, 2719, 2720, 2721, 2723, 2725, 2730, 2732, 2733, 2734, 2735, 2736]) (by decide +kernel) s_fw_g
def sg_F12_2 : List (Nat × Nat × Nat) := [(163, 11, 65), (166, 11, 66), (169, 11, 67), (172, 11, 68), (175, 11, 69), (178, 11, 70), (181, 11, 73), (184, 11, 74), (187, 11, 78), (190, 11, 79), (193, 11, 80), (196, 11, 81), (199, 11, 83), (202, 11, 84), (205, 11, 86), (208, 11, 87), (211, 11, 89), (214, 11, 90), (217, 11, 91), (220, 11, 92), (223, 11, 93), (226, 11, 94), (229, 11, 95), (232, 11, 96), (235, 11, 97)]
set_option maxRecDepth 100000 in
theorem sg_F12_2_s : s_isg (s_fw "FormulaWorksModel") sg_F12_2 := s_isg_of (ps := [2737, 2738, 2739, 2740, 2741, 2742, 2745, 2746, 2750, 2751, 2752, 2753, 2755, 2756, 2758, 2759, 2761, 2762, 2763, 2764, 2765, 2766, 2767, 2768, 2769]) (by decide +kernel) s_fw_g
def sg_F12_3 : List (Nat × Nat × Nat) := [(238, 11, 99), (241, 11, 100), (244, 11, 101), (247, 11, 102), (250, 11, 103), (253, 11, 104), (256, 11, 105), (259, 11, 106), (262, 11, 108), (265, 11, 109), (268, 11, 0), (308, 11, 1), (433, 11, 32), (436, 11, 37), (462, 11, 26), (532, 11, 8), (610, 11, 50), (613, 11, 52), (623, 11, 55), (626, 11, 56), (635, 11, 59), (638, 11, 71), (641, 11, 72), (653, 11, 54), (685, 11, 75)]
set_option maxRecDepth 100000 in
theorem sg_F12_3_s : s_isg (s_fw "FormulaWorksModel") sg_F12_3 := s_isg_of (ps := [2771, 2772, 2773, 2774, 2775, 2776, 2777, 2778, 2780, 2781, 2672, 2673, 2704, 2709, 2698, 2680, 2722, 2724, 2727, 2728, 2731, 2743, 2744, 2726, 2747]) (by decide +kernel) s_fw_g
def sg_F12_4 : List (Nat × Nat × Nat) := [(689, 11, 76), (692, 11, 88), (710, 11, 57), (716, 11, 77), (742, 11, 82), (745, 11, 85), (815, 11, 98), (842, 11, 110), (845, 11, 107)]
set_option maxRecDepth 100000 in
theorem sg_F12_4_s : s_isg (s_fw "FormulaWorksModel") sg_F12_4 := s_isg_of (ps := [2748, 2760, 2729, 2749, 2754, 2757, 2770, 2782, 2779]) (by decide +kernel) s_fw_g
def sg_F12 : List (Nat × Nat × Nat) := sg_F12_0 ++ (sg_F12_1 ++ (sg_F12_2 ++ (sg_F12_3 ++ (sg_F12_4))))
theorem sg_F12_s : s_isg (s_fw "FormulaWorksModel") sg_F12 := (s_isg_app sg_F12_0_s (s_isg_app sg_F12_1_s (s_isg_app sg_F12_2_s (s_isg_app sg_F12_3_s sg_F12_4_s))))
def sg_Q12_0 : List (Nat × Nat) := [(273, 258), (277, 231), (311, 232), (315, 200), (324, 239), (328, 271), (332, 245), (344, 247), (354, 196), (369, 192), (401, 240), (419, 197), (422, 198), (487, 238), (520, 230), (535, 243), (564, 244), (593, 242), (616, 202), (629, 236), (632, 222), (666, 201), (695, 274), (704, 292), (707, 275)]
set_option maxRecDepth 100000 in
theorem sg_Q12_0_s : s_isg (s_lw sg_mi "FormulaWorksModel") sg_Q12_0 := s_isg_of (ps := [3019, 3031, 3054, 3016, 3027, 3034, 3050, 3023, 3046, 3042, 3187, 3213, 3228, 3304, 3379, 3422, 3470, 3527, 3602, 3606, 3616, 3594, 3598, 3586, 3590]) (by decide +kernel) s_lw_g
def sg_Q12_1 : List (Nat × Nat) := [(713, 276), (739, 241), (821, 259), (824, 228), (827, 235), (830, 246), (836, 237), (848, 229), (854, 301), (859, 255)]
set_option maxRecDepth 100000 in
theorem sg_Q12_1_s : s_isg (s_lw sg_mi "FormulaWorksModel") sg_Q12_1 := s_isg_of (ps := [3582, 3706, 3650, 3646, 3642, 3638, 3634, 3658, 3865, 3882]) (by decide +kernel) s_lw_g
def sg_Q12 : List (Nat × Nat) := sg_Q12_0 ++ (sg_Q12_1)
theorem sg_Q12_s : s_isg (s_lw sg_mi "FormulaWorksModel") sg_Q12 := (s_isg_app sg_Q12_0_s sg_Q12_1_s)
def sg_F13_0 : List (Nat × Nat × Nat) := []
set_option maxRecDepth 100000 in
theorem sg_F13_0_s : s_isg (s_fw "java/lang/Integer") sg_F13_0 := s_isg_of (ps := []) (by decide +kernel) s_fw_g
def sg_F13 : List (Nat × Nat × Nat) := sg_F13_0
theorem sg_F13_s : s_isg (s_fw "java/lang/Integer") sg_F13 := sg_F13_0_s
def sg_Q13_0 : List (Nat × Nat) := []
set_option maxRecDepth 100000 in
theorem sg_Q13_0_s : s_isg (s_lw sg_mi "java/lang/Integer") sg_Q13_0 := s_isg_of (ps := []) (by decide +kernel) s_lw_g
def sg_Q13 : List (Nat × Nat) := sg_Q13_0
theorem sg_Q13_s : s_isg (s_lw sg_mi "java/lang/Integer") sg_Q13 := sg_Q13_0_s
def sg_F14_0 : List (Nat × Nat × Nat) := []
set_option maxRecDepth 100000 in
theorem sg_F14_0_s : s_isg (s_fw "java/lang/Math") sg_F14_0 := s_isg_of (ps := []) (by decide +kernel) s_fw_g
def sg_F14 : List (Nat × Nat × Nat) := sg_F14_0
theorem sg_F14_s : s_isg (s_fw "java/lang/Math") sg_F14 := sg_F14_0_s
def sg_Q14_0 : List (Nat × Nat) := []
set_option maxRecDepth 100000 in
theorem sg_Q14_0_s : s_isg (s_lw sg_mi "java/lang/Math") sg_Q14_0 := s_isg_of (ps := []) (by decide +kernel) s_lw_g
def sg_Q14 : List (Nat × Nat) := sg_Q14_0
theorem sg_Q14_s : s_isg (s_lw sg_mi "java/lang/Math") sg_Q14 := sg_Q14_0_s
def sg_S_0 : List (Nat) := [43, 61, 119, 120, 121, 122, 123, 124, 125, 126, 127, 128, 129, 130, 131, 132, 133, 134, 135, 136, 137, 138, 139, 140, 141]
set_option maxRecDepth 100000 in
theorem sg_S_0_s : s_isg (s_sw sg_mi) sg_S_0 := s_isg_of (ps := [1588, 1216, 1227, 2172, 2270, 2250, 2653, 2615, 2430, 2535, 1674, 1435, 1396, 2185, 1618, 2643, 1339, 2094, 1424, 2599, 2078, 1756, 1581, 1509, 2316]) (by decide +kernel) s_sw_g
def sg_S_1 : List (Nat) := [142, 143, 144, 145, 146, 147, 148, 149, 150, 151, 152, 153, 154, 155, 156, 157, 158, 159, 160, 161, 162, 163, 164, 165, 166]
set_option maxRecDepth 100000 in
theorem sg_S_1_s : s_isg (s_sw sg_mi) sg_S_1 := s_isg_of (ps := [2360, 2629, 2044, 1664, 2143, 2636, 1450, 1302, 1202, 1650, 1766, 2224, 2070, 2281, 2415, 2408, 1209, 2306, 1591, 1316, 2160, 1605, 1327, 1067, 1361]) (by decide +kernel) s_sw_g
def sg_S_2 : List (Nat) := [167, 168, 169, 170, 171, 172, 173, 174, 175, 176, 177, 178, 179, 180, 181, 182, 183, 184, 185, 186, 187, 188, 189, 200, 231]
set_option maxRecDepth 100000 in
theorem sg_S_2_s : s_isg (s_sw sg_mi) sg_S_2 := s_isg_of (ps := [2123, 732, 2343, 1598, 1643, 1410, 1773, 2029, 2327, 2660, 1740, 2518, 2212, 1733, 2063, 1720, 1309, 2086, 2292, 1381, 2198, 2385, 2378, 3017, 3032]) (by decide +kernel) s_sw_g
def sg_S_3 : List (Nat) := [232, 255, 258, 305, 306, 307]
set_option maxRecDepth 100000 in
theorem sg_S_3_s : s_isg (s_sw sg_mi) sg_S_3 := s_isg_of (ps := [3055, 3883, 3020, 2108, 1220, 1863]) (by decide +kernel) s_sw_g
def sg_S : List (Nat) := sg_S_0 ++ (sg_S_1 ++ (sg_S_2 ++ (sg_S_3)))
theorem sg_S_s : s_isg (s_sw sg_mi) sg_S := (s_isg_app sg_S_0_s (s_isg_app sg_S_1_s (s_isg_app sg_S_2_s sg_S_3_s)))
def sg_I_0 : List (Nat) := [1, 2, 3, 4, 5, 6, 7, 8, 9, 10, 11, 12, 13, 14, 15, 16, 17, 18, 19, 20, 21, 22, 23, 24, 25]
set_option maxRecDepth 100000 in
theorem sg_I_0_s : s_isg (s_iw sg_mi) sg_I_0 := s_isg_of (ps := [1230, 2175, 2273, 2253, 2656, 2618, 2433, 2538, 728, 1677, 1438, 1399, 2188, 1621, 724, 2646, 1342, 2097, 1427, 2602, 2081, 1759, 1584, 1512, 708]) (by decide +kernel) s_iw_g
def sg_I_1 : List (Nat) := [26, 27, 28, 29, 30, 31, 32, 33, 34, 35, 36, 37, 38, 39, 40, 41, 42, 44, 45, 46, 47, 48, 49, 50, 51]
set_option maxRecDepth 100000 in
theorem sg_I_1_s : s_isg (s_iw sg_mi) sg_I_1 := s_isg_of (ps := [2319, 2363, 2632, 2047, 1667, 2146, 1064, 1224, 2639, 1453, 1305, 1205, 1653, 1769, 2227, 2073, 2284, 742, 2418, 2411, 1212, 2309, 1335, 1594, 1323]) (by decide +kernel) s_iw_g
def sg_I_2 : List (Nat) := [52, 53, 54, 55, 56, 57, 58, 59, 60, 62, 63, 64, 65, 66, 67, 68, 69, 70, 71, 72, 73, 74, 75, 76, 77]
set_option maxRecDepth 100000 in
theorem sg_I_2_s : s_isg (s_iw sg_mi) sg_I_2 := s_isg_of (ps := [2163, 1608, 1330, 1103, 1364, 2126, 737, 2346, 1601, 1646, 1413, 1776, 2032, 716, 712, 2330, 2663, 1743, 2521, 2215, 1736, 2066, 1012, 1723, 1108]) (by decide +kernel) s_iw_g
def sg_I_3 : List (Nat) := [78, 79, 80, 81, 82, 83, 84, 85, 86, 92, 93, 94, 96, 97, 98, 99, 100, 101, 102, 103, 106, 107, 108, 109, 110]
set_option maxRecDepth 100000 in
theorem sg_I_3_s : s_isg (s_iw sg_mi) sg_I_3 := s_isg_of (ps := [1312, 2089, 703, 2295, 1384, 2201, 720, 2388, 2381, 1049, 887, 473, 832, 811, 848, 840, 836, 816, 827, 824, 2542, 2606, 2572, 2612, 2564]) (by decide +kernel) s_iw_g
def sg_I_4 : List (Nat) := [111, 112, 113, 114, 118, 191, 192, 193, 194, 195, 196, 197, 198, 199, 201, 202, 203, 204, 205, 206, 207, 208, 209, 210, 211]
set_option maxRecDepth 100000 in
theorem sg_I_4_s : s_isg (s_iw sg_mi) sg_I_4 := s_isg_of (ps := [2551, 2547, 2625, 2568, 819, 3039, 3044, 3476, 3540, 3524, 3048, 3215, 3230, 3902, 3596, 3604, 3879, 3805, 3862, 3919, 3357, 3233, 3210, 3480, 3329]) (by decide +kernel) s_iw_g
def sg_I_5 : List (Nat) := [212, 213, 214, 215, 216, 217, 218, 219, 220, 221, 222, 223, 224, 225, 226, 227, 228, 229, 230, 233, 234, 235, 236, 237, 238]
set_option maxRecDepth 100000 in
theorem sg_I_5_s : s_isg (s_iw sg_mi) sg_I_5 := s_isg_of (ps := [3915, 3898, 3177, 3436, 3225, 3874, 3428, 3393, 3301, 3261, 3618, 3699, 3560, 3757, 3886, 3411, 3648, 3660, 3381, 3353, 3463, 3644, 3608, 3636, 3306]) (by decide +kernel) s_iw_g
def sg_I_6 : List (Nat) := [239, 240, 241, 242, 243, 244, 245, 246, 247, 248, 249, 250, 251, 252, 253, 254, 256, 257, 259, 260, 261, 262, 263, 264, 265]
set_option maxRecDepth 100000 in
theorem sg_I_6_s : s_isg (s_iw sg_mi) sg_I_6 := s_isg_of (ps := [3029, 3189, 3708, 3529, 3424, 3472, 3052, 3640, 3025, 3894, 3241, 3132, 3753, 3349, 3397, 3504, 3419, 3544, 3652, 3801, 3797, 3013, 3556, 3313, 3149]) (by decide +kernel) s_iw_g
def sg_I_7 : List (Nat) := [266, 267, 268, 269, 270, 271, 272, 273, 274, 275, 276, 277, 278, 279, 280, 281, 282, 283, 284, 285, 286, 287, 288, 289, 290]
set_option maxRecDepth 100000 in
theorem sg_I_7_s : s_isg (s_iw sg_mi) sg_I_7 := s_isg_of (ps := [3467, 3325, 3161, 3703, 3195, 3036, 3451, 3579, 3600, 3592, 3584, 3569, 3317, 3341, 3221, 3401, 3405, 3858, 3854, 3564, 3907, 3389, 3846, 3496, 3385]) (by decide +kernel) s_iw_g
def sg_I_8 : List (Nat) := [291, 292, 293, 294, 295, 296, 297, 298, 299, 300, 301, 302, 303, 304]
set_option maxRecDepth 100000 in
theorem sg_I_8_s : s_isg (s_iw sg_mi) sg_I_8 := s_isg_of (ps := [3415, 3588, 3376, 3009, 3137, 3432, 3574, 3548, 3184, 3484, 3867, 3890, 3781, 3773]) (by decide +kernel) s_iw_g
def sg_I : List (Nat) := sg_I_0 ++ (sg_I_1 ++ (sg_I_2 ++ (sg_I_3 ++ (sg_I_4 ++ (sg_I_5 ++ (sg_I_6 ++ (sg_I_7 ++ (sg_I_8))))))))
theorem sg_I_s : s_isg (s_iw sg_mi) sg_I := (s_isg_app sg_I_0_s (s_isg_app sg_I_1_s (s_isg_app sg_I_2_s (s_isg_app sg_I_3_s (s_isg_app sg_I_4_s (s_isg_app sg_I_5_s (s_isg_app sg_I_6_s (s_isg_app sg_I_7_s sg_I_8_s))))))))
def sg_V_0 : List (Nat × Nat) := [(1, 10), (2, 10), (3, 10), (4, 10), (5, 10), (6, 10), (7, 10), (8, 10), (9, 10), (10, 10), (11, 10), (12, 10), (13, 10), (14, 10), (15, 10), (16, 10), (17, 10), (18, 10), (19, 10), (20, 10), (21, 10), (22, 10), (23, 10), (24, 10), (25, 10)]
set_option maxRecDepth 100000 in
theorem sg_V_0_s : s_isg (s_vw sg_mi) sg_V_0 := s_isg_of (ps := [1231, 2176, 2274, 2254, 2657, 2619, 2434, 2539, 729, 1678, 1439, 1400, 2189, 1622, 725, 2647, 1343, 2098, 1428, 2603, 2082, 1760, 1585, 1513, 709]) (by decide +kernel) s_vw_g
def sg_V_1 : List (Nat × Nat) := [(26, 10), (27, 10), (28, 10), (29, 10), (30, 10), (31, 10), (32, 10), (33, 10), (34, 10), (35, 10), (36, 10), (37, 10), (38, 10), (39, 10), (40, 10), (41, 10), (42, 10), (44, 10), (45, 10), (46, 10), (47, 10), (48, 10), (49, 10), (50, 10), (51, 10)]
set_option maxRecDepth 100000 in
theorem sg_V_1_s : s_isg (s_vw sg_mi) sg_V_1 := s_isg_of (ps := [2320, 2364, 2633, 2048, 1668, 2147, 23, 36, 2640, 1454, 1306, 1206, 1654, 1770, 2228, 2074, 2285, 0, 2419, 2412, 1213, 2310, 42, 1595, 1324]) (by decide +kernel) s_vw_g
def sg_V_2 : List (Nat × Nat) := [(52, 10), (53, 10), (54, 10), (55, 10), (56, 10), (57, 10), (58, 10), (59, 10), (60, 10), (62, 10), (63, 10), (64, 10), (65, 10), (66, 10), (67, 10), (68, 10), (69, 10), (70, 10), (71, 10), (72, 10), (73, 10), (74, 10), (75, 10), (76, 10), (77, 10)]
set_option maxRecDepth 100000 in
theorem sg_V_2_s : s_isg (s_vw sg_mi) sg_V_2 := s_isg_of (ps := [2164, 1609, 1331, 1104, 1365, 2127, 738, 2347, 1602, 1647, 1414, 1777, 2033, 717, 713, 2331, 2664, 1744, 2522, 2216, 1737, 2067, 21, 1724, 24]) (by decide +kernel) s_vw_g
def sg_V_3 : List (Nat × Nat) := [(78, 10), (79, 10), (80, 10), (81, 10), (82, 10), (83, 10), (84, 10), (85, 10), (86, 10), (92, 4), (93, 4), (94, 4), (96, 5), (97, 5), (98, 5), (99, 5), (100, 5), (101, 5), (102, 5), (103, 5), (106, 7), (107, 7), (108, 7), (109, 7), (110, 7)]
set_option maxRecDepth 100000 in
theorem sg_V_3_s : s_isg (s_vw sg_mi) sg_V_3 := s_isg_of (ps := [1313, 2090, 704, 2296, 1385, 2202, 721, 2389, 2382, 1050, 888, 474, 4, 812, 8, 6, 5, 2, 828, 3, 2543, 2607, 2573, 93, 2565]) (by decide +kernel) s_vw_g
def sg_V_4 : List (Nat × Nat) := [(111, 7), (112, 7), (113, 7), (114, 7), (118, 9), (191, 11), (192, 11), (193, 11), (194, 11), (195, 11), (196, 11), (197, 11), (198, 11), (199, 11), (201, 11), (202, 11), (203, 11), (204, 11), (205, 11), (206, 11), (207, 11), (208, 11), (209, 11), (210, 11), (211, 11)]
set_option maxRecDepth 100000 in
theorem sg_V_4_s : s_isg (s_vw sg_mi) sg_V_4 := s_isg_of (ps := [88, 87, 2626, 2569, 820, 3040, 97, 3477, 3541, 3525, 98, 123, 124, 3903, 169, 171, 3880, 3806, 3863, 3920, 3358, 3234, 3211, 3481, 3330]) (by decide +kernel) s_vw_g
def sg_V_5 : List (Nat × Nat) := [(212, 11), (213, 11), (214, 11), (215, 11), (216, 11), (217, 11), (218, 11), (219, 11), (220, 11), (221, 11), (222, 11), (223, 11), (224, 11), (225, 11), (226, 11), (227, 11), (228, 11), (229, 11), (230, 11), (233, 11), (234, 11), (235, 11), (236, 11), (237, 11), (238, 11)]
set_option maxRecDepth 100000 in
theorem sg_V_5_s : s_isg (s_vw sg_mi) sg_V_5 := s_isg_of (ps := [3916, 3899, 3178, 3437, 3226, 3875, 3429, 3394, 3302, 3262, 174, 3700, 3561, 3758, 3887, 3412, 181, 184, 148, 3354, 3464, 180, 172, 178, 139]) (by decide +kernel) s_vw_g
def sg_V_6 : List (Nat × Nat) := [(239, 11), (240, 11), (241, 11), (242, 11), (243, 11), (244, 11), (245, 11), (246, 11), (247, 11), (248, 11), (249, 11), (250, 11), (251, 11), (252, 11), (253, 11), (254, 11), (256, 11), (257, 11), (259, 11), (260, 11), (261, 11), (262, 11), (263, 11), (264, 11), (265, 11)]
set_option maxRecDepth 100000 in
theorem sg_V_6_s : s_isg (s_vw sg_mi) sg_V_6 := s_isg_of (ps := [95, 120, 194, 162, 149, 154, 99, 179, 94, 3895, 3242, 3133, 3754, 3350, 3398, 3505, 3420, 3545, 182, 3802, 3798, 3014, 3557, 3314, 3150]) (by decide +kernel) s_vw_g
def sg_V_7 : List (Nat × Nat) := [(266, 11), (267, 11), (268, 11), (269, 11), (270, 11), (271, 11), (272, 11), (273, 11), (274, 11), (275, 11), (276, 11), (277, 11), (278, 11), (279, 11), (280, 11), (281, 11), (282, 11), (283, 11), (284, 11), (285, 11), (286, 11), (287, 11), (288, 11), (289, 11), (290, 11)]
set_option maxRecDepth 100000 in
theorem sg_V_7_s : s_isg (s_vw sg_mi) sg_V_7 := s_isg_of (ps := [3468, 3326, 3162, 3704, 3196, 96, 3452, 3580, 170, 168, 166, 3570, 3318, 3342, 3222, 3402, 3406, 3859, 3855, 3565, 3908, 3390, 3847, 3497, 3386]) (by decide +kernel) s_vw_g
def sg_V_8 : List (Nat × Nat) := [(291, 11), (292, 11), (293, 11), (294, 11), (295, 11), (296, 11), (297, 11), (298, 11), (299, 11), (300, 11), (301, 11), (302, 11), (303, 11), (304, 11)]
set_option maxRecDepth 100000 in
theorem sg_V_8_s : s_isg (s_vw sg_mi) sg_V_8 := s_isg_of (ps := [3416, 167, 3377, 3010, 3138, 3433, 3575, 3549, 3185, 3485, 220, 3891, 3782, 3774]) (by decide +kernel) s_vw_g
def sg_V : List (Nat × Nat) := sg_V_0 ++ (sg_V_1 ++ (sg_V_2 ++ (sg_V_3 ++ (sg_V_4 ++ (sg_V_5 ++ (sg_V_6 ++ (sg_V_7 ++ (sg_V_8))))))))
theorem sg_V_s : s_isg (s_vw sg_mi) sg_V := (s_isg_app sg_V_0_s (s_isg_app sg_V_1_s (s_isg_app sg_V_2_s (s_isg_app sg_V_3_s (s_isg_app sg_V_4_s (s_isg_app sg_V_5_s (s_isg_app sg_V_6_s (s_isg_app sg_V_7_s sg_V_8_s))))))))
def sg_K0 (ini : Bool) : s_Wt := (sg_F0, sg_Q0, sg_S, sg_I, sg_V, ini, 10)
theorem sg_K0_s {ini : Bool} {M : s_M} (h : M.1.cls = "FormulaWorks") (h2 : ini = true → M.1.name = "<init>") : s_Wok sg_mi sg_np M (sg_K0 ini) := ⟨by rw [h]; exact sg_F0_s, by rw [h]; exact sg_Q0_s, sg_S_s, sg_I_s, sg_V_s, h2, fun r hr => by rw [h]; first | (cases hr; done) | (cases hr; rfl), sg_np_s⟩
set_option maxRecDepth 100000 in
theorem sg_C0 : Cond.initialized "FormulaWorks" ∈ lw_tbl ∧ "FormulaWorks" ≠ "java/lang/invoke/MethodHandle" ∧ "FormulaWorks" ≠ "java/lang/invoke/VarHandle" := ⟨List.mem_of_getElem? (i := 224) (by decide +kernel), by decide +kernel, by decide +kernel⟩
theorem sg_N0 : plainName "FormulaWorks" = true := by decide +kernel
def sg_K1 (ini : Bool) : s_Wt := (sg_F1, sg_Q1, sg_S, sg_I, sg_V, ini, 0)
theorem sg_K1_s {ini : Bool} {M : s_M} (h : M.1.cls = "FormulaWorks$Algebra") (h2 : ini = true → M.1.name = "<init>") : s_Wok sg_mi sg_np M (sg_K1 ini) := ⟨by rw [h]; exact sg_F1_s, by rw [h]; exact sg_Q1_s, sg_S_s, sg_I_s, sg_V_s, h2, fun r hr => by rw [h]; first | (cases hr; done) | (cases hr; rfl), sg_np_s⟩
set_option maxRecDepth 100000 in
theorem sg_C1 : Cond.initialized "FormulaWorks$Algebra" ∈ lw_tbl ∧ "FormulaWorks$Algebra" ≠ "java/lang/invoke/MethodHandle" ∧ "FormulaWorks$Algebra" ≠ "java/lang/invoke/VarHandle" := ⟨List.mem_of_getElem? (i := 225) (by decide +kernel), by decide +kernel, by decide +kernel⟩
theorem sg_N1 : plainName "FormulaWorks$Algebra" = true := by decide +kernel
def sg_K2 (ini : Bool) : s_Wt := (sg_F2, sg_Q2, sg_S, sg_I, sg_V, ini, 1)
theorem sg_K2_s {ini : Bool} {M : s_M} (h : M.1.cls = "FormulaWorks$Linear") (h2 : ini = true → M.1.name = "<init>") : s_Wok sg_mi sg_np M (sg_K2 ini) := ⟨by rw [h]; exact sg_F2_s, by rw [h]; exact sg_Q2_s, sg_S_s, sg_I_s, sg_V_s, h2, fun r hr => by rw [h]; first | (cases hr; done) | (cases hr; rfl), sg_np_s⟩
set_option maxRecDepth 100000 in
theorem sg_C2 : Cond.initialized "FormulaWorks$Linear" ∈ lw_tbl ∧ "FormulaWorks$Linear" ≠ "java/lang/invoke/MethodHandle" ∧ "FormulaWorks$Linear" ≠ "java/lang/invoke/VarHandle" := ⟨List.mem_of_getElem? (i := 227) (by decide +kernel), by decide +kernel, by decide +kernel⟩
theorem sg_N2 : plainName "FormulaWorks$Linear" = true := by decide +kernel
def sg_K3 (ini : Bool) : s_Wt := (sg_F3, sg_Q3, sg_S, sg_I, sg_V, ini, 2)
theorem sg_K3_s {ini : Bool} {M : s_M} (h : M.1.cls = "FormulaWorks$Minors") (h2 : ini = true → M.1.name = "<init>") : s_Wok sg_mi sg_np M (sg_K3 ini) := ⟨by rw [h]; exact sg_F3_s, by rw [h]; exact sg_Q3_s, sg_S_s, sg_I_s, sg_V_s, h2, fun r hr => by rw [h]; first | (cases hr; done) | (cases hr; rfl), sg_np_s⟩
set_option maxRecDepth 100000 in
theorem sg_C3 : Cond.initialized "FormulaWorks$Minors" ∈ lw_tbl ∧ "FormulaWorks$Minors" ≠ "java/lang/invoke/MethodHandle" ∧ "FormulaWorks$Minors" ≠ "java/lang/invoke/VarHandle" := ⟨List.mem_of_getElem? (i := 229) (by decide +kernel), by decide +kernel, by decide +kernel⟩
theorem sg_N3 : plainName "FormulaWorks$Minors" = true := by decide +kernel
def sg_K4 (ini : Bool) : s_Wt := (sg_F4, sg_Q4, sg_S, sg_I, sg_V, ini, 3)
theorem sg_K4_s {ini : Bool} {M : s_M} (h : M.1.cls = "FormulaWorks$Parts") (h2 : ini = true → M.1.name = "<init>") : s_Wok sg_mi sg_np M (sg_K4 ini) := ⟨by rw [h]; exact sg_F4_s, by rw [h]; exact sg_Q4_s, sg_S_s, sg_I_s, sg_V_s, h2, fun r hr => by rw [h]; first | (cases hr; done) | (cases hr; rfl), sg_np_s⟩
set_option maxRecDepth 100000 in
theorem sg_C4 : Cond.initialized "FormulaWorks$Parts" ∈ lw_tbl ∧ "FormulaWorks$Parts" ≠ "java/lang/invoke/MethodHandle" ∧ "FormulaWorks$Parts" ≠ "java/lang/invoke/VarHandle" := ⟨List.mem_of_getElem? (i := 228) (by decide +kernel), by decide +kernel, by decide +kernel⟩
theorem sg_N4 : plainName "FormulaWorks$Parts" = true := by decide +kernel
def sg_K5 (ini : Bool) : s_Wt := (sg_F5, sg_Q5, sg_S, sg_I, sg_V, ini, 4)
theorem sg_K5_s {ini : Bool} {M : s_M} (h : M.1.cls = "FormulaWorks$Poly") (h2 : ini = true → M.1.name = "<init>") : s_Wok sg_mi sg_np M (sg_K5 ini) := ⟨by rw [h]; exact sg_F5_s, by rw [h]; exact sg_Q5_s, sg_S_s, sg_I_s, sg_V_s, h2, fun r hr => by rw [h]; first | (cases hr; done) | (cases hr; rfl), sg_np_s⟩
set_option maxRecDepth 100000 in
theorem sg_C5 : Cond.initialized "FormulaWorks$Poly" ∈ lw_tbl ∧ "FormulaWorks$Poly" ≠ "java/lang/invoke/MethodHandle" ∧ "FormulaWorks$Poly" ≠ "java/lang/invoke/VarHandle" := ⟨List.mem_of_getElem? (i := 226) (by decide +kernel), by decide +kernel, by decide +kernel⟩
theorem sg_N5 : plainName "FormulaWorks$Poly" = true := by decide +kernel
def sg_K6 (ini : Bool) : s_Wt := (sg_F6, sg_Q6, sg_S, sg_I, sg_V, ini, 5)
theorem sg_K6_s {ini : Bool} {M : s_M} (h : M.1.cls = "FormulaWorks$Reader") (h2 : ini = true → M.1.name = "<init>") : s_Wok sg_mi sg_np M (sg_K6 ini) := ⟨by rw [h]; exact sg_F6_s, by rw [h]; exact sg_Q6_s, sg_S_s, sg_I_s, sg_V_s, h2, fun r hr => by rw [h]; first | (cases hr; done) | (cases hr; rfl), sg_np_s⟩
set_option maxRecDepth 100000 in
theorem sg_C6 : Cond.initialized "FormulaWorks$Reader" ∈ lw_tbl ∧ "FormulaWorks$Reader" ≠ "java/lang/invoke/MethodHandle" ∧ "FormulaWorks$Reader" ≠ "java/lang/invoke/VarHandle" := ⟨List.mem_of_getElem? (i := 232) (by decide +kernel), by decide +kernel, by decide +kernel⟩
theorem sg_N6 : plainName "FormulaWorks$Reader" = true := by decide +kernel
def sg_K7 (ini : Bool) : s_Wt := (sg_F7, sg_Q7, sg_S, sg_I, sg_V, ini, 6)
theorem sg_K7_s {ini : Bool} {M : s_M} (h : M.1.cls = "FormulaWorks$Rules") (h2 : ini = true → M.1.name = "<init>") : s_Wok sg_mi sg_np M (sg_K7 ini) := ⟨by rw [h]; exact sg_F7_s, by rw [h]; exact sg_Q7_s, sg_S_s, sg_I_s, sg_V_s, h2, fun r hr => by rw [h]; first | (cases hr; done) | (cases hr; rfl), sg_np_s⟩
set_option maxRecDepth 100000 in
theorem sg_C7 : Cond.initialized "FormulaWorks$Rules" ∈ lw_tbl ∧ "FormulaWorks$Rules" ≠ "java/lang/invoke/MethodHandle" ∧ "FormulaWorks$Rules" ≠ "java/lang/invoke/VarHandle" := ⟨List.mem_of_getElem? (i := 230) (by decide +kernel), by decide +kernel, by decide +kernel⟩
theorem sg_N7 : plainName "FormulaWorks$Rules" = true := by decide +kernel
def sg_K8 (ini : Bool) : s_Wt := (sg_F8, sg_Q8, sg_S, sg_I, sg_V, ini, 7)
theorem sg_K8_s {ini : Bool} {M : s_M} (h : M.1.cls = "FormulaWorks$Sheet") (h2 : ini = true → M.1.name = "<init>") : s_Wok sg_mi sg_np M (sg_K8 ini) := ⟨by rw [h]; exact sg_F8_s, by rw [h]; exact sg_Q8_s, sg_S_s, sg_I_s, sg_V_s, h2, fun r hr => by rw [h]; first | (cases hr; done) | (cases hr; rfl), sg_np_s⟩
set_option maxRecDepth 100000 in
theorem sg_C8 : Cond.initialized "FormulaWorks$Sheet" ∈ lw_tbl ∧ "FormulaWorks$Sheet" ≠ "java/lang/invoke/MethodHandle" ∧ "FormulaWorks$Sheet" ≠ "java/lang/invoke/VarHandle" := ⟨List.mem_of_getElem? (i := 234) (by decide +kernel), by decide +kernel, by decide +kernel⟩
theorem sg_N8 : plainName "FormulaWorks$Sheet" = true := by decide +kernel
def sg_K9 (ini : Bool) : s_Wt := (sg_F9, sg_Q9, sg_S, sg_I, sg_V, ini, 8)
theorem sg_K9_s {ini : Bool} {M : s_M} (h : M.1.cls = "FormulaWorks$Thing") (h2 : ini = true → M.1.name = "<init>") : s_Wok sg_mi sg_np M (sg_K9 ini) := ⟨by rw [h]; exact sg_F9_s, by rw [h]; exact sg_Q9_s, sg_S_s, sg_I_s, sg_V_s, h2, fun r hr => by rw [h]; first | (cases hr; done) | (cases hr; rfl), sg_np_s⟩
set_option maxRecDepth 100000 in
theorem sg_C9 : Cond.initialized "FormulaWorks$Thing" ∈ lw_tbl ∧ "FormulaWorks$Thing" ≠ "java/lang/invoke/MethodHandle" ∧ "FormulaWorks$Thing" ≠ "java/lang/invoke/VarHandle" := ⟨List.mem_of_getElem? (i := 233) (by decide +kernel), by decide +kernel, by decide +kernel⟩
theorem sg_N9 : plainName "FormulaWorks$Thing" = true := by decide +kernel
def sg_K10 (ini : Bool) : s_Wt := (sg_F10, sg_Q10, sg_S, sg_I, sg_V, ini, 9)
theorem sg_K10_s {ini : Bool} {M : s_M} (h : M.1.cls = "FormulaWorks$Trees") (h2 : ini = true → M.1.name = "<init>") : s_Wok sg_mi sg_np M (sg_K10 ini) := ⟨by rw [h]; exact sg_F10_s, by rw [h]; exact sg_Q10_s, sg_S_s, sg_I_s, sg_V_s, h2, fun r hr => by rw [h]; first | (cases hr; done) | (cases hr; rfl), sg_np_s⟩
set_option maxRecDepth 100000 in
theorem sg_C10 : Cond.initialized "FormulaWorks$Trees" ∈ lw_tbl ∧ "FormulaWorks$Trees" ≠ "java/lang/invoke/MethodHandle" ∧ "FormulaWorks$Trees" ≠ "java/lang/invoke/VarHandle" := ⟨List.mem_of_getElem? (i := 231) (by decide +kernel), by decide +kernel, by decide +kernel⟩
theorem sg_N10 : plainName "FormulaWorks$Trees" = true := by decide +kernel
def sg_K11 (ini : Bool) : s_Wt := (sg_F11, sg_Q11, sg_S, sg_I, sg_V, ini, 99)
theorem sg_K11_s {ini : Bool} {M : s_M} (h : M.1.cls = "FormulaWorksLaw") (h2 : ini = true → M.1.name = "<init>") : s_Wok sg_mi sg_np M (sg_K11 ini) := ⟨by rw [h]; exact sg_F11_s, by rw [h]; exact sg_Q11_s, sg_S_s, sg_I_s, sg_V_s, h2, fun r hr => by rw [h]; first | (cases hr; done) | (cases hr; rfl), sg_np_s⟩
def sg_K12 (ini : Bool) : s_Wt := (sg_F12, sg_Q12, sg_S, sg_I, sg_V, ini, 11)
theorem sg_K12_s {ini : Bool} {M : s_M} (h : M.1.cls = "FormulaWorksModel") (h2 : ini = true → M.1.name = "<init>") : s_Wok sg_mi sg_np M (sg_K12 ini) := ⟨by rw [h]; exact sg_F12_s, by rw [h]; exact sg_Q12_s, sg_S_s, sg_I_s, sg_V_s, h2, fun r hr => by rw [h]; first | (cases hr; done) | (cases hr; rfl), sg_np_s⟩
set_option maxRecDepth 100000 in
theorem sg_C12 : Cond.initialized "FormulaWorksModel" ∈ lw_tbl ∧ "FormulaWorksModel" ≠ "java/lang/invoke/MethodHandle" ∧ "FormulaWorksModel" ≠ "java/lang/invoke/VarHandle" := ⟨List.mem_of_getElem? (i := 235) (by decide +kernel), by decide +kernel, by decide +kernel⟩
theorem sg_N12 : plainName "FormulaWorksModel" = true := by decide +kernel
def sg_K13 (ini : Bool) : s_Wt := (sg_F13, sg_Q13, sg_S, sg_I, sg_V, ini, 99)
theorem sg_K13_s {ini : Bool} {M : s_M} (h : M.1.cls = "java/lang/Integer") (h2 : ini = true → M.1.name = "<init>") : s_Wok sg_mi sg_np M (sg_K13 ini) := ⟨by rw [h]; exact sg_F13_s, by rw [h]; exact sg_Q13_s, sg_S_s, sg_I_s, sg_V_s, h2, fun r hr => by rw [h]; first | (cases hr; done) | (cases hr; rfl), sg_np_s⟩
set_option maxRecDepth 100000 in
theorem sg_C13 : Cond.initialized "java/lang/Integer" ∈ lw_tbl ∧ "java/lang/Integer" ≠ "java/lang/invoke/MethodHandle" ∧ "java/lang/Integer" ≠ "java/lang/invoke/VarHandle" := ⟨List.mem_of_getElem? (i := 253) (by decide +kernel), by decide +kernel, by decide +kernel⟩
theorem sg_N13 : plainName "java/lang/Integer" = true := by decide +kernel
def sg_K14 (ini : Bool) : s_Wt := (sg_F14, sg_Q14, sg_S, sg_I, sg_V, ini, 99)
theorem sg_K14_s {ini : Bool} {M : s_M} (h : M.1.cls = "java/lang/Math") (h2 : ini = true → M.1.name = "<init>") : s_Wok sg_mi sg_np M (sg_K14 ini) := ⟨by rw [h]; exact sg_F14_s, by rw [h]; exact sg_Q14_s, sg_S_s, sg_I_s, sg_V_s, h2, fun r hr => by rw [h]; first | (cases hr; done) | (cases hr; rfl), sg_np_s⟩
set_option maxRecDepth 100000 in
theorem sg_C14 : Cond.initialized "java/lang/Math" ∈ lw_tbl ∧ "java/lang/Math" ≠ "java/lang/invoke/MethodHandle" ∧ "java/lang/Math" ≠ "java/lang/invoke/VarHandle" := ⟨List.mem_of_getElem? (i := 246) (by decide +kernel), by decide +kernel, by decide +kernel⟩
theorem s_mkC {mi : Nat → Option s_M} {np : Nat → Nat} {y nL : Nat} {cd : s_Cd} {hd : List s_Hd} (M : s_M) (T : s_Wt) (ws : List Cond) (ps : List Nat) (p1 : Nat) (h1 : mi y = some M) (h2 : lw_tbl[p1]? = some (s_cw M)) (h0 : plainFor M.1 = true) (h3 : Cond.initialized M.1.cls ∈ lw_tbl ∧ M.1.cls ≠ "java/lang/invoke/MethodHandle" ∧ M.1.cls ≠ "java/lang/invoke/VarHandle") (h5 : nL = M.2.2.1) (h4 : Nat.ble nL 41 = true) (hT : s_Wok mi np M T) (h6 : ws = ps.filterMap (fun i => lw_tbl[i]?)) (h7 : ws.all goodWord = true) (h8 : s_okC mi M s_gd 0 cd = true) (h9 : s_chkH M (ws ++ s_bw) hd M.2.2.2.2 = true) : s_okE mi y cd nL hd := by
  subst h5
  exact ⟨M, s_gd, h1, ⟨List.mem_of_getElem? h2, h3.1, h0, h3.2, Nat.le_of_ble_eq_true h4⟩, rfl, fun w h => h, h8, s_chkH_mono (s_wm h6 h7) h9⟩
theorem s_mkL {mi : Nat → Option s_M} {np : Nat → Nat} {y nL : Nat} {cd : s_Cd} {hd : List s_Hd} (M : s_M) (T : s_Wt) (ws : List Cond) (ps : List Nat) (p1 : Nat) (h1 : mi y = some M) (h2 : lw_tbl[p1]? = some (s_cw M)) (h0 : plainFor M.1 = true) (h3 : Cond.initialized M.1.cls ∈ lw_tbl ∧ M.1.cls ≠ "java/lang/invoke/MethodHandle" ∧ M.1.cls ≠ "java/lang/invoke/VarHandle") (h5 : nL = M.2.2.1) (h4 : Nat.ble nL 41 = true) (hT : s_Wok mi np M T) (h6 : ws = ps.filterMap (fun i => lw_tbl[i]?)) (h7 : ws.all goodWord = true) (h8 : s_okCL mi np M T (ws ++ s_bw) 0 M.2.1.data.toList cd = true) (h9 : s_chkH M (ws ++ s_bw) hd M.2.2.2.2 = true) : s_okE mi y cd nL hd :=
  s_mkC (np := np) M T ws ps p1 h1 h2 h0 h3 h5 h4 hT h6 h7 (s_okCL_s hT (s_wm h6 h7) List.drop_zero h8) h9
