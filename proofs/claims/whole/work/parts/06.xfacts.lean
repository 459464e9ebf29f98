set_option maxRecDepth 20000 in
theorem in_X0 : ∀ q ∈ wsX00, q ∈ zTb := zin_r wsX00 [486, 488] (by decide +kernel) (by decide +kernel)
set_option maxRecDepth 20000 in
theorem in_X1 : ∀ q ∈ wsX10, q ∈ zTb := zin_r wsX10 [287, 289, 291, 293, 295, 297, 299, 301] (by decide +kernel) (by decide +kernel)
set_option maxRecDepth 20000 in
theorem in_X2 : ∀ q ∈ wsX20, q ∈ zTb := zin_r wsX20 [264, 266, 268] (by decide +kernel) (by decide +kernel)
set_option maxRecDepth 20000 in
theorem in_X3 : ∀ q ∈ wsX30, q ∈ zTb := zin_r wsX30 [408, 410, 412, 414] (by decide +kernel) (by decide +kernel)
set_option maxRecDepth 20000 in
theorem in_X4 : ∀ q ∈ wsX40, q ∈ zTb := zin_r wsX40 [219, 221, 223, 225, 227, 229, 231, 233, 235, 237, 239, 241, 243, 245, 247] (by decide +kernel) (by decide +kernel)
set_option maxRecDepth 20000 in
theorem in_X5 : ∀ q ∈ wsX50, q ∈ zTb := zin_r wsX50 [502, 504, 506, 508, 510] (by decide +kernel) (by decide +kernel)
set_option maxRecDepth 20000 in
theorem in_X6 : ∀ q ∈ wsX60, q ∈ zTb := zin_r wsX60 [448, 450, 452, 454, 456, 458, 460, 462, 464, 466, 468, 470, 472, 474] (by decide +kernel) (by decide +kernel)
set_option maxRecDepth 20000 in
theorem in_X7 : ∀ q ∈ wsX70, q ∈ zTb := zin_r wsX70 [319, 321] (by decide +kernel) (by decide +kernel)
set_option maxRecDepth 20000 in
theorem in_X8 : ∀ q ∈ wsX80, q ∈ zTb := zin_r wsX80 [345, 347, 349, 351, 353, 355, 357] (by decide +kernel) (by decide +kernel)
set_option maxRecDepth 20000 in
theorem in_X9 : ∀ q ∈ wsX90, q ∈ zTb := zin_r wsX90 [379, 381, 383, 385, 387, 389, 391] (by decide +kernel) (by decide +kernel)
set_option maxRecDepth 20000 in
theorem in_X10 : ∀ q ∈ wsX100, q ∈ zTb := zin_r wsX100 [521, 523, 525, 527, 529, 531, 533, 535] (by decide +kernel) (by decide +kernel)
def wX_l : List (Nat × Nat × List (Option Nat)) := [(13, 8, [some 1, some 40, none, some 79, some 136, some 145, some 159, some 161]), (12, 7, [some 2, some 11, some 13, some 20, some 22, some 24, some 26]), (7, 15, [none, some 3, some 4, some 5, some 6, some 7, some 8, some 9, some 10, none, none, none, none, none, none]), (0, 10, []), (0, 10, []), (0, 10, []), (0, 10, []), (0, 14, []), (0, 14, []), (0, 14, []), (0, 14, []), (5, 3, [none, some 12, none]), (0, 600, []), (4, 8, [some 14, some 15, some 16, some 17, some 18, some 19, none, none]), (0, 16, []), (0, 16, []), (0, 16, []), (0, 16, []), (0, 400, []), (0, 26, []), (5, 3, [none, some 21, none]), (0, 64, []), (5, 3, [none, some 23, none]), (0, 64, []), (5, 3, [none, some 25, none]), (0, 64, []), (11, 7, [some 27, some 29, some 31, some 33, some 35, some 37, some 39]), (10, 2, [some 28, none]), (0, 4, []), (10, 2, [some 30, none]), (0, 10, []), (10, 2, [some 32, none]), (0, 8, []), (10, 2, [some 34, none]), (0, 9, []), (10, 2, [some 36, none]), (0, 10, []), (10, 2, [some 38, none]), (0, 6, []), (0, 36, []), (12, 7, [some 41, some 50, some 52, some 59, some 61, some 63, some 65]), (7, 15, [none, some 42, some 43, some 44, some 45, some 46, some 47, some 48, some 49, none, none, none, none, none, none]), (0, 10, []), (0, 10, []), (0, 10, []), (0, 10, []), (0, 14, []), (0, 14, []), (0, 14, []), (0, 14, []), (5, 3, [none, some 51, none]), (0, 600, []), (4, 8, [some 53, some 54, some 55, some 56, some 57, some 58, none, none]), (0, 16, []), (0, 16, []), (0, 16, []), (0, 16, []), (0, 400, []), (0, 26, []), (5, 3, [none, some 60, none]), (0, 64, []), (5, 3, [none, some 62, none]), (0, 64, []), (5, 3, [none, some 64, none]), (0, 64, []), (11, 7, [some 66, some 68, some 70, some 72, some 74, some 76, some 78]), (10, 2, [some 67, none]), (0, 4, []), (10, 2, [some 69, none]), (0, 10, []), (10, 2, [some 71, none]), (0, 8, []), (10, 2, [some 73, none]), (0, 9, []), (10, 2, [some 75, none]), (0, 10, []), (10, 2, [some 77, none]), (0, 6, []), (0, 36, []), (6, 4, [some 80, some 81, none, none]), (2, 6, [some 82, some 91, some 100, some 109, some 118, some 127]), (0, 6, []), (7, 15, [none, some 83, some 84, some 85, some 86, some 87, some 88, some 89, some 90, none, none, none, none, none, none]), (0, 10, []), (0, 10, []), (0, 10, []), (0, 10, []), (0, 14, []), (0, 14, []), (0, 14, []), (0, 14, []), (7, 15, [none, some 92, some 93, some 94, some 95, some 96, some 97, some 98, some 99, none, none, none, none, none, none]), (0, 10, []), (0, 10, []), (0, 10, []), (0, 10, []), (0, 14, []), (0, 14, []), (0, 14, []), (0, 14, []), (7, 15, [none, some 101, some 102, some 103, some 104, some 105, some 106, some 107, some 108, none, none, none, none, none, none]), (0, 10, []), (0, 10, []), (0, 10, []), (0, 10, []), (0, 14, []), (0, 14, []), (0, 14, []), (0, 14, []), (7, 15, [none, some 110, some 111, some 112, some 113, some 114, some 115, some 116, some 117, none, none, none, none, none, none]), (0, 10, []), (0, 10, []), (0, 10, []), (0, 10, []), (0, 14, []), (0, 14, []), (0, 14, []), (0, 14, []), (7, 15, [none, some 119, some 120, some 121, some 122, some 123, some 124, some 125, some 126, none, none, none, none, none, none]), (0, 10, []), (0, 10, []), (0, 10, []), (0, 10, []), (0, 14, []), (0, 14, []), (0, 14, []), (0, 14, []), (7, 15, [none, some 128, some 129, some 130, some 131, some 132, some 133, some 134, some 135, none, none, none, none, none, none]), (0, 10, []), (0, 10, []), (0, 10, []), (0, 10, []), (0, 14, []), (0, 14, []), (0, 14, []), (0, 14, []), (7, 15, [none, some 137, some 138, some 139, some 140, some 141, some 142, some 143, some 144, none, none, none, none, none, none]), (0, 10, []), (0, 10, []), (0, 10, []), (0, 10, []), (0, 14, []), (0, 14, []), (0, 14, []), (0, 14, []), (9, 14, [some 146, none, some 147, some 148, some 149, none, none, none, none, none, some 150, some 157, none, none]), (1, 400, []), (0, 401, []), (0, 401, []), (0, 401, []), (4, 8, [some 151, some 152, some 153, some 154, some 155, some 156, none, none]), (0, 16, []), (0, 16, []), (0, 16, []), (0, 16, []), (0, 400, []), (0, 26, []), (5, 3, [none, some 158, none]), (0, 64, []), (3, 2, [some 1, some 160]), (0, 9, []), (8, 5, [some 26, some 162, some 163, some 164, some 165]), (0, 10, []), (0, 10, []), (0, 896, []), (0, 512, [])]
def wX : zWd := zsh wX_l
def xPorch : List Nat := [2, 41, 82, 91, 100, 109, 118, 127, 136]
theorem xL_X4_2 : 2 ∈ xPorch := by decide +kernel
theorem xL_X4_41 : 41 ∈ xPorch := by decide +kernel
theorem xL_X4_82 : 82 ∈ xPorch := by decide +kernel
theorem xL_X4_91 : 91 ∈ xPorch := by decide +kernel
theorem xL_X4_100 : 100 ∈ xPorch := by decide +kernel
theorem xL_X4_109 : 109 ∈ xPorch := by decide +kernel
theorem xL_X4_118 : 118 ∈ xPorch := by decide +kernel
theorem xL_X4_127 : 127 ∈ xPorch := by decide +kernel
theorem xL_X4_136 : 136 ∈ xPorch := by decide +kernel
theorem xOC_X4 : ∀ o ∈ xPorch, zoC wX o RX4 := fun o ho => ⟨4, (RX4, TX4, 15), (show ∀ o ∈ xPorch, o < wX.1 by decide +kernel) o ho, (show ∀ o ∈ xPorch, (wX.2 o).1 = 7 by decide +kernel) o ho, rfl, rfl⟩
def xLines : List Nat := [11, 20, 22, 24, 50, 59, 61, 63, 157]
theorem xL_X2_11 : 11 ∈ xLines := by decide +kernel
theorem xL_X2_20 : 20 ∈ xLines := by decide +kernel
theorem xL_X2_22 : 22 ∈ xLines := by decide +kernel
theorem xL_X2_24 : 24 ∈ xLines := by decide +kernel
theorem xL_X2_50 : 50 ∈ xLines := by decide +kernel
theorem xL_X2_59 : 59 ∈ xLines := by decide +kernel
theorem xL_X2_61 : 61 ∈ xLines := by decide +kernel
theorem xL_X2_63 : 63 ∈ xLines := by decide +kernel
theorem xL_X2_157 : 157 ∈ xLines := by decide +kernel
theorem xOC_X2 : ∀ o ∈ xLines, zoC wX o RX2 := fun o ho => ⟨2, (RX2, TX2, 3), (show ∀ o ∈ xLines, o < wX.1 by decide +kernel) o ho, (show ∀ o ∈ xLines, (wX.2 o).1 = 5 by decide +kernel) o ho, rfl, rfl⟩
def xLaw : List Nat := [13, 52, 150]
theorem xL_X1_13 : 13 ∈ xLaw := by decide +kernel
theorem xL_X1_52 : 52 ∈ xLaw := by decide +kernel
theorem xL_X1_150 : 150 ∈ xLaw := by decide +kernel
theorem xOC_X1 : ∀ o ∈ xLaw, zoC wX o RX1 := fun o ho => ⟨1, (RX1, TX1, 8), (show ∀ o ∈ xLaw, o < wX.1 by decide +kernel) o ho, (show ∀ o ∈ xLaw, (wX.2 o).1 = 4 by decide +kernel) o ho, rfl, rfl⟩
def xRow : List Nat := [27, 29, 31, 33, 35, 37, 66, 68, 70, 72, 74, 76]
theorem xL_X7_27 : 27 ∈ xRow := by decide +kernel
theorem xL_X7_29 : 29 ∈ xRow := by decide +kernel
theorem xL_X7_31 : 31 ∈ xRow := by decide +kernel
theorem xL_X7_33 : 33 ∈ xRow := by decide +kernel
theorem xL_X7_35 : 35 ∈ xRow := by decide +kernel
theorem xL_X7_37 : 37 ∈ xRow := by decide +kernel
theorem xL_X7_66 : 66 ∈ xRow := by decide +kernel
theorem xL_X7_68 : 68 ∈ xRow := by decide +kernel
theorem xL_X7_70 : 70 ∈ xRow := by decide +kernel
theorem xL_X7_72 : 72 ∈ xRow := by decide +kernel
theorem xL_X7_74 : 74 ∈ xRow := by decide +kernel
theorem xL_X7_76 : 76 ∈ xRow := by decide +kernel
theorem xOC_X7 : ∀ o ∈ xRow, zoC wX o RX7 := fun o ho => ⟨7, (RX7, TX7, 2), (show ∀ o ∈ xRow, o < wX.1 by decide +kernel) o ho, (show ∀ o ∈ xRow, (wX.2 o).1 = 10 by decide +kernel) o ho, rfl, rfl⟩
def xTold : List Nat := [26, 65]
theorem xL_X8_26 : 26 ∈ xTold := by decide +kernel
theorem xL_X8_65 : 65 ∈ xTold := by decide +kernel
theorem xOC_X8 : ∀ o ∈ xTold, zoC wX o RX8 := fun o ho => ⟨8, (RX8, TX8, 7), (show ∀ o ∈ xTold, o < wX.1 by decide +kernel) o ho, (show ∀ o ∈ xTold, (wX.2 o).1 = 11 by decide +kernel) o ho, rfl, rfl⟩
def xWhole : List Nat := [1, 40]
theorem xL_X9_1 : 1 ∈ xWhole := by decide +kernel
theorem xL_X9_40 : 40 ∈ xWhole := by decide +kernel
theorem xOC_X9 : ∀ o ∈ xWhole, zoC wX o RX9 := fun o ho => ⟨9, (RX9, TX9, 7), (show ∀ o ∈ xWhole, o < wX.1 by decide +kernel) o ho, (show ∀ o ∈ xWhole, (wX.2 o).1 = 12 by decide +kernel) o ho, rfl, rfl⟩
theorem xI_X4_0 : ∀ o ∈ xPorch, zoI wX o 4 0 := fun o ho => zoI_of ((show ∀ o ∈ xPorch, zoIb wX o 4 0 = true by decide +kernel) o ho)
theorem xR_X4_1 : ∀ o ∈ xPorch, zoR wX o 4 1 (o + 1) := fun o ho => zoR_of ((show ∀ o ∈ xPorch, zoRb wX o 4 1 (o + 1) = true by decide +kernel) o ho)
theorem xA_X4_1 : ∀ o ∈ xPorch, zaI wX (o + 1) 10 := fun o ho => zaI_of ((show ∀ o ∈ xPorch, zaIb wX (o + 1) 0 10 = true by decide +kernel) o ho)
theorem xR_X4_2 : ∀ o ∈ xPorch, zoR wX o 4 2 (o + 2) := fun o ho => zoR_of ((show ∀ o ∈ xPorch, zoRb wX o 4 2 (o + 2) = true by decide +kernel) o ho)
theorem xA_X4_2 : ∀ o ∈ xPorch, zaI wX (o + 2) 10 := fun o ho => zaI_of ((show ∀ o ∈ xPorch, zaIb wX (o + 2) 0 10 = true by decide +kernel) o ho)
theorem xR_X4_3 : ∀ o ∈ xPorch, zoR wX o 4 3 (o + 3) := fun o ho => zoR_of ((show ∀ o ∈ xPorch, zoRb wX o 4 3 (o + 3) = true by decide +kernel) o ho)
theorem xA_X4_3 : ∀ o ∈ xPorch, zaI wX (o + 3) 10 := fun o ho => zaI_of ((show ∀ o ∈ xPorch, zaIb wX (o + 3) 0 10 = true by decide +kernel) o ho)
theorem xR_X4_4 : ∀ o ∈ xPorch, zoR wX o 4 4 (o + 4) := fun o ho => zoR_of ((show ∀ o ∈ xPorch, zoRb wX o 4 4 (o + 4) = true by decide +kernel) o ho)
theorem xA_X4_4 : ∀ o ∈ xPorch, zaI wX (o + 4) 10 := fun o ho => zaI_of ((show ∀ o ∈ xPorch, zaIb wX (o + 4) 0 10 = true by decide +kernel) o ho)
theorem xR_X4_5 : ∀ o ∈ xPorch, zoR wX o 4 5 (o + 5) := fun o ho => zoR_of ((show ∀ o ∈ xPorch, zoRb wX o 4 5 (o + 5) = true by decide +kernel) o ho)
theorem xA_X4_5 : ∀ o ∈ xPorch, zaI wX (o + 5) 14 := fun o ho => zaI_of ((show ∀ o ∈ xPorch, zaIb wX (o + 5) 0 14 = true by decide +kernel) o ho)
theorem xR_X4_6 : ∀ o ∈ xPorch, zoR wX o 4 6 (o + 6) := fun o ho => zoR_of ((show ∀ o ∈ xPorch, zoRb wX o 4 6 (o + 6) = true by decide +kernel) o ho)
theorem xA_X4_6 : ∀ o ∈ xPorch, zaI wX (o + 6) 14 := fun o ho => zaI_of ((show ∀ o ∈ xPorch, zaIb wX (o + 6) 0 14 = true by decide +kernel) o ho)
theorem xR_X4_7 : ∀ o ∈ xPorch, zoR wX o 4 7 (o + 7) := fun o ho => zoR_of ((show ∀ o ∈ xPorch, zoRb wX o 4 7 (o + 7) = true by decide +kernel) o ho)
theorem xA_X4_7 : ∀ o ∈ xPorch, zaI wX (o + 7) 14 := fun o ho => zaI_of ((show ∀ o ∈ xPorch, zaIb wX (o + 7) 0 14 = true by decide +kernel) o ho)
theorem xR_X4_8 : ∀ o ∈ xPorch, zoR wX o 4 8 (o + 8) := fun o ho => zoR_of ((show ∀ o ∈ xPorch, zoRb wX o 4 8 (o + 8) = true by decide +kernel) o ho)
theorem xA_X4_8 : ∀ o ∈ xPorch, zaI wX (o + 8) 14 := fun o ho => zaI_of ((show ∀ o ∈ xPorch, zaIb wX (o + 8) 0 14 = true by decide +kernel) o ho)
theorem xI_X4_9 : ∀ o ∈ xPorch, zoI wX o 4 9 := fun o ho => zoI_of ((show ∀ o ∈ xPorch, zoIb wX o 4 9 = true by decide +kernel) o ho)
theorem xI_X4_10 : ∀ o ∈ xPorch, zoI wX o 4 10 := fun o ho => zoI_of ((show ∀ o ∈ xPorch, zoIb wX o 4 10 = true by decide +kernel) o ho)
theorem xI_X4_11 : ∀ o ∈ xPorch, zoI wX o 4 11 := fun o ho => zoI_of ((show ∀ o ∈ xPorch, zoIb wX o 4 11 = true by decide +kernel) o ho)
theorem xI_X4_12 : ∀ o ∈ xPorch, zoI wX o 4 12 := fun o ho => zoI_of ((show ∀ o ∈ xPorch, zoIb wX o 4 12 = true by decide +kernel) o ho)
theorem xI_X4_13 : ∀ o ∈ xPorch, zoI wX o 4 13 := fun o ho => zoI_of ((show ∀ o ∈ xPorch, zoIb wX o 4 13 = true by decide +kernel) o ho)
theorem xI_X4_14 : ∀ o ∈ xPorch, zoI wX o 4 14 := fun o ho => zoI_of ((show ∀ o ∈ xPorch, zoIb wX o 4 14 = true by decide +kernel) o ho)
theorem xI_X2_0 : ∀ o ∈ xLines, zoI wX o 2 0 := fun o ho => zoI_of ((show ∀ o ∈ xLines, zoIb wX o 2 0 = true by decide +kernel) o ho)
theorem xR_X2_1 : ∀ o ∈ xLines, zoR wX o 2 1 (o + 1) := fun o ho => zoR_of ((show ∀ o ∈ xLines, zoRb wX o 2 1 (o + 1) = true by decide +kernel) o ho)
theorem xA_X2_1 : ∀ o ∈ xLines, zaI wX (o + 1) (zln wX (o + 1)) := fun o ho => zaI_of ((show ∀ o ∈ xLines, zaIb wX (o + 1) 0 (zln wX (o + 1)) = true by decide +kernel) o ho)
theorem xI_X2_2 : ∀ o ∈ xLines, zoI wX o 2 2 := fun o ho => zoI_of ((show ∀ o ∈ xLines, zoIb wX o 2 2 = true by decide +kernel) o ho)
theorem xR_X1_0 : ∀ o ∈ xLaw, zoR wX o 1 0 (o + 1) := fun o ho => zoR_of ((show ∀ o ∈ xLaw, zoRb wX o 1 0 (o + 1) = true by decide +kernel) o ho)
theorem xA_X1_0 : ∀ o ∈ xLaw, zaI wX (o + 1) 16 := fun o ho => zaI_of ((show ∀ o ∈ xLaw, zaIb wX (o + 1) 0 16 = true by decide +kernel) o ho)
theorem xR_X1_1 : ∀ o ∈ xLaw, zoR wX o 1 1 (o + 2) := fun o ho => zoR_of ((show ∀ o ∈ xLaw, zoRb wX o 1 1 (o + 2) = true by decide +kernel) o ho)
theorem xA_X1_1 : ∀ o ∈ xLaw, zaI wX (o + 2) 16 := fun o ho => zaI_of ((show ∀ o ∈ xLaw, zaIb wX (o + 2) 0 16 = true by decide +kernel) o ho)
theorem xR_X1_2 : ∀ o ∈ xLaw, zoR wX o 1 2 (o + 3) := fun o ho => zoR_of ((show ∀ o ∈ xLaw, zoRb wX o 1 2 (o + 3) = true by decide +kernel) o ho)
theorem xA_X1_2 : ∀ o ∈ xLaw, zaI wX (o + 3) 16 := fun o ho => zaI_of ((show ∀ o ∈ xLaw, zaIb wX (o + 3) 0 16 = true by decide +kernel) o ho)
theorem xR_X1_3 : ∀ o ∈ xLaw, zoR wX o 1 3 (o + 4) := fun o ho => zoR_of ((show ∀ o ∈ xLaw, zoRb wX o 1 3 (o + 4) = true by decide +kernel) o ho)
theorem xA_X1_3 : ∀ o ∈ xLaw, zaI wX (o + 4) 16 := fun o ho => zaI_of ((show ∀ o ∈ xLaw, zaIb wX (o + 4) 0 16 = true by decide +kernel) o ho)
theorem xR_X1_4 : ∀ o ∈ xLaw, zoR wX o 1 4 (o + 5) := fun o ho => zoR_of ((show ∀ o ∈ xLaw, zoRb wX o 1 4 (o + 5) = true by decide +kernel) o ho)
theorem xA_X1_4 : ∀ o ∈ xLaw, zaI wX (o + 5) 400 := fun o ho => zaI_of ((show ∀ o ∈ xLaw, zaIb wX (o + 5) 0 400 = true by decide +kernel) o ho)
theorem xR_X1_5 : ∀ o ∈ xLaw, zoR wX o 1 5 (o + 6) := fun o ho => zoR_of ((show ∀ o ∈ xLaw, zoRb wX o 1 5 (o + 6) = true by decide +kernel) o ho)
theorem xA_X1_5 : ∀ o ∈ xLaw, zaI wX (o + 6) 26 := fun o ho => zaI_of ((show ∀ o ∈ xLaw, zaIb wX (o + 6) 0 26 = true by decide +kernel) o ho)
theorem xI_X1_6 : ∀ o ∈ xLaw, zoI wX o 1 6 := fun o ho => zoI_of ((show ∀ o ∈ xLaw, zoIb wX o 1 6 = true by decide +kernel) o ho)
theorem xI_X1_7 : ∀ o ∈ xLaw, zoI wX o 1 7 := fun o ho => zoI_of ((show ∀ o ∈ xLaw, zoIb wX o 1 7 = true by decide +kernel) o ho)
theorem xR_X7_0 : ∀ o ∈ xRow, zoR wX o 7 0 (o + 1) := fun o ho => zoR_of ((show ∀ o ∈ xRow, zoRb wX o 7 0 (o + 1) = true by decide +kernel) o ho)
theorem xA_X7_0 : ∀ o ∈ xRow, zaI wX (o + 1) (zln wX (o + 1)) := fun o ho => zaI_of ((show ∀ o ∈ xRow, zaIb wX (o + 1) 0 (zln wX (o + 1)) = true by decide +kernel) o ho)
theorem xI_X7_1 : ∀ o ∈ xRow, zoI wX o 7 1 := fun o ho => zoI_of ((show ∀ o ∈ xRow, zoIb wX o 7 1 = true by decide +kernel) o ho)
theorem xR_X8_0 : ∀ o ∈ xTold, zoR wX o 8 0 (o + 1) := fun o ho => zoR_of ((show ∀ o ∈ xTold, zoRb wX o 8 0 (o + 1) = true by decide +kernel) o ho)
theorem xC_X8_0 : ∀ o ∈ xTold, (o + 1) ∈ xRow := by decide +kernel
theorem xR_X8_1 : ∀ o ∈ xTold, zoR wX o 8 1 (o + 3) := fun o ho => zoR_of ((show ∀ o ∈ xTold, zoRb wX o 8 1 (o + 3) = true by decide +kernel) o ho)
theorem xC_X8_1 : ∀ o ∈ xTold, (o + 3) ∈ xRow := by decide +kernel
theorem xR_X8_2 : ∀ o ∈ xTold, zoR wX o 8 2 (o + 5) := fun o ho => zoR_of ((show ∀ o ∈ xTold, zoRb wX o 8 2 (o + 5) = true by decide +kernel) o ho)
theorem xC_X8_2 : ∀ o ∈ xTold, (o + 5) ∈ xRow := by decide +kernel
theorem xR_X8_3 : ∀ o ∈ xTold, zoR wX o 8 3 (o + 7) := fun o ho => zoR_of ((show ∀ o ∈ xTold, zoRb wX o 8 3 (o + 7) = true by decide +kernel) o ho)
theorem xC_X8_3 : ∀ o ∈ xTold, (o + 7) ∈ xRow := by decide +kernel
theorem xR_X8_4 : ∀ o ∈ xTold, zoR wX o 8 4 (o + 9) := fun o ho => zoR_of ((show ∀ o ∈ xTold, zoRb wX o 8 4 (o + 9) = true by decide +kernel) o ho)
theorem xC_X8_4 : ∀ o ∈ xTold, (o + 9) ∈ xRow := by decide +kernel
theorem xR_X8_5 : ∀ o ∈ xTold, zoR wX o 8 5 (o + 11) := fun o ho => zoR_of ((show ∀ o ∈ xTold, zoRb wX o 8 5 (o + 11) = true by decide +kernel) o ho)
theorem xC_X8_5 : ∀ o ∈ xTold, (o + 11) ∈ xRow := by decide +kernel
theorem xR_X8_6 : ∀ o ∈ xTold, zoR wX o 8 6 (o + 13) := fun o ho => zoR_of ((show ∀ o ∈ xTold, zoRb wX o 8 6 (o + 13) = true by decide +kernel) o ho)
theorem xA_X8_6 : ∀ o ∈ xTold, zaI wX (o + 13) 36 := fun o ho => zaI_of ((show ∀ o ∈ xTold, zaIb wX (o + 13) 0 36 = true by decide +kernel) o ho)
theorem xR_X9_0 : ∀ o ∈ xWhole, zoR wX o 9 0 (o + 1) := fun o ho => zoR_of ((show ∀ o ∈ xWhole, zoRb wX o 9 0 (o + 1) = true by decide +kernel) o ho)
theorem xC_X9_0 : ∀ o ∈ xWhole, (o + 1) ∈ xPorch := by decide +kernel
theorem xR_X9_1 : ∀ o ∈ xWhole, zoR wX o 9 1 (o + 10) := fun o ho => zoR_of ((show ∀ o ∈ xWhole, zoRb wX o 9 1 (o + 10) = true by decide +kernel) o ho)
theorem xC_X9_1 : ∀ o ∈ xWhole, (o + 10) ∈ xLines := by decide +kernel
theorem xR_X9_2 : ∀ o ∈ xWhole, zoR wX o 9 2 (o + 12) := fun o ho => zoR_of ((show ∀ o ∈ xWhole, zoRb wX o 9 2 (o + 12) = true by decide +kernel) o ho)
theorem xC_X9_2 : ∀ o ∈ xWhole, (o + 12) ∈ xLaw := by decide +kernel
theorem xR_X9_3 : ∀ o ∈ xWhole, zoR wX o 9 3 (o + 19) := fun o ho => zoR_of ((show ∀ o ∈ xWhole, zoRb wX o 9 3 (o + 19) = true by decide +kernel) o ho)
theorem xC_X9_3 : ∀ o ∈ xWhole, (o + 19) ∈ xLines := by decide +kernel
theorem xR_X9_4 : ∀ o ∈ xWhole, zoR wX o 9 4 (o + 21) := fun o ho => zoR_of ((show ∀ o ∈ xWhole, zoRb wX o 9 4 (o + 21) = true by decide +kernel) o ho)
theorem xC_X9_4 : ∀ o ∈ xWhole, (o + 21) ∈ xLines := by decide +kernel
theorem xR_X9_5 : ∀ o ∈ xWhole, zoR wX o 9 5 (o + 23) := fun o ho => zoR_of ((show ∀ o ∈ xWhole, zoRb wX o 9 5 (o + 23) = true by decide +kernel) o ho)
theorem xC_X9_5 : ∀ o ∈ xWhole, (o + 23) ∈ xLines := by decide +kernel
theorem xR_X9_6 : ∀ o ∈ xWhole, zoR wX o 9 6 (o + 25) := fun o ho => zoR_of ((show ∀ o ∈ xWhole, zoRb wX o 9 6 (o + 25) = true by decide +kernel) o ho)
theorem xC_X9_6 : ∀ o ∈ xWhole, (o + 25) ∈ xTold := by decide +kernel
theorem xO_X10 : zoC wX 0 RX10 := ⟨10, (RX10, TX10, 8), by decide +kernel, by decide +kernel, rfl, rfl⟩
theorem xR_0_0 : zoR wX 0 10 0 1 := zoR_of (by decide +kernel)
theorem xR_0_1 : zoR wX 0 10 1 40 := zoR_of (by decide +kernel)
theorem xI_0_2 : zoI wX 0 10 2 := zoI_of (by decide +kernel)
theorem xR_0_3 : zoR wX 0 10 3 79 := zoR_of (by decide +kernel)
theorem xR_0_4 : zoR wX 0 10 4 136 := zoR_of (by decide +kernel)
theorem xR_0_5 : zoR wX 0 10 5 145 := zoR_of (by decide +kernel)
theorem xR_0_6 : zoR wX 0 10 6 159 := zoR_of (by decide +kernel)
theorem xR_0_7 : zoR wX 0 10 7 161 := zoR_of (by decide +kernel)
theorem xO_X3 : zoC wX 79 RX3 := ⟨3, (RX3, TX3, 4), by decide +kernel, by decide +kernel, rfl, rfl⟩
theorem xR_79_0 : zoR wX 79 3 0 80 := zoR_of (by decide +kernel)
theorem xR_79_1 : zoR wX 79 3 1 81 := zoR_of (by decide +kernel)
theorem xI_79_2 : zoI wX 79 3 2 := zoI_of (by decide +kernel)
theorem xI_79_3 : zoI wX 79 3 3 := zoI_of (by decide +kernel)
theorem xO_X6 : zoC wX 145 RX6 := ⟨6, (RX6, TX6, 14), by decide +kernel, by decide +kernel, rfl, rfl⟩
theorem xR_145_0 : zoR wX 145 6 0 146 := zoR_of (by decide +kernel)
theorem xI_145_1 : zoI wX 145 6 1 := zoI_of (by decide +kernel)
theorem xR_145_2 : zoR wX 145 6 2 147 := zoR_of (by decide +kernel)
theorem xR_145_3 : zoR wX 145 6 3 148 := zoR_of (by decide +kernel)
theorem xR_145_4 : zoR wX 145 6 4 149 := zoR_of (by decide +kernel)
theorem xI_145_5 : zoI wX 145 6 5 := zoI_of (by decide +kernel)
theorem xI_145_6 : zoI wX 145 6 6 := zoI_of (by decide +kernel)
theorem xI_145_7 : zoI wX 145 6 7 := zoI_of (by decide +kernel)
theorem xI_145_8 : zoI wX 145 6 8 := zoI_of (by decide +kernel)
theorem xI_145_9 : zoI wX 145 6 9 := zoI_of (by decide +kernel)
theorem xR_145_10 : zoR wX 145 6 10 150 := zoR_of (by decide +kernel)
theorem xR_145_11 : zoR wX 145 6 11 157 := zoR_of (by decide +kernel)
theorem xI_145_12 : zoI wX 145 6 12 := zoI_of (by decide +kernel)
theorem xI_145_13 : zoI wX 145 6 13 := zoI_of (by decide +kernel)
theorem xO_X0 : zoC wX 159 RX0 := ⟨0, (RX0, TX0, 2), by decide +kernel, by decide +kernel, rfl, rfl⟩
theorem xR_159_0 : zoR wX 159 0 0 1 := zoR_of (by decide +kernel)
theorem xR_159_1 : zoR wX 159 0 1 160 := zoR_of (by decide +kernel)
theorem xO_X5 : zoC wX 161 RX5 := ⟨5, (RX5, TX5, 5), by decide +kernel, by decide +kernel, rfl, rfl⟩
theorem xR_161_0 : zoR wX 161 5 0 26 := zoR_of (by decide +kernel)
theorem xR_161_1 : zoR wX 161 5 1 162 := zoR_of (by decide +kernel)
theorem xR_161_2 : zoR wX 161 5 2 163 := zoR_of (by decide +kernel)
theorem xR_161_3 : zoR wX 161 5 3 164 := zoR_of (by decide +kernel)
theorem xR_161_4 : zoR wX 161 5 4 165 := zoR_of (by decide +kernel)
theorem xA_3 : zaI wX 3 10 := zaI_of (by decide +kernel)
theorem xA_4 : zaI wX 4 10 := zaI_of (by decide +kernel)
theorem xA_5 : zaI wX 5 10 := zaI_of (by decide +kernel)
theorem xA_6 : zaI wX 6 10 := zaI_of (by decide +kernel)
theorem xA_7 : zaI wX 7 14 := zaI_of (by decide +kernel)
theorem xA_8 : zaI wX 8 14 := zaI_of (by decide +kernel)
theorem xA_9 : zaI wX 9 14 := zaI_of (by decide +kernel)
theorem xA_10 : zaI wX 10 14 := zaI_of (by decide +kernel)
theorem xA_12 : zaI wX 12 600 := zaI_of (by decide +kernel)
theorem xA_14 : zaI wX 14 16 := zaI_of (by decide +kernel)
theorem xA_15 : zaI wX 15 16 := zaI_of (by decide +kernel)
theorem xA_16 : zaI wX 16 16 := zaI_of (by decide +kernel)
theorem xA_17 : zaI wX 17 16 := zaI_of (by decide +kernel)
theorem xA_18 : zaI wX 18 400 := zaI_of (by decide +kernel)
theorem xA_19 : zaI wX 19 26 := zaI_of (by decide +kernel)
theorem xA_21 : zaI wX 21 64 := zaI_of (by decide +kernel)
theorem xA_23 : zaI wX 23 64 := zaI_of (by decide +kernel)
theorem xA_25 : zaI wX 25 64 := zaI_of (by decide +kernel)
theorem xA_28 : zaI wX 28 4 := zaI_of (by decide +kernel)
theorem xA_30 : zaI wX 30 10 := zaI_of (by decide +kernel)
theorem xA_32 : zaI wX 32 8 := zaI_of (by decide +kernel)
theorem xA_34 : zaI wX 34 9 := zaI_of (by decide +kernel)
theorem xA_36 : zaI wX 36 10 := zaI_of (by decide +kernel)
theorem xA_38 : zaI wX 38 6 := zaI_of (by decide +kernel)
theorem xA_39 : zaI wX 39 36 := zaI_of (by decide +kernel)
theorem xA_42 : zaI wX 42 10 := zaI_of (by decide +kernel)
theorem xA_43 : zaI wX 43 10 := zaI_of (by decide +kernel)
theorem xA_44 : zaI wX 44 10 := zaI_of (by decide +kernel)
theorem xA_45 : zaI wX 45 10 := zaI_of (by decide +kernel)
theorem xA_46 : zaI wX 46 14 := zaI_of (by decide +kernel)
theorem xA_47 : zaI wX 47 14 := zaI_of (by decide +kernel)
theorem xA_48 : zaI wX 48 14 := zaI_of (by decide +kernel)
theorem xA_49 : zaI wX 49 14 := zaI_of (by decide +kernel)
theorem xA_51 : zaI wX 51 600 := zaI_of (by decide +kernel)
theorem xA_53 : zaI wX 53 16 := zaI_of (by decide +kernel)
theorem xA_54 : zaI wX 54 16 := zaI_of (by decide +kernel)
theorem xA_55 : zaI wX 55 16 := zaI_of (by decide +kernel)
theorem xA_56 : zaI wX 56 16 := zaI_of (by decide +kernel)
theorem xA_57 : zaI wX 57 400 := zaI_of (by decide +kernel)
theorem xA_58 : zaI wX 58 26 := zaI_of (by decide +kernel)
theorem xA_60 : zaI wX 60 64 := zaI_of (by decide +kernel)
theorem xA_62 : zaI wX 62 64 := zaI_of (by decide +kernel)
theorem xA_64 : zaI wX 64 64 := zaI_of (by decide +kernel)
theorem xA_67 : zaI wX 67 4 := zaI_of (by decide +kernel)
theorem xA_69 : zaI wX 69 10 := zaI_of (by decide +kernel)
theorem xA_71 : zaI wX 71 8 := zaI_of (by decide +kernel)
theorem xA_73 : zaI wX 73 9 := zaI_of (by decide +kernel)
theorem xA_75 : zaI wX 75 10 := zaI_of (by decide +kernel)
theorem xA_77 : zaI wX 77 6 := zaI_of (by decide +kernel)
theorem xA_78 : zaI wX 78 36 := zaI_of (by decide +kernel)
theorem xA_81 : zaI wX 81 6 := zaI_of (by decide +kernel)
theorem xA_83 : zaI wX 83 10 := zaI_of (by decide +kernel)
theorem xA_84 : zaI wX 84 10 := zaI_of (by decide +kernel)
theorem xA_85 : zaI wX 85 10 := zaI_of (by decide +kernel)
theorem xA_86 : zaI wX 86 10 := zaI_of (by decide +kernel)
theorem xA_87 : zaI wX 87 14 := zaI_of (by decide +kernel)
theorem xA_88 : zaI wX 88 14 := zaI_of (by decide +kernel)
theorem xA_89 : zaI wX 89 14 := zaI_of (by decide +kernel)
theorem xA_90 : zaI wX 90 14 := zaI_of (by decide +kernel)
theorem xA_92 : zaI wX 92 10 := zaI_of (by decide +kernel)
theorem xA_93 : zaI wX 93 10 := zaI_of (by decide +kernel)
theorem xA_94 : zaI wX 94 10 := zaI_of (by decide +kernel)
theorem xA_95 : zaI wX 95 10 := zaI_of (by decide +kernel)
theorem xA_96 : zaI wX 96 14 := zaI_of (by decide +kernel)
theorem xA_97 : zaI wX 97 14 := zaI_of (by decide +kernel)
theorem xA_98 : zaI wX 98 14 := zaI_of (by decide +kernel)
theorem xA_99 : zaI wX 99 14 := zaI_of (by decide +kernel)
theorem xA_101 : zaI wX 101 10 := zaI_of (by decide +kernel)
theorem xA_102 : zaI wX 102 10 := zaI_of (by decide +kernel)
theorem xA_103 : zaI wX 103 10 := zaI_of (by decide +kernel)
theorem xA_104 : zaI wX 104 10 := zaI_of (by decide +kernel)
theorem xA_105 : zaI wX 105 14 := zaI_of (by decide +kernel)
theorem xA_106 : zaI wX 106 14 := zaI_of (by decide +kernel)
theorem xA_107 : zaI wX 107 14 := zaI_of (by decide +kernel)
theorem xA_108 : zaI wX 108 14 := zaI_of (by decide +kernel)
theorem xA_110 : zaI wX 110 10 := zaI_of (by decide +kernel)
theorem xA_111 : zaI wX 111 10 := zaI_of (by decide +kernel)
theorem xA_112 : zaI wX 112 10 := zaI_of (by decide +kernel)
theorem xA_113 : zaI wX 113 10 := zaI_of (by decide +kernel)
theorem xA_114 : zaI wX 114 14 := zaI_of (by decide +kernel)
theorem xA_115 : zaI wX 115 14 := zaI_of (by decide +kernel)
theorem xA_116 : zaI wX 116 14 := zaI_of (by decide +kernel)
theorem xA_117 : zaI wX 117 14 := zaI_of (by decide +kernel)
theorem xA_119 : zaI wX 119 10 := zaI_of (by decide +kernel)
theorem xA_120 : zaI wX 120 10 := zaI_of (by decide +kernel)
theorem xA_121 : zaI wX 121 10 := zaI_of (by decide +kernel)
theorem xA_122 : zaI wX 122 10 := zaI_of (by decide +kernel)
theorem xA_123 : zaI wX 123 14 := zaI_of (by decide +kernel)
theorem xA_124 : zaI wX 124 14 := zaI_of (by decide +kernel)
theorem xA_125 : zaI wX 125 14 := zaI_of (by decide +kernel)
theorem xA_126 : zaI wX 126 14 := zaI_of (by decide +kernel)
theorem xA_128 : zaI wX 128 10 := zaI_of (by decide +kernel)
theorem xA_129 : zaI wX 129 10 := zaI_of (by decide +kernel)
theorem xA_130 : zaI wX 130 10 := zaI_of (by decide +kernel)
theorem xA_131 : zaI wX 131 10 := zaI_of (by decide +kernel)
theorem xA_132 : zaI wX 132 14 := zaI_of (by decide +kernel)
theorem xA_133 : zaI wX 133 14 := zaI_of (by decide +kernel)
theorem xA_134 : zaI wX 134 14 := zaI_of (by decide +kernel)
theorem xA_135 : zaI wX 135 14 := zaI_of (by decide +kernel)
theorem xA_137 : zaI wX 137 10 := zaI_of (by decide +kernel)
theorem xA_138 : zaI wX 138 10 := zaI_of (by decide +kernel)
theorem xA_139 : zaI wX 139 10 := zaI_of (by decide +kernel)
theorem xA_140 : zaI wX 140 10 := zaI_of (by decide +kernel)
theorem xA_141 : zaI wX 141 14 := zaI_of (by decide +kernel)
theorem xA_142 : zaI wX 142 14 := zaI_of (by decide +kernel)
theorem xA_143 : zaI wX 143 14 := zaI_of (by decide +kernel)
theorem xA_144 : zaI wX 144 14 := zaI_of (by decide +kernel)
theorem xA_146 : zaC wX 146 400 := zaC_of (by decide +kernel)
theorem xA_147 : zaI wX 147 401 := zaI_of (by decide +kernel)
theorem xA_148 : zaI wX 148 401 := zaI_of (by decide +kernel)
theorem xA_149 : zaI wX 149 401 := zaI_of (by decide +kernel)
theorem xA_151 : zaI wX 151 16 := zaI_of (by decide +kernel)
theorem xA_152 : zaI wX 152 16 := zaI_of (by decide +kernel)
theorem xA_153 : zaI wX 153 16 := zaI_of (by decide +kernel)
theorem xA_154 : zaI wX 154 16 := zaI_of (by decide +kernel)
theorem xA_155 : zaI wX 155 400 := zaI_of (by decide +kernel)
theorem xA_156 : zaI wX 156 26 := zaI_of (by decide +kernel)
theorem xA_158 : zaI wX 158 64 := zaI_of (by decide +kernel)
theorem xA_160 : zaI wX 160 9 := zaI_of (by decide +kernel)
theorem xA_162 : zaI wX 162 10 := zaI_of (by decide +kernel)
theorem xA_163 : zaI wX 163 10 := zaI_of (by decide +kernel)
theorem xA_164 : zaI wX 164 896 := zaI_of (by decide +kernel)
theorem xA_165 : zaI wX 165 512 := zaI_of (by decide +kernel)
theorem xP_80 : zaP wX 80 6 (fun i => 82 + 9 * i) := ⟨by decide +kernel, by decide +kernel, by decide +kernel, by decide +kernel⟩
theorem xPp {i : Int32} (hi : vp_in i 6) : 82 + 9 * i.toNatClampNeg ∈ xPorch := by
  have hlt : i.toNatClampNeg < 6 := Nat.not_le.mp fun q => hi (Or.inr q)
  exact (show ∀ k, k < 6 → 82 + 9 * k ∈ xPorch by decide +kernel) _ hlt
theorem ac_n : Cond.native arraycopyName ∈ zTb := zTb_in 618 (by decide +kernel) rfl
theorem ac_s : Cond.static arraycopyName ∈ zTb := zTb_in 617 (by decide +kernel) rfl
theorem ac_i : Cond.initialized "java/lang/System" ∈ zTb := zTb_in 149 (by decide +kernel) rfl
theorem ms_Math : Cond.initialized "java/lang/Math" ∈ zTb := zTb_in 150 (by decide +kernel) rfl
theorem ms_max : Cond.static Lib.Math.max.name ∈ zTb := zTb_in 677 (by decide +kernel) rfl
theorem mc_max : Cond.code Lib.Math.max.name Lib.Math.max.code 2 (some .int) ∈ zTb := zTb_in 678 (by decide +kernel) rfl
theorem ms_min : Cond.static Lib.Math.min.name ∈ zTb := zTb_in 620 (by decide +kernel) rfl
theorem mc_min : Cond.code Lib.Math.min.name Lib.Math.min.code 2 (some .int) ∈ zTb := zTb_in 621 (by decide +kernel) rfl
