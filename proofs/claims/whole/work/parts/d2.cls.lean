-- ===== the class's constructors
abbrev mX10_init : zMt := (yX10_init, cX10_init, 1, none)
theorem dX10_init_0 : decode cX10_init 0 = .ok (.aload_n 0, 1) := by decide +kernel
theorem dX10_init_1 : decode cX10_init 1 = .ok (.invokespecial 3, 3) := by decide +kernel
theorem dX10_init_4 : decode cX10_init 4 = .ok (.aload_n 0, 1) := by decide +kernel
theorem dX10_init_5 : decode cX10_init 5 = .ok (.new 9, 3) := by decide +kernel
theorem dX10_init_8 : decode cX10_init 8 = .ok (.dup, 1) := by decide +kernel
theorem dX10_init_9 : decode cX10_init 9 = .ok (.invokespecial 11, 3) := by decide +kernel
theorem dX10_init_12 : decode cX10_init 12 = .ok (.putfield 12, 3) := by decide +kernel
theorem dX10_init_15 : decode cX10_init 15 = .ok (.aload_n 0, 1) := by decide +kernel
theorem dX10_init_16 : decode cX10_init 16 = .ok (.new 9, 3) := by decide +kernel
theorem dX10_init_19 : decode cX10_init 19 = .ok (.dup, 1) := by decide +kernel
theorem dX10_init_20 : decode cX10_init 20 = .ok (.invokespecial 11, 3) := by decide +kernel
theorem dX10_init_23 : decode cX10_init 23 = .ok (.putfield 16, 3) := by decide +kernel
theorem dX10_init_26 : decode cX10_init 26 = .ok (.aload_n 0, 1) := by decide +kernel
theorem dX10_init_27 : decode cX10_init 27 = .ok (.iconst 0, 1) := by decide +kernel
theorem dX10_init_28 : decode cX10_init 28 = .ok (.putfield 19, 3) := by decide +kernel
theorem dX10_init_31 : decode cX10_init 31 = .ok (.aload_n 0, 1) := by decide +kernel
theorem dX10_init_32 : decode cX10_init 32 = .ok (.new 23, 3) := by decide +kernel
theorem dX10_init_35 : decode cX10_init 35 = .ok (.dup, 1) := by decide +kernel
theorem dX10_init_36 : decode cX10_init 36 = .ok (.invokespecial 25, 3) := by decide +kernel
theorem dX10_init_39 : decode cX10_init 39 = .ok (.putfield 26, 3) := by decide +kernel
theorem dX10_init_42 : decode cX10_init 42 = .ok (.aload_n 0, 1) := by decide +kernel
theorem dX10_init_43 : decode cX10_init 43 = .ok (.new 30, 3) := by decide +kernel
theorem dX10_init_46 : decode cX10_init 46 = .ok (.dup, 1) := by decide +kernel
theorem dX10_init_47 : decode cX10_init 47 = .ok (.iconst 1, 1) := by decide +kernel
theorem dX10_init_48 : decode cX10_init 48 = .ok (.invokespecial 32, 3) := by decide +kernel
theorem dX10_init_51 : decode cX10_init 51 = .ok (.putfield 35, 3) := by decide +kernel
theorem dX10_init_54 : decode cX10_init 54 = .ok (.aload_n 0, 1) := by decide +kernel
theorem dX10_init_55 : decode cX10_init 55 = .ok (.new 39, 3) := by decide +kernel
theorem dX10_init_58 : decode cX10_init 58 = .ok (.dup, 1) := by decide +kernel
theorem dX10_init_59 : decode cX10_init 59 = .ok (.invokespecial 41, 3) := by decide +kernel
theorem dX10_init_62 : decode cX10_init 62 = .ok (.putfield 42, 3) := by decide +kernel
theorem dX10_init_65 : decode cX10_init 65 = .ok (.aload_n 0, 1) := by decide +kernel
theorem dX10_init_66 : decode cX10_init 66 = .ok (.new 46, 3) := by decide +kernel
theorem dX10_init_69 : decode cX10_init 69 = .ok (.dup, 1) := by decide +kernel
theorem dX10_init_70 : decode cX10_init 70 = .ok (.aload_n 0, 1) := by decide +kernel
theorem dX10_init_71 : decode cX10_init 71 = .ok (.getfield 12, 3) := by decide +kernel
theorem dX10_init_74 : decode cX10_init 74 = .ok (.invokespecial 48, 3) := by decide +kernel
theorem dX10_init_77 : decode cX10_init 77 = .ok (.putfield 51, 3) := by decide +kernel
theorem dX10_init_80 : decode cX10_init 80 = .ok (.aload_n 0, 1) := by decide +kernel
theorem dX10_init_81 : decode cX10_init 81 = .ok (.new 55, 3) := by decide +kernel
theorem dX10_init_84 : decode cX10_init 84 = .ok (.dup, 1) := by decide +kernel
theorem dX10_init_85 : decode cX10_init 85 = .ok (.aload_n 0, 1) := by decide +kernel
theorem dX10_init_86 : decode cX10_init 86 = .ok (.getfield 12, 3) := by decide +kernel
theorem dX10_init_89 : decode cX10_init 89 = .ok (.getfield 57, 3) := by decide +kernel
theorem dX10_init_92 : decode cX10_init 92 = .ok (.invokespecial 61, 3) := by decide +kernel
theorem dX10_init_95 : decode cX10_init 95 = .ok (.putfield 64, 3) := by decide +kernel
theorem dX10_init_98 : decode cX10_init 98 = .ok (.return_, 1) := by decide +kernel
theorem io_obj : Cond.instanceMethod Lib.objectInit ∈ zTb := zTb_in 163 (by decide +kernel) rfl
theorem co_obj : Cond.code Lib.objectInit ⟨#[0xb1]⟩ 1 none ∈ zTb := zTb_in 164 (by decide +kernel) rfl
theorem mo_X10 : Cond.methodLink RX10 3 Lib.objectInit ∈ zTb := zTb_in 162 (by decide +kernel) rfl
theorem cl_X10_9 : Cond.classLink RX10 9 RX9 ∈ zTb := zTb_in 165 (by decide +kernel) rfl
theorem it_X9 : Cond.instantiable RX9 7 ∈ zTb := zTb_in 166 (by decide +kernel) rfl
theorem ii_X9 : Cond.initialized RX9 ∈ zTb := zTb_in 138 (by decide +kernel) rfl
theorem df_X9 : ∀ j, j < 7 → defaultValue (tyX9 j) = vp_V [.null, .null, .null, .null, .null, .null, .null] j := by decide +kernel
abbrev mX9_init : zMt := (yX9_init, cX9_init, 1, none)
theorem dX9_init_0 : decode cX9_init 0 = .ok (.aload_n 0, 1) := by decide +kernel
theorem dX9_init_1 : decode cX9_init 1 = .ok (.invokespecial 3, 3) := by decide +kernel
theorem dX9_init_4 : decode cX9_init 4 = .ok (.aload_n 0, 1) := by decide +kernel
theorem dX9_init_5 : decode cX9_init 5 = .ok (.new 9, 3) := by decide +kernel
theorem dX9_init_8 : decode cX9_init 8 = .ok (.dup, 1) := by decide +kernel
theorem dX9_init_9 : decode cX9_init 9 = .ok (.iconst 0, 1) := by decide +kernel
theorem dX9_init_10 : decode cX9_init 10 = .ok (.invokespecial 11, 3) := by decide +kernel
theorem dX9_init_13 : decode cX9_init 13 = .ok (.putfield 14, 3) := by decide +kernel
theorem dX9_init_16 : decode cX9_init 16 = .ok (.aload_n 0, 1) := by decide +kernel
theorem dX9_init_17 : decode cX9_init 17 = .ok (.new 20, 3) := by decide +kernel
theorem dX9_init_20 : decode cX9_init 20 = .ok (.dup, 1) := by decide +kernel
theorem dX9_init_21 : decode cX9_init 21 = .ok (.sipush 150, 3) := by decide +kernel
theorem dX9_init_24 : decode cX9_init 24 = .ok (.invokespecial 22, 3) := by decide +kernel
theorem dX9_init_27 : decode cX9_init 27 = .ok (.putfield 25, 3) := by decide +kernel
theorem dX9_init_30 : decode cX9_init 30 = .ok (.aload_n 0, 1) := by decide +kernel
theorem dX9_init_31 : decode cX9_init 31 = .ok (.new 29, 3) := by decide +kernel
theorem dX9_init_34 : decode cX9_init 34 = .ok (.dup, 1) := by decide +kernel
theorem dX9_init_35 : decode cX9_init 35 = .ok (.invokespecial 31, 3) := by decide +kernel
theorem dX9_init_38 : decode cX9_init 38 = .ok (.putfield 32, 3) := by decide +kernel
theorem dX9_init_41 : decode cX9_init 41 = .ok (.aload_n 0, 1) := by decide +kernel
theorem dX9_init_42 : decode cX9_init 42 = .ok (.new 20, 3) := by decide +kernel
theorem dX9_init_45 : decode cX9_init 45 = .ok (.dup, 1) := by decide +kernel
theorem dX9_init_46 : decode cX9_init 46 = .ok (.bipush 16, 2) := by decide +kernel
theorem dX9_init_48 : decode cX9_init 48 = .ok (.invokespecial 22, 3) := by decide +kernel
theorem dX9_init_51 : decode cX9_init 51 = .ok (.putfield 36, 3) := by decide +kernel
theorem dX9_init_54 : decode cX9_init 54 = .ok (.aload_n 0, 1) := by decide +kernel
theorem dX9_init_55 : decode cX9_init 55 = .ok (.new 20, 3) := by decide +kernel
theorem dX9_init_58 : decode cX9_init 58 = .ok (.dup, 1) := by decide +kernel
theorem dX9_init_59 : decode cX9_init 59 = .ok (.bipush 16, 2) := by decide +kernel
theorem dX9_init_61 : decode cX9_init 61 = .ok (.invokespecial 22, 3) := by decide +kernel
theorem dX9_init_64 : decode cX9_init 64 = .ok (.putfield 39, 3) := by decide +kernel
theorem dX9_init_67 : decode cX9_init 67 = .ok (.aload_n 0, 1) := by decide +kernel
theorem dX9_init_68 : decode cX9_init 68 = .ok (.new 20, 3) := by decide +kernel
theorem dX9_init_71 : decode cX9_init 71 = .ok (.dup, 1) := by decide +kernel
theorem dX9_init_72 : decode cX9_init 72 = .ok (.bipush 16, 2) := by decide +kernel
theorem dX9_init_74 : decode cX9_init 74 = .ok (.invokespecial 22, 3) := by decide +kernel
theorem dX9_init_77 : decode cX9_init 77 = .ok (.putfield 42, 3) := by decide +kernel
theorem dX9_init_80 : decode cX9_init 80 = .ok (.aload_n 0, 1) := by decide +kernel
theorem dX9_init_81 : decode cX9_init 81 = .ok (.new 45, 3) := by decide +kernel
theorem dX9_init_84 : decode cX9_init 84 = .ok (.dup, 1) := by decide +kernel
theorem dX9_init_85 : decode cX9_init 85 = .ok (.invokespecial 47, 3) := by decide +kernel
theorem dX9_init_88 : decode cX9_init 88 = .ok (.putfield 48, 3) := by decide +kernel
theorem dX9_init_91 : decode cX9_init 91 = .ok (.return_, 1) := by decide +kernel
theorem mo_X9 : Cond.methodLink RX9 3 Lib.objectInit ∈ zTb := zTb_in 170 (by decide +kernel) rfl
theorem cl_X9_9 : Cond.classLink RX9 9 RX4 ∈ zTb := zTb_in 171 (by decide +kernel) rfl
theorem it_X4 : Cond.instantiable RX4 15 ∈ zTb := zTb_in 172 (by decide +kernel) rfl
theorem ii_X4 : Cond.initialized RX4 ∈ zTb := zTb_in 139 (by decide +kernel) rfl
theorem df_X4 : ∀ j, j < 15 → defaultValue (tyX4 j) = vp_V [.int (0 : Int32), .null, .null, .null, .null, .null, .null, .null, .null, .int (0 : Int32), .int (0 : Int32), .int (0 : Int32), .int (0 : Int32), .int (0 : Int32), .int (0 : Int32)] j := by decide +kernel
abbrev mX4_init : zMt := (yX4_init, cX4_init, 2, none)
theorem dX4_init_0 : decode cX4_init 0 = .ok (.aload_n 0, 1) := by decide +kernel
theorem dX4_init_1 : decode cX4_init 1 = .ok (.invokespecial 3, 3) := by decide +kernel
theorem dX4_init_4 : decode cX4_init 4 = .ok (.aload_n 0, 1) := by decide +kernel
theorem dX4_init_5 : decode cX4_init 5 = .ok (.bipush 10, 2) := by decide +kernel
theorem dX4_init_7 : decode cX4_init 7 = .ok (.newarray .int, 2) := by decide +kernel
theorem dX4_init_9 : decode cX4_init 9 = .ok (.putfield 9, 3) := by decide +kernel
theorem dX4_init_12 : decode cX4_init 12 = .ok (.aload_n 0, 1) := by decide +kernel
theorem dX4_init_13 : decode cX4_init 13 = .ok (.bipush 10, 2) := by decide +kernel
theorem dX4_init_15 : decode cX4_init 15 = .ok (.newarray .int, 2) := by decide +kernel
theorem dX4_init_17 : decode cX4_init 17 = .ok (.putfield 15, 3) := by decide +kernel
theorem dX4_init_20 : decode cX4_init 20 = .ok (.aload_n 0, 1) := by decide +kernel
theorem dX4_init_21 : decode cX4_init 21 = .ok (.bipush 10, 2) := by decide +kernel
theorem dX4_init_23 : decode cX4_init 23 = .ok (.newarray .int, 2) := by decide +kernel
theorem dX4_init_25 : decode cX4_init 25 = .ok (.putfield 18, 3) := by decide +kernel
theorem dX4_init_28 : decode cX4_init 28 = .ok (.aload_n 0, 1) := by decide +kernel
theorem dX4_init_29 : decode cX4_init 29 = .ok (.bipush 10, 2) := by decide +kernel
theorem dX4_init_31 : decode cX4_init 31 = .ok (.newarray .int, 2) := by decide +kernel
theorem dX4_init_33 : decode cX4_init 33 = .ok (.putfield 21, 3) := by decide +kernel
theorem dX4_init_36 : decode cX4_init 36 = .ok (.aload_n 0, 1) := by decide +kernel
theorem dX4_init_37 : decode cX4_init 37 = .ok (.bipush 14, 2) := by decide +kernel
theorem dX4_init_39 : decode cX4_init 39 = .ok (.newarray .int, 2) := by decide +kernel
theorem dX4_init_41 : decode cX4_init 41 = .ok (.putfield 24, 3) := by decide +kernel
theorem dX4_init_44 : decode cX4_init 44 = .ok (.aload_n 0, 1) := by decide +kernel
theorem dX4_init_45 : decode cX4_init 45 = .ok (.bipush 14, 2) := by decide +kernel
theorem dX4_init_47 : decode cX4_init 47 = .ok (.newarray .int, 2) := by decide +kernel
theorem dX4_init_49 : decode cX4_init 49 = .ok (.putfield 27, 3) := by decide +kernel
theorem dX4_init_52 : decode cX4_init 52 = .ok (.aload_n 0, 1) := by decide +kernel
theorem dX4_init_53 : decode cX4_init 53 = .ok (.bipush 14, 2) := by decide +kernel
theorem dX4_init_55 : decode cX4_init 55 = .ok (.newarray .int, 2) := by decide +kernel
theorem dX4_init_57 : decode cX4_init 57 = .ok (.putfield 30, 3) := by decide +kernel
theorem dX4_init_60 : decode cX4_init 60 = .ok (.aload_n 0, 1) := by decide +kernel
theorem dX4_init_61 : decode cX4_init 61 = .ok (.bipush 14, 2) := by decide +kernel
theorem dX4_init_63 : decode cX4_init 63 = .ok (.newarray .int, 2) := by decide +kernel
theorem dX4_init_65 : decode cX4_init 65 = .ok (.putfield 33, 3) := by decide +kernel
theorem dX4_init_68 : decode cX4_init 68 = .ok (.aload_n 0, 1) := by decide +kernel
theorem dX4_init_69 : decode cX4_init 69 = .ok (.iconst 0, 1) := by decide +kernel
theorem dX4_init_70 : decode cX4_init 70 = .ok (.putfield 36, 3) := by decide +kernel
theorem dX4_init_73 : decode cX4_init 73 = .ok (.aload_n 0, 1) := by decide +kernel
theorem dX4_init_74 : decode cX4_init 74 = .ok (.iconst 0, 1) := by decide +kernel
theorem dX4_init_75 : decode cX4_init 75 = .ok (.putfield 40, 3) := by decide +kernel
theorem dX4_init_78 : decode cX4_init 78 = .ok (.aload_n 0, 1) := by decide +kernel
theorem dX4_init_79 : decode cX4_init 79 = .ok (.iconst 0, 1) := by decide +kernel
theorem dX4_init_80 : decode cX4_init 80 = .ok (.putfield 43, 3) := by decide +kernel
theorem dX4_init_83 : decode cX4_init 83 = .ok (.aload_n 0, 1) := by decide +kernel
theorem dX4_init_84 : decode cX4_init 84 = .ok (.iconst 0, 1) := by decide +kernel
theorem dX4_init_85 : decode cX4_init 85 = .ok (.putfield 46, 3) := by decide +kernel
theorem dX4_init_88 : decode cX4_init 88 = .ok (.aload_n 0, 1) := by decide +kernel
theorem dX4_init_89 : decode cX4_init 89 = .ok (.iconst 0, 1) := by decide +kernel
theorem dX4_init_90 : decode cX4_init 90 = .ok (.putfield 49, 3) := by decide +kernel
theorem dX4_init_93 : decode cX4_init 93 = .ok (.aload_n 0, 1) := by decide +kernel
theorem dX4_init_94 : decode cX4_init 94 = .ok (.iconst 0, 1) := by decide +kernel
theorem dX4_init_95 : decode cX4_init 95 = .ok (.putfield 52, 3) := by decide +kernel
theorem dX4_init_98 : decode cX4_init 98 = .ok (.aload_n 0, 1) := by decide +kernel
theorem dX4_init_99 : decode cX4_init 99 = .ok (.iload_n 1, 1) := by decide +kernel
theorem dX4_init_100 : decode cX4_init 100 = .ok (.putfield 55, 3) := by decide +kernel
theorem dX4_init_103 : decode cX4_init 103 = .ok (.return_, 1) := by decide +kernel
theorem mo_X4 : Cond.methodLink RX4 3 Lib.objectInit ∈ zTb := zTb_in 176 (by decide +kernel) rfl
theorem ac_int : Cond.arrayClass .int ∈ zTb := zTb_in 250 (by decide +kernel) rfl
theorem pf_X4_9 : zFf RX4 9 4 1 (tyX4 1) := ⟨RX4, TX4, 15, tyX4, rfl, (Nat.le_of_ble_eq_true rfl), zTb_in 179 (by decide +kernel) rfl, in_X4, tyX4_ok, nmX4, rfl, rfl, rfl⟩
theorem pf_X4_15 : zFf RX4 15 4 2 (tyX4 2) := ⟨RX4, TX4, 15, tyX4, rfl, (Nat.le_of_ble_eq_true rfl), zTb_in 182 (by decide +kernel) rfl, in_X4, tyX4_ok, nmX4, rfl, rfl, rfl⟩
theorem pf_X4_18 : zFf RX4 18 4 3 (tyX4 3) := ⟨RX4, TX4, 15, tyX4, rfl, (Nat.le_of_ble_eq_true rfl), zTb_in 185 (by decide +kernel) rfl, in_X4, tyX4_ok, nmX4, rfl, rfl, rfl⟩
theorem pf_X4_21 : zFf RX4 21 4 4 (tyX4 4) := ⟨RX4, TX4, 15, tyX4, rfl, (Nat.le_of_ble_eq_true rfl), zTb_in 188 (by decide +kernel) rfl, in_X4, tyX4_ok, nmX4, rfl, rfl, rfl⟩
theorem pf_X4_24 : zFf RX4 24 4 5 (tyX4 5) := ⟨RX4, TX4, 15, tyX4, rfl, (Nat.le_of_ble_eq_true rfl), zTb_in 191 (by decide +kernel) rfl, in_X4, tyX4_ok, nmX4, rfl, rfl, rfl⟩
theorem pf_X4_27 : zFf RX4 27 4 6 (tyX4 6) := ⟨RX4, TX4, 15, tyX4, rfl, (Nat.le_of_ble_eq_true rfl), zTb_in 194 (by decide +kernel) rfl, in_X4, tyX4_ok, nmX4, rfl, rfl, rfl⟩
theorem pf_X4_30 : zFf RX4 30 4 7 (tyX4 7) := ⟨RX4, TX4, 15, tyX4, rfl, (Nat.le_of_ble_eq_true rfl), zTb_in 197 (by decide +kernel) rfl, in_X4, tyX4_ok, nmX4, rfl, rfl, rfl⟩
theorem pf_X4_33 : zFf RX4 33 4 8 (tyX4 8) := ⟨RX4, TX4, 15, tyX4, rfl, (Nat.le_of_ble_eq_true rfl), zTb_in 200 (by decide +kernel) rfl, in_X4, tyX4_ok, nmX4, rfl, rfl, rfl⟩
theorem pf_X4_36 : zFp RX4 36 4 9 (tyX4 9) := ⟨RX4, TX4, 15, tyX4, rfl, (Nat.le_of_ble_eq_true rfl), zTb_in 203 (by decide +kernel) rfl, in_X4, tyX4_ok, nmX4, rfl, rfl⟩
theorem pf_X4_40 : zFp RX4 40 4 10 (tyX4 10) := ⟨RX4, TX4, 15, tyX4, rfl, (Nat.le_of_ble_eq_true rfl), zTb_in 206 (by decide +kernel) rfl, in_X4, tyX4_ok, nmX4, rfl, rfl⟩
theorem pf_X4_43 : zFp RX4 43 4 11 (tyX4 11) := ⟨RX4, TX4, 15, tyX4, rfl, (Nat.le_of_ble_eq_true rfl), zTb_in 209 (by decide +kernel) rfl, in_X4, tyX4_ok, nmX4, rfl, rfl⟩
theorem pf_X4_46 : zFp RX4 46 4 12 (tyX4 12) := ⟨RX4, TX4, 15, tyX4, rfl, (Nat.le_of_ble_eq_true rfl), zTb_in 212 (by decide +kernel) rfl, in_X4, tyX4_ok, nmX4, rfl, rfl⟩
theorem pf_X4_49 : zFp RX4 49 4 13 (tyX4 13) := ⟨RX4, TX4, 15, tyX4, rfl, (Nat.le_of_ble_eq_true rfl), zTb_in 214 (by decide +kernel) rfl, in_X4, tyX4_ok, nmX4, rfl, rfl⟩
theorem pf_X4_52 : zFp RX4 52 4 14 (tyX4 14) := ⟨RX4, TX4, 15, tyX4, rfl, (Nat.le_of_ble_eq_true rfl), zTb_in 217 (by decide +kernel) rfl, in_X4, tyX4_ok, nmX4, rfl, rfl⟩
theorem pf_X4_55 : zFf RX4 55 4 0 (tyX4 0) := ⟨RX4, TX4, 15, tyX4, rfl, (Nat.le_of_ble_eq_true rfl), zTb_in 177 (by decide +kernel) rfl, in_X4, tyX4_ok, nmX4, rfl, rfl, rfl⟩
def wX4_0_l : List (Nat × Nat × List (Option Nat)) := [(7, 15, [none, some 1, some 2, some 3, some 4, some 5, some 6, some 7, some 8, none, none, none, none, none, none]), (0, 10, []), (0, 10, []), (0, 10, []), (0, 10, []), (0, 14, []), (0, 14, []), (0, 14, []), (0, 14, [])]
def wX4_0 : zWd := zsh wX4_0_l
def tX4_0_t : List (Nat × List (Nat × Int32)) := []
def hX4_0 : zHp := zhp tX4_0_t
set_option maxHeartbeats 4000000 in
set_option maxRecDepth 100000 in
theorem n_X4_0 : Ini wX4_0 hX4_0 mX4_init 1 8 96 [.int (0 : Int32)] 4 [.int (0 : Int32), .null, .null, .null, .null, .null, .null, .null, .null, .int (0 : Int32), .int (0 : Int32), .int (0 : Int32), .int (0 : Int32), .int (0 : Int32), .int (0 : Int32)] (fun q r => r 0 = q) := by
  refine Ini.of rfl (fun _ => Nat.le_of_ble_eq_true rfl) rfl (fun D g q => ?_)
  refine Cn.aload_n 0 dX4_init_0 rfl ?_
  refine Cn.obj dX4_init_1 mo_X4 io_obj co_obj (Nat.le_of_ble_eq_true rfl) (Nat.le_of_ble_eq_true rfl) ?_
  refine Cn.aload_n 0 dX4_init_4 rfl ?_
  refine Cn.bipush (v := (10 : Int32)) dX4_init_5 rfl ?_
  refine Cn.newI (N := 10) (c' := 1) (s' := 10) dX4_init_7 ac_int (by decide) rfl (Nat.le_of_ble_eq_true rfl) rfl rfl (Nat.le_of_ble_eq_true rfl) (Nat.le_of_ble_eq_true rfl) (fun a1 => ?_)
  refine Cn.putF (fs' := [.int (0 : Int32), .ref a1, .null, .null, .null, .null, .null, .null, .null, .int (0 : Int32), .int (0 : Int32), .int (0 : Int32), .int (0 : Int32), .int (0 : Int32), .int (0 : Int32)]) pf_X4_9 dX4_init_9 rfl rfl (Nat.le_of_ble_eq_true rfl) rfl ?_
  refine Cn.aload_n 0 dX4_init_12 rfl ?_
  refine Cn.bipush (v := (10 : Int32)) dX4_init_13 rfl ?_
  refine Cn.newI (N := 10) (c' := 2) (s' := 20) dX4_init_15 ac_int (by decide) rfl (Nat.le_of_ble_eq_true rfl) rfl rfl (Nat.le_of_ble_eq_true rfl) (Nat.le_of_ble_eq_true rfl) (fun a2 => ?_)
  refine Cn.putF (fs' := [.int (0 : Int32), .ref a1, .ref a2, .null, .null, .null, .null, .null, .null, .int (0 : Int32), .int (0 : Int32), .int (0 : Int32), .int (0 : Int32), .int (0 : Int32), .int (0 : Int32)]) pf_X4_15 dX4_init_17 rfl rfl (Nat.le_of_ble_eq_true rfl) rfl ?_
  refine Cn.aload_n 0 dX4_init_20 rfl ?_
  refine Cn.bipush (v := (10 : Int32)) dX4_init_21 rfl ?_
  refine Cn.newI (N := 10) (c' := 3) (s' := 30) dX4_init_23 ac_int (by decide) rfl (Nat.le_of_ble_eq_true rfl) rfl rfl (Nat.le_of_ble_eq_true rfl) (Nat.le_of_ble_eq_true rfl) (fun a3 => ?_)
  refine Cn.putF (fs' := [.int (0 : Int32), .ref a1, .ref a2, .ref a3, .null, .null, .null, .null, .null, .int (0 : Int32), .int (0 : Int32), .int (0 : Int32), .int (0 : Int32), .int (0 : Int32), .int (0 : Int32)]) pf_X4_18 dX4_init_25 rfl rfl (Nat.le_of_ble_eq_true rfl) rfl ?_
  refine Cn.aload_n 0 dX4_init_28 rfl ?_
  refine Cn.bipush (v := (10 : Int32)) dX4_init_29 rfl ?_
  refine Cn.newI (N := 10) (c' := 4) (s' := 40) dX4_init_31 ac_int (by decide) rfl (Nat.le_of_ble_eq_true rfl) rfl rfl (Nat.le_of_ble_eq_true rfl) (Nat.le_of_ble_eq_true rfl) (fun a4 => ?_)
  refine Cn.putF (fs' := [.int (0 : Int32), .ref a1, .ref a2, .ref a3, .ref a4, .null, .null, .null, .null, .int (0 : Int32), .int (0 : Int32), .int (0 : Int32), .int (0 : Int32), .int (0 : Int32), .int (0 : Int32)]) pf_X4_21 dX4_init_33 rfl rfl (Nat.le_of_ble_eq_true rfl) rfl ?_
  refine Cn.aload_n 0 dX4_init_36 rfl ?_
  refine Cn.bipush (v := (14 : Int32)) dX4_init_37 rfl ?_
  refine Cn.newI (N := 14) (c' := 5) (s' := 54) dX4_init_39 ac_int (by decide) rfl (Nat.le_of_ble_eq_true rfl) rfl rfl (Nat.le_of_ble_eq_true rfl) (Nat.le_of_ble_eq_true rfl) (fun a5 => ?_)
  refine Cn.putF (fs' := [.int (0 : Int32), .ref a1, .ref a2, .ref a3, .ref a4, .ref a5, .null, .null, .null, .int (0 : Int32), .int (0 : Int32), .int (0 : Int32), .int (0 : Int32), .int (0 : Int32), .int (0 : Int32)]) pf_X4_24 dX4_init_41 rfl rfl (Nat.le_of_ble_eq_true rfl) rfl ?_
  refine Cn.aload_n 0 dX4_init_44 rfl ?_
  refine Cn.bipush (v := (14 : Int32)) dX4_init_45 rfl ?_
  refine Cn.newI (N := 14) (c' := 6) (s' := 68) dX4_init_47 ac_int (by decide) rfl (Nat.le_of_ble_eq_true rfl) rfl rfl (Nat.le_of_ble_eq_true rfl) (Nat.le_of_ble_eq_true rfl) (fun a6 => ?_)
  refine Cn.putF (fs' := [.int (0 : Int32), .ref a1, .ref a2, .ref a3, .ref a4, .ref a5, .ref a6, .null, .null, .int (0 : Int32), .int (0 : Int32), .int (0 : Int32), .int (0 : Int32), .int (0 : Int32), .int (0 : Int32)]) pf_X4_27 dX4_init_49 rfl rfl (Nat.le_of_ble_eq_true rfl) rfl ?_
  refine Cn.aload_n 0 dX4_init_52 rfl ?_
  refine Cn.bipush (v := (14 : Int32)) dX4_init_53 rfl ?_
  refine Cn.newI (N := 14) (c' := 7) (s' := 82) dX4_init_55 ac_int (by decide) rfl (Nat.le_of_ble_eq_true rfl) rfl rfl (Nat.le_of_ble_eq_true rfl) (Nat.le_of_ble_eq_true rfl) (fun a7 => ?_)
  refine Cn.putF (fs' := [.int (0 : Int32), .ref a1, .ref a2, .ref a3, .ref a4, .ref a5, .ref a6, .ref a7, .null, .int (0 : Int32), .int (0 : Int32), .int (0 : Int32), .int (0 : Int32), .int (0 : Int32), .int (0 : Int32)]) pf_X4_30 dX4_init_57 rfl rfl (Nat.le_of_ble_eq_true rfl) rfl ?_
  refine Cn.aload_n 0 dX4_init_60 rfl ?_
  refine Cn.bipush (v := (14 : Int32)) dX4_init_61 rfl ?_
  refine Cn.newI (N := 14) (c' := 8) (s' := 96) dX4_init_63 ac_int (by decide) rfl (Nat.le_of_ble_eq_true rfl) rfl rfl (Nat.le_of_ble_eq_true rfl) (Nat.le_of_ble_eq_true rfl) (fun a8 => ?_)
  refine Cn.putF (fs' := [.int (0 : Int32), .ref a1, .ref a2, .ref a3, .ref a4, .ref a5, .ref a6, .ref a7, .ref a8, .int (0 : Int32), .int (0 : Int32), .int (0 : Int32), .int (0 : Int32), .int (0 : Int32), .int (0 : Int32)]) pf_X4_33 dX4_init_65 rfl rfl (Nat.le_of_ble_eq_true rfl) rfl ?_
  refine Cn.aload_n 0 dX4_init_68 rfl ?_
  refine Cn.iconst (v := (0 : Int32)) dX4_init_69 rfl ?_
  refine Cn.put (fs' := [.int (0 : Int32), .ref a1, .ref a2, .ref a3, .ref a4, .ref a5, .ref a6, .ref a7, .ref a8, .int (0 : Int32), .int (0 : Int32), .int (0 : Int32), .int (0 : Int32), .int (0 : Int32), .int (0 : Int32)]) pf_X4_36 dX4_init_70 rfl rfl (Nat.le_of_ble_eq_true rfl) rfl ?_
  refine Cn.aload_n 0 dX4_init_73 rfl ?_
  refine Cn.iconst (v := (0 : Int32)) dX4_init_74 rfl ?_
  refine Cn.put (fs' := [.int (0 : Int32), .ref a1, .ref a2, .ref a3, .ref a4, .ref a5, .ref a6, .ref a7, .ref a8, .int (0 : Int32), .int (0 : Int32), .int (0 : Int32), .int (0 : Int32), .int (0 : Int32), .int (0 : Int32)]) pf_X4_40 dX4_init_75 rfl rfl (Nat.le_of_ble_eq_true rfl) rfl ?_
  refine Cn.aload_n 0 dX4_init_78 rfl ?_
  refine Cn.iconst (v := (0 : Int32)) dX4_init_79 rfl ?_
  refine Cn.put (fs' := [.int (0 : Int32), .ref a1, .ref a2, .ref a3, .ref a4, .ref a5, .ref a6, .ref a7, .ref a8, .int (0 : Int32), .int (0 : Int32), .int (0 : Int32), .int (0 : Int32), .int (0 : Int32), .int (0 : Int32)]) pf_X4_43 dX4_init_80 rfl rfl (Nat.le_of_ble_eq_true rfl) rfl ?_
  refine Cn.aload_n 0 dX4_init_83 rfl ?_
  refine Cn.iconst (v := (0 : Int32)) dX4_init_84 rfl ?_
  refine Cn.put (fs' := [.int (0 : Int32), .ref a1, .ref a2, .ref a3, .ref a4, .ref a5, .ref a6, .ref a7, .ref a8, .int (0 : Int32), .int (0 : Int32), .int (0 : Int32), .int (0 : Int32), .int (0 : Int32), .int (0 : Int32)]) pf_X4_46 dX4_init_85 rfl rfl (Nat.le_of_ble_eq_true rfl) rfl ?_
  refine Cn.aload_n 0 dX4_init_88 rfl ?_
  refine Cn.iconst (v := (0 : Int32)) dX4_init_89 rfl ?_
  refine Cn.put (fs' := [.int (0 : Int32), .ref a1, .ref a2, .ref a3, .ref a4, .ref a5, .ref a6, .ref a7, .ref a8, .int (0 : Int32), .int (0 : Int32), .int (0 : Int32), .int (0 : Int32), .int (0 : Int32), .int (0 : Int32)]) pf_X4_49 dX4_init_90 rfl rfl (Nat.le_of_ble_eq_true rfl) rfl ?_
  refine Cn.aload_n 0 dX4_init_93 rfl ?_
  refine Cn.iconst (v := (0 : Int32)) dX4_init_94 rfl ?_
  refine Cn.put (fs' := [.int (0 : Int32), .ref a1, .ref a2, .ref a3, .ref a4, .ref a5, .ref a6, .ref a7, .ref a8, .int (0 : Int32), .int (0 : Int32), .int (0 : Int32), .int (0 : Int32), .int (0 : Int32), .int (0 : Int32)]) pf_X4_52 dX4_init_95 rfl rfl (Nat.le_of_ble_eq_true rfl) rfl ?_
  refine Cn.aload_n 0 dX4_init_98 rfl ?_
  refine Cn.iload_n 1 dX4_init_99 rfl ?_
  refine Cn.putF (fs' := [.int (0 : Int32), .ref a1, .ref a2, .ref a3, .ref a4, .ref a5, .ref a6, .ref a7, .ref a8, .int (0 : Int32), .int (0 : Int32), .int (0 : Int32), .int (0 : Int32), .int (0 : Int32), .int (0 : Int32)]) pf_X4_55 dX4_init_100 rfl rfl (Nat.le_of_ble_eq_true rfl) rfl ?_
  have e1 : zSe g (zRp [(1, fun _ => q), (1, fun _ => a1), (1, fun _ => a2), (1, fun _ => a3), (1, fun _ => a4), (1, fun _ => a5), (1, fun _ => a6), (1, fun _ => a7), (1, fun _ => a8)]) wX4_0 hX4_0 1 1 = [(a1, .inl (g.1, 10, .inl (zuf [])))] := zSe_arr rfl rfl rfl rfl
  have e2 : zSe g (zRp [(1, fun _ => q), (1, fun _ => a1), (1, fun _ => a2), (1, fun _ => a3), (1, fun _ => a4), (1, fun _ => a5), (1, fun _ => a6), (1, fun _ => a7), (1, fun _ => a8)]) wX4_0 hX4_0 2 1 = [(a2, .inl (g.1, 10, .inl (zuf [])))] := zSe_arr rfl rfl rfl rfl
  have e3 : zSe g (zRp [(1, fun _ => q), (1, fun _ => a1), (1, fun _ => a2), (1, fun _ => a3), (1, fun _ => a4), (1, fun _ => a5), (1, fun _ => a6), (1, fun _ => a7), (1, fun _ => a8)]) wX4_0 hX4_0 3 1 = [(a3, .inl (g.1, 10, .inl (zuf [])))] := zSe_arr rfl rfl rfl rfl
  have e4 : zSe g (zRp [(1, fun _ => q), (1, fun _ => a1), (1, fun _ => a2), (1, fun _ => a3), (1, fun _ => a4), (1, fun _ => a5), (1, fun _ => a6), (1, fun _ => a7), (1, fun _ => a8)]) wX4_0 hX4_0 4 1 = [(a4, .inl (g.1, 10, .inl (zuf [])))] := zSe_arr rfl rfl rfl rfl
  have e5 : zSe g (zRp [(1, fun _ => q), (1, fun _ => a1), (1, fun _ => a2), (1, fun _ => a3), (1, fun _ => a4), (1, fun _ => a5), (1, fun _ => a6), (1, fun _ => a7), (1, fun _ => a8)]) wX4_0 hX4_0 5 1 = [(a5, .inl (g.1, 14, .inl (zuf [])))] := zSe_arr rfl rfl rfl rfl
  have e6 : zSe g (zRp [(1, fun _ => q), (1, fun _ => a1), (1, fun _ => a2), (1, fun _ => a3), (1, fun _ => a4), (1, fun _ => a5), (1, fun _ => a6), (1, fun _ => a7), (1, fun _ => a8)]) wX4_0 hX4_0 6 1 = [(a6, .inl (g.1, 14, .inl (zuf [])))] := zSe_arr rfl rfl rfl rfl
  have e7 : zSe g (zRp [(1, fun _ => q), (1, fun _ => a1), (1, fun _ => a2), (1, fun _ => a3), (1, fun _ => a4), (1, fun _ => a5), (1, fun _ => a6), (1, fun _ => a7), (1, fun _ => a8)]) wX4_0 hX4_0 7 1 = [(a7, .inl (g.1, 14, .inl (zuf [])))] := zSe_arr rfl rfl rfl rfl
  have e8 : zSe g (zRp [(1, fun _ => q), (1, fun _ => a1), (1, fun _ => a2), (1, fun _ => a3), (1, fun _ => a4), (1, fun _ => a5), (1, fun _ => a6), (1, fun _ => a7), (1, fun _ => a8)]) wX4_0 hX4_0 8 1 = [(a8, .inl (g.1, 14, .inl (zuf [])))] := zSe_arr rfl rfl rfl rfl
  exact Cn.ret (r := (zRp [(1, fun _ => q), (1, fun _ => a1), (1, fun _ => a2), (1, fun _ => a3), (1, fun _ => a4), (1, fun _ => a5), (1, fun _ => a6), (1, fun _ => a7), (1, fun _ => a8)])) dX4_init_103 rfl rfl rfl rfl (zW_of (n := 8) rfl rfl rfl (zSe_snoc (zSe_snoc (zSe_snoc (zSe_snoc (zSe_snoc (zSe_snoc (zSe_snoc (zSe_snoc zSe_nil (show 1 + 0 = 1 from rfl) (show 0 + 1 = 1 from rfl) e1) (show 1 + 1 = 2 from rfl) (show 1 + 1 = 2 from rfl) e2) (show 1 + 2 = 3 from rfl) (show 2 + 1 = 3 from rfl) e3) (show 1 + 3 = 4 from rfl) (show 3 + 1 = 4 from rfl) e4) (show 1 + 4 = 5 from rfl) (show 4 + 1 = 5 from rfl) e5) (show 1 + 5 = 6 from rfl) (show 5 + 1 = 6 from rfl) e6) (show 1 + 6 = 7 from rfl) (show 6 + 1 = 7 from rfl) e7) (show 1 + 7 = 8 from rfl) (show 7 + 1 = 8 from rfl) e8))
theorem mi_X9_11 : Cond.methodLink RX9 11 mX4_init.1 ∈ zTb := zTb_in 173 (by decide +kernel) rfl
theorem mm_X4 : zMm mX4_init 1 := ⟨zTb_in 175 (by decide +kernel) rfl, zTb_in 139 (by decide +kernel) rfl, ⟨by decide +kernel, by decide +kernel⟩, by decide +kernel⟩
theorem im_X4 : Cond.instanceMethod mX4_init.1 ∈ zTb := zTb_in 174 (by decide +kernel) rfl
theorem pf_X9_14 : zFf RX9 14 9 0 (tyX9 0) := ⟨RX9, TX9, 7, tyX9, rfl, (Nat.le_of_ble_eq_true rfl), zTb_in 360 (by decide +kernel) rfl, in_X9, tyX9_ok, nmX9, rfl, rfl, rfl⟩
theorem cl_X9_20 : Cond.classLink RX9 20 RX2 ∈ zTb := zTb_in 251 (by decide +kernel) rfl
theorem it_X2 : Cond.instantiable RX2 3 ∈ zTb := zTb_in 252 (by decide +kernel) rfl
theorem ii_X2 : Cond.initialized RX2 ∈ zTb := zTb_in 140 (by decide +kernel) rfl
theorem df_X2 : ∀ j, j < 3 → defaultValue (tyX2 j) = vp_V [.int (0 : Int32), .null, .int (0 : Int32)] j := by decide +kernel
abbrev mX2_init : zMt := (yX2_init, cX2_init, 2, none)
theorem dX2_init_0 : decode cX2_init 0 = .ok (.aload_n 0, 1) := by decide +kernel
theorem dX2_init_1 : decode cX2_init 1 = .ok (.invokespecial 3, 3) := by decide +kernel
theorem dX2_init_4 : decode cX2_init 4 = .ok (.aload_n 0, 1) := by decide +kernel
theorem dX2_init_5 : decode cX2_init 5 = .ok (.iconst 0, 1) := by decide +kernel
theorem dX2_init_6 : decode cX2_init 6 = .ok (.putfield 9, 3) := by decide +kernel
theorem dX2_init_9 : decode cX2_init 9 = .ok (.aload_n 0, 1) := by decide +kernel
theorem dX2_init_10 : decode cX2_init 10 = .ok (.iload_n 1, 1) := by decide +kernel
theorem dX2_init_11 : decode cX2_init 11 = .ok (.putfield 15, 3) := by decide +kernel
theorem dX2_init_14 : decode cX2_init 14 = .ok (.aload_n 0, 1) := by decide +kernel
theorem dX2_init_15 : decode cX2_init 15 = .ok (.iload_n 1, 1) := by decide +kernel
theorem dX2_init_16 : decode cX2_init 16 = .ok (.iconst 4, 1) := by decide +kernel
theorem dX2_init_17 : decode cX2_init 17 = .ok (.imul, 1) := by decide +kernel
theorem dX2_init_18 : decode cX2_init 18 = .ok (.newarray .int, 2) := by decide +kernel
theorem dX2_init_20 : decode cX2_init 20 = .ok (.putfield 18, 3) := by decide +kernel
theorem dX2_init_23 : decode cX2_init 23 = .ok (.return_, 1) := by decide +kernel
theorem mo_X2 : Cond.methodLink RX2 3 Lib.objectInit ∈ zTb := zTb_in 256 (by decide +kernel) rfl
theorem pf_X2_9 : zFp RX2 9 2 2 (tyX2 2) := ⟨RX2, TX2, 3, tyX2, rfl, (Nat.le_of_ble_eq_true rfl), zTb_in 259 (by decide +kernel) rfl, in_X2, tyX2_ok, nmX2, rfl, rfl⟩
theorem pf_X2_15 : zFf RX2 15 2 0 (tyX2 0) := ⟨RX2, TX2, 3, tyX2, rfl, (Nat.le_of_ble_eq_true rfl), zTb_in 257 (by decide +kernel) rfl, in_X2, tyX2_ok, nmX2, rfl, rfl, rfl⟩
theorem pf_X2_18 : zFf RX2 18 2 1 (tyX2 1) := ⟨RX2, TX2, 3, tyX2, rfl, (Nat.le_of_ble_eq_true rfl), zTb_in 258 (by decide +kernel) rfl, in_X2, tyX2_ok, nmX2, rfl, rfl, rfl⟩
def wX2_150_l : List (Nat × Nat × List (Option Nat)) := [(5, 3, [none, some 1, none]), (0, 600, [])]
def wX2_150 : zWd := zsh wX2_150_l
def tX2_150_t : List (Nat × List (Nat × Int32)) := [(0, [(0, (150 : Int32))])]
def hX2_150 : zHp := zhp tX2_150_t
set_option maxHeartbeats 4000000 in
set_option maxRecDepth 100000 in
theorem n_X2_150 : Ini wX2_150 hX2_150 mX2_init 1 1 600 [.int (150 : Int32)] 2 [.int (0 : Int32), .null, .int (0 : Int32)] (fun q r => r 0 = q) := by
  refine Ini.of rfl (fun _ => Nat.le_of_ble_eq_true rfl) rfl (fun D g q => ?_)
  refine Cn.aload_n 0 dX2_init_0 rfl ?_
  refine Cn.obj dX2_init_1 mo_X2 io_obj co_obj (Nat.le_of_ble_eq_true rfl) (Nat.le_of_ble_eq_true rfl) ?_
  refine Cn.aload_n 0 dX2_init_4 rfl ?_
  refine Cn.iconst (v := (0 : Int32)) dX2_init_5 rfl ?_
  refine Cn.put (fs' := [.int (0 : Int32), .null, .int (0 : Int32)]) pf_X2_9 dX2_init_6 rfl rfl (Nat.le_of_ble_eq_true rfl) rfl ?_
  refine Cn.aload_n 0 dX2_init_9 rfl ?_
  refine Cn.iload_n 1 dX2_init_10 rfl ?_
  refine Cn.putF (fs' := [.int (150 : Int32), .null, .int (0 : Int32)]) pf_X2_15 dX2_init_11 rfl rfl (Nat.le_of_ble_eq_true rfl) rfl ?_
  refine Cn.aload_n 0 dX2_init_14 rfl ?_
  refine Cn.iload_n 1 dX2_init_15 rfl ?_
  refine Cn.iconst (v := (4 : Int32)) dX2_init_16 rfl ?_
  refine Cn.imul (z := (600 : Int32)) dX2_init_17 rfl ?_
  refine Cn.newI (N := 600) (c' := 1) (s' := 600) dX2_init_18 ac_int (by decide) rfl (Nat.le_of_ble_eq_true rfl) rfl rfl (Nat.le_of_ble_eq_true rfl) (Nat.le_of_ble_eq_true rfl) (fun a1 => ?_)
  refine Cn.putF (fs' := [.int (150 : Int32), .ref a1, .int (0 : Int32)]) pf_X2_18 dX2_init_20 rfl rfl (Nat.le_of_ble_eq_true rfl) rfl ?_
  have e1 : zSe g (zRp [(1, fun _ => q), (1, fun _ => a1)]) wX2_150 hX2_150 1 1 = [(a1, .inl (g.1, 600, .inl (zuf [])))] := zSe_arr rfl rfl rfl rfl
  exact Cn.ret (r := (zRp [(1, fun _ => q), (1, fun _ => a1)])) dX2_init_23 rfl rfl rfl rfl (zW_of (n := 1) rfl rfl rfl (zSe_snoc zSe_nil (show 1 + 0 = 1 from rfl) (show 0 + 1 = 1 from rfl) e1))
theorem mi_X9_22 : Cond.methodLink RX9 22 mX2_init.1 ∈ zTb := zTb_in 253 (by decide +kernel) rfl
theorem mm_X2 : zMm mX2_init 1 := ⟨zTb_in 255 (by decide +kernel) rfl, zTb_in 140 (by decide +kernel) rfl, ⟨by decide +kernel, by decide +kernel⟩, by decide +kernel⟩
theorem im_X2 : Cond.instanceMethod mX2_init.1 ∈ zTb := zTb_in 254 (by decide +kernel) rfl
theorem pf_X9_25 : zFf RX9 25 9 1 (tyX9 1) := ⟨RX9, TX9, 7, tyX9, rfl, (Nat.le_of_ble_eq_true rfl), zTb_in 362 (by decide +kernel) rfl, in_X9, tyX9_ok, nmX9, rfl, rfl, rfl⟩
theorem cl_X9_29 : Cond.classLink RX9 29 RX1 ∈ zTb := zTb_in 271 (by decide +kernel) rfl
theorem it_X1 : Cond.instantiable RX1 8 ∈ zTb := zTb_in 272 (by decide +kernel) rfl
theorem ii_X1 : Cond.initialized RX1 ∈ zTb := zTb_in 141 (by decide +kernel) rfl
theorem df_X1 : ∀ j, j < 8 → defaultValue (tyX1 j) = vp_V [.null, .null, .null, .null, .null, .null, .int (0 : Int32), .int (0 : Int32)] j := by decide +kernel
abbrev mX1_init : zMt := (yX1_init, cX1_init, 1, none)
theorem dX1_init_0 : decode cX1_init 0 = .ok (.aload_n 0, 1) := by decide +kernel
theorem dX1_init_1 : decode cX1_init 1 = .ok (.invokespecial 3, 3) := by decide +kernel
theorem dX1_init_4 : decode cX1_init 4 = .ok (.aload_n 0, 1) := by decide +kernel
theorem dX1_init_5 : decode cX1_init 5 = .ok (.bipush 16, 2) := by decide +kernel
theorem dX1_init_7 : decode cX1_init 7 = .ok (.newarray .int, 2) := by decide +kernel
theorem dX1_init_9 : decode cX1_init 9 = .ok (.putfield 9, 3) := by decide +kernel
theorem dX1_init_12 : decode cX1_init 12 = .ok (.aload_n 0, 1) := by decide +kernel
theorem dX1_init_13 : decode cX1_init 13 = .ok (.bipush 16, 2) := by decide +kernel
theorem dX1_init_15 : decode cX1_init 15 = .ok (.newarray .int, 2) := by decide +kernel
theorem dX1_init_17 : decode cX1_init 17 = .ok (.putfield 15, 3) := by decide +kernel
theorem dX1_init_20 : decode cX1_init 20 = .ok (.aload_n 0, 1) := by decide +kernel
theorem dX1_init_21 : decode cX1_init 21 = .ok (.bipush 16, 2) := by decide +kernel
theorem dX1_init_23 : decode cX1_init 23 = .ok (.newarray .int, 2) := by decide +kernel
theorem dX1_init_25 : decode cX1_init 25 = .ok (.putfield 18, 3) := by decide +kernel
theorem dX1_init_28 : decode cX1_init 28 = .ok (.aload_n 0, 1) := by decide +kernel
theorem dX1_init_29 : decode cX1_init 29 = .ok (.bipush 16, 2) := by decide +kernel
theorem dX1_init_31 : decode cX1_init 31 = .ok (.newarray .int, 2) := by decide +kernel
theorem dX1_init_33 : decode cX1_init 33 = .ok (.putfield 21, 3) := by decide +kernel
theorem dX1_init_36 : decode cX1_init 36 = .ok (.aload_n 0, 1) := by decide +kernel
theorem dX1_init_37 : decode cX1_init 37 = .ok (.sipush 400, 3) := by decide +kernel
theorem dX1_init_40 : decode cX1_init 40 = .ok (.newarray .int, 2) := by decide +kernel
theorem dX1_init_42 : decode cX1_init 42 = .ok (.putfield 24, 3) := by decide +kernel
theorem dX1_init_45 : decode cX1_init 45 = .ok (.aload_n 0, 1) := by decide +kernel
theorem dX1_init_46 : decode cX1_init 46 = .ok (.bipush 26, 2) := by decide +kernel
theorem dX1_init_48 : decode cX1_init 48 = .ok (.newarray .int, 2) := by decide +kernel
theorem dX1_init_50 : decode cX1_init 50 = .ok (.putfield 27, 3) := by decide +kernel
theorem dX1_init_53 : decode cX1_init 53 = .ok (.aload_n 0, 1) := by decide +kernel
theorem dX1_init_54 : decode cX1_init 54 = .ok (.iconst 0, 1) := by decide +kernel
theorem dX1_init_55 : decode cX1_init 55 = .ok (.putfield 30, 3) := by decide +kernel
theorem dX1_init_58 : decode cX1_init 58 = .ok (.aload_n 0, 1) := by decide +kernel
theorem dX1_init_59 : decode cX1_init 59 = .ok (.iconst 0, 1) := by decide +kernel
theorem dX1_init_60 : decode cX1_init 60 = .ok (.putfield 34, 3) := by decide +kernel
theorem dX1_init_63 : decode cX1_init 63 = .ok (.return_, 1) := by decide +kernel
theorem mo_X1 : Cond.methodLink RX1 3 Lib.objectInit ∈ zTb := zTb_in 276 (by decide +kernel) rfl
theorem pf_X1_9 : zFf RX1 9 1 0 (tyX1 0) := ⟨RX1, TX1, 8, tyX1, rfl, (Nat.le_of_ble_eq_true rfl), zTb_in 277 (by decide +kernel) rfl, in_X1, tyX1_ok, nmX1, rfl, rfl, rfl⟩
theorem pf_X1_15 : zFf RX1 15 1 1 (tyX1 1) := ⟨RX1, TX1, 8, tyX1, rfl, (Nat.le_of_ble_eq_true rfl), zTb_in 278 (by decide +kernel) rfl, in_X1, tyX1_ok, nmX1, rfl, rfl, rfl⟩
theorem pf_X1_18 : zFf RX1 18 1 2 (tyX1 2) := ⟨RX1, TX1, 8, tyX1, rfl, (Nat.le_of_ble_eq_true rfl), zTb_in 279 (by decide +kernel) rfl, in_X1, tyX1_ok, nmX1, rfl, rfl, rfl⟩
theorem pf_X1_21 : zFf RX1 21 1 3 (tyX1 3) := ⟨RX1, TX1, 8, tyX1, rfl, (Nat.le_of_ble_eq_true rfl), zTb_in 280 (by decide +kernel) rfl, in_X1, tyX1_ok, nmX1, rfl, rfl, rfl⟩
theorem pf_X1_24 : zFf RX1 24 1 4 (tyX1 4) := ⟨RX1, TX1, 8, tyX1, rfl, (Nat.le_of_ble_eq_true rfl), zTb_in 281 (by decide +kernel) rfl, in_X1, tyX1_ok, nmX1, rfl, rfl, rfl⟩
theorem pf_X1_27 : zFf RX1 27 1 5 (tyX1 5) := ⟨RX1, TX1, 8, tyX1, rfl, (Nat.le_of_ble_eq_true rfl), zTb_in 282 (by decide +kernel) rfl, in_X1, tyX1_ok, nmX1, rfl, rfl, rfl⟩
theorem pf_X1_30 : zFp RX1 30 1 6 (tyX1 6) := ⟨RX1, TX1, 8, tyX1, rfl, (Nat.le_of_ble_eq_true rfl), zTb_in 283 (by decide +kernel) rfl, in_X1, tyX1_ok, nmX1, rfl, rfl⟩
theorem pf_X1_34 : zFp RX1 34 1 7 (tyX1 7) := ⟨RX1, TX1, 8, tyX1, rfl, (Nat.le_of_ble_eq_true rfl), zTb_in 284 (by decide +kernel) rfl, in_X1, tyX1_ok, nmX1, rfl, rfl⟩
def wX1_l : List (Nat × Nat × List (Option Nat)) := [(4, 8, [some 1, some 2, some 3, some 4, some 5, some 6, none, none]), (0, 16, []), (0, 16, []), (0, 16, []), (0, 16, []), (0, 400, []), (0, 26, [])]
def wX1 : zWd := zsh wX1_l
def tX1_t : List (Nat × List (Nat × Int32)) := []
def hX1 : zHp := zhp tX1_t
set_option maxHeartbeats 4000000 in
set_option maxRecDepth 100000 in
theorem n_X1 : Ini wX1 hX1 mX1_init 1 6 490 [] 1 [.null, .null, .null, .null, .null, .null, .int (0 : Int32), .int (0 : Int32)] (fun q r => r 0 = q) := by
  refine Ini.of rfl (fun _ => Nat.le_of_ble_eq_true rfl) rfl (fun D g q => ?_)
  refine Cn.aload_n 0 dX1_init_0 rfl ?_
  refine Cn.obj dX1_init_1 mo_X1 io_obj co_obj (Nat.le_of_ble_eq_true rfl) (Nat.le_of_ble_eq_true rfl) ?_
  refine Cn.aload_n 0 dX1_init_4 rfl ?_
  refine Cn.bipush (v := (16 : Int32)) dX1_init_5 rfl ?_
  refine Cn.newI (N := 16) (c' := 1) (s' := 16) dX1_init_7 ac_int (by decide) rfl (Nat.le_of_ble_eq_true rfl) rfl rfl (Nat.le_of_ble_eq_true rfl) (Nat.le_of_ble_eq_true rfl) (fun a1 => ?_)
  refine Cn.putF (fs' := [.ref a1, .null, .null, .null, .null, .null, .int (0 : Int32), .int (0 : Int32)]) pf_X1_9 dX1_init_9 rfl rfl (Nat.le_of_ble_eq_true rfl) rfl ?_
  refine Cn.aload_n 0 dX1_init_12 rfl ?_
  refine Cn.bipush (v := (16 : Int32)) dX1_init_13 rfl ?_
  refine Cn.newI (N := 16) (c' := 2) (s' := 32) dX1_init_15 ac_int (by decide) rfl (Nat.le_of_ble_eq_true rfl) rfl rfl (Nat.le_of_ble_eq_true rfl) (Nat.le_of_ble_eq_true rfl) (fun a2 => ?_)
  refine Cn.putF (fs' := [.ref a1, .ref a2, .null, .null, .null, .null, .int (0 : Int32), .int (0 : Int32)]) pf_X1_15 dX1_init_17 rfl rfl (Nat.le_of_ble_eq_true rfl) rfl ?_
  refine Cn.aload_n 0 dX1_init_20 rfl ?_
  refine Cn.bipush (v := (16 : Int32)) dX1_init_21 rfl ?_
  refine Cn.newI (N := 16) (c' := 3) (s' := 48) dX1_init_23 ac_int (by decide) rfl (Nat.le_of_ble_eq_true rfl) rfl rfl (Nat.le_of_ble_eq_true rfl) (Nat.le_of_ble_eq_true rfl) (fun a3 => ?_)
  refine Cn.putF (fs' := [.ref a1, .ref a2, .ref a3, .null, .null, .null, .int (0 : Int32), .int (0 : Int32)]) pf_X1_18 dX1_init_25 rfl rfl (Nat.le_of_ble_eq_true rfl) rfl ?_
  refine Cn.aload_n 0 dX1_init_28 rfl ?_
  refine Cn.bipush (v := (16 : Int32)) dX1_init_29 rfl ?_
  refine Cn.newI (N := 16) (c' := 4) (s' := 64) dX1_init_31 ac_int (by decide) rfl (Nat.le_of_ble_eq_true rfl) rfl rfl (Nat.le_of_ble_eq_true rfl) (Nat.le_of_ble_eq_true rfl) (fun a4 => ?_)
  refine Cn.putF (fs' := [.ref a1, .ref a2, .ref a3, .ref a4, .null, .null, .int (0 : Int32), .int (0 : Int32)]) pf_X1_21 dX1_init_33 rfl rfl (Nat.le_of_ble_eq_true rfl) rfl ?_
  refine Cn.aload_n 0 dX1_init_36 rfl ?_
  refine Cn.sipush (v := (400 : Int32)) dX1_init_37 rfl ?_
  refine Cn.newI (N := 400) (c' := 5) (s' := 464) dX1_init_40 ac_int (by decide) rfl (Nat.le_of_ble_eq_true rfl) rfl rfl (Nat.le_of_ble_eq_true rfl) (Nat.le_of_ble_eq_true rfl) (fun a5 => ?_)
  refine Cn.putF (fs' := [.ref a1, .ref a2, .ref a3, .ref a4, .ref a5, .null, .int (0 : Int32), .int (0 : Int32)]) pf_X1_24 dX1_init_42 rfl rfl (Nat.le_of_ble_eq_true rfl) rfl ?_
  refine Cn.aload_n 0 dX1_init_45 rfl ?_
  refine Cn.bipush (v := (26 : Int32)) dX1_init_46 rfl ?_
  refine Cn.newI (N := 26) (c' := 6) (s' := 490) dX1_init_48 ac_int (by decide) rfl (Nat.le_of_ble_eq_true rfl) rfl rfl (Nat.le_of_ble_eq_true rfl) (Nat.le_of_ble_eq_true rfl) (fun a6 => ?_)
  refine Cn.putF (fs' := [.ref a1, .ref a2, .ref a3, .ref a4, .ref a5, .ref a6, .int (0 : Int32), .int (0 : Int32)]) pf_X1_27 dX1_init_50 rfl rfl (Nat.le_of_ble_eq_true rfl) rfl ?_
  refine Cn.aload_n 0 dX1_init_53 rfl ?_
  refine Cn.iconst (v := (0 : Int32)) dX1_init_54 rfl ?_
  refine Cn.put (fs' := [.ref a1, .ref a2, .ref a3, .ref a4, .ref a5, .ref a6, .int (0 : Int32), .int (0 : Int32)]) pf_X1_30 dX1_init_55 rfl rfl (Nat.le_of_ble_eq_true rfl) rfl ?_
  refine Cn.aload_n 0 dX1_init_58 rfl ?_
  refine Cn.iconst (v := (0 : Int32)) dX1_init_59 rfl ?_
  refine Cn.put (fs' := [.ref a1, .ref a2, .ref a3, .ref a4, .ref a5, .ref a6, .int (0 : Int32), .int (0 : Int32)]) pf_X1_34 dX1_init_60 rfl rfl (Nat.le_of_ble_eq_true rfl) rfl ?_
  have e1 : zSe g (zRp [(1, fun _ => q), (1, fun _ => a1), (1, fun _ => a2), (1, fun _ => a3), (1, fun _ => a4), (1, fun _ => a5), (1, fun _ => a6)]) wX1 hX1 1 1 = [(a1, .inl (g.1, 16, .inl (zuf [])))] := zSe_arr rfl rfl rfl rfl
  have e2 : zSe g (zRp [(1, fun _ => q), (1, fun _ => a1), (1, fun _ => a2), (1, fun _ => a3), (1, fun _ => a4), (1, fun _ => a5), (1, fun _ => a6)]) wX1 hX1 2 1 = [(a2, .inl (g.1, 16, .inl (zuf [])))] := zSe_arr rfl rfl rfl rfl
  have e3 : zSe g (zRp [(1, fun _ => q), (1, fun _ => a1), (1, fun _ => a2), (1, fun _ => a3), (1, fun _ => a4), (1, fun _ => a5), (1, fun _ => a6)]) wX1 hX1 3 1 = [(a3, .inl (g.1, 16, .inl (zuf [])))] := zSe_arr rfl rfl rfl rfl
  have e4 : zSe g (zRp [(1, fun _ => q), (1, fun _ => a1), (1, fun _ => a2), (1, fun _ => a3), (1, fun _ => a4), (1, fun _ => a5), (1, fun _ => a6)]) wX1 hX1 4 1 = [(a4, .inl (g.1, 16, .inl (zuf [])))] := zSe_arr rfl rfl rfl rfl
  have e5 : zSe g (zRp [(1, fun _ => q), (1, fun _ => a1), (1, fun _ => a2), (1, fun _ => a3), (1, fun _ => a4), (1, fun _ => a5), (1, fun _ => a6)]) wX1 hX1 5 1 = [(a5, .inl (g.1, 400, .inl (zuf [])))] := zSe_arr rfl rfl rfl rfl
  have e6 : zSe g (zRp [(1, fun _ => q), (1, fun _ => a1), (1, fun _ => a2), (1, fun _ => a3), (1, fun _ => a4), (1, fun _ => a5), (1, fun _ => a6)]) wX1 hX1 6 1 = [(a6, .inl (g.1, 26, .inl (zuf [])))] := zSe_arr rfl rfl rfl rfl
  exact Cn.ret (r := (zRp [(1, fun _ => q), (1, fun _ => a1), (1, fun _ => a2), (1, fun _ => a3), (1, fun _ => a4), (1, fun _ => a5), (1, fun _ => a6)])) dX1_init_63 rfl rfl rfl rfl (zW_of (n := 6) rfl rfl rfl (zSe_snoc (zSe_snoc (zSe_snoc (zSe_snoc (zSe_snoc (zSe_snoc zSe_nil (show 1 + 0 = 1 from rfl) (show 0 + 1 = 1 from rfl) e1) (show 1 + 1 = 2 from rfl) (show 1 + 1 = 2 from rfl) e2) (show 1 + 2 = 3 from rfl) (show 2 + 1 = 3 from rfl) e3) (show 1 + 3 = 4 from rfl) (show 3 + 1 = 4 from rfl) e4) (show 1 + 4 = 5 from rfl) (show 4 + 1 = 5 from rfl) e5) (show 1 + 5 = 6 from rfl) (show 5 + 1 = 6 from rfl) e6))
theorem mi_X9_31 : ∀ U, zXt U → va_Nw (.methodLinkNest RX9 31 mX1_init.1 RX10) U := fun _ q => q.2.1
theorem mm_X1 : zMm mX1_init 0 := ⟨zTb_in 275 (by decide +kernel) rfl, zTb_in 141 (by decide +kernel) rfl, ⟨by decide +kernel, by decide +kernel⟩, by decide +kernel⟩
theorem im_X1 : Cond.instanceMethod mX1_init.1 ∈ zTb := zTb_in 274 (by decide +kernel) rfl
theorem pf_X9_32 : zFf RX9 32 9 2 (tyX9 2) := ⟨RX9, TX9, 7, tyX9, rfl, (Nat.le_of_ble_eq_true rfl), zTb_in 365 (by decide +kernel) rfl, in_X9, tyX9_ok, nmX9, rfl, rfl, rfl⟩
def wX2_16_l : List (Nat × Nat × List (Option Nat)) := [(5, 3, [none, some 1, none]), (0, 64, [])]
def wX2_16 : zWd := zsh wX2_16_l
def tX2_16_t : List (Nat × List (Nat × Int32)) := [(0, [(0, (16 : Int32))])]
def hX2_16 : zHp := zhp tX2_16_t
set_option maxHeartbeats 4000000 in
set_option maxRecDepth 100000 in
theorem n_X2_16 : Ini wX2_16 hX2_16 mX2_init 1 1 64 [.int (16 : Int32)] 2 [.int (0 : Int32), .null, .int (0 : Int32)] (fun q r => r 0 = q) := by
  refine Ini.of rfl (fun _ => Nat.le_of_ble_eq_true rfl) rfl (fun D g q => ?_)
  refine Cn.aload_n 0 dX2_init_0 rfl ?_
  refine Cn.obj dX2_init_1 mo_X2 io_obj co_obj (Nat.le_of_ble_eq_true rfl) (Nat.le_of_ble_eq_true rfl) ?_
  refine Cn.aload_n 0 dX2_init_4 rfl ?_
  refine Cn.iconst (v := (0 : Int32)) dX2_init_5 rfl ?_
  refine Cn.put (fs' := [.int (0 : Int32), .null, .int (0 : Int32)]) pf_X2_9 dX2_init_6 rfl rfl (Nat.le_of_ble_eq_true rfl) rfl ?_
  refine Cn.aload_n 0 dX2_init_9 rfl ?_
  refine Cn.iload_n 1 dX2_init_10 rfl ?_
  refine Cn.putF (fs' := [.int (16 : Int32), .null, .int (0 : Int32)]) pf_X2_15 dX2_init_11 rfl rfl (Nat.le_of_ble_eq_true rfl) rfl ?_
  refine Cn.aload_n 0 dX2_init_14 rfl ?_
  refine Cn.iload_n 1 dX2_init_15 rfl ?_
  refine Cn.iconst (v := (4 : Int32)) dX2_init_16 rfl ?_
  refine Cn.imul (z := (64 : Int32)) dX2_init_17 rfl ?_
  refine Cn.newI (N := 64) (c' := 1) (s' := 64) dX2_init_18 ac_int (by decide) rfl (Nat.le_of_ble_eq_true rfl) rfl rfl (Nat.le_of_ble_eq_true rfl) (Nat.le_of_ble_eq_true rfl) (fun a1 => ?_)
  refine Cn.putF (fs' := [.int (16 : Int32), .ref a1, .int (0 : Int32)]) pf_X2_18 dX2_init_20 rfl rfl (Nat.le_of_ble_eq_true rfl) rfl ?_
  have e1 : zSe g (zRp [(1, fun _ => q), (1, fun _ => a1)]) wX2_16 hX2_16 1 1 = [(a1, .inl (g.1, 64, .inl (zuf [])))] := zSe_arr rfl rfl rfl rfl
  exact Cn.ret (r := (zRp [(1, fun _ => q), (1, fun _ => a1)])) dX2_init_23 rfl rfl rfl rfl (zW_of (n := 1) rfl rfl rfl (zSe_snoc zSe_nil (show 1 + 0 = 1 from rfl) (show 0 + 1 = 1 from rfl) e1))
theorem pf_X9_36 : zFf RX9 36 9 3 (tyX9 3) := ⟨RX9, TX9, 7, tyX9, rfl, (Nat.le_of_ble_eq_true rfl), zTb_in 368 (by decide +kernel) rfl, in_X9, tyX9_ok, nmX9, rfl, rfl, rfl⟩
theorem pf_X9_39 : zFf RX9 39 9 4 (tyX9 4) := ⟨RX9, TX9, 7, tyX9, rfl, (Nat.le_of_ble_eq_true rfl), zTb_in 371 (by decide +kernel) rfl, in_X9, tyX9_ok, nmX9, rfl, rfl, rfl⟩
theorem pf_X9_42 : zFf RX9 42 9 5 (tyX9 5) := ⟨RX9, TX9, 7, tyX9, rfl, (Nat.le_of_ble_eq_true rfl), zTb_in 374 (by decide +kernel) rfl, in_X9, tyX9_ok, nmX9, rfl, rfl, rfl⟩
theorem cl_X9_45 : Cond.classLink RX9 45 RX8 ∈ zTb := zTb_in 304 (by decide +kernel) rfl
theorem it_X8 : Cond.instantiable RX8 7 ∈ zTb := zTb_in 305 (by decide +kernel) rfl
theorem ii_X8 : Cond.initialized RX8 ∈ zTb := zTb_in 142 (by decide +kernel) rfl
theorem df_X8 : ∀ j, j < 7 → defaultValue (tyX8 j) = vp_V [.null, .null, .null, .null, .null, .null, .null] j := by decide +kernel
abbrev mX8_init : zMt := (yX8_init, cX8_init, 1, none)
theorem dX8_init_0 : decode cX8_init 0 = .ok (.aload_n 0, 1) := by decide +kernel
theorem dX8_init_1 : decode cX8_init 1 = .ok (.invokespecial 3, 3) := by decide +kernel
theorem dX8_init_4 : decode cX8_init 4 = .ok (.aload_n 0, 1) := by decide +kernel
theorem dX8_init_5 : decode cX8_init 5 = .ok (.new 9, 3) := by decide +kernel
theorem dX8_init_8 : decode cX8_init 8 = .ok (.dup, 1) := by decide +kernel
theorem dX8_init_9 : decode cX8_init 9 = .ok (.iconst 4, 1) := by decide +kernel
theorem dX8_init_10 : decode cX8_init 10 = .ok (.invokespecial 11, 3) := by decide +kernel
theorem dX8_init_13 : decode cX8_init 13 = .ok (.putfield 14, 3) := by decide +kernel
theorem dX8_init_16 : decode cX8_init 16 = .ok (.aload_n 0, 1) := by decide +kernel
theorem dX8_init_17 : decode cX8_init 17 = .ok (.new 9, 3) := by decide +kernel
theorem dX8_init_20 : decode cX8_init 20 = .ok (.dup, 1) := by decide +kernel
theorem dX8_init_21 : decode cX8_init 21 = .ok (.bipush 10, 2) := by decide +kernel
theorem dX8_init_23 : decode cX8_init 23 = .ok (.invokespecial 11, 3) := by decide +kernel
theorem dX8_init_26 : decode cX8_init 26 = .ok (.putfield 20, 3) := by decide +kernel
theorem dX8_init_29 : decode cX8_init 29 = .ok (.aload_n 0, 1) := by decide +kernel
theorem dX8_init_30 : decode cX8_init 30 = .ok (.new 9, 3) := by decide +kernel
theorem dX8_init_33 : decode cX8_init 33 = .ok (.dup, 1) := by decide +kernel
theorem dX8_init_34 : decode cX8_init 34 = .ok (.bipush 8, 2) := by decide +kernel
theorem dX8_init_36 : decode cX8_init 36 = .ok (.invokespecial 11, 3) := by decide +kernel
theorem dX8_init_39 : decode cX8_init 39 = .ok (.putfield 23, 3) := by decide +kernel
theorem dX8_init_42 : decode cX8_init 42 = .ok (.aload_n 0, 1) := by decide +kernel
theorem dX8_init_43 : decode cX8_init 43 = .ok (.new 9, 3) := by decide +kernel
theorem dX8_init_46 : decode cX8_init 46 = .ok (.dup, 1) := by decide +kernel
theorem dX8_init_47 : decode cX8_init 47 = .ok (.bipush 9, 2) := by decide +kernel
theorem dX8_init_49 : decode cX8_init 49 = .ok (.invokespecial 11, 3) := by decide +kernel
theorem dX8_init_52 : decode cX8_init 52 = .ok (.putfield 26, 3) := by decide +kernel
theorem dX8_init_55 : decode cX8_init 55 = .ok (.aload_n 0, 1) := by decide +kernel
theorem dX8_init_56 : decode cX8_init 56 = .ok (.new 9, 3) := by decide +kernel
theorem dX8_init_59 : decode cX8_init 59 = .ok (.dup, 1) := by decide +kernel
theorem dX8_init_60 : decode cX8_init 60 = .ok (.bipush 10, 2) := by decide +kernel
theorem dX8_init_62 : decode cX8_init 62 = .ok (.invokespecial 11, 3) := by decide +kernel
theorem dX8_init_65 : decode cX8_init 65 = .ok (.putfield 29, 3) := by decide +kernel
theorem dX8_init_68 : decode cX8_init 68 = .ok (.aload_n 0, 1) := by decide +kernel
theorem dX8_init_69 : decode cX8_init 69 = .ok (.new 9, 3) := by decide +kernel
theorem dX8_init_72 : decode cX8_init 72 = .ok (.dup, 1) := by decide +kernel
theorem dX8_init_73 : decode cX8_init 73 = .ok (.bipush 6, 2) := by decide +kernel
theorem dX8_init_75 : decode cX8_init 75 = .ok (.invokespecial 11, 3) := by decide +kernel
theorem dX8_init_78 : decode cX8_init 78 = .ok (.putfield 32, 3) := by decide +kernel
theorem dX8_init_81 : decode cX8_init 81 = .ok (.aload_n 0, 1) := by decide +kernel
theorem dX8_init_82 : decode cX8_init 82 = .ok (.bipush 36, 2) := by decide +kernel
theorem dX8_init_84 : decode cX8_init 84 = .ok (.newarray .int, 2) := by decide +kernel
theorem dX8_init_86 : decode cX8_init 86 = .ok (.putfield 35, 3) := by decide +kernel
theorem dX8_init_89 : decode cX8_init 89 = .ok (.return_, 1) := by decide +kernel
theorem mo_X8 : Cond.methodLink RX8 3 Lib.objectInit ∈ zTb := zTb_in 309 (by decide +kernel) rfl
theorem cl_X8_9 : Cond.classLink RX8 9 RX7 ∈ zTb := zTb_in 310 (by decide +kernel) rfl
theorem it_X7 : Cond.instantiable RX7 2 ∈ zTb := zTb_in 311 (by decide +kernel) rfl
theorem ii_X7 : Cond.initialized RX7 ∈ zTb := zTb_in 143 (by decide +kernel) rfl
theorem df_X7 : ∀ j, j < 2 → defaultValue (tyX7 j) = vp_V [.null, .int (0 : Int32)] j := by decide +kernel
abbrev mX7_init : zMt := (yX7_init, cX7_init, 2, none)
theorem dX7_init_0 : decode cX7_init 0 = .ok (.aload_n 0, 1) := by decide +kernel
theorem dX7_init_1 : decode cX7_init 1 = .ok (.invokespecial 3, 3) := by decide +kernel
theorem dX7_init_4 : decode cX7_init 4 = .ok (.aload_n 0, 1) := by decide +kernel
theorem dX7_init_5 : decode cX7_init 5 = .ok (.iconst 0, 1) := by decide +kernel
theorem dX7_init_6 : decode cX7_init 6 = .ok (.putfield 9, 3) := by decide +kernel
theorem dX7_init_9 : decode cX7_init 9 = .ok (.aload_n 0, 1) := by decide +kernel
theorem dX7_init_10 : decode cX7_init 10 = .ok (.iload_n 1, 1) := by decide +kernel
theorem dX7_init_11 : decode cX7_init 11 = .ok (.newarray .int, 2) := by decide +kernel
theorem dX7_init_13 : decode cX7_init 13 = .ok (.putfield 15, 3) := by decide +kernel
theorem dX7_init_16 : decode cX7_init 16 = .ok (.return_, 1) := by decide +kernel
theorem mo_X7 : Cond.methodLink RX7 3 Lib.objectInit ∈ zTb := zTb_in 315 (by decide +kernel) rfl
theorem pf_X7_9 : zFp RX7 9 7 1 (tyX7 1) := ⟨RX7, TX7, 2, tyX7, rfl, (Nat.le_of_ble_eq_true rfl), zTb_in 317 (by decide +kernel) rfl, in_X7, tyX7_ok, nmX7, rfl, rfl⟩
theorem pf_X7_15 : zFf RX7 15 7 0 (tyX7 0) := ⟨RX7, TX7, 2, tyX7, rfl, (Nat.le_of_ble_eq_true rfl), zTb_in 316 (by decide +kernel) rfl, in_X7, tyX7_ok, nmX7, rfl, rfl, rfl⟩
def wX7_4_l : List (Nat × Nat × List (Option Nat)) := [(10, 2, [some 1, none]), (0, 4, [])]
def wX7_4 : zWd := zsh wX7_4_l
def tX7_4_t : List (Nat × List (Nat × Int32)) := []
def hX7_4 : zHp := zhp tX7_4_t
set_option maxHeartbeats 4000000 in
set_option maxRecDepth 100000 in
theorem n_X7_4 : Ini wX7_4 hX7_4 mX7_init 1 1 4 [.int (4 : Int32)] 7 [.null, .int (0 : Int32)] (fun q r => r 0 = q) := by
  refine Ini.of rfl (fun _ => Nat.le_of_ble_eq_true rfl) rfl (fun D g q => ?_)
  refine Cn.aload_n 0 dX7_init_0 rfl ?_
  refine Cn.obj dX7_init_1 mo_X7 io_obj co_obj (Nat.le_of_ble_eq_true rfl) (Nat.le_of_ble_eq_true rfl) ?_
  refine Cn.aload_n 0 dX7_init_4 rfl ?_
  refine Cn.iconst (v := (0 : Int32)) dX7_init_5 rfl ?_
  refine Cn.put (fs' := [.null, .int (0 : Int32)]) pf_X7_9 dX7_init_6 rfl rfl (Nat.le_of_ble_eq_true rfl) rfl ?_
  refine Cn.aload_n 0 dX7_init_9 rfl ?_
  refine Cn.iload_n 1 dX7_init_10 rfl ?_
  refine Cn.newI (N := 4) (c' := 1) (s' := 4) dX7_init_11 ac_int (by decide) rfl (Nat.le_of_ble_eq_true rfl) rfl rfl (Nat.le_of_ble_eq_true rfl) (Nat.le_of_ble_eq_true rfl) (fun a1 => ?_)
  refine Cn.putF (fs' := [.ref a1, .int (0 : Int32)]) pf_X7_15 dX7_init_13 rfl rfl (Nat.le_of_ble_eq_true rfl) rfl ?_
  have e1 : zSe g (zRp [(1, fun _ => q), (1, fun _ => a1)]) wX7_4 hX7_4 1 1 = [(a1, .inl (g.1, 4, .inl (zuf [])))] := zSe_arr rfl rfl rfl rfl
  exact Cn.ret (r := (zRp [(1, fun _ => q), (1, fun _ => a1)])) dX7_init_16 rfl rfl rfl rfl (zW_of (n := 1) rfl rfl rfl (zSe_snoc zSe_nil (show 1 + 0 = 1 from rfl) (show 0 + 1 = 1 from rfl) e1))
theorem mi_X8_11 : Cond.methodLink RX8 11 mX7_init.1 ∈ zTb := zTb_in 312 (by decide +kernel) rfl
theorem mm_X7 : zMm mX7_init 1 := ⟨zTb_in 314 (by decide +kernel) rfl, zTb_in 143 (by decide +kernel) rfl, ⟨by decide +kernel, by decide +kernel⟩, by decide +kernel⟩
theorem im_X7 : Cond.instanceMethod mX7_init.1 ∈ zTb := zTb_in 313 (by decide +kernel) rfl
theorem pf_X8_14 : zFf RX8 14 8 0 (tyX8 0) := ⟨RX8, TX8, 7, tyX8, rfl, (Nat.le_of_ble_eq_true rfl), zTb_in 324 (by decide +kernel) rfl, in_X8, tyX8_ok, nmX8, rfl, rfl, rfl⟩
def wX7_10_l : List (Nat × Nat × List (Option Nat)) := [(10, 2, [some 1, none]), (0, 10, [])]
def wX7_10 : zWd := zsh wX7_10_l
def tX7_10_t : List (Nat × List (Nat × Int32)) := []
def hX7_10 : zHp := zhp tX7_10_t
set_option maxHeartbeats 4000000 in
set_option maxRecDepth 100000 in
theorem n_X7_10 : Ini wX7_10 hX7_10 mX7_init 1 1 10 [.int (10 : Int32)] 7 [.null, .int (0 : Int32)] (fun q r => r 0 = q) := by
  refine Ini.of rfl (fun _ => Nat.le_of_ble_eq_true rfl) rfl (fun D g q => ?_)
  refine Cn.aload_n 0 dX7_init_0 rfl ?_
  refine Cn.obj dX7_init_1 mo_X7 io_obj co_obj (Nat.le_of_ble_eq_true rfl) (Nat.le_of_ble_eq_true rfl) ?_
  refine Cn.aload_n 0 dX7_init_4 rfl ?_
  refine Cn.iconst (v := (0 : Int32)) dX7_init_5 rfl ?_
  refine Cn.put (fs' := [.null, .int (0 : Int32)]) pf_X7_9 dX7_init_6 rfl rfl (Nat.le_of_ble_eq_true rfl) rfl ?_
  refine Cn.aload_n 0 dX7_init_9 rfl ?_
  refine Cn.iload_n 1 dX7_init_10 rfl ?_
  refine Cn.newI (N := 10) (c' := 1) (s' := 10) dX7_init_11 ac_int (by decide) rfl (Nat.le_of_ble_eq_true rfl) rfl rfl (Nat.le_of_ble_eq_true rfl) (Nat.le_of_ble_eq_true rfl) (fun a1 => ?_)
  refine Cn.putF (fs' := [.ref a1, .int (0 : Int32)]) pf_X7_15 dX7_init_13 rfl rfl (Nat.le_of_ble_eq_true rfl) rfl ?_
  have e1 : zSe g (zRp [(1, fun _ => q), (1, fun _ => a1)]) wX7_10 hX7_10 1 1 = [(a1, .inl (g.1, 10, .inl (zuf [])))] := zSe_arr rfl rfl rfl rfl
  exact Cn.ret (r := (zRp [(1, fun _ => q), (1, fun _ => a1)])) dX7_init_16 rfl rfl rfl rfl (zW_of (n := 1) rfl rfl rfl (zSe_snoc zSe_nil (show 1 + 0 = 1 from rfl) (show 0 + 1 = 1 from rfl) e1))
theorem pf_X8_20 : zFf RX8 20 8 1 (tyX8 1) := ⟨RX8, TX8, 7, tyX8, rfl, (Nat.le_of_ble_eq_true rfl), zTb_in 327 (by decide +kernel) rfl, in_X8, tyX8_ok, nmX8, rfl, rfl, rfl⟩
def wX7_8_l : List (Nat × Nat × List (Option Nat)) := [(10, 2, [some 1, none]), (0, 8, [])]
def wX7_8 : zWd := zsh wX7_8_l
def tX7_8_t : List (Nat × List (Nat × Int32)) := []
def hX7_8 : zHp := zhp tX7_8_t
set_option maxHeartbeats 4000000 in
set_option maxRecDepth 100000 in
theorem n_X7_8 : Ini wX7_8 hX7_8 mX7_init 1 1 8 [.int (8 : Int32)] 7 [.null, .int (0 : Int32)] (fun q r => r 0 = q) := by
  refine Ini.of rfl (fun _ => Nat.le_of_ble_eq_true rfl) rfl (fun D g q => ?_)
  refine Cn.aload_n 0 dX7_init_0 rfl ?_
  refine Cn.obj dX7_init_1 mo_X7 io_obj co_obj (Nat.le_of_ble_eq_true rfl) (Nat.le_of_ble_eq_true rfl) ?_
  refine Cn.aload_n 0 dX7_init_4 rfl ?_
  refine Cn.iconst (v := (0 : Int32)) dX7_init_5 rfl ?_
  refine Cn.put (fs' := [.null, .int (0 : Int32)]) pf_X7_9 dX7_init_6 rfl rfl (Nat.le_of_ble_eq_true rfl) rfl ?_
  refine Cn.aload_n 0 dX7_init_9 rfl ?_
  refine Cn.iload_n 1 dX7_init_10 rfl ?_
  refine Cn.newI (N := 8) (c' := 1) (s' := 8) dX7_init_11 ac_int (by decide) rfl (Nat.le_of_ble_eq_true rfl) rfl rfl (Nat.le_of_ble_eq_true rfl) (Nat.le_of_ble_eq_true rfl) (fun a1 => ?_)
  refine Cn.putF (fs' := [.ref a1, .int (0 : Int32)]) pf_X7_15 dX7_init_13 rfl rfl (Nat.le_of_ble_eq_true rfl) rfl ?_
  have e1 : zSe g (zRp [(1, fun _ => q), (1, fun _ => a1)]) wX7_8 hX7_8 1 1 = [(a1, .inl (g.1, 8, .inl (zuf [])))] := zSe_arr rfl rfl rfl rfl
  exact Cn.ret (r := (zRp [(1, fun _ => q), (1, fun _ => a1)])) dX7_init_16 rfl rfl rfl rfl (zW_of (n := 1) rfl rfl rfl (zSe_snoc zSe_nil (show 1 + 0 = 1 from rfl) (show 0 + 1 = 1 from rfl) e1))
theorem pf_X8_23 : zFf RX8 23 8 2 (tyX8 2) := ⟨RX8, TX8, 7, tyX8, rfl, (Nat.le_of_ble_eq_true rfl), zTb_in 330 (by decide +kernel) rfl, in_X8, tyX8_ok, nmX8, rfl, rfl, rfl⟩
def wX7_9_l : List (Nat × Nat × List (Option Nat)) := [(10, 2, [some 1, none]), (0, 9, [])]
def wX7_9 : zWd := zsh wX7_9_l
def tX7_9_t : List (Nat × List (Nat × Int32)) := []
def hX7_9 : zHp := zhp tX7_9_t
set_option maxHeartbeats 4000000 in
set_option maxRecDepth 100000 in
theorem n_X7_9 : Ini wX7_9 hX7_9 mX7_init 1 1 9 [.int (9 : Int32)] 7 [.null, .int (0 : Int32)] (fun q r => r 0 = q) := by
  refine Ini.of rfl (fun _ => Nat.le_of_ble_eq_true rfl) rfl (fun D g q => ?_)
  refine Cn.aload_n 0 dX7_init_0 rfl ?_
  refine Cn.obj dX7_init_1 mo_X7 io_obj co_obj (Nat.le_of_ble_eq_true rfl) (Nat.le_of_ble_eq_true rfl) ?_
  refine Cn.aload_n 0 dX7_init_4 rfl ?_
  refine Cn.iconst (v := (0 : Int32)) dX7_init_5 rfl ?_
  refine Cn.put (fs' := [.null, .int (0 : Int32)]) pf_X7_9 dX7_init_6 rfl rfl (Nat.le_of_ble_eq_true rfl) rfl ?_
  refine Cn.aload_n 0 dX7_init_9 rfl ?_
  refine Cn.iload_n 1 dX7_init_10 rfl ?_
  refine Cn.newI (N := 9) (c' := 1) (s' := 9) dX7_init_11 ac_int (by decide) rfl (Nat.le_of_ble_eq_true rfl) rfl rfl (Nat.le_of_ble_eq_true rfl) (Nat.le_of_ble_eq_true rfl) (fun a1 => ?_)
  refine Cn.putF (fs' := [.ref a1, .int (0 : Int32)]) pf_X7_15 dX7_init_13 rfl rfl (Nat.le_of_ble_eq_true rfl) rfl ?_
  have e1 : zSe g (zRp [(1, fun _ => q), (1, fun _ => a1)]) wX7_9 hX7_9 1 1 = [(a1, .inl (g.1, 9, .inl (zuf [])))] := zSe_arr rfl rfl rfl rfl
  exact Cn.ret (r := (zRp [(1, fun _ => q), (1, fun _ => a1)])) dX7_init_16 rfl rfl rfl rfl (zW_of (n := 1) rfl rfl rfl (zSe_snoc zSe_nil (show 1 + 0 = 1 from rfl) (show 0 + 1 = 1 from rfl) e1))
theorem pf_X8_26 : zFf RX8 26 8 3 (tyX8 3) := ⟨RX8, TX8, 7, tyX8, rfl, (Nat.le_of_ble_eq_true rfl), zTb_in 333 (by decide +kernel) rfl, in_X8, tyX8_ok, nmX8, rfl, rfl, rfl⟩
theorem pf_X8_29 : zFf RX8 29 8 4 (tyX8 4) := ⟨RX8, TX8, 7, tyX8, rfl, (Nat.le_of_ble_eq_true rfl), zTb_in 336 (by decide +kernel) rfl, in_X8, tyX8_ok, nmX8, rfl, rfl, rfl⟩
def wX7_6_l : List (Nat × Nat × List (Option Nat)) := [(10, 2, [some 1, none]), (0, 6, [])]
def wX7_6 : zWd := zsh wX7_6_l
def tX7_6_t : List (Nat × List (Nat × Int32)) := []
def hX7_6 : zHp := zhp tX7_6_t
set_option maxHeartbeats 4000000 in
set_option maxRecDepth 100000 in
theorem n_X7_6 : Ini wX7_6 hX7_6 mX7_init 1 1 6 [.int (6 : Int32)] 7 [.null, .int (0 : Int32)] (fun q r => r 0 = q) := by
  refine Ini.of rfl (fun _ => Nat.le_of_ble_eq_true rfl) rfl (fun D g q => ?_)
  refine Cn.aload_n 0 dX7_init_0 rfl ?_
  refine Cn.obj dX7_init_1 mo_X7 io_obj co_obj (Nat.le_of_ble_eq_true rfl) (Nat.le_of_ble_eq_true rfl) ?_
  refine Cn.aload_n 0 dX7_init_4 rfl ?_
  refine Cn.iconst (v := (0 : Int32)) dX7_init_5 rfl ?_
  refine Cn.put (fs' := [.null, .int (0 : Int32)]) pf_X7_9 dX7_init_6 rfl rfl (Nat.le_of_ble_eq_true rfl) rfl ?_
  refine Cn.aload_n 0 dX7_init_9 rfl ?_
  refine Cn.iload_n 1 dX7_init_10 rfl ?_
  refine Cn.newI (N := 6) (c' := 1) (s' := 6) dX7_init_11 ac_int (by decide) rfl (Nat.le_of_ble_eq_true rfl) rfl rfl (Nat.le_of_ble_eq_true rfl) (Nat.le_of_ble_eq_true rfl) (fun a1 => ?_)
  refine Cn.putF (fs' := [.ref a1, .int (0 : Int32)]) pf_X7_15 dX7_init_13 rfl rfl (Nat.le_of_ble_eq_true rfl) rfl ?_
  have e1 : zSe g (zRp [(1, fun _ => q), (1, fun _ => a1)]) wX7_6 hX7_6 1 1 = [(a1, .inl (g.1, 6, .inl (zuf [])))] := zSe_arr rfl rfl rfl rfl
  exact Cn.ret (r := (zRp [(1, fun _ => q), (1, fun _ => a1)])) dX7_init_16 rfl rfl rfl rfl (zW_of (n := 1) rfl rfl rfl (zSe_snoc zSe_nil (show 1 + 0 = 1 from rfl) (show 0 + 1 = 1 from rfl) e1))
theorem pf_X8_32 : zFf RX8 32 8 5 (tyX8 5) := ⟨RX8, TX8, 7, tyX8, rfl, (Nat.le_of_ble_eq_true rfl), zTb_in 339 (by decide +kernel) rfl, in_X8, tyX8_ok, nmX8, rfl, rfl, rfl⟩
theorem pf_X8_35 : zFf RX8 35 8 6 (tyX8 6) := ⟨RX8, TX8, 7, tyX8, rfl, (Nat.le_of_ble_eq_true rfl), zTb_in 342 (by decide +kernel) rfl, in_X8, tyX8_ok, nmX8, rfl, rfl, rfl⟩
def wX8_l : List (Nat × Nat × List (Option Nat)) := [(11, 7, [some 1, some 3, some 5, some 7, some 9, some 11, some 13]), (10, 2, [some 2, none]), (0, 4, []), (10, 2, [some 4, none]), (0, 10, []), (10, 2, [some 6, none]), (0, 8, []), (10, 2, [some 8, none]), (0, 9, []), (10, 2, [some 10, none]), (0, 10, []), (10, 2, [some 12, none]), (0, 6, []), (0, 36, [])]
def wX8 : zWd := zsh wX8_l
def tX8_t : List (Nat × List (Nat × Int32)) := []
def hX8 : zHp := zhp tX8_t
set_option maxHeartbeats 4000000 in
set_option maxRecDepth 100000 in
theorem n_X8 : Ini wX8 hX8 mX8_init 2 13 95 [] 8 [.null, .null, .null, .null, .null, .null, .null] (fun q r => r 0 = q) := by
  refine Ini.of rfl (fun _ => Nat.le_of_ble_eq_true rfl) rfl (fun D g q => ?_)
  refine Cn.aload_n 0 dX8_init_0 rfl ?_
  refine Cn.obj dX8_init_1 mo_X8 io_obj co_obj (Nat.le_of_ble_eq_true rfl) (Nat.le_of_ble_eq_true rfl) ?_
  refine Cn.aload_n 0 dX8_init_4 rfl ?_
  refine Cn.new (ci := 7) (C0 := RX7) (T := TX7) (N := 2) (fs := [.null, .int (0 : Int32)]) (c' := 1) (s' := 2) dX8_init_5 rfl in_X7 tyX7_ok cl_X8_9 it_X7 ii_X7 df_X7 rfl rfl (Nat.le_of_ble_eq_true rfl) (Nat.le_of_ble_eq_true rfl) (fun a1 => ?_)
  refine Cn.dup dX8_init_8 rfl ?_
  refine Cn.iconst (v := (4 : Int32)) dX8_init_9 rfl ?_
  refine Cn.call1 (c' := 2) (s' := 6) (n_X7_4) dX8_init_10 mi_X8_11 mm_X7 rfl rfl im_X7 (Nat.le_of_ble_eq_true rfl) (Nat.le_of_ble_eq_true rfl) (Nat.le_of_ble_eq_true rfl) rfl rfl (Nat.le_of_ble_eq_true rfl) (Nat.le_of_ble_eq_true rfl) (fun r2 hr => ?_)
  replace hr : r2 0 = a1 := hr
  subst hr
  refine Cn.putF (fs' := [.ref (r2 0), .null, .null, .null, .null, .null, .null]) pf_X8_14 dX8_init_13 rfl rfl (Nat.le_of_ble_eq_true rfl) rfl ?_
  refine Cn.aload_n 0 dX8_init_16 rfl ?_
  refine Cn.new (ci := 7) (C0 := RX7) (T := TX7) (N := 2) (fs := [.null, .int (0 : Int32)]) (c' := 3) (s' := 8) dX8_init_17 rfl in_X7 tyX7_ok cl_X8_9 it_X7 ii_X7 df_X7 rfl rfl (Nat.le_of_ble_eq_true rfl) (Nat.le_of_ble_eq_true rfl) (fun a3 => ?_)
  refine Cn.dup dX8_init_20 rfl ?_
  refine Cn.bipush (v := (10 : Int32)) dX8_init_21 rfl ?_
  refine Cn.call1 (c' := 4) (s' := 18) (n_X7_10) dX8_init_23 mi_X8_11 mm_X7 rfl rfl im_X7 (Nat.le_of_ble_eq_true rfl) (Nat.le_of_ble_eq_true rfl) (Nat.le_of_ble_eq_true rfl) rfl rfl (Nat.le_of_ble_eq_true rfl) (Nat.le_of_ble_eq_true rfl) (fun r4 hr => ?_)
  replace hr : r4 0 = a3 := hr
  subst hr
  refine Cn.putF (fs' := [.ref (r2 0), .ref (r4 0), .null, .null, .null, .null, .null]) pf_X8_20 dX8_init_26 rfl rfl (Nat.le_of_ble_eq_true rfl) rfl ?_
  refine Cn.aload_n 0 dX8_init_29 rfl ?_
  refine Cn.new (ci := 7) (C0 := RX7) (T := TX7) (N := 2) (fs := [.null, .int (0 : Int32)]) (c' := 5) (s' := 20) dX8_init_30 rfl in_X7 tyX7_ok cl_X8_9 it_X7 ii_X7 df_X7 rfl rfl (Nat.le_of_ble_eq_true rfl) (Nat.le_of_ble_eq_true rfl) (fun a5 => ?_)
  refine Cn.dup dX8_init_33 rfl ?_
  refine Cn.bipush (v := (8 : Int32)) dX8_init_34 rfl ?_
  refine Cn.call1 (c' := 6) (s' := 28) (n_X7_8) dX8_init_36 mi_X8_11 mm_X7 rfl rfl im_X7 (Nat.le_of_ble_eq_true rfl) (Nat.le_of_ble_eq_true rfl) (Nat.le_of_ble_eq_true rfl) rfl rfl (Nat.le_of_ble_eq_true rfl) (Nat.le_of_ble_eq_true rfl) (fun r6 hr => ?_)
  replace hr : r6 0 = a5 := hr
  subst hr
  refine Cn.putF (fs' := [.ref (r2 0), .ref (r4 0), .ref (r6 0), .null, .null, .null, .null]) pf_X8_23 dX8_init_39 rfl rfl (Nat.le_of_ble_eq_true rfl) rfl ?_
  refine Cn.aload_n 0 dX8_init_42 rfl ?_
  refine Cn.new (ci := 7) (C0 := RX7) (T := TX7) (N := 2) (fs := [.null, .int (0 : Int32)]) (c' := 7) (s' := 30) dX8_init_43 rfl in_X7 tyX7_ok cl_X8_9 it_X7 ii_X7 df_X7 rfl rfl (Nat.le_of_ble_eq_true rfl) (Nat.le_of_ble_eq_true rfl) (fun a7 => ?_)
  refine Cn.dup dX8_init_46 rfl ?_
  refine Cn.bipush (v := (9 : Int32)) dX8_init_47 rfl ?_
  refine Cn.call1 (c' := 8) (s' := 39) (n_X7_9) dX8_init_49 mi_X8_11 mm_X7 rfl rfl im_X7 (Nat.le_of_ble_eq_true rfl) (Nat.le_of_ble_eq_true rfl) (Nat.le_of_ble_eq_true rfl) rfl rfl (Nat.le_of_ble_eq_true rfl) (Nat.le_of_ble_eq_true rfl) (fun r8 hr => ?_)
  replace hr : r8 0 = a7 := hr
  subst hr
  refine Cn.putF (fs' := [.ref (r2 0), .ref (r4 0), .ref (r6 0), .ref (r8 0), .null, .null, .null]) pf_X8_26 dX8_init_52 rfl rfl (Nat.le_of_ble_eq_true rfl) rfl ?_
  refine Cn.aload_n 0 dX8_init_55 rfl ?_
  refine Cn.new (ci := 7) (C0 := RX7) (T := TX7) (N := 2) (fs := [.null, .int (0 : Int32)]) (c' := 9) (s' := 41) dX8_init_56 rfl in_X7 tyX7_ok cl_X8_9 it_X7 ii_X7 df_X7 rfl rfl (Nat.le_of_ble_eq_true rfl) (Nat.le_of_ble_eq_true rfl) (fun a9 => ?_)
  refine Cn.dup dX8_init_59 rfl ?_
  refine Cn.bipush (v := (10 : Int32)) dX8_init_60 rfl ?_
  refine Cn.call1 (c' := 10) (s' := 51) (n_X7_10) dX8_init_62 mi_X8_11 mm_X7 rfl rfl im_X7 (Nat.le_of_ble_eq_true rfl) (Nat.le_of_ble_eq_true rfl) (Nat.le_of_ble_eq_true rfl) rfl rfl (Nat.le_of_ble_eq_true rfl) (Nat.le_of_ble_eq_true rfl) (fun r10 hr => ?_)
  replace hr : r10 0 = a9 := hr
  subst hr
  refine Cn.putF (fs' := [.ref (r2 0), .ref (r4 0), .ref (r6 0), .ref (r8 0), .ref (r10 0), .null, .null]) pf_X8_29 dX8_init_65 rfl rfl (Nat.le_of_ble_eq_true rfl) rfl ?_
  refine Cn.aload_n 0 dX8_init_68 rfl ?_
  refine Cn.new (ci := 7) (C0 := RX7) (T := TX7) (N := 2) (fs := [.null, .int (0 : Int32)]) (c' := 11) (s' := 53) dX8_init_69 rfl in_X7 tyX7_ok cl_X8_9 it_X7 ii_X7 df_X7 rfl rfl (Nat.le_of_ble_eq_true rfl) (Nat.le_of_ble_eq_true rfl) (fun a11 => ?_)
  refine Cn.dup dX8_init_72 rfl ?_
  refine Cn.bipush (v := (6 : Int32)) dX8_init_73 rfl ?_
  refine Cn.call1 (c' := 12) (s' := 59) (n_X7_6) dX8_init_75 mi_X8_11 mm_X7 rfl rfl im_X7 (Nat.le_of_ble_eq_true rfl) (Nat.le_of_ble_eq_true rfl) (Nat.le_of_ble_eq_true rfl) rfl rfl (Nat.le_of_ble_eq_true rfl) (Nat.le_of_ble_eq_true rfl) (fun r12 hr => ?_)
  replace hr : r12 0 = a11 := hr
  subst hr
  refine Cn.putF (fs' := [.ref (r2 0), .ref (r4 0), .ref (r6 0), .ref (r8 0), .ref (r10 0), .ref (r12 0), .null]) pf_X8_32 dX8_init_78 rfl rfl (Nat.le_of_ble_eq_true rfl) rfl ?_
  refine Cn.aload_n 0 dX8_init_81 rfl ?_
  refine Cn.bipush (v := (36 : Int32)) dX8_init_82 rfl ?_
  refine Cn.newI (N := 36) (c' := 13) (s' := 95) dX8_init_84 ac_int (by decide) rfl (Nat.le_of_ble_eq_true rfl) rfl rfl (Nat.le_of_ble_eq_true rfl) (Nat.le_of_ble_eq_true rfl) (fun a13 => ?_)
  refine Cn.putF (fs' := [.ref (r2 0), .ref (r4 0), .ref (r6 0), .ref (r8 0), .ref (r10 0), .ref (r12 0), .ref a13]) pf_X8_35 dX8_init_86 rfl rfl (Nat.le_of_ble_eq_true rfl) rfl ?_
  have e1 : zSe g (zRp [(1, fun _ => q), (2, r2), (2, r4), (2, r6), (2, r8), (2, r10), (2, r12), (1, fun _ => a13)]) wX8 hX8 1 2 = zW g r2 wX7_4 hX7_4 := zSe_in (l := wX8_l) (l' := wX7_4_l) (t := tX8_t) (t' := tX7_4_t) rfl (by decide +kernel) (by decide +kernel) (by decide +kernel) (fun j hj => (congrArg (zRp _) (show 1 + j = 1 + (j) by omega)).trans (zRp_1.trans (zRp_0 hj)))
  have e2 : zSe g (zRp [(1, fun _ => q), (2, r2), (2, r4), (2, r6), (2, r8), (2, r10), (2, r12), (1, fun _ => a13)]) wX8 hX8 3 2 = zW g r4 wX7_10 hX7_10 := zSe_in (l := wX8_l) (l' := wX7_10_l) (t := tX8_t) (t' := tX7_10_t) rfl (by decide +kernel) (by decide +kernel) (by decide +kernel) (fun j hj => (congrArg (zRp _) (show 3 + j = 1 + (2 + (j)) by omega)).trans (zRp_1.trans (zRp_1.trans (zRp_0 hj))))
  have e3 : zSe g (zRp [(1, fun _ => q), (2, r2), (2, r4), (2, r6), (2, r8), (2, r10), (2, r12), (1, fun _ => a13)]) wX8 hX8 5 2 = zW g r6 wX7_8 hX7_8 := zSe_in (l := wX8_l) (l' := wX7_8_l) (t := tX8_t) (t' := tX7_8_t) rfl (by decide +kernel) (by decide +kernel) (by decide +kernel) (fun j hj => (congrArg (zRp _) (show 5 + j = 1 + (2 + (2 + (j))) by omega)).trans (zRp_1.trans (zRp_1.trans (zRp_1.trans (zRp_0 hj)))))
  have e4 : zSe g (zRp [(1, fun _ => q), (2, r2), (2, r4), (2, r6), (2, r8), (2, r10), (2, r12), (1, fun _ => a13)]) wX8 hX8 7 2 = zW g r8 wX7_9 hX7_9 := zSe_in (l := wX8_l) (l' := wX7_9_l) (t := tX8_t) (t' := tX7_9_t) rfl (by decide +kernel) (by decide +kernel) (by decide +kernel) (fun j hj => (congrArg (zRp _) (show 7 + j = 1 + (2 + (2 + (2 + (j)))) by omega)).trans (zRp_1.trans (zRp_1.trans (zRp_1.trans (zRp_1.trans (zRp_0 hj))))))
  have e5 : zSe g (zRp [(1, fun _ => q), (2, r2), (2, r4), (2, r6), (2, r8), (2, r10), (2, r12), (1, fun _ => a13)]) wX8 hX8 9 2 = zW g r10 wX7_10 hX7_10 := zSe_in (l := wX8_l) (l' := wX7_10_l) (t := tX8_t) (t' := tX7_10_t) rfl (by decide +kernel) (by decide +kernel) (by decide +kernel) (fun j hj => (congrArg (zRp _) (show 9 + j = 1 + (2 + (2 + (2 + (2 + (j))))) by omega)).trans (zRp_1.trans (zRp_1.trans (zRp_1.trans (zRp_1.trans (zRp_1.trans (zRp_0 hj)))))))
  have e6 : zSe g (zRp [(1, fun _ => q), (2, r2), (2, r4), (2, r6), (2, r8), (2, r10), (2, r12), (1, fun _ => a13)]) wX8 hX8 11 2 = zW g r12 wX7_6 hX7_6 := zSe_in (l := wX8_l) (l' := wX7_6_l) (t := tX8_t) (t' := tX7_6_t) rfl (by decide +kernel) (by decide +kernel) (by decide +kernel) (fun j hj => (congrArg (zRp _) (show 11 + j = 1 + (2 + (2 + (2 + (2 + (2 + (j)))))) by omega)).trans (zRp_1.trans (zRp_1.trans (zRp_1.trans (zRp_1.trans (zRp_1.trans (zRp_1.trans (zRp_0 hj))))))))
  have e7 : zSe g (zRp [(1, fun _ => q), (2, r2), (2, r4), (2, r6), (2, r8), (2, r10), (2, r12), (1, fun _ => a13)]) wX8 hX8 13 1 = [(a13, .inl (g.1, 36, .inl (zuf [])))] := zSe_arr rfl rfl rfl rfl
  exact Cn.ret (r := (zRp [(1, fun _ => q), (2, r2), (2, r4), (2, r6), (2, r8), (2, r10), (2, r12), (1, fun _ => a13)])) dX8_init_89 rfl rfl rfl rfl (zW_of (n := 13) rfl rfl rfl (zSe_snoc (zSe_snoc (zSe_snoc (zSe_snoc (zSe_snoc (zSe_snoc (zSe_snoc zSe_nil (show 1 + 0 = 1 from rfl) (show 0 + 2 = 2 from rfl) e1) (show 1 + 2 = 3 from rfl) (show 2 + 2 = 4 from rfl) e2) (show 1 + 4 = 5 from rfl) (show 4 + 2 = 6 from rfl) e3) (show 1 + 6 = 7 from rfl) (show 6 + 2 = 8 from rfl) e4) (show 1 + 8 = 9 from rfl) (show 8 + 2 = 10 from rfl) e5) (show 1 + 10 = 11 from rfl) (show 10 + 2 = 12 from rfl) e6) (show 1 + 12 = 13 from rfl) (show 12 + 1 = 13 from rfl) e7))
theorem mi_X9_47 : ∀ U, zXt U → va_Nw (.methodLinkNest RX9 47 mX8_init.1 RX10) U := fun _ q => q.2.2.1
theorem mm_X8 : zMm mX8_init 0 := ⟨zTb_in 308 (by decide +kernel) rfl, zTb_in 142 (by decide +kernel) rfl, ⟨by decide +kernel, by decide +kernel⟩, by decide +kernel⟩
theorem im_X8 : Cond.instanceMethod mX8_init.1 ∈ zTb := zTb_in 307 (by decide +kernel) rfl
theorem pf_X9_48 : zFf RX9 48 9 6 (tyX9 6) := ⟨RX9, TX9, 7, tyX9, rfl, (Nat.le_of_ble_eq_true rfl), zTb_in 377 (by decide +kernel) rfl, in_X9, tyX9_ok, nmX9, rfl, rfl, rfl⟩
def wX9_l : List (Nat × Nat × List (Option Nat)) := [(12, 7, [some 1, some 10, some 12, some 19, some 21, some 23, some 25]), (7, 15, [none, some 2, some 3, some 4, some 5, some 6, some 7, some 8, some 9, none, none, none, none, none, none]), (0, 10, []), (0, 10, []), (0, 10, []), (0, 10, []), (0, 14, []), (0, 14, []), (0, 14, []), (0, 14, []), (5, 3, [none, some 11, none]), (0, 600, []), (4, 8, [some 13, some 14, some 15, some 16, some 17, some 18, none, none]), (0, 16, []), (0, 16, []), (0, 16, []), (0, 16, []), (0, 400, []), (0, 26, []), (5, 3, [none, some 20, none]), (0, 64, []), (5, 3, [none, some 22, none]), (0, 64, []), (5, 3, [none, some 24, none]), (0, 64, []), (11, 7, [some 26, some 28, some 30, some 32, some 34, some 36, some 38]), (10, 2, [some 27, none]), (0, 4, []), (10, 2, [some 29, none]), (0, 10, []), (10, 2, [some 31, none]), (0, 8, []), (10, 2, [some 33, none]), (0, 9, []), (10, 2, [some 35, none]), (0, 10, []), (10, 2, [some 37, none]), (0, 6, []), (0, 36, [])]
def wX9 : zWd := zsh wX9_l
def tX9_t : List (Nat × List (Nat × Int32)) := [(10, [(0, (150 : Int32))]), (19, [(0, (16 : Int32))]), (21, [(0, (16 : Int32))]), (23, [(0, (16 : Int32))])]
def hX9 : zHp := zhp tX9_t
set_option maxHeartbeats 4000000 in
set_option maxRecDepth 100000 in
theorem n_X9 : Ini wX9 hX9 mX9_init 3 38 1515 [] 9 [.null, .null, .null, .null, .null, .null, .null] (fun q r => r 0 = q) := by
  refine Ini.of rfl (fun _ => Nat.le_of_ble_eq_true rfl) rfl (fun D g q => ?_)
  refine Cn.aload_n 0 dX9_init_0 rfl ?_
  refine Cn.obj dX9_init_1 mo_X9 io_obj co_obj (Nat.le_of_ble_eq_true rfl) (Nat.le_of_ble_eq_true rfl) ?_
  refine Cn.aload_n 0 dX9_init_4 rfl ?_
  refine Cn.new (ci := 4) (C0 := RX4) (T := TX4) (N := 15) (fs := [.int (0 : Int32), .null, .null, .null, .null, .null, .null, .null, .null, .int (0 : Int32), .int (0 : Int32), .int (0 : Int32), .int (0 : Int32), .int (0 : Int32), .int (0 : Int32)]) (c' := 1) (s' := 15) dX9_init_5 rfl in_X4 tyX4_ok cl_X9_9 it_X4 ii_X4 df_X4 rfl rfl (Nat.le_of_ble_eq_true rfl) (Nat.le_of_ble_eq_true rfl) (fun a1 => ?_)
  refine Cn.dup dX9_init_8 rfl ?_
  refine Cn.iconst (v := (0 : Int32)) dX9_init_9 rfl ?_
  refine Cn.call1 (c' := 9) (s' := 111) (n_X4_0) dX9_init_10 mi_X9_11 mm_X4 rfl rfl im_X4 (Nat.le_of_ble_eq_true rfl) (Nat.le_of_ble_eq_true rfl) (Nat.le_of_ble_eq_true rfl) rfl rfl (Nat.le_of_ble_eq_true rfl) (Nat.le_of_ble_eq_true rfl) (fun r2 hr => ?_)
  replace hr : r2 0 = a1 := hr
  subst hr
  refine Cn.putF (fs' := [.ref (r2 0), .null, .null, .null, .null, .null, .null]) pf_X9_14 dX9_init_13 rfl rfl (Nat.le_of_ble_eq_true rfl) rfl ?_
  refine Cn.aload_n 0 dX9_init_16 rfl ?_
  refine Cn.new (ci := 2) (C0 := RX2) (T := TX2) (N := 3) (fs := [.int (0 : Int32), .null, .int (0 : Int32)]) (c' := 10) (s' := 114) dX9_init_17 rfl in_X2 tyX2_ok cl_X9_20 it_X2 ii_X2 df_X2 rfl rfl (Nat.le_of_ble_eq_true rfl) (Nat.le_of_ble_eq_true rfl) (fun a3 => ?_)
  refine Cn.dup dX9_init_20 rfl ?_
  refine Cn.sipush (v := (150 : Int32)) dX9_init_21 rfl ?_
  refine Cn.call1 (c' := 11) (s' := 714) (n_X2_150) dX9_init_24 mi_X9_22 mm_X2 rfl rfl im_X2 (Nat.le_of_ble_eq_true rfl) (Nat.le_of_ble_eq_true rfl) (Nat.le_of_ble_eq_true rfl) rfl rfl (Nat.le_of_ble_eq_true rfl) (Nat.le_of_ble_eq_true rfl) (fun r4 hr => ?_)
  replace hr : r4 0 = a3 := hr
  subst hr
  refine Cn.putF (fs' := [.ref (r2 0), .ref (r4 0), .null, .null, .null, .null, .null]) pf_X9_25 dX9_init_27 rfl rfl (Nat.le_of_ble_eq_true rfl) rfl ?_
  refine Cn.aload_n 0 dX9_init_30 rfl ?_
  refine Cn.new (ci := 1) (C0 := RX1) (T := TX1) (N := 8) (fs := [.null, .null, .null, .null, .null, .null, .int (0 : Int32), .int (0 : Int32)]) (c' := 12) (s' := 722) dX9_init_31 rfl in_X1 tyX1_ok cl_X9_29 it_X1 ii_X1 df_X1 rfl rfl (Nat.le_of_ble_eq_true rfl) (Nat.le_of_ble_eq_true rfl) (fun a5 => ?_)
  refine Cn.dup dX9_init_34 rfl ?_
  refine Cn.callN0 (c' := 18) (s' := 1212) (n_X1) dX9_init_35 mi_X9_31 mm_X1 rfl rfl im_X1 (Nat.le_of_ble_eq_true rfl) (Nat.le_of_ble_eq_true rfl) (Nat.le_of_ble_eq_true rfl) rfl rfl (Nat.le_of_ble_eq_true rfl) (Nat.le_of_ble_eq_true rfl) (fun r6 hr => ?_)
  replace hr : r6 0 = a5 := hr
  subst hr
  refine Cn.putF (fs' := [.ref (r2 0), .ref (r4 0), .ref (r6 0), .null, .null, .null, .null]) pf_X9_32 dX9_init_38 rfl rfl (Nat.le_of_ble_eq_true rfl) rfl ?_
  refine Cn.aload_n 0 dX9_init_41 rfl ?_
  refine Cn.new (ci := 2) (C0 := RX2) (T := TX2) (N := 3) (fs := [.int (0 : Int32), .null, .int (0 : Int32)]) (c' := 19) (s' := 1215) dX9_init_42 rfl in_X2 tyX2_ok cl_X9_20 it_X2 ii_X2 df_X2 rfl rfl (Nat.le_of_ble_eq_true rfl) (Nat.le_of_ble_eq_true rfl) (fun a7 => ?_)
  refine Cn.dup dX9_init_45 rfl ?_
  refine Cn.bipush (v := (16 : Int32)) dX9_init_46 rfl ?_
  refine Cn.call1 (c' := 20) (s' := 1279) (n_X2_16) dX9_init_48 mi_X9_22 mm_X2 rfl rfl im_X2 (Nat.le_of_ble_eq_true rfl) (Nat.le_of_ble_eq_true rfl) (Nat.le_of_ble_eq_true rfl) rfl rfl (Nat.le_of_ble_eq_true rfl) (Nat.le_of_ble_eq_true rfl) (fun r8 hr => ?_)
  replace hr : r8 0 = a7 := hr
  subst hr
  refine Cn.putF (fs' := [.ref (r2 0), .ref (r4 0), .ref (r6 0), .ref (r8 0), .null, .null, .null]) pf_X9_36 dX9_init_51 rfl rfl (Nat.le_of_ble_eq_true rfl) rfl ?_
  refine Cn.aload_n 0 dX9_init_54 rfl ?_
  refine Cn.new (ci := 2) (C0 := RX2) (T := TX2) (N := 3) (fs := [.int (0 : Int32), .null, .int (0 : Int32)]) (c' := 21) (s' := 1282) dX9_init_55 rfl in_X2 tyX2_ok cl_X9_20 it_X2 ii_X2 df_X2 rfl rfl (Nat.le_of_ble_eq_true rfl) (Nat.le_of_ble_eq_true rfl) (fun a9 => ?_)
  refine Cn.dup dX9_init_58 rfl ?_
  refine Cn.bipush (v := (16 : Int32)) dX9_init_59 rfl ?_
  refine Cn.call1 (c' := 22) (s' := 1346) (n_X2_16) dX9_init_61 mi_X9_22 mm_X2 rfl rfl im_X2 (Nat.le_of_ble_eq_true rfl) (Nat.le_of_ble_eq_true rfl) (Nat.le_of_ble_eq_true rfl) rfl rfl (Nat.le_of_ble_eq_true rfl) (Nat.le_of_ble_eq_true rfl) (fun r10 hr => ?_)
  replace hr : r10 0 = a9 := hr
  subst hr
  refine Cn.putF (fs' := [.ref (r2 0), .ref (r4 0), .ref (r6 0), .ref (r8 0), .ref (r10 0), .null, .null]) pf_X9_39 dX9_init_64 rfl rfl (Nat.le_of_ble_eq_true rfl) rfl ?_
  refine Cn.aload_n 0 dX9_init_67 rfl ?_
  refine Cn.new (ci := 2) (C0 := RX2) (T := TX2) (N := 3) (fs := [.int (0 : Int32), .null, .int (0 : Int32)]) (c' := 23) (s' := 1349) dX9_init_68 rfl in_X2 tyX2_ok cl_X9_20 it_X2 ii_X2 df_X2 rfl rfl (Nat.le_of_ble_eq_true rfl) (Nat.le_of_ble_eq_true rfl) (fun a11 => ?_)
  refine Cn.dup dX9_init_71 rfl ?_
  refine Cn.bipush (v := (16 : Int32)) dX9_init_72 rfl ?_
  refine Cn.call1 (c' := 24) (s' := 1413) (n_X2_16) dX9_init_74 mi_X9_22 mm_X2 rfl rfl im_X2 (Nat.le_of_ble_eq_true rfl) (Nat.le_of_ble_eq_true rfl) (Nat.le_of_ble_eq_true rfl) rfl rfl (Nat.le_of_ble_eq_true rfl) (Nat.le_of_ble_eq_true rfl) (fun r12 hr => ?_)
  replace hr : r12 0 = a11 := hr
  subst hr
  refine Cn.putF (fs' := [.ref (r2 0), .ref (r4 0), .ref (r6 0), .ref (r8 0), .ref (r10 0), .ref (r12 0), .null]) pf_X9_42 dX9_init_77 rfl rfl (Nat.le_of_ble_eq_true rfl) rfl ?_
  refine Cn.aload_n 0 dX9_init_80 rfl ?_
  refine Cn.new (ci := 8) (C0 := RX8) (T := TX8) (N := 7) (fs := [.null, .null, .null, .null, .null, .null, .null]) (c' := 25) (s' := 1420) dX9_init_81 rfl in_X8 tyX8_ok cl_X9_45 it_X8 ii_X8 df_X8 rfl rfl (Nat.le_of_ble_eq_true rfl) (Nat.le_of_ble_eq_true rfl) (fun a13 => ?_)
  refine Cn.dup dX9_init_84 rfl ?_
  refine Cn.callN0 (c' := 38) (s' := 1515) (n_X8) dX9_init_85 mi_X9_47 mm_X8 rfl rfl im_X8 (Nat.le_of_ble_eq_true rfl) (Nat.le_of_ble_eq_true rfl) (Nat.le_of_ble_eq_true rfl) rfl rfl (Nat.le_of_ble_eq_true rfl) (Nat.le_of_ble_eq_true rfl) (fun r14 hr => ?_)
  replace hr : r14 0 = a13 := hr
  subst hr
  refine Cn.putF (fs' := [.ref (r2 0), .ref (r4 0), .ref (r6 0), .ref (r8 0), .ref (r10 0), .ref (r12 0), .ref (r14 0)]) pf_X9_48 dX9_init_88 rfl rfl (Nat.le_of_ble_eq_true rfl) rfl ?_
  have e1 : zSe g (zRp [(1, fun _ => q), (9, r2), (2, r4), (7, r6), (2, r8), (2, r10), (2, r12), (14, r14)]) wX9 hX9 1 9 = zW g r2 wX4_0 hX4_0 := zSe_in (l := wX9_l) (l' := wX4_0_l) (t := tX9_t) (t' := tX4_0_t) rfl (by decide +kernel) (by decide +kernel) (by decide +kernel) (fun j hj => (congrArg (zRp _) (show 1 + j = 1 + (j) by omega)).trans (zRp_1.trans (zRp_0 hj)))
  have e2 : zSe g (zRp [(1, fun _ => q), (9, r2), (2, r4), (7, r6), (2, r8), (2, r10), (2, r12), (14, r14)]) wX9 hX9 10 2 = zW g r4 wX2_150 hX2_150 := zSe_in (l := wX9_l) (l' := wX2_150_l) (t := tX9_t) (t' := tX2_150_t) rfl (by decide +kernel) (by decide +kernel) (by decide +kernel) (fun j hj => (congrArg (zRp _) (show 10 + j = 1 + (9 + (j)) by omega)).trans (zRp_1.trans (zRp_1.trans (zRp_0 hj))))
  have e3 : zSe g (zRp [(1, fun _ => q), (9, r2), (2, r4), (7, r6), (2, r8), (2, r10), (2, r12), (14, r14)]) wX9 hX9 12 7 = zW g r6 wX1 hX1 := zSe_in (l := wX9_l) (l' := wX1_l) (t := tX9_t) (t' := tX1_t) rfl (by decide +kernel) (by decide +kernel) (by decide +kernel) (fun j hj => (congrArg (zRp _) (show 12 + j = 1 + (9 + (2 + (j))) by omega)).trans (zRp_1.trans (zRp_1.trans (zRp_1.trans (zRp_0 hj)))))
  have e4 : zSe g (zRp [(1, fun _ => q), (9, r2), (2, r4), (7, r6), (2, r8), (2, r10), (2, r12), (14, r14)]) wX9 hX9 19 2 = zW g r8 wX2_16 hX2_16 := zSe_in (l := wX9_l) (l' := wX2_16_l) (t := tX9_t) (t' := tX2_16_t) rfl (by decide +kernel) (by decide +kernel) (by decide +kernel) (fun j hj => (congrArg (zRp _) (show 19 + j = 1 + (9 + (2 + (7 + (j)))) by omega)).trans (zRp_1.trans (zRp_1.trans (zRp_1.trans (zRp_1.trans (zRp_0 hj))))))
  have e5 : zSe g (zRp [(1, fun _ => q), (9, r2), (2, r4), (7, r6), (2, r8), (2, r10), (2, r12), (14, r14)]) wX9 hX9 21 2 = zW g r10 wX2_16 hX2_16 := zSe_in (l := wX9_l) (l' := wX2_16_l) (t := tX9_t) (t' := tX2_16_t) rfl (by decide +kernel) (by decide +kernel) (by decide +kernel) (fun j hj => (congrArg (zRp _) (show 21 + j = 1 + (9 + (2 + (7 + (2 + (j))))) by omega)).trans (zRp_1.trans (zRp_1.trans (zRp_1.trans (zRp_1.trans (zRp_1.trans (zRp_0 hj)))))))
  have e6 : zSe g (zRp [(1, fun _ => q), (9, r2), (2, r4), (7, r6), (2, r8), (2, r10), (2, r12), (14, r14)]) wX9 hX9 23 2 = zW g r12 wX2_16 hX2_16 := zSe_in (l := wX9_l) (l' := wX2_16_l) (t := tX9_t) (t' := tX2_16_t) rfl (by decide +kernel) (by decide +kernel) (by decide +kernel) (fun j hj => (congrArg (zRp _) (show 23 + j = 1 + (9 + (2 + (7 + (2 + (2 + (j)))))) by omega)).trans (zRp_1.trans (zRp_1.trans (zRp_1.trans (zRp_1.trans (zRp_1.trans (zRp_1.trans (zRp_0 hj))))))))
  have e7 : zSe g (zRp [(1, fun _ => q), (9, r2), (2, r4), (7, r6), (2, r8), (2, r10), (2, r12), (14, r14)]) wX9 hX9 25 14 = zW g r14 wX8 hX8 := zSe_in (l := wX9_l) (l' := wX8_l) (t := tX9_t) (t' := tX8_t) rfl (by decide +kernel) (by decide +kernel) (by decide +kernel) (fun j hj => (congrArg (zRp _) (show 25 + j = 1 + (9 + (2 + (7 + (2 + (2 + (2 + (j))))))) by omega)).trans (zRp_1.trans (zRp_1.trans (zRp_1.trans (zRp_1.trans (zRp_1.trans (zRp_1.trans (zRp_1.trans (zRp_0 hj)))))))))
  exact Cn.ret (r := (zRp [(1, fun _ => q), (9, r2), (2, r4), (7, r6), (2, r8), (2, r10), (2, r12), (14, r14)])) dX9_init_91 rfl rfl rfl rfl (zW_of (n := 38) rfl rfl rfl (zSe_snoc (zSe_snoc (zSe_snoc (zSe_snoc (zSe_snoc (zSe_snoc (zSe_snoc zSe_nil (show 1 + 0 = 1 from rfl) (show 0 + 9 = 9 from rfl) e1) (show 1 + 9 = 10 from rfl) (show 9 + 2 = 11 from rfl) e2) (show 1 + 11 = 12 from rfl) (show 11 + 7 = 18 from rfl) e3) (show 1 + 18 = 19 from rfl) (show 18 + 2 = 20 from rfl) e4) (show 1 + 20 = 21 from rfl) (show 20 + 2 = 22 from rfl) e5) (show 1 + 22 = 23 from rfl) (show 22 + 2 = 24 from rfl) e6) (show 1 + 24 = 25 from rfl) (show 24 + 14 = 38 from rfl) e7))
theorem mi_X10_11 : ∀ U, zXt U → va_Nw (.methodLinkNest RX10 11 mX9_init.1 RX10) U := fun _ q => q.2.2.2.1
theorem mm_X9 : zMm mX9_init 0 := ⟨zTb_in 169 (by decide +kernel) rfl, zTb_in 138 (by decide +kernel) rfl, ⟨by decide +kernel, by decide +kernel⟩, by decide +kernel⟩
theorem im_X9 : Cond.instanceMethod mX9_init.1 ∈ zTb := zTb_in 168 (by decide +kernel) rfl
theorem pf_X10_12 : zFf RX10 12 10 0 (tyX10 0) := ⟨RX10, TX10, 8, tyX10, rfl, (Nat.le_of_ble_eq_true rfl), zTb_in 513 (by decide +kernel) rfl, in_X10, tyX10_ok, nmX10, rfl, rfl, rfl⟩
theorem pf_X10_16 : zFf RX10 16 10 1 (tyX10 1) := ⟨RX10, TX10, 8, tyX10, rfl, (Nat.le_of_ble_eq_true rfl), zTb_in 514 (by decide +kernel) rfl, in_X10, tyX10_ok, nmX10, rfl, rfl, rfl⟩
theorem pf_X10_19 : zFp RX10 19 10 2 (tyX10 2) := ⟨RX10, TX10, 8, tyX10, rfl, (Nat.le_of_ble_eq_true rfl), zTb_in 515 (by decide +kernel) rfl, in_X10, tyX10_ok, nmX10, rfl, rfl⟩
theorem cl_X10_23 : Cond.classLink RX10 23 RX3 ∈ zTb := zTb_in 394 (by decide +kernel) rfl
theorem it_X3 : Cond.instantiable RX3 4 ∈ zTb := zTb_in 395 (by decide +kernel) rfl
theorem ii_X3 : Cond.initialized RX3 ∈ zTb := zTb_in 144 (by decide +kernel) rfl
theorem df_X3 : ∀ j, j < 4 → defaultValue (tyX3 j) = vp_V [.null, .null, .int (0 : Int32), .int (0 : Int32)] j := by decide +kernel
abbrev mX3_init : zMt := (yX3_init, cX3_init, 2, none)
theorem dX3_init_0 : decode cX3_init 0 = .ok (.aload_n 0, 1) := by decide +kernel
theorem dX3_init_1 : decode cX3_init 1 = .ok (.invokespecial 3, 3) := by decide +kernel
theorem dX3_init_4 : decode cX3_init 4 = .ok (.aload_n 0, 1) := by decide +kernel
theorem dX3_init_5 : decode cX3_init 5 = .ok (.bipush 6, 2) := by decide +kernel
theorem dX3_init_7 : decode cX3_init 7 = .ok (.anewarray 9, 3) := by decide +kernel
theorem dX3_init_10 : decode cX3_init 10 = .ok (.putfield 11, 3) := by decide +kernel
theorem dX3_init_13 : decode cX3_init 13 = .ok (.aload_n 0, 1) := by decide +kernel
theorem dX3_init_14 : decode cX3_init 14 = .ok (.bipush 6, 2) := by decide +kernel
theorem dX3_init_16 : decode cX3_init 16 = .ok (.newarray .int, 2) := by decide +kernel
theorem dX3_init_18 : decode cX3_init 18 = .ok (.putfield 17, 3) := by decide +kernel
theorem dX3_init_21 : decode cX3_init 21 = .ok (.aload_n 0, 1) := by decide +kernel
theorem dX3_init_22 : decode cX3_init 22 = .ok (.iconst 0, 1) := by decide +kernel
theorem dX3_init_23 : decode cX3_init 23 = .ok (.putfield 21, 3) := by decide +kernel
theorem dX3_init_26 : decode cX3_init 26 = .ok (.aload_n 0, 1) := by decide +kernel
theorem dX3_init_27 : decode cX3_init 27 = .ok (.iconst 0, 1) := by decide +kernel
theorem dX3_init_28 : decode cX3_init 28 = .ok (.putfield 25, 3) := by decide +kernel
theorem dX3_init_31 : decode cX3_init 31 = .ok (.iconst 0, 1) := by decide +kernel
theorem dX3_init_32 : decode cX3_init 32 = .ok (.istore_n 1, 1) := by decide +kernel
theorem dX3_init_33 : decode cX3_init 33 = .ok (.iload_n 1, 1) := by decide +kernel
theorem dX3_init_34 : decode cX3_init 34 = .ok (.bipush 6, 2) := by decide +kernel
theorem dX3_init_36 : decode cX3_init 36 = .ok (.if_icmp .ge 23, 3) := by decide +kernel
theorem dX3_init_39 : decode cX3_init 39 = .ok (.aload_n 0, 1) := by decide +kernel
theorem dX3_init_40 : decode cX3_init 40 = .ok (.getfield 11, 3) := by decide +kernel
theorem dX3_init_43 : decode cX3_init 43 = .ok (.iload_n 1, 1) := by decide +kernel
theorem dX3_init_44 : decode cX3_init 44 = .ok (.new 9, 3) := by decide +kernel
theorem dX3_init_47 : decode cX3_init 47 = .ok (.dup, 1) := by decide +kernel
theorem dX3_init_48 : decode cX3_init 48 = .ok (.iconst 0, 1) := by decide +kernel
theorem dX3_init_49 : decode cX3_init 49 = .ok (.invokespecial 28, 3) := by decide +kernel
theorem dX3_init_52 : decode cX3_init 52 = .ok (.aastore, 1) := by decide +kernel
theorem dX3_init_53 : decode cX3_init 53 = .ok (.iinc 1 1, 3) := by decide +kernel
theorem dX3_init_56 : decode cX3_init 56 = .ok (.goto (-23), 3) := by decide +kernel
theorem dX3_init_59 : decode cX3_init 59 = .ok (.return_, 1) := by decide +kernel
theorem mo_X3 : Cond.methodLink RX3 3 Lib.objectInit ∈ zTb := zTb_in 399 (by decide +kernel) rfl
theorem cl_X3_9 : Cond.classLink RX3 9 zPo ∈ zTb := zTb_in 400 (by decide +kernel) rfl
theorem pf_X3_11 : zFf RX3 11 3 0 (tyX3 0) := ⟨RX3, TX3, 4, tyX3, rfl, (Nat.le_of_ble_eq_true rfl), zTb_in 403 (by decide +kernel) rfl, in_X3, tyX3_ok, nmX3, rfl, rfl, rfl⟩
theorem pf_X3_17 : zFf RX3 17 3 1 (tyX3 1) := ⟨RX3, TX3, 4, tyX3, rfl, (Nat.le_of_ble_eq_true rfl), zTb_in 404 (by decide +kernel) rfl, in_X3, tyX3_ok, nmX3, rfl, rfl, rfl⟩
theorem pf_X3_21 : zFp RX3 21 3 2 (tyX3 2) := ⟨RX3, TX3, 4, tyX3, rfl, (Nat.le_of_ble_eq_true rfl), zTb_in 405 (by decide +kernel) rfl, in_X3, tyX3_ok, nmX3, rfl, rfl⟩
theorem pf_X3_25 : zFp RX3 25 3 3 (tyX3 3) := ⟨RX3, TX3, 4, tyX3, rfl, (Nat.le_of_ble_eq_true rfl), zTb_in 406 (by decide +kernel) rfl, in_X3, tyX3_ok, nmX3, rfl, rfl⟩
theorem gf_X3_11 : zF RX3 11 3 0 := ⟨RX3, TX3, 4, rfl, (Nat.le_of_ble_eq_true rfl), zTb_in 403 (by decide +kernel) rfl, in_X3⟩
theorem mi_X3_28 : Cond.methodLink RX3 28 mX4_init.1 ∈ zTb := zTb_in 402 (by decide +kernel) rfl
def wX3_l : List (Nat × Nat × List (Option Nat)) := [(6, 4, [some 1, some 2, none, none]), (2, 6, [some 3, some 12, some 21, some 30, some 39, some 48]), (0, 6, []), (7, 15, [none, some 4, some 5, some 6, some 7, some 8, some 9, some 10, some 11, none, none, none, none, none, none]), (0, 10, []), (0, 10, []), (0, 10, []), (0, 10, []), (0, 14, []), (0, 14, []), (0, 14, []), (0, 14, []), (7, 15, [none, some 13, some 14, some 15, some 16, some 17, some 18, some 19, some 20, none, none, none, none, none, none]), (0, 10, []), (0, 10, []), (0, 10, []), (0, 10, []), (0, 14, []), (0, 14, []), (0, 14, []), (0, 14, []), (7, 15, [none, some 22, some 23, some 24, some 25, some 26, some 27, some 28, some 29, none, none, none, none, none, none]), (0, 10, []), (0, 10, []), (0, 10, []), (0, 10, []), (0, 14, []), (0, 14, []), (0, 14, []), (0, 14, []), (7, 15, [none, some 31, some 32, some 33, some 34, some 35, some 36, some 37, some 38, none, none, none, none, none, none]), (0, 10, []), (0, 10, []), (0, 10, []), (0, 10, []), (0, 14, []), (0, 14, []), (0, 14, []), (0, 14, []), (7, 15, [none, some 40, some 41, some 42, some 43, some 44, some 45, some 46, some 47, none, none, none, none, none, none]), (0, 10, []), (0, 10, []), (0, 10, []), (0, 10, []), (0, 14, []), (0, 14, []), (0, 14, []), (0, 14, []), (7, 15, [none, some 49, some 50, some 51, some 52, some 53, some 54, some 55, some 56, none, none, none, none, none, none]), (0, 10, []), (0, 10, []), (0, 10, []), (0, 10, []), (0, 14, []), (0, 14, []), (0, 14, []), (0, 14, [])]
def wX3 : zWd := zsh wX3_l
def tX3_t : List (Nat × List (Nat × Int32)) := []
def hX3 : zHp := zhp tX3_t
set_option maxHeartbeats 4000000 in
set_option maxRecDepth 100000 in
theorem n_X3 : Ini wX3 hX3 mX3_init 2 56 678 [] 3 [.null, .null, .int (0 : Int32), .int (0 : Int32)] (fun q r => r 0 = q) := by
  refine Ini.of rfl (fun _ => Nat.le_of_ble_eq_true rfl) rfl (fun D g q => ?_)
  refine Cn.aload_n 0 dX3_init_0 rfl ?_
  refine Cn.obj dX3_init_1 mo_X3 io_obj co_obj (Nat.le_of_ble_eq_true rfl) (Nat.le_of_ble_eq_true rfl) ?_
  refine Cn.aload_n 0 dX3_init_4 rfl ?_
  refine Cn.bipush (v := (6 : Int32)) dX3_init_5 rfl ?_
  refine Cn.newP (N := 6) (c' := 1) (s' := 6) dX3_init_7 cl_X3_9 (by decide) rfl (Nat.le_of_ble_eq_true rfl) rfl rfl (Nat.le_of_ble_eq_true rfl) (Nat.le_of_ble_eq_true rfl) (fun a1 => ?_)
  refine Cn.putF (fs' := [.ref a1, .null, .int (0 : Int32), .int (0 : Int32)]) pf_X3_11 dX3_init_10 rfl rfl (Nat.le_of_ble_eq_true rfl) rfl ?_
  refine Cn.aload_n 0 dX3_init_13 rfl ?_
  refine Cn.bipush (v := (6 : Int32)) dX3_init_14 rfl ?_
  refine Cn.newI (N := 6) (c' := 2) (s' := 12) dX3_init_16 ac_int (by decide) rfl (Nat.le_of_ble_eq_true rfl) rfl rfl (Nat.le_of_ble_eq_true rfl) (Nat.le_of_ble_eq_true rfl) (fun a2 => ?_)
  refine Cn.putF (fs' := [.ref a1, .ref a2, .int (0 : Int32), .int (0 : Int32)]) pf_X3_17 dX3_init_18 rfl rfl (Nat.le_of_ble_eq_true rfl) rfl ?_
  refine Cn.aload_n 0 dX3_init_21 rfl ?_
  refine Cn.iconst (v := (0 : Int32)) dX3_init_22 rfl ?_
  refine Cn.put (fs' := [.ref a1, .ref a2, .int (0 : Int32), .int (0 : Int32)]) pf_X3_21 dX3_init_23 rfl rfl (Nat.le_of_ble_eq_true rfl) rfl ?_
  refine Cn.aload_n 0 dX3_init_26 rfl ?_
  refine Cn.iconst (v := (0 : Int32)) dX3_init_27 rfl ?_
  refine Cn.put (fs' := [.ref a1, .ref a2, .int (0 : Int32), .int (0 : Int32)]) pf_X3_25 dX3_init_28 rfl rfl (Nat.le_of_ble_eq_true rfl) rfl ?_
  refine Cn.iconst (v := (0 : Int32)) dX3_init_31 rfl ?_
  refine Cn.istore_n (L' := [(1, .int (0 : Int32)), (0, .ref q)]) dX3_init_32 (Nat.le_of_ble_eq_true rfl) rfl ?_
  refine Cn.iload_n 0 dX3_init_33 rfl ?_
  refine Cn.bipush (v := (6 : Int32)) dX3_init_34 rfl ?_
  refine Cn.ge0 59 dX3_init_36 rfl (by decide) ?_
  refine Cn.aload_n 1 dX3_init_39 rfl ?_
  refine Cn.get 0 gf_X3_11 dX3_init_40 rfl rfl ?_
  refine Cn.iload_n 0 dX3_init_43 rfl ?_
  refine Cn.new (ci := 4) (C0 := RX4) (T := TX4) (N := 15) (fs := [.int (0 : Int32), .null, .null, .null, .null, .null, .null, .null, .null, .int (0 : Int32), .int (0 : Int32), .int (0 : Int32), .int (0 : Int32), .int (0 : Int32), .int (0 : Int32)]) (c' := 3) (s' := 27) dX3_init_44 rfl in_X4 tyX4_ok cl_X3_9 it_X4 ii_X4 df_X4 rfl rfl (Nat.le_of_ble_eq_true rfl) (Nat.le_of_ble_eq_true rfl) (fun a3 => ?_)
  refine Cn.dup dX3_init_47 rfl ?_
  refine Cn.iconst (v := (0 : Int32)) dX3_init_48 rfl ?_
  refine Cn.call1 (c' := 11) (s' := 123) (n_X4_0) dX3_init_49 mi_X3_28 mm_X4 rfl rfl im_X4 (Nat.le_of_ble_eq_true rfl) (Nat.le_of_ble_eq_true rfl) (Nat.le_of_ble_eq_true rfl) rfl rfl (Nat.le_of_ble_eq_true rfl) (Nat.le_of_ble_eq_true rfl) (fun r4 hr => ?_)
  replace hr : r4 0 = a3 := hr
  subst hr
  refine Cn.aast 1 3 (n := 6) (vs := [.int (0 : Int32), .ref (r4 1), .ref (r4 2), .ref (r4 3), .ref (r4 4), .ref (r4 5), .ref (r4 6), .ref (r4 7), .ref (r4 8), .int (0 : Int32), .int (0 : Int32), .int (0 : Int32), .int (0 : Int32), .int (0 : Int32), .int (0 : Int32)]) (ws' := ((q, .inr (3, [.ref a1, .ref a2, .int (0 : Int32), .int (0 : Int32)])) :: (((([] : va_W) ++ [(a1, .inl (g.2.2, 6, .inr (.inr (.inr (.inr (va_up (fun _ => none) 0 (some (r4 0))))))))]) ++ [(a2, .inl (g.1, 6, .inl (zuf [])))]) ++ zW g r4 wX4_0 hX4_0) : va_W)) dX3_init_52 rfl rfl (show ¬ (((0 : Int32) < (0 : Int32)) ∨ 6 ≤ ((0 : Int32)).toNatClampNeg) by decide) rfl ?_
  refine Cn.iinc 0 (v := (1 : Int32)) (L' := [(1, .int (1 : Int32)), (0, .ref q)]) dX3_init_53 rfl (by decide) (Nat.le_of_ble_eq_true rfl) rfl ?_
  refine Cn.goto 33 dX3_init_56 rfl ?_
  refine Cn.iload_n 0 dX3_init_33 rfl ?_
  refine Cn.bipush (v := (6 : Int32)) dX3_init_34 rfl ?_
  refine Cn.ge0 59 dX3_init_36 rfl (by decide) ?_
  refine Cn.aload_n 1 dX3_init_39 rfl ?_
  refine Cn.get 0 gf_X3_11 dX3_init_40 rfl rfl ?_
  refine Cn.iload_n 0 dX3_init_43 rfl ?_
  refine Cn.new (ci := 4) (C0 := RX4) (T := TX4) (N := 15) (fs := [.int (0 : Int32), .null, .null, .null, .null, .null, .null, .null, .null, .int (0 : Int32), .int (0 : Int32), .int (0 : Int32), .int (0 : Int32), .int (0 : Int32), .int (0 : Int32)]) (c' := 12) (s' := 138) dX3_init_44 rfl in_X4 tyX4_ok cl_X3_9 it_X4 ii_X4 df_X4 rfl rfl (Nat.le_of_ble_eq_true rfl) (Nat.le_of_ble_eq_true rfl) (fun a5 => ?_)
  refine Cn.dup dX3_init_47 rfl ?_
  refine Cn.iconst (v := (0 : Int32)) dX3_init_48 rfl ?_
  refine Cn.call1 (c' := 20) (s' := 234) (n_X4_0) dX3_init_49 mi_X3_28 mm_X4 rfl rfl im_X4 (Nat.le_of_ble_eq_true rfl) (Nat.le_of_ble_eq_true rfl) (Nat.le_of_ble_eq_true rfl) rfl rfl (Nat.le_of_ble_eq_true rfl) (Nat.le_of_ble_eq_true rfl) (fun r6 hr => ?_)
  replace hr : r6 0 = a5 := hr
  subst hr
  refine Cn.aast 1 12 (n := 6) (vs := [.int (0 : Int32), .ref (r6 1), .ref (r6 2), .ref (r6 3), .ref (r6 4), .ref (r6 5), .ref (r6 6), .ref (r6 7), .ref (r6 8), .int (0 : Int32), .int (0 : Int32), .int (0 : Int32), .int (0 : Int32), .int (0 : Int32), .int (0 : Int32)]) (ws' := ((q, .inr (3, [.ref a1, .ref a2, .int (0 : Int32), .int (0 : Int32)])) :: ((((([] : va_W) ++ [(a1, .inl (g.2.2, 6, .inr (.inr (.inr (.inr (va_up (va_up (fun _ => none) 0 (some (r4 0))) 1 (some (r6 0))))))))]) ++ [(a2, .inl (g.1, 6, .inl (zuf [])))]) ++ zW g r4 wX4_0 hX4_0) ++ zW g r6 wX4_0 hX4_0) : va_W)) dX3_init_52 rfl rfl (show ¬ (((1 : Int32) < (0 : Int32)) ∨ 6 ≤ ((1 : Int32)).toNatClampNeg) by decide) rfl ?_
  refine Cn.iinc 0 (v := (2 : Int32)) (L' := [(1, .int (2 : Int32)), (0, .ref q)]) dX3_init_53 rfl (by decide) (Nat.le_of_ble_eq_true rfl) rfl ?_
  refine Cn.goto 33 dX3_init_56 rfl ?_
  refine Cn.iload_n 0 dX3_init_33 rfl ?_
  refine Cn.bipush (v := (6 : Int32)) dX3_init_34 rfl ?_
  refine Cn.ge0 59 dX3_init_36 rfl (by decide) ?_
  refine Cn.aload_n 1 dX3_init_39 rfl ?_
  refine Cn.get 0 gf_X3_11 dX3_init_40 rfl rfl ?_
  refine Cn.iload_n 0 dX3_init_43 rfl ?_
  refine Cn.new (ci := 4) (C0 := RX4) (T := TX4) (N := 15) (fs := [.int (0 : Int32), .null, .null, .null, .null, .null, .null, .null, .null, .int (0 : Int32), .int (0 : Int32), .int (0 : Int32), .int (0 : Int32), .int (0 : Int32), .int (0 : Int32)]) (c' := 21) (s' := 249) dX3_init_44 rfl in_X4 tyX4_ok cl_X3_9 it_X4 ii_X4 df_X4 rfl rfl (Nat.le_of_ble_eq_true rfl) (Nat.le_of_ble_eq_true rfl) (fun a7 => ?_)
  refine Cn.dup dX3_init_47 rfl ?_
  refine Cn.iconst (v := (0 : Int32)) dX3_init_48 rfl ?_
  refine Cn.call1 (c' := 29) (s' := 345) (n_X4_0) dX3_init_49 mi_X3_28 mm_X4 rfl rfl im_X4 (Nat.le_of_ble_eq_true rfl) (Nat.le_of_ble_eq_true rfl) (Nat.le_of_ble_eq_true rfl) rfl rfl (Nat.le_of_ble_eq_true rfl) (Nat.le_of_ble_eq_true rfl) (fun r8 hr => ?_)
  replace hr : r8 0 = a7 := hr
  subst hr
  refine Cn.aast 1 21 (n := 6) (vs := [.int (0 : Int32), .ref (r8 1), .ref (r8 2), .ref (r8 3), .ref (r8 4), .ref (r8 5), .ref (r8 6), .ref (r8 7), .ref (r8 8), .int (0 : Int32), .int (0 : Int32), .int (0 : Int32), .int (0 : Int32), .int (0 : Int32), .int (0 : Int32)]) (ws' := ((q, .inr (3, [.ref a1, .ref a2, .int (0 : Int32), .int (0 : Int32)])) :: (((((([] : va_W) ++ [(a1, .inl (g.2.2, 6, .inr (.inr (.inr (.inr (va_up (va_up (va_up (fun _ => none) 0 (some (r4 0))) 1 (some (r6 0))) 2 (some (r8 0))))))))]) ++ [(a2, .inl (g.1, 6, .inl (zuf [])))]) ++ zW g r4 wX4_0 hX4_0) ++ zW g r6 wX4_0 hX4_0) ++ zW g r8 wX4_0 hX4_0) : va_W)) dX3_init_52 rfl rfl (show ¬ (((2 : Int32) < (0 : Int32)) ∨ 6 ≤ ((2 : Int32)).toNatClampNeg) by decide) rfl ?_
  refine Cn.iinc 0 (v := (3 : Int32)) (L' := [(1, .int (3 : Int32)), (0, .ref q)]) dX3_init_53 rfl (by decide) (Nat.le_of_ble_eq_true rfl) rfl ?_
  refine Cn.goto 33 dX3_init_56 rfl ?_
  refine Cn.iload_n 0 dX3_init_33 rfl ?_
  refine Cn.bipush (v := (6 : Int32)) dX3_init_34 rfl ?_
  refine Cn.ge0 59 dX3_init_36 rfl (by decide) ?_
  refine Cn.aload_n 1 dX3_init_39 rfl ?_
  refine Cn.get 0 gf_X3_11 dX3_init_40 rfl rfl ?_
  refine Cn.iload_n 0 dX3_init_43 rfl ?_
  refine Cn.new (ci := 4) (C0 := RX4) (T := TX4) (N := 15) (fs := [.int (0 : Int32), .null, .null, .null, .null, .null, .null, .null, .null, .int (0 : Int32), .int (0 : Int32), .int (0 : Int32), .int (0 : Int32), .int (0 : Int32), .int (0 : Int32)]) (c' := 30) (s' := 360) dX3_init_44 rfl in_X4 tyX4_ok cl_X3_9 it_X4 ii_X4 df_X4 rfl rfl (Nat.le_of_ble_eq_true rfl) (Nat.le_of_ble_eq_true rfl) (fun a9 => ?_)
  refine Cn.dup dX3_init_47 rfl ?_
  refine Cn.iconst (v := (0 : Int32)) dX3_init_48 rfl ?_
  refine Cn.call1 (c' := 38) (s' := 456) (n_X4_0) dX3_init_49 mi_X3_28 mm_X4 rfl rfl im_X4 (Nat.le_of_ble_eq_true rfl) (Nat.le_of_ble_eq_true rfl) (Nat.le_of_ble_eq_true rfl) rfl rfl (Nat.le_of_ble_eq_true rfl) (Nat.le_of_ble_eq_true rfl) (fun r10 hr => ?_)
  replace hr : r10 0 = a9 := hr
  subst hr
  refine Cn.aast 1 30 (n := 6) (vs := [.int (0 : Int32), .ref (r10 1), .ref (r10 2), .ref (r10 3), .ref (r10 4), .ref (r10 5), .ref (r10 6), .ref (r10 7), .ref (r10 8), .int (0 : Int32), .int (0 : Int32), .int (0 : Int32), .int (0 : Int32), .int (0 : Int32), .int (0 : Int32)]) (ws' := ((q, .inr (3, [.ref a1, .ref a2, .int (0 : Int32), .int (0 : Int32)])) :: ((((((([] : va_W) ++ [(a1, .inl (g.2.2, 6, .inr (.inr (.inr (.inr (va_up (va_up (va_up (va_up (fun _ => none) 0 (some (r4 0))) 1 (some (r6 0))) 2 (some (r8 0))) 3 (some (r10 0))))))))]) ++ [(a2, .inl (g.1, 6, .inl (zuf [])))]) ++ zW g r4 wX4_0 hX4_0) ++ zW g r6 wX4_0 hX4_0) ++ zW g r8 wX4_0 hX4_0) ++ zW g r10 wX4_0 hX4_0) : va_W)) dX3_init_52 rfl rfl (show ¬ (((3 : Int32) < (0 : Int32)) ∨ 6 ≤ ((3 : Int32)).toNatClampNeg) by decide) rfl ?_
  refine Cn.iinc 0 (v := (4 : Int32)) (L' := [(1, .int (4 : Int32)), (0, .ref q)]) dX3_init_53 rfl (by decide) (Nat.le_of_ble_eq_true rfl) rfl ?_
  refine Cn.goto 33 dX3_init_56 rfl ?_
  refine Cn.iload_n 0 dX3_init_33 rfl ?_
  refine Cn.bipush (v := (6 : Int32)) dX3_init_34 rfl ?_
  refine Cn.ge0 59 dX3_init_36 rfl (by decide) ?_
  refine Cn.aload_n 1 dX3_init_39 rfl ?_
  refine Cn.get 0 gf_X3_11 dX3_init_40 rfl rfl ?_
  refine Cn.iload_n 0 dX3_init_43 rfl ?_
  refine Cn.new (ci := 4) (C0 := RX4) (T := TX4) (N := 15) (fs := [.int (0 : Int32), .null, .null, .null, .null, .null, .null, .null, .null, .int (0 : Int32), .int (0 : Int32), .int (0 : Int32), .int (0 : Int32), .int (0 : Int32), .int (0 : Int32)]) (c' := 39) (s' := 471) dX3_init_44 rfl in_X4 tyX4_ok cl_X3_9 it_X4 ii_X4 df_X4 rfl rfl (Nat.le_of_ble_eq_true rfl) (Nat.le_of_ble_eq_true rfl) (fun a11 => ?_)
  refine Cn.dup dX3_init_47 rfl ?_
  refine Cn.iconst (v := (0 : Int32)) dX3_init_48 rfl ?_
  refine Cn.call1 (c' := 47) (s' := 567) (n_X4_0) dX3_init_49 mi_X3_28 mm_X4 rfl rfl im_X4 (Nat.le_of_ble_eq_true rfl) (Nat.le_of_ble_eq_true rfl) (Nat.le_of_ble_eq_true rfl) rfl rfl (Nat.le_of_ble_eq_true rfl) (Nat.le_of_ble_eq_true rfl) (fun r12 hr => ?_)
  replace hr : r12 0 = a11 := hr
  subst hr
  refine Cn.aast 1 39 (n := 6) (vs := [.int (0 : Int32), .ref (r12 1), .ref (r12 2), .ref (r12 3), .ref (r12 4), .ref (r12 5), .ref (r12 6), .ref (r12 7), .ref (r12 8), .int (0 : Int32), .int (0 : Int32), .int (0 : Int32), .int (0 : Int32), .int (0 : Int32), .int (0 : Int32)]) (ws' := ((q, .inr (3, [.ref a1, .ref a2, .int (0 : Int32), .int (0 : Int32)])) :: (((((((([] : va_W) ++ [(a1, .inl (g.2.2, 6, .inr (.inr (.inr (.inr (va_up (va_up (va_up (va_up (va_up (fun _ => none) 0 (some (r4 0))) 1 (some (r6 0))) 2 (some (r8 0))) 3 (some (r10 0))) 4 (some (r12 0))))))))]) ++ [(a2, .inl (g.1, 6, .inl (zuf [])))]) ++ zW g r4 wX4_0 hX4_0) ++ zW g r6 wX4_0 hX4_0) ++ zW g r8 wX4_0 hX4_0) ++ zW g r10 wX4_0 hX4_0) ++ zW g r12 wX4_0 hX4_0) : va_W)) dX3_init_52 rfl rfl (show ¬ (((4 : Int32) < (0 : Int32)) ∨ 6 ≤ ((4 : Int32)).toNatClampNeg) by decide) rfl ?_
  refine Cn.iinc 0 (v := (5 : Int32)) (L' := [(1, .int (5 : Int32)), (0, .ref q)]) dX3_init_53 rfl (by decide) (Nat.le_of_ble_eq_true rfl) rfl ?_
  refine Cn.goto 33 dX3_init_56 rfl ?_
  refine Cn.iload_n 0 dX3_init_33 rfl ?_
  refine Cn.bipush (v := (6 : Int32)) dX3_init_34 rfl ?_
  refine Cn.ge0 59 dX3_init_36 rfl (by decide) ?_
  refine Cn.aload_n 1 dX3_init_39 rfl ?_
  refine Cn.get 0 gf_X3_11 dX3_init_40 rfl rfl ?_
  refine Cn.iload_n 0 dX3_init_43 rfl ?_
  refine Cn.new (ci := 4) (C0 := RX4) (T := TX4) (N := 15) (fs := [.int (0 : Int32), .null, .null, .null, .null, .null, .null, .null, .null, .int (0 : Int32), .int (0 : Int32), .int (0 : Int32), .int (0 : Int32), .int (0 : Int32), .int (0 : Int32)]) (c' := 48) (s' := 582) dX3_init_44 rfl in_X4 tyX4_ok cl_X3_9 it_X4 ii_X4 df_X4 rfl rfl (Nat.le_of_ble_eq_true rfl) (Nat.le_of_ble_eq_true rfl) (fun a13 => ?_)
  refine Cn.dup dX3_init_47 rfl ?_
  refine Cn.iconst (v := (0 : Int32)) dX3_init_48 rfl ?_
  refine Cn.call1 (c' := 56) (s' := 678) (n_X4_0) dX3_init_49 mi_X3_28 mm_X4 rfl rfl im_X4 (Nat.le_of_ble_eq_true rfl) (Nat.le_of_ble_eq_true rfl) (Nat.le_of_ble_eq_true rfl) rfl rfl (Nat.le_of_ble_eq_true rfl) (Nat.le_of_ble_eq_true rfl) (fun r14 hr => ?_)
  replace hr : r14 0 = a13 := hr
  subst hr
  refine Cn.aast 1 48 (n := 6) (vs := [.int (0 : Int32), .ref (r14 1), .ref (r14 2), .ref (r14 3), .ref (r14 4), .ref (r14 5), .ref (r14 6), .ref (r14 7), .ref (r14 8), .int (0 : Int32), .int (0 : Int32), .int (0 : Int32), .int (0 : Int32), .int (0 : Int32), .int (0 : Int32)]) (ws' := ((q, .inr (3, [.ref a1, .ref a2, .int (0 : Int32), .int (0 : Int32)])) :: ((((((((([] : va_W) ++ [(a1, .inl (g.2.2, 6, .inr (.inr (.inr (.inr (va_up (va_up (va_up (va_up (va_up (va_up (fun _ => none) 0 (some (r4 0))) 1 (some (r6 0))) 2 (some (r8 0))) 3 (some (r10 0))) 4 (some (r12 0))) 5 (some (r14 0))))))))]) ++ [(a2, .inl (g.1, 6, .inl (zuf [])))]) ++ zW g r4 wX4_0 hX4_0) ++ zW g r6 wX4_0 hX4_0) ++ zW g r8 wX4_0 hX4_0) ++ zW g r10 wX4_0 hX4_0) ++ zW g r12 wX4_0 hX4_0) ++ zW g r14 wX4_0 hX4_0) : va_W)) dX3_init_52 rfl rfl (show ¬ (((5 : Int32) < (0 : Int32)) ∨ 6 ≤ ((5 : Int32)).toNatClampNeg) by decide) rfl ?_
  refine Cn.iinc 0 (v := (6 : Int32)) (L' := [(1, .int (6 : Int32)), (0, .ref q)]) dX3_init_53 rfl (by decide) (Nat.le_of_ble_eq_true rfl) rfl ?_
  refine Cn.goto 33 dX3_init_56 rfl ?_
  refine Cn.iload_n 0 dX3_init_33 rfl ?_
  refine Cn.bipush (v := (6 : Int32)) dX3_init_34 rfl ?_
  refine Cn.ge1 59 dX3_init_36 rfl (by decide) ?_
  have e1 : zSe g (zRp [(1, fun _ => q), (1, fun _ => a1), (1, fun _ => a2), (9, r4), (9, r6), (9, r8), (9, r10), (9, r12), (9, r14)]) wX3 hX3 1 1 = [(a1, .inl (g.2.2, 6, .inr (.inr (.inr (.inr (va_up (va_up (va_up (va_up (va_up (va_up (fun _ => none) 0 (some (r4 0))) 1 (some (r6 0))) 2 (some (r8 0))) 3 (some (r10 0))) 4 (some (r12 0))) 5 (some (r14 0))))))))] := zSe_prs rfl rfl rfl (fun i => by rcases i with _ | _ | _ | _ | _ | _ | i <;> rfl)
  have e2 : zSe g (zRp [(1, fun _ => q), (1, fun _ => a1), (1, fun _ => a2), (9, r4), (9, r6), (9, r8), (9, r10), (9, r12), (9, r14)]) wX3 hX3 2 1 = [(a2, .inl (g.1, 6, .inl (zuf [])))] := zSe_arr rfl rfl rfl rfl
  have e3 : zSe g (zRp [(1, fun _ => q), (1, fun _ => a1), (1, fun _ => a2), (9, r4), (9, r6), (9, r8), (9, r10), (9, r12), (9, r14)]) wX3 hX3 3 9 = zW g r4 wX4_0 hX4_0 := zSe_in (l := wX3_l) (l' := wX4_0_l) (t := tX3_t) (t' := tX4_0_t) rfl (by decide +kernel) (by decide +kernel) (by decide +kernel) (fun j hj => (congrArg (zRp _) (show 3 + j = 1 + (1 + (1 + (j))) by omega)).trans (zRp_1.trans (zRp_1.trans (zRp_1.trans (zRp_0 hj)))))
  have e4 : zSe g (zRp [(1, fun _ => q), (1, fun _ => a1), (1, fun _ => a2), (9, r4), (9, r6), (9, r8), (9, r10), (9, r12), (9, r14)]) wX3 hX3 12 9 = zW g r6 wX4_0 hX4_0 := zSe_in (l := wX3_l) (l' := wX4_0_l) (t := tX3_t) (t' := tX4_0_t) rfl (by decide +kernel) (by decide +kernel) (by decide +kernel) (fun j hj => (congrArg (zRp _) (show 12 + j = 1 + (1 + (1 + (9 + (j)))) by omega)).trans (zRp_1.trans (zRp_1.trans (zRp_1.trans (zRp_1.trans (zRp_0 hj))))))
  have e5 : zSe g (zRp [(1, fun _ => q), (1, fun _ => a1), (1, fun _ => a2), (9, r4), (9, r6), (9, r8), (9, r10), (9, r12), (9, r14)]) wX3 hX3 21 9 = zW g r8 wX4_0 hX4_0 := zSe_in (l := wX3_l) (l' := wX4_0_l) (t := tX3_t) (t' := tX4_0_t) rfl (by decide +kernel) (by decide +kernel) (by decide +kernel) (fun j hj => (congrArg (zRp _) (show 21 + j = 1 + (1 + (1 + (9 + (9 + (j))))) by omega)).trans (zRp_1.trans (zRp_1.trans (zRp_1.trans (zRp_1.trans (zRp_1.trans (zRp_0 hj)))))))
  have e6 : zSe g (zRp [(1, fun _ => q), (1, fun _ => a1), (1, fun _ => a2), (9, r4), (9, r6), (9, r8), (9, r10), (9, r12), (9, r14)]) wX3 hX3 30 9 = zW g r10 wX4_0 hX4_0 := zSe_in (l := wX3_l) (l' := wX4_0_l) (t := tX3_t) (t' := tX4_0_t) rfl (by decide +kernel) (by decide +kernel) (by decide +kernel) (fun j hj => (congrArg (zRp _) (show 30 + j = 1 + (1 + (1 + (9 + (9 + (9 + (j)))))) by omega)).trans (zRp_1.trans (zRp_1.trans (zRp_1.trans (zRp_1.trans (zRp_1.trans (zRp_1.trans (zRp_0 hj))))))))
  have e7 : zSe g (zRp [(1, fun _ => q), (1, fun _ => a1), (1, fun _ => a2), (9, r4), (9, r6), (9, r8), (9, r10), (9, r12), (9, r14)]) wX3 hX3 39 9 = zW g r12 wX4_0 hX4_0 := zSe_in (l := wX3_l) (l' := wX4_0_l) (t := tX3_t) (t' := tX4_0_t) rfl (by decide +kernel) (by decide +kernel) (by decide +kernel) (fun j hj => (congrArg (zRp _) (show 39 + j = 1 + (1 + (1 + (9 + (9 + (9 + (9 + (j))))))) by omega)).trans (zRp_1.trans (zRp_1.trans (zRp_1.trans (zRp_1.trans (zRp_1.trans (zRp_1.trans (zRp_1.trans (zRp_0 hj)))))))))
  have e8 : zSe g (zRp [(1, fun _ => q), (1, fun _ => a1), (1, fun _ => a2), (9, r4), (9, r6), (9, r8), (9, r10), (9, r12), (9, r14)]) wX3 hX3 48 9 = zW g r14 wX4_0 hX4_0 := zSe_in (l := wX3_l) (l' := wX4_0_l) (t := tX3_t) (t' := tX4_0_t) rfl (by decide +kernel) (by decide +kernel) (by decide +kernel) (fun j hj => (congrArg (zRp _) (show 48 + j = 1 + (1 + (1 + (9 + (9 + (9 + (9 + (9 + (j)))))))) by omega)).trans (zRp_1.trans (zRp_1.trans (zRp_1.trans (zRp_1.trans (zRp_1.trans (zRp_1.trans (zRp_1.trans (zRp_1.trans (zRp_0 hj))))))))))
  exact Cn.ret (r := (zRp [(1, fun _ => q), (1, fun _ => a1), (1, fun _ => a2), (9, r4), (9, r6), (9, r8), (9, r10), (9, r12), (9, r14)])) dX3_init_59 rfl rfl rfl rfl (zW_of (n := 56) rfl rfl rfl (zSe_snoc (zSe_snoc (zSe_snoc (zSe_snoc (zSe_snoc (zSe_snoc (zSe_snoc (zSe_snoc zSe_nil (show 1 + 0 = 1 from rfl) (show 0 + 1 = 1 from rfl) e1) (show 1 + 1 = 2 from rfl) (show 1 + 1 = 2 from rfl) e2) (show 1 + 2 = 3 from rfl) (show 2 + 9 = 11 from rfl) e3) (show 1 + 11 = 12 from rfl) (show 11 + 9 = 20 from rfl) e4) (show 1 + 20 = 21 from rfl) (show 20 + 9 = 29 from rfl) e5) (show 1 + 29 = 30 from rfl) (show 29 + 9 = 38 from rfl) e6) (show 1 + 38 = 39 from rfl) (show 38 + 9 = 47 from rfl) e7) (show 1 + 47 = 48 from rfl) (show 47 + 9 = 56 from rfl) e8))
theorem mi_X10_25 : Cond.methodLink RX10 25 mX3_init.1 ∈ zTb := zTb_in 396 (by decide +kernel) rfl
theorem mm_X3 : zMm mX3_init 0 := ⟨zTb_in 398 (by decide +kernel) rfl, zTb_in 144 (by decide +kernel) rfl, ⟨by decide +kernel, by decide +kernel⟩, by decide +kernel⟩
theorem im_X3 : Cond.instanceMethod mX3_init.1 ∈ zTb := zTb_in 397 (by decide +kernel) rfl
theorem pf_X10_26 : zFf RX10 26 10 3 (tyX10 3) := ⟨RX10, TX10, 8, tyX10, rfl, (Nat.le_of_ble_eq_true rfl), zTb_in 516 (by decide +kernel) rfl, in_X10, tyX10_ok, nmX10, rfl, rfl, rfl⟩
theorem cl_X10_30 : Cond.classLink RX10 30 RX4 ∈ zTb := zTb_in 417 (by decide +kernel) rfl
def wX4_1_l : List (Nat × Nat × List (Option Nat)) := [(7, 15, [none, some 1, some 2, some 3, some 4, some 5, some 6, some 7, some 8, none, none, none, none, none, none]), (0, 10, []), (0, 10, []), (0, 10, []), (0, 10, []), (0, 14, []), (0, 14, []), (0, 14, []), (0, 14, [])]
def wX4_1 : zWd := zsh wX4_1_l
def tX4_1_t : List (Nat × List (Nat × Int32)) := [(0, [(0, (1 : Int32))])]
def hX4_1 : zHp := zhp tX4_1_t
set_option maxHeartbeats 4000000 in
set_option maxRecDepth 100000 in
theorem n_X4_1 : Ini wX4_1 hX4_1 mX4_init 1 8 96 [.int (1 : Int32)] 4 [.int (0 : Int32), .null, .null, .null, .null, .null, .null, .null, .null, .int (0 : Int32), .int (0 : Int32), .int (0 : Int32), .int (0 : Int32), .int (0 : Int32), .int (0 : Int32)] (fun q r => r 0 = q) := by
  refine Ini.of rfl (fun _ => Nat.le_of_ble_eq_true rfl) rfl (fun D g q => ?_)
  refine Cn.aload_n 0 dX4_init_0 rfl ?_
  refine Cn.obj dX4_init_1 mo_X4 io_obj co_obj (Nat.le_of_ble_eq_true rfl) (Nat.le_of_ble_eq_true rfl) ?_
  refine Cn.aload_n 0 dX4_init_4 rfl ?_
  refine Cn.bipush (v := (10 : Int32)) dX4_init_5 rfl ?_
  refine Cn.newI (N := 10) (c' := 1) (s' := 10) dX4_init_7 ac_int (by decide) rfl (Nat.le_of_ble_eq_true rfl) rfl rfl (Nat.le_of_ble_eq_true rfl) (Nat.le_of_ble_eq_true rfl) (fun a1 => ?_)
  refine Cn.putF (fs' := [.int (0 : Int32), .ref a1, .null, .null, .null, .null, .null, .null, .null, .int (0 : Int32), .int (0 : Int32), .int (0 : Int32), .int (0 : Int32), .int (0 : Int32), .int (0 : Int32)]) pf_X4_9 dX4_init_9 rfl rfl (Nat.le_of_ble_eq_true rfl) rfl ?_
  refine Cn.aload_n 0 dX4_init_12 rfl ?_
  refine Cn.bipush (v := (10 : Int32)) dX4_init_13 rfl ?_
  refine Cn.newI (N := 10) (c' := 2) (s' := 20) dX4_init_15 ac_int (by decide) rfl (Nat.le_of_ble_eq_true rfl) rfl rfl (Nat.le_of_ble_eq_true rfl) (Nat.le_of_ble_eq_true rfl) (fun a2 => ?_)
  refine Cn.putF (fs' := [.int (0 : Int32), .ref a1, .ref a2, .null, .null, .null, .null, .null, .null, .int (0 : Int32), .int (0 : Int32), .int (0 : Int32), .int (0 : Int32), .int (0 : Int32), .int (0 : Int32)]) pf_X4_15 dX4_init_17 rfl rfl (Nat.le_of_ble_eq_true rfl) rfl ?_
  refine Cn.aload_n 0 dX4_init_20 rfl ?_
  refine Cn.bipush (v := (10 : Int32)) dX4_init_21 rfl ?_
  refine Cn.newI (N := 10) (c' := 3) (s' := 30) dX4_init_23 ac_int (by decide) rfl (Nat.le_of_ble_eq_true rfl) rfl rfl (Nat.le_of_ble_eq_true rfl) (Nat.le_of_ble_eq_true rfl) (fun a3 => ?_)
  refine Cn.putF (fs' := [.int (0 : Int32), .ref a1, .ref a2, .ref a3, .null, .null, .null, .null, .null, .int (0 : Int32), .int (0 : Int32), .int (0 : Int32), .int (0 : Int32), .int (0 : Int32), .int (0 : Int32)]) pf_X4_18 dX4_init_25 rfl rfl (Nat.le_of_ble_eq_true rfl) rfl ?_
  refine Cn.aload_n 0 dX4_init_28 rfl ?_
  refine Cn.bipush (v := (10 : Int32)) dX4_init_29 rfl ?_
  refine Cn.newI (N := 10) (c' := 4) (s' := 40) dX4_init_31 ac_int (by decide) rfl (Nat.le_of_ble_eq_true rfl) rfl rfl (Nat.le_of_ble_eq_true rfl) (Nat.le_of_ble_eq_true rfl) (fun a4 => ?_)
  refine Cn.putF (fs' := [.int (0 : Int32), .ref a1, .ref a2, .ref a3, .ref a4, .null, .null, .null, .null, .int (0 : Int32), .int (0 : Int32), .int (0 : Int32), .int (0 : Int32), .int (0 : Int32), .int (0 : Int32)]) pf_X4_21 dX4_init_33 rfl rfl (Nat.le_of_ble_eq_true rfl) rfl ?_
  refine Cn.aload_n 0 dX4_init_36 rfl ?_
  refine Cn.bipush (v := (14 : Int32)) dX4_init_37 rfl ?_
  refine Cn.newI (N := 14) (c' := 5) (s' := 54) dX4_init_39 ac_int (by decide) rfl (Nat.le_of_ble_eq_true rfl) rfl rfl (Nat.le_of_ble_eq_true rfl) (Nat.le_of_ble_eq_true rfl) (fun a5 => ?_)
  refine Cn.putF (fs' := [.int (0 : Int32), .ref a1, .ref a2, .ref a3, .ref a4, .ref a5, .null, .null, .null, .int (0 : Int32), .int (0 : Int32), .int (0 : Int32), .int (0 : Int32), .int (0 : Int32), .int (0 : Int32)]) pf_X4_24 dX4_init_41 rfl rfl (Nat.le_of_ble_eq_true rfl) rfl ?_
  refine Cn.aload_n 0 dX4_init_44 rfl ?_
  refine Cn.bipush (v := (14 : Int32)) dX4_init_45 rfl ?_
  refine Cn.newI (N := 14) (c' := 6) (s' := 68) dX4_init_47 ac_int (by decide) rfl (Nat.le_of_ble_eq_true rfl) rfl rfl (Nat.le_of_ble_eq_true rfl) (Nat.le_of_ble_eq_true rfl) (fun a6 => ?_)
  refine Cn.putF (fs' := [.int (0 : Int32), .ref a1, .ref a2, .ref a3, .ref a4, .ref a5, .ref a6, .null, .null, .int (0 : Int32), .int (0 : Int32), .int (0 : Int32), .int (0 : Int32), .int (0 : Int32), .int (0 : Int32)]) pf_X4_27 dX4_init_49 rfl rfl (Nat.le_of_ble_eq_true rfl) rfl ?_
  refine Cn.aload_n 0 dX4_init_52 rfl ?_
  refine Cn.bipush (v := (14 : Int32)) dX4_init_53 rfl ?_
  refine Cn.newI (N := 14) (c' := 7) (s' := 82) dX4_init_55 ac_int (by decide) rfl (Nat.le_of_ble_eq_true rfl) rfl rfl (Nat.le_of_ble_eq_true rfl) (Nat.le_of_ble_eq_true rfl) (fun a7 => ?_)
  refine Cn.putF (fs' := [.int (0 : Int32), .ref a1, .ref a2, .ref a3, .ref a4, .ref a5, .ref a6, .ref a7, .null, .int (0 : Int32), .int (0 : Int32), .int (0 : Int32), .int (0 : Int32), .int (0 : Int32), .int (0 : Int32)]) pf_X4_30 dX4_init_57 rfl rfl (Nat.le_of_ble_eq_true rfl) rfl ?_
  refine Cn.aload_n 0 dX4_init_60 rfl ?_
  refine Cn.bipush (v := (14 : Int32)) dX4_init_61 rfl ?_
  refine Cn.newI (N := 14) (c' := 8) (s' := 96) dX4_init_63 ac_int (by decide) rfl (Nat.le_of_ble_eq_true rfl) rfl rfl (Nat.le_of_ble_eq_true rfl) (Nat.le_of_ble_eq_true rfl) (fun a8 => ?_)
  refine Cn.putF (fs' := [.int (0 : Int32), .ref a1, .ref a2, .ref a3, .ref a4, .ref a5, .ref a6, .ref a7, .ref a8, .int (0 : Int32), .int (0 : Int32), .int (0 : Int32), .int (0 : Int32), .int (0 : Int32), .int (0 : Int32)]) pf_X4_33 dX4_init_65 rfl rfl (Nat.le_of_ble_eq_true rfl) rfl ?_
  refine Cn.aload_n 0 dX4_init_68 rfl ?_
  refine Cn.iconst (v := (0 : Int32)) dX4_init_69 rfl ?_
  refine Cn.put (fs' := [.int (0 : Int32), .ref a1, .ref a2, .ref a3, .ref a4, .ref a5, .ref a6, .ref a7, .ref a8, .int (0 : Int32), .int (0 : Int32), .int (0 : Int32), .int (0 : Int32), .int (0 : Int32), .int (0 : Int32)]) pf_X4_36 dX4_init_70 rfl rfl (Nat.le_of_ble_eq_true rfl) rfl ?_
  refine Cn.aload_n 0 dX4_init_73 rfl ?_
  refine Cn.iconst (v := (0 : Int32)) dX4_init_74 rfl ?_
  refine Cn.put (fs' := [.int (0 : Int32), .ref a1, .ref a2, .ref a3, .ref a4, .ref a5, .ref a6, .ref a7, .ref a8, .int (0 : Int32), .int (0 : Int32), .int (0 : Int32), .int (0 : Int32), .int (0 : Int32), .int (0 : Int32)]) pf_X4_40 dX4_init_75 rfl rfl (Nat.le_of_ble_eq_true rfl) rfl ?_
  refine Cn.aload_n 0 dX4_init_78 rfl ?_
  refine Cn.iconst (v := (0 : Int32)) dX4_init_79 rfl ?_
  refine Cn.put (fs' := [.int (0 : Int32), .ref a1, .ref a2, .ref a3, .ref a4, .ref a5, .ref a6, .ref a7, .ref a8, .int (0 : Int32), .int (0 : Int32), .int (0 : Int32), .int (0 : Int32), .int (0 : Int32), .int (0 : Int32)]) pf_X4_43 dX4_init_80 rfl rfl (Nat.le_of_ble_eq_true rfl) rfl ?_
  refine Cn.aload_n 0 dX4_init_83 rfl ?_
  refine Cn.iconst (v := (0 : Int32)) dX4_init_84 rfl ?_
  refine Cn.put (fs' := [.int (0 : Int32), .ref a1, .ref a2, .ref a3, .ref a4, .ref a5, .ref a6, .ref a7, .ref a8, .int (0 : Int32), .int (0 : Int32), .int (0 : Int32), .int (0 : Int32), .int (0 : Int32), .int (0 : Int32)]) pf_X4_46 dX4_init_85 rfl rfl (Nat.le_of_ble_eq_true rfl) rfl ?_
  refine Cn.aload_n 0 dX4_init_88 rfl ?_
  refine Cn.iconst (v := (0 : Int32)) dX4_init_89 rfl ?_
  refine Cn.put (fs' := [.int (0 : Int32), .ref a1, .ref a2, .ref a3, .ref a4, .ref a5, .ref a6, .ref a7, .ref a8, .int (0 : Int32), .int (0 : Int32), .int (0 : Int32), .int (0 : Int32), .int (0 : Int32), .int (0 : Int32)]) pf_X4_49 dX4_init_90 rfl rfl (Nat.le_of_ble_eq_true rfl) rfl ?_
  refine Cn.aload_n 0 dX4_init_93 rfl ?_
  refine Cn.iconst (v := (0 : Int32)) dX4_init_94 rfl ?_
  refine Cn.put (fs' := [.int (0 : Int32), .ref a1, .ref a2, .ref a3, .ref a4, .ref a5, .ref a6, .ref a7, .ref a8, .int (0 : Int32), .int (0 : Int32), .int (0 : Int32), .int (0 : Int32), .int (0 : Int32), .int (0 : Int32)]) pf_X4_52 dX4_init_95 rfl rfl (Nat.le_of_ble_eq_true rfl) rfl ?_
  refine Cn.aload_n 0 dX4_init_98 rfl ?_
  refine Cn.iload_n 1 dX4_init_99 rfl ?_
  refine Cn.putF (fs' := [.int (1 : Int32), .ref a1, .ref a2, .ref a3, .ref a4, .ref a5, .ref a6, .ref a7, .ref a8, .int (0 : Int32), .int (0 : Int32), .int (0 : Int32), .int (0 : Int32), .int (0 : Int32), .int (0 : Int32)]) pf_X4_55 dX4_init_100 rfl rfl (Nat.le_of_ble_eq_true rfl) rfl ?_
  have e1 : zSe g (zRp [(1, fun _ => q), (1, fun _ => a1), (1, fun _ => a2), (1, fun _ => a3), (1, fun _ => a4), (1, fun _ => a5), (1, fun _ => a6), (1, fun _ => a7), (1, fun _ => a8)]) wX4_1 hX4_1 1 1 = [(a1, .inl (g.1, 10, .inl (zuf [])))] := zSe_arr rfl rfl rfl rfl
  have e2 : zSe g (zRp [(1, fun _ => q), (1, fun _ => a1), (1, fun _ => a2), (1, fun _ => a3), (1, fun _ => a4), (1, fun _ => a5), (1, fun _ => a6), (1, fun _ => a7), (1, fun _ => a8)]) wX4_1 hX4_1 2 1 = [(a2, .inl (g.1, 10, .inl (zuf [])))] := zSe_arr rfl rfl rfl rfl
  have e3 : zSe g (zRp [(1, fun _ => q), (1, fun _ => a1), (1, fun _ => a2), (1, fun _ => a3), (1, fun _ => a4), (1, fun _ => a5), (1, fun _ => a6), (1, fun _ => a7), (1, fun _ => a8)]) wX4_1 hX4_1 3 1 = [(a3, .inl (g.1, 10, .inl (zuf [])))] := zSe_arr rfl rfl rfl rfl
  have e4 : zSe g (zRp [(1, fun _ => q), (1, fun _ => a1), (1, fun _ => a2), (1, fun _ => a3), (1, fun _ => a4), (1, fun _ => a5), (1, fun _ => a6), (1, fun _ => a7), (1, fun _ => a8)]) wX4_1 hX4_1 4 1 = [(a4, .inl (g.1, 10, .inl (zuf [])))] := zSe_arr rfl rfl rfl rfl
  have e5 : zSe g (zRp [(1, fun _ => q), (1, fun _ => a1), (1, fun _ => a2), (1, fun _ => a3), (1, fun _ => a4), (1, fun _ => a5), (1, fun _ => a6), (1, fun _ => a7), (1, fun _ => a8)]) wX4_1 hX4_1 5 1 = [(a5, .inl (g.1, 14, .inl (zuf [])))] := zSe_arr rfl rfl rfl rfl
  have e6 : zSe g (zRp [(1, fun _ => q), (1, fun _ => a1), (1, fun _ => a2), (1, fun _ => a3), (1, fun _ => a4), (1, fun _ => a5), (1, fun _ => a6), (1, fun _ => a7), (1, fun _ => a8)]) wX4_1 hX4_1 6 1 = [(a6, .inl (g.1, 14, .inl (zuf [])))] := zSe_arr rfl rfl rfl rfl
  have e7 : zSe g (zRp [(1, fun _ => q), (1, fun _ => a1), (1, fun _ => a2), (1, fun _ => a3), (1, fun _ => a4), (1, fun _ => a5), (1, fun _ => a6), (1, fun _ => a7), (1, fun _ => a8)]) wX4_1 hX4_1 7 1 = [(a7, .inl (g.1, 14, .inl (zuf [])))] := zSe_arr rfl rfl rfl rfl
  have e8 : zSe g (zRp [(1, fun _ => q), (1, fun _ => a1), (1, fun _ => a2), (1, fun _ => a3), (1, fun _ => a4), (1, fun _ => a5), (1, fun _ => a6), (1, fun _ => a7), (1, fun _ => a8)]) wX4_1 hX4_1 8 1 = [(a8, .inl (g.1, 14, .inl (zuf [])))] := zSe_arr rfl rfl rfl rfl
  exact Cn.ret (r := (zRp [(1, fun _ => q), (1, fun _ => a1), (1, fun _ => a2), (1, fun _ => a3), (1, fun _ => a4), (1, fun _ => a5), (1, fun _ => a6), (1, fun _ => a7), (1, fun _ => a8)])) dX4_init_103 rfl rfl rfl rfl (zW_of (n := 8) rfl rfl rfl (zSe_snoc (zSe_snoc (zSe_snoc (zSe_snoc (zSe_snoc (zSe_snoc (zSe_snoc (zSe_snoc zSe_nil (show 1 + 0 = 1 from rfl) (show 0 + 1 = 1 from rfl) e1) (show 1 + 1 = 2 from rfl) (show 1 + 1 = 2 from rfl) e2) (show 1 + 2 = 3 from rfl) (show 2 + 1 = 3 from rfl) e3) (show 1 + 3 = 4 from rfl) (show 3 + 1 = 4 from rfl) e4) (show 1 + 4 = 5 from rfl) (show 4 + 1 = 5 from rfl) e5) (show 1 + 5 = 6 from rfl) (show 5 + 1 = 6 from rfl) e6) (show 1 + 6 = 7 from rfl) (show 6 + 1 = 7 from rfl) e7) (show 1 + 7 = 8 from rfl) (show 7 + 1 = 8 from rfl) e8))
theorem mi_X10_32 : Cond.methodLink RX10 32 mX4_init.1 ∈ zTb := zTb_in 418 (by decide +kernel) rfl
theorem pf_X10_35 : zFf RX10 35 10 4 (tyX10 4) := ⟨RX10, TX10, 8, tyX10, rfl, (Nat.le_of_ble_eq_true rfl), zTb_in 517 (by decide +kernel) rfl, in_X10, tyX10_ok, nmX10, rfl, rfl, rfl⟩
theorem cl_X10_39 : Cond.classLink RX10 39 RX6 ∈ zTb := zTb_in 419 (by decide +kernel) rfl
theorem it_X6 : Cond.instantiable RX6 14 ∈ zTb := zTb_in 420 (by decide +kernel) rfl
theorem ii_X6 : Cond.initialized RX6 ∈ zTb := zTb_in 145 (by decide +kernel) rfl
theorem df_X6 : ∀ j, j < 14 → defaultValue (tyX6 j) = vp_V [.null, .int (0 : Int32), .null, .null, .null, .int (0 : Int32), .int (0 : Int32), .int (0 : Int32), .int (0 : Int32), .int (0 : Int32), .null, .null, .int (0 : Int32), .int (0 : Int32)] j := by decide +kernel
abbrev mX6_init : zMt := (yX6_init, cX6_init, 1, none)
theorem dX6_init_0 : decode cX6_init 0 = .ok (.aload_n 0, 1) := by decide +kernel
theorem dX6_init_1 : decode cX6_init 1 = .ok (.invokespecial 3, 3) := by decide +kernel
theorem dX6_init_4 : decode cX6_init 4 = .ok (.aload_n 0, 1) := by decide +kernel
theorem dX6_init_5 : decode cX6_init 5 = .ok (.sipush 400, 3) := by decide +kernel
theorem dX6_init_8 : decode cX6_init 8 = .ok (.newarray .char, 2) := by decide +kernel
theorem dX6_init_10 : decode cX6_init 10 = .ok (.putfield 9, 3) := by decide +kernel
theorem dX6_init_13 : decode cX6_init 13 = .ok (.aload_n 0, 1) := by decide +kernel
theorem dX6_init_14 : decode cX6_init 14 = .ok (.iconst 0, 1) := by decide +kernel
theorem dX6_init_15 : decode cX6_init 15 = .ok (.putfield 15, 3) := by decide +kernel
theorem dX6_init_18 : decode cX6_init 18 = .ok (.aload_n 0, 1) := by decide +kernel
theorem dX6_init_19 : decode cX6_init 19 = .ok (.sipush 401, 3) := by decide +kernel
theorem dX6_init_22 : decode cX6_init 22 = .ok (.newarray .int, 2) := by decide +kernel
theorem dX6_init_24 : decode cX6_init 24 = .ok (.putfield 19, 3) := by decide +kernel
theorem dX6_init_27 : decode cX6_init 27 = .ok (.aload_n 0, 1) := by decide +kernel
theorem dX6_init_28 : decode cX6_init 28 = .ok (.sipush 401, 3) := by decide +kernel
theorem dX6_init_31 : decode cX6_init 31 = .ok (.newarray .int, 2) := by decide +kernel
theorem dX6_init_33 : decode cX6_init 33 = .ok (.putfield 23, 3) := by decide +kernel
theorem dX6_init_36 : decode cX6_init 36 = .ok (.aload_n 0, 1) := by decide +kernel
theorem dX6_init_37 : decode cX6_init 37 = .ok (.sipush 401, 3) := by decide +kernel
theorem dX6_init_40 : decode cX6_init 40 = .ok (.newarray .int, 2) := by decide +kernel
theorem dX6_init_42 : decode cX6_init 42 = .ok (.putfield 26, 3) := by decide +kernel
theorem dX6_init_45 : decode cX6_init 45 = .ok (.aload_n 0, 1) := by decide +kernel
theorem dX6_init_46 : decode cX6_init 46 = .ok (.iconst 0, 1) := by decide +kernel
theorem dX6_init_47 : decode cX6_init 47 = .ok (.putfield 29, 3) := by decide +kernel
theorem dX6_init_50 : decode cX6_init 50 = .ok (.aload_n 0, 1) := by decide +kernel
theorem dX6_init_51 : decode cX6_init 51 = .ok (.iconst 0, 1) := by decide +kernel
theorem dX6_init_52 : decode cX6_init 52 = .ok (.putfield 32, 3) := by decide +kernel
theorem dX6_init_55 : decode cX6_init 55 = .ok (.aload_n 0, 1) := by decide +kernel
theorem dX6_init_56 : decode cX6_init 56 = .ok (.bipush 36, 2) := by decide +kernel
theorem dX6_init_58 : decode cX6_init 58 = .ok (.putfield 35, 3) := by decide +kernel
theorem dX6_init_61 : decode cX6_init 61 = .ok (.aload_n 0, 1) := by decide +kernel
theorem dX6_init_62 : decode cX6_init 62 = .ok (.iconst 0, 1) := by decide +kernel
theorem dX6_init_63 : decode cX6_init 63 = .ok (.putfield 38, 3) := by decide +kernel
theorem dX6_init_66 : decode cX6_init 66 = .ok (.aload_n 0, 1) := by decide +kernel
theorem dX6_init_67 : decode cX6_init 67 = .ok (.iconst 0, 1) := by decide +kernel
theorem dX6_init_68 : decode cX6_init 68 = .ok (.putfield 41, 3) := by decide +kernel
theorem dX6_init_71 : decode cX6_init 71 = .ok (.aload_n 0, 1) := by decide +kernel
theorem dX6_init_72 : decode cX6_init 72 = .ok (.new 44, 3) := by decide +kernel
theorem dX6_init_75 : decode cX6_init 75 = .ok (.dup, 1) := by decide +kernel
theorem dX6_init_76 : decode cX6_init 76 = .ok (.invokespecial 46, 3) := by decide +kernel
theorem dX6_init_79 : decode cX6_init 79 = .ok (.putfield 47, 3) := by decide +kernel
theorem dX6_init_82 : decode cX6_init 82 = .ok (.aload_n 0, 1) := by decide +kernel
theorem dX6_init_83 : decode cX6_init 83 = .ok (.new 51, 3) := by decide +kernel
theorem dX6_init_86 : decode cX6_init 86 = .ok (.dup, 1) := by decide +kernel
theorem dX6_init_87 : decode cX6_init 87 = .ok (.bipush 16, 2) := by decide +kernel
theorem dX6_init_89 : decode cX6_init 89 = .ok (.invokespecial 53, 3) := by decide +kernel
theorem dX6_init_92 : decode cX6_init 92 = .ok (.putfield 56, 3) := by decide +kernel
theorem dX6_init_95 : decode cX6_init 95 = .ok (.aload_n 0, 1) := by decide +kernel
theorem dX6_init_96 : decode cX6_init 96 = .ok (.iconst 0, 1) := by decide +kernel
theorem dX6_init_97 : decode cX6_init 97 = .ok (.putfield 60, 3) := by decide +kernel
theorem dX6_init_100 : decode cX6_init 100 = .ok (.aload_n 0, 1) := by decide +kernel
theorem dX6_init_101 : decode cX6_init 101 = .ok (.iconst (-1), 1) := by decide +kernel
theorem dX6_init_102 : decode cX6_init 102 = .ok (.putfield 63, 3) := by decide +kernel
theorem dX6_init_105 : decode cX6_init 105 = .ok (.return_, 1) := by decide +kernel
theorem mo_X6 : Cond.methodLink RX6 3 Lib.objectInit ∈ zTb := zTb_in 424 (by decide +kernel) rfl
theorem ac_char : Cond.arrayClass .char ∈ zTb := zTb_in 477 (by decide +kernel) rfl
theorem pf_X6_9 : zFf RX6 9 6 0 (tyX6 0) := ⟨RX6, TX6, 14, tyX6, rfl, (Nat.le_of_ble_eq_true rfl), zTb_in 429 (by decide +kernel) rfl, in_X6, tyX6_ok, nmX6, rfl, rfl, rfl⟩
theorem pf_X6_15 : zFp RX6 15 6 1 (tyX6 1) := ⟨RX6, TX6, 14, tyX6, rfl, (Nat.le_of_ble_eq_true rfl), zTb_in 430 (by decide +kernel) rfl, in_X6, tyX6_ok, nmX6, rfl, rfl⟩
theorem pf_X6_19 : zFf RX6 19 6 2 (tyX6 2) := ⟨RX6, TX6, 14, tyX6, rfl, (Nat.le_of_ble_eq_true rfl), zTb_in 432 (by decide +kernel) rfl, in_X6, tyX6_ok, nmX6, rfl, rfl, rfl⟩
theorem pf_X6_23 : zFf RX6 23 6 3 (tyX6 3) := ⟨RX6, TX6, 14, tyX6, rfl, (Nat.le_of_ble_eq_true rfl), zTb_in 433 (by decide +kernel) rfl, in_X6, tyX6_ok, nmX6, rfl, rfl, rfl⟩
theorem pf_X6_26 : zFf RX6 26 6 4 (tyX6 4) := ⟨RX6, TX6, 14, tyX6, rfl, (Nat.le_of_ble_eq_true rfl), zTb_in 434 (by decide +kernel) rfl, in_X6, tyX6_ok, nmX6, rfl, rfl, rfl⟩
theorem pf_X6_29 : zFp RX6 29 6 5 (tyX6 5) := ⟨RX6, TX6, 14, tyX6, rfl, (Nat.le_of_ble_eq_true rfl), zTb_in 435 (by decide +kernel) rfl, in_X6, tyX6_ok, nmX6, rfl, rfl⟩
theorem pf_X6_32 : zFp RX6 32 6 6 (tyX6 6) := ⟨RX6, TX6, 14, tyX6, rfl, (Nat.le_of_ble_eq_true rfl), zTb_in 436 (by decide +kernel) rfl, in_X6, tyX6_ok, nmX6, rfl, rfl⟩
theorem pf_X6_35 : zFp RX6 35 6 7 (tyX6 7) := ⟨RX6, TX6, 14, tyX6, rfl, (Nat.le_of_ble_eq_true rfl), zTb_in 437 (by decide +kernel) rfl, in_X6, tyX6_ok, nmX6, rfl, rfl⟩
theorem pf_X6_38 : zFp RX6 38 6 8 (tyX6 8) := ⟨RX6, TX6, 14, tyX6, rfl, (Nat.le_of_ble_eq_true rfl), zTb_in 438 (by decide +kernel) rfl, in_X6, tyX6_ok, nmX6, rfl, rfl⟩
theorem pf_X6_41 : zFp RX6 41 6 9 (tyX6 9) := ⟨RX6, TX6, 14, tyX6, rfl, (Nat.le_of_ble_eq_true rfl), zTb_in 439 (by decide +kernel) rfl, in_X6, tyX6_ok, nmX6, rfl, rfl⟩
theorem cl_X6_44 : Cond.classLink RX6 44 RX1 ∈ zTb := zTb_in 425 (by decide +kernel) rfl
theorem mi_X6_46 : ∀ U, zXt U → va_Nw (.methodLinkNest RX6 46 mX1_init.1 RX10) U := fun _ q => q.2.2.2.2.1
theorem pf_X6_47 : zFf RX6 47 6 10 (tyX6 10) := ⟨RX6, TX6, 14, tyX6, rfl, (Nat.le_of_ble_eq_true rfl), zTb_in 440 (by decide +kernel) rfl, in_X6, tyX6_ok, nmX6, rfl, rfl, rfl⟩
theorem cl_X6_51 : Cond.classLink RX6 51 RX2 ∈ zTb := zTb_in 427 (by decide +kernel) rfl
theorem mi_X6_53 : Cond.methodLink RX6 53 mX2_init.1 ∈ zTb := zTb_in 428 (by decide +kernel) rfl
theorem pf_X6_56 : zFf RX6 56 6 11 (tyX6 11) := ⟨RX6, TX6, 14, tyX6, rfl, (Nat.le_of_ble_eq_true rfl), zTb_in 442 (by decide +kernel) rfl, in_X6, tyX6_ok, nmX6, rfl, rfl, rfl⟩
theorem pf_X6_60 : zFp RX6 60 6 12 (tyX6 12) := ⟨RX6, TX6, 14, tyX6, rfl, (Nat.le_of_ble_eq_true rfl), zTb_in 444 (by decide +kernel) rfl, in_X6, tyX6_ok, nmX6, rfl, rfl⟩
theorem pf_X6_63 : zFp RX6 63 6 13 (tyX6 13) := ⟨RX6, TX6, 14, tyX6, rfl, (Nat.le_of_ble_eq_true rfl), zTb_in 446 (by decide +kernel) rfl, in_X6, tyX6_ok, nmX6, rfl, rfl⟩
def wX6_l : List (Nat × Nat × List (Option Nat)) := [(9, 14, [some 1, none, some 2, some 3, some 4, none, none, none, none, none, some 5, some 12, none, none]), (1, 400, []), (0, 401, []), (0, 401, []), (0, 401, []), (4, 8, [some 6, some 7, some 8, some 9, some 10, some 11, none, none]), (0, 16, []), (0, 16, []), (0, 16, []), (0, 16, []), (0, 400, []), (0, 26, []), (5, 3, [none, some 13, none]), (0, 64, [])]
def wX6 : zWd := zsh wX6_l
def tX6_t : List (Nat × List (Nat × Int32)) := [(0, [(7, (36 : Int32)), (13, (-1 : Int32))]), (12, [(0, (16 : Int32))])]
def hX6 : zHp := zhp tX6_t
set_option maxHeartbeats 4000000 in
set_option maxRecDepth 100000 in
theorem n_X6 : Ini wX6 hX6 mX6_init 2 13 2168 [] 6 [.null, .int (0 : Int32), .null, .null, .null, .int (0 : Int32), .int (0 : Int32), .int (0 : Int32), .int (0 : Int32), .int (0 : Int32), .null, .null, .int (0 : Int32), .int (0 : Int32)] (fun q r => r 0 = q) := by
  refine Ini.of rfl (fun _ => Nat.le_of_ble_eq_true rfl) rfl (fun D g q => ?_)
  refine Cn.aload_n 0 dX6_init_0 rfl ?_
  refine Cn.obj dX6_init_1 mo_X6 io_obj co_obj (Nat.le_of_ble_eq_true rfl) (Nat.le_of_ble_eq_true rfl) ?_
  refine Cn.aload_n 0 dX6_init_4 rfl ?_
  refine Cn.sipush (v := (400 : Int32)) dX6_init_5 rfl ?_
  refine Cn.newC (N := 400) (c' := 1) (s' := 400) dX6_init_8 ac_char (by decide) rfl (Nat.le_of_ble_eq_true rfl) rfl rfl (Nat.le_of_ble_eq_true rfl) (Nat.le_of_ble_eq_true rfl) (fun a1 => ?_)
  refine Cn.putF (fs' := [.ref a1, .int (0 : Int32), .null, .null, .null, .int (0 : Int32), .int (0 : Int32), .int (0 : Int32), .int (0 : Int32), .int (0 : Int32), .null, .null, .int (0 : Int32), .int (0 : Int32)]) pf_X6_9 dX6_init_10 rfl rfl (Nat.le_of_ble_eq_true rfl) rfl ?_
  refine Cn.aload_n 0 dX6_init_13 rfl ?_
  refine Cn.iconst (v := (0 : Int32)) dX6_init_14 rfl ?_
  refine Cn.put (fs' := [.ref a1, .int (0 : Int32), .null, .null, .null, .int (0 : Int32), .int (0 : Int32), .int (0 : Int32), .int (0 : Int32), .int (0 : Int32), .null, .null, .int (0 : Int32), .int (0 : Int32)]) pf_X6_15 dX6_init_15 rfl rfl (Nat.le_of_ble_eq_true rfl) rfl ?_
  refine Cn.aload_n 0 dX6_init_18 rfl ?_
  refine Cn.sipush (v := (401 : Int32)) dX6_init_19 rfl ?_
  refine Cn.newI (N := 401) (c' := 2) (s' := 801) dX6_init_22 ac_int (by decide) rfl (Nat.le_of_ble_eq_true rfl) rfl rfl (Nat.le_of_ble_eq_true rfl) (Nat.le_of_ble_eq_true rfl) (fun a2 => ?_)
  refine Cn.putF (fs' := [.ref a1, .int (0 : Int32), .ref a2, .null, .null, .int (0 : Int32), .int (0 : Int32), .int (0 : Int32), .int (0 : Int32), .int (0 : Int32), .null, .null, .int (0 : Int32), .int (0 : Int32)]) pf_X6_19 dX6_init_24 rfl rfl (Nat.le_of_ble_eq_true rfl) rfl ?_
  refine Cn.aload_n 0 dX6_init_27 rfl ?_
  refine Cn.sipush (v := (401 : Int32)) dX6_init_28 rfl ?_
  refine Cn.newI (N := 401) (c' := 3) (s' := 1202) dX6_init_31 ac_int (by decide) rfl (Nat.le_of_ble_eq_true rfl) rfl rfl (Nat.le_of_ble_eq_true rfl) (Nat.le_of_ble_eq_true rfl) (fun a3 => ?_)
  refine Cn.putF (fs' := [.ref a1, .int (0 : Int32), .ref a2, .ref a3, .null, .int (0 : Int32), .int (0 : Int32), .int (0 : Int32), .int (0 : Int32), .int (0 : Int32), .null, .null, .int (0 : Int32), .int (0 : Int32)]) pf_X6_23 dX6_init_33 rfl rfl (Nat.le_of_ble_eq_true rfl) rfl ?_
  refine Cn.aload_n 0 dX6_init_36 rfl ?_
  refine Cn.sipush (v := (401 : Int32)) dX6_init_37 rfl ?_
  refine Cn.newI (N := 401) (c' := 4) (s' := 1603) dX6_init_40 ac_int (by decide) rfl (Nat.le_of_ble_eq_true rfl) rfl rfl (Nat.le_of_ble_eq_true rfl) (Nat.le_of_ble_eq_true rfl) (fun a4 => ?_)
  refine Cn.putF (fs' := [.ref a1, .int (0 : Int32), .ref a2, .ref a3, .ref a4, .int (0 : Int32), .int (0 : Int32), .int (0 : Int32), .int (0 : Int32), .int (0 : Int32), .null, .null, .int (0 : Int32), .int (0 : Int32)]) pf_X6_26 dX6_init_42 rfl rfl (Nat.le_of_ble_eq_true rfl) rfl ?_
  refine Cn.aload_n 0 dX6_init_45 rfl ?_
  refine Cn.iconst (v := (0 : Int32)) dX6_init_46 rfl ?_
  refine Cn.put (fs' := [.ref a1, .int (0 : Int32), .ref a2, .ref a3, .ref a4, .int (0 : Int32), .int (0 : Int32), .int (0 : Int32), .int (0 : Int32), .int (0 : Int32), .null, .null, .int (0 : Int32), .int (0 : Int32)]) pf_X6_29 dX6_init_47 rfl rfl (Nat.le_of_ble_eq_true rfl) rfl ?_
  refine Cn.aload_n 0 dX6_init_50 rfl ?_
  refine Cn.iconst (v := (0 : Int32)) dX6_init_51 rfl ?_
  refine Cn.put (fs' := [.ref a1, .int (0 : Int32), .ref a2, .ref a3, .ref a4, .int (0 : Int32), .int (0 : Int32), .int (0 : Int32), .int (0 : Int32), .int (0 : Int32), .null, .null, .int (0 : Int32), .int (0 : Int32)]) pf_X6_32 dX6_init_52 rfl rfl (Nat.le_of_ble_eq_true rfl) rfl ?_
  refine Cn.aload_n 0 dX6_init_55 rfl ?_
  refine Cn.bipush (v := (36 : Int32)) dX6_init_56 rfl ?_
  refine Cn.put (fs' := [.ref a1, .int (0 : Int32), .ref a2, .ref a3, .ref a4, .int (0 : Int32), .int (0 : Int32), .int (36 : Int32), .int (0 : Int32), .int (0 : Int32), .null, .null, .int (0 : Int32), .int (0 : Int32)]) pf_X6_35 dX6_init_58 rfl rfl (Nat.le_of_ble_eq_true rfl) rfl ?_
  refine Cn.aload_n 0 dX6_init_61 rfl ?_
  refine Cn.iconst (v := (0 : Int32)) dX6_init_62 rfl ?_
  refine Cn.put (fs' := [.ref a1, .int (0 : Int32), .ref a2, .ref a3, .ref a4, .int (0 : Int32), .int (0 : Int32), .int (36 : Int32), .int (0 : Int32), .int (0 : Int32), .null, .null, .int (0 : Int32), .int (0 : Int32)]) pf_X6_38 dX6_init_63 rfl rfl (Nat.le_of_ble_eq_true rfl) rfl ?_
  refine Cn.aload_n 0 dX6_init_66 rfl ?_
  refine Cn.iconst (v := (0 : Int32)) dX6_init_67 rfl ?_
  refine Cn.put (fs' := [.ref a1, .int (0 : Int32), .ref a2, .ref a3, .ref a4, .int (0 : Int32), .int (0 : Int32), .int (36 : Int32), .int (0 : Int32), .int (0 : Int32), .null, .null, .int (0 : Int32), .int (0 : Int32)]) pf_X6_41 dX6_init_68 rfl rfl (Nat.le_of_ble_eq_true rfl) rfl ?_
  refine Cn.aload_n 0 dX6_init_71 rfl ?_
  refine Cn.new (ci := 1) (C0 := RX1) (T := TX1) (N := 8) (fs := [.null, .null, .null, .null, .null, .null, .int (0 : Int32), .int (0 : Int32)]) (c' := 5) (s' := 1611) dX6_init_72 rfl in_X1 tyX1_ok cl_X6_44 it_X1 ii_X1 df_X1 rfl rfl (Nat.le_of_ble_eq_true rfl) (Nat.le_of_ble_eq_true rfl) (fun a5 => ?_)
  refine Cn.dup dX6_init_75 rfl ?_
  refine Cn.callN0 (c' := 11) (s' := 2101) (n_X1) dX6_init_76 mi_X6_46 mm_X1 rfl rfl im_X1 (Nat.le_of_ble_eq_true rfl) (Nat.le_of_ble_eq_true rfl) (Nat.le_of_ble_eq_true rfl) rfl rfl (Nat.le_of_ble_eq_true rfl) (Nat.le_of_ble_eq_true rfl) (fun r6 hr => ?_)
  replace hr : r6 0 = a5 := hr
  subst hr
  refine Cn.putF (fs' := [.ref a1, .int (0 : Int32), .ref a2, .ref a3, .ref a4, .int (0 : Int32), .int (0 : Int32), .int (36 : Int32), .int (0 : Int32), .int (0 : Int32), .ref (r6 0), .null, .int (0 : Int32), .int (0 : Int32)]) pf_X6_47 dX6_init_79 rfl rfl (Nat.le_of_ble_eq_true rfl) rfl ?_
  refine Cn.aload_n 0 dX6_init_82 rfl ?_
  refine Cn.new (ci := 2) (C0 := RX2) (T := TX2) (N := 3) (fs := [.int (0 : Int32), .null, .int (0 : Int32)]) (c' := 12) (s' := 2104) dX6_init_83 rfl in_X2 tyX2_ok cl_X6_51 it_X2 ii_X2 df_X2 rfl rfl (Nat.le_of_ble_eq_true rfl) (Nat.le_of_ble_eq_true rfl) (fun a7 => ?_)
  refine Cn.dup dX6_init_86 rfl ?_
  refine Cn.bipush (v := (16 : Int32)) dX6_init_87 rfl ?_
  refine Cn.call1 (c' := 13) (s' := 2168) (n_X2_16) dX6_init_89 mi_X6_53 mm_X2 rfl rfl im_X2 (Nat.le_of_ble_eq_true rfl) (Nat.le_of_ble_eq_true rfl) (Nat.le_of_ble_eq_true rfl) rfl rfl (Nat.le_of_ble_eq_true rfl) (Nat.le_of_ble_eq_true rfl) (fun r8 hr => ?_)
  replace hr : r8 0 = a7 := hr
  subst hr
  refine Cn.putF (fs' := [.ref a1, .int (0 : Int32), .ref a2, .ref a3, .ref a4, .int (0 : Int32), .int (0 : Int32), .int (36 : Int32), .int (0 : Int32), .int (0 : Int32), .ref (r6 0), .ref (r8 0), .int (0 : Int32), .int (0 : Int32)]) pf_X6_56 dX6_init_92 rfl rfl (Nat.le_of_ble_eq_true rfl) rfl ?_
  refine Cn.aload_n 0 dX6_init_95 rfl ?_
  refine Cn.iconst (v := (0 : Int32)) dX6_init_96 rfl ?_
  refine Cn.put (fs' := [.ref a1, .int (0 : Int32), .ref a2, .ref a3, .ref a4, .int (0 : Int32), .int (0 : Int32), .int (36 : Int32), .int (0 : Int32), .int (0 : Int32), .ref (r6 0), .ref (r8 0), .int (0 : Int32), .int (0 : Int32)]) pf_X6_60 dX6_init_97 rfl rfl (Nat.le_of_ble_eq_true rfl) rfl ?_
  refine Cn.aload_n 0 dX6_init_100 rfl ?_
  refine Cn.iconst (v := (-1 : Int32)) dX6_init_101 rfl ?_
  refine Cn.put (fs' := [.ref a1, .int (0 : Int32), .ref a2, .ref a3, .ref a4, .int (0 : Int32), .int (0 : Int32), .int (36 : Int32), .int (0 : Int32), .int (0 : Int32), .ref (r6 0), .ref (r8 0), .int (0 : Int32), .int (-1 : Int32)]) pf_X6_63 dX6_init_102 rfl rfl (Nat.le_of_ble_eq_true rfl) rfl ?_
  have e1 : zSe g (zRp [(1, fun _ => q), (1, fun _ => a1), (1, fun _ => a2), (1, fun _ => a3), (1, fun _ => a4), (7, r6), (2, r8)]) wX6 hX6 1 1 = [(a1, .inl (g.2.1, 400, .inl (zuf [])))] := zSe_chr rfl rfl rfl rfl
  have e2 : zSe g (zRp [(1, fun _ => q), (1, fun _ => a1), (1, fun _ => a2), (1, fun _ => a3), (1, fun _ => a4), (7, r6), (2, r8)]) wX6 hX6 2 1 = [(a2, .inl (g.1, 401, .inl (zuf [])))] := zSe_arr rfl rfl rfl rfl
  have e3 : zSe g (zRp [(1, fun _ => q), (1, fun _ => a1), (1, fun _ => a2), (1, fun _ => a3), (1, fun _ => a4), (7, r6), (2, r8)]) wX6 hX6 3 1 = [(a3, .inl (g.1, 401, .inl (zuf [])))] := zSe_arr rfl rfl rfl rfl
  have e4 : zSe g (zRp [(1, fun _ => q), (1, fun _ => a1), (1, fun _ => a2), (1, fun _ => a3), (1, fun _ => a4), (7, r6), (2, r8)]) wX6 hX6 4 1 = [(a4, .inl (g.1, 401, .inl (zuf [])))] := zSe_arr rfl rfl rfl rfl
  have e5 : zSe g (zRp [(1, fun _ => q), (1, fun _ => a1), (1, fun _ => a2), (1, fun _ => a3), (1, fun _ => a4), (7, r6), (2, r8)]) wX6 hX6 5 7 = zW g r6 wX1 hX1 := zSe_in (l := wX6_l) (l' := wX1_l) (t := tX6_t) (t' := tX1_t) rfl (by decide +kernel) (by decide +kernel) (by decide +kernel) (fun j hj => (congrArg (zRp _) (show 5 + j = 1 + (1 + (1 + (1 + (1 + (j))))) by omega)).trans (zRp_1.trans (zRp_1.trans (zRp_1.trans (zRp_1.trans (zRp_1.trans (zRp_0 hj)))))))
  have e6 : zSe g (zRp [(1, fun _ => q), (1, fun _ => a1), (1, fun _ => a2), (1, fun _ => a3), (1, fun _ => a4), (7, r6), (2, r8)]) wX6 hX6 12 2 = zW g r8 wX2_16 hX2_16 := zSe_in (l := wX6_l) (l' := wX2_16_l) (t := tX6_t) (t' := tX2_16_t) rfl (by decide +kernel) (by decide +kernel) (by decide +kernel) (fun j hj => (congrArg (zRp _) (show 12 + j = 1 + (1 + (1 + (1 + (1 + (7 + (j)))))) by omega)).trans (zRp_1.trans (zRp_1.trans (zRp_1.trans (zRp_1.trans (zRp_1.trans (zRp_1.trans (zRp_0 hj))))))))
  exact Cn.ret (r := (zRp [(1, fun _ => q), (1, fun _ => a1), (1, fun _ => a2), (1, fun _ => a3), (1, fun _ => a4), (7, r6), (2, r8)])) dX6_init_105 rfl rfl rfl rfl (zW_of (n := 13) rfl rfl rfl (zSe_snoc (zSe_snoc (zSe_snoc (zSe_snoc (zSe_snoc (zSe_snoc zSe_nil (show 1 + 0 = 1 from rfl) (show 0 + 1 = 1 from rfl) e1) (show 1 + 1 = 2 from rfl) (show 1 + 1 = 2 from rfl) e2) (show 1 + 2 = 3 from rfl) (show 2 + 1 = 3 from rfl) e3) (show 1 + 3 = 4 from rfl) (show 3 + 1 = 4 from rfl) e4) (show 1 + 4 = 5 from rfl) (show 4 + 7 = 11 from rfl) e5) (show 1 + 11 = 12 from rfl) (show 11 + 2 = 13 from rfl) e6))
theorem mi_X10_41 : ∀ U, zXt U → va_Nw (.methodLinkNest RX10 41 mX6_init.1 RX10) U := fun _ q => q.2.2.2.2.2
theorem mm_X6 : zMm mX6_init 0 := ⟨zTb_in 423 (by decide +kernel) rfl, zTb_in 145 (by decide +kernel) rfl, ⟨by decide +kernel, by decide +kernel⟩, by decide +kernel⟩
theorem im_X6 : Cond.instanceMethod mX6_init.1 ∈ zTb := zTb_in 422 (by decide +kernel) rfl
theorem pf_X10_42 : zFf RX10 42 10 5 (tyX10 5) := ⟨RX10, TX10, 8, tyX10, rfl, (Nat.le_of_ble_eq_true rfl), zTb_in 518 (by decide +kernel) rfl, in_X10, tyX10_ok, nmX10, rfl, rfl, rfl⟩
theorem cl_X10_46 : Cond.classLink RX10 46 RX0 ∈ zTb := zTb_in 478 (by decide +kernel) rfl
theorem it_X0 : Cond.instantiable RX0 2 ∈ zTb := zTb_in 479 (by decide +kernel) rfl
theorem ii_X0 : Cond.initialized RX0 ∈ zTb := zTb_in 146 (by decide +kernel) rfl
theorem df_X0 : ∀ j, j < 2 → defaultValue (tyX0 j) = vp_V [.null, .null] j := by decide +kernel
theorem gf_X10_12 : zF RX10 12 10 0 := ⟨RX10, TX10, 8, rfl, (Nat.le_of_ble_eq_true rfl), zTb_in 513 (by decide +kernel) rfl, in_X10⟩
abbrev mX0_init : zMt := (yX0_init, cX0_init, 2, none)
theorem dX0_init_0 : decode cX0_init 0 = .ok (.aload_n 0, 1) := by decide +kernel
theorem dX0_init_1 : decode cX0_init 1 = .ok (.invokespecial 3, 3) := by decide +kernel
theorem dX0_init_4 : decode cX0_init 4 = .ok (.aload_n 0, 1) := by decide +kernel
theorem dX0_init_5 : decode cX0_init 5 = .ok (.bipush 9, 2) := by decide +kernel
theorem dX0_init_7 : decode cX0_init 7 = .ok (.newarray .int, 2) := by decide +kernel
theorem dX0_init_9 : decode cX0_init 9 = .ok (.putfield 9, 3) := by decide +kernel
theorem dX0_init_12 : decode cX0_init 12 = .ok (.aload_n 0, 1) := by decide +kernel
theorem dX0_init_13 : decode cX0_init 13 = .ok (.aload_n 1, 1) := by decide +kernel
theorem dX0_init_14 : decode cX0_init 14 = .ok (.putfield 15, 3) := by decide +kernel
theorem dX0_init_17 : decode cX0_init 17 = .ok (.return_, 1) := by decide +kernel
theorem mo_X0 : Cond.methodLink RX0 3 Lib.objectInit ∈ zTb := zTb_in 483 (by decide +kernel) rfl
theorem pf_X0_9 : zFf RX0 9 0 1 (tyX0 1) := ⟨RX0, TX0, 2, tyX0, rfl, (Nat.le_of_ble_eq_true rfl), zTb_in 485 (by decide +kernel) rfl, in_X0, tyX0_ok, nmX0, rfl, rfl, rfl⟩
theorem pf_X0_15 : zFf RX0 15 0 0 (tyX0 0) := ⟨RX0, TX0, 2, tyX0, rfl, (Nat.le_of_ble_eq_true rfl), zTb_in 484 (by decide +kernel) rfl, in_X0, tyX0_ok, nmX0, rfl, rfl, rfl⟩
def wX0_l : List (Nat × Nat × List (Option Nat)) := [(3, 2, [some 2, some 1]), (0, 9, [])]
def wX0 : zWd := zsh wX0_l
def tX0_t : List (Nat × List (Nat × Int32)) := []
def hX0 : zHp := zhp tX0_t
set_option maxHeartbeats 4000000 in
set_option maxRecDepth 100000 in
theorem n_X0 (x : Nat) : Ini wX0 hX0 mX0_init 1 1 9 [.ref x] 0 [.null, .null] (fun q r => r 0 = q ∧ r 2 = x) := by
  refine Ini.of rfl (fun _ => Nat.le_of_ble_eq_true rfl) rfl (fun D g q => ?_)
  refine Cn.aload_n 0 dX0_init_0 rfl ?_
  refine Cn.obj dX0_init_1 mo_X0 io_obj co_obj (Nat.le_of_ble_eq_true rfl) (Nat.le_of_ble_eq_true rfl) ?_
  refine Cn.aload_n 0 dX0_init_4 rfl ?_
  refine Cn.bipush (v := (9 : Int32)) dX0_init_5 rfl ?_
  refine Cn.newI (N := 9) (c' := 1) (s' := 9) dX0_init_7 ac_int (by decide) rfl (Nat.le_of_ble_eq_true rfl) rfl rfl (Nat.le_of_ble_eq_true rfl) (Nat.le_of_ble_eq_true rfl) (fun a1 => ?_)
  refine Cn.putF (fs' := [.null, .ref a1]) pf_X0_9 dX0_init_9 rfl rfl (Nat.le_of_ble_eq_true rfl) rfl ?_
  refine Cn.aload_n 0 dX0_init_12 rfl ?_
  refine Cn.aload_n 1 dX0_init_13 rfl ?_
  refine Cn.putF (fs' := [.ref x, .ref a1]) pf_X0_15 dX0_init_14 rfl rfl (Nat.le_of_ble_eq_true rfl) rfl ?_
  have e1 : zSe g (zRp [(1, fun _ => q), (1, fun _ => a1), (1, fun _ => x)]) wX0 hX0 1 1 = [(a1, .inl (g.1, 9, .inl (zuf [])))] := zSe_arr rfl rfl rfl rfl
  exact Cn.ret (r := (zRp [(1, fun _ => q), (1, fun _ => a1), (1, fun _ => x)])) dX0_init_17 rfl rfl rfl ⟨rfl, rfl⟩ (zW_of (n := 1) rfl rfl rfl (zSe_snoc zSe_nil (show 1 + 0 = 1 from rfl) (show 0 + 1 = 1 from rfl) e1))
theorem mi_X10_48 : Cond.methodLink RX10 48 mX0_init.1 ∈ zTb := zTb_in 480 (by decide +kernel) rfl
theorem mm_X0 : zMm mX0_init 1 := ⟨zTb_in 482 (by decide +kernel) rfl, zTb_in 146 (by decide +kernel) rfl, ⟨by decide +kernel, by decide +kernel⟩, by decide +kernel⟩
theorem im_X0 : Cond.instanceMethod mX0_init.1 ∈ zTb := zTb_in 481 (by decide +kernel) rfl
theorem pf_X10_51 : zFf RX10 51 10 6 (tyX10 6) := ⟨RX10, TX10, 8, tyX10, rfl, (Nat.le_of_ble_eq_true rfl), zTb_in 519 (by decide +kernel) rfl, in_X10, tyX10_ok, nmX10, rfl, rfl, rfl⟩
theorem cl_X10_55 : Cond.classLink RX10 55 RX5 ∈ zTb := zTb_in 491 (by decide +kernel) rfl
theorem it_X5 : Cond.instantiable RX5 5 ∈ zTb := zTb_in 492 (by decide +kernel) rfl
theorem ii_X5 : Cond.initialized RX5 ∈ zTb := zTb_in 147 (by decide +kernel) rfl
theorem df_X5 : ∀ j, j < 5 → defaultValue (tyX5 j) = vp_V [.null, .null, .null, .null, .null] j := by decide +kernel
theorem gf_X10_57 : zF RX10 57 9 6 := ⟨RX9, TX9, 7, rfl, (Nat.le_of_ble_eq_true rfl), zTb_in 378 (by decide +kernel) rfl, in_X9⟩
abbrev mX5_init : zMt := (yX5_init, cX5_init, 2, none)
theorem dX5_init_0 : decode cX5_init 0 = .ok (.aload_n 0, 1) := by decide +kernel
theorem dX5_init_1 : decode cX5_init 1 = .ok (.invokespecial 3, 3) := by decide +kernel
theorem dX5_init_4 : decode cX5_init 4 = .ok (.aload_n 0, 1) := by decide +kernel
theorem dX5_init_5 : decode cX5_init 5 = .ok (.bipush 10, 2) := by decide +kernel
theorem dX5_init_7 : decode cX5_init 7 = .ok (.newarray .int, 2) := by decide +kernel
theorem dX5_init_9 : decode cX5_init 9 = .ok (.putfield 9, 3) := by decide +kernel
theorem dX5_init_12 : decode cX5_init 12 = .ok (.aload_n 0, 1) := by decide +kernel
theorem dX5_init_13 : decode cX5_init 13 = .ok (.bipush 10, 2) := by decide +kernel
theorem dX5_init_15 : decode cX5_init 15 = .ok (.newarray .int, 2) := by decide +kernel
theorem dX5_init_17 : decode cX5_init 17 = .ok (.putfield 15, 3) := by decide +kernel
theorem dX5_init_20 : decode cX5_init 20 = .ok (.aload_n 0, 1) := by decide +kernel
theorem dX5_init_21 : decode cX5_init 21 = .ok (.sipush 896, 3) := by decide +kernel
theorem dX5_init_24 : decode cX5_init 24 = .ok (.newarray .int, 2) := by decide +kernel
theorem dX5_init_26 : decode cX5_init 26 = .ok (.putfield 18, 3) := by decide +kernel
theorem dX5_init_29 : decode cX5_init 29 = .ok (.aload_n 0, 1) := by decide +kernel
theorem dX5_init_30 : decode cX5_init 30 = .ok (.sipush 512, 3) := by decide +kernel
theorem dX5_init_33 : decode cX5_init 33 = .ok (.newarray .int, 2) := by decide +kernel
theorem dX5_init_35 : decode cX5_init 35 = .ok (.putfield 21, 3) := by decide +kernel
theorem dX5_init_38 : decode cX5_init 38 = .ok (.aload_n 0, 1) := by decide +kernel
theorem dX5_init_39 : decode cX5_init 39 = .ok (.aload_n 1, 1) := by decide +kernel
theorem dX5_init_40 : decode cX5_init 40 = .ok (.putfield 24, 3) := by decide +kernel
theorem dX5_init_43 : decode cX5_init 43 = .ok (.return_, 1) := by decide +kernel
theorem mo_X5 : Cond.methodLink RX5 3 Lib.objectInit ∈ zTb := zTb_in 496 (by decide +kernel) rfl
theorem pf_X5_9 : zFf RX5 9 5 1 (tyX5 1) := ⟨RX5, TX5, 5, tyX5, rfl, (Nat.le_of_ble_eq_true rfl), zTb_in 498 (by decide +kernel) rfl, in_X5, tyX5_ok, nmX5, rfl, rfl, rfl⟩
theorem pf_X5_15 : zFf RX5 15 5 2 (tyX5 2) := ⟨RX5, TX5, 5, tyX5, rfl, (Nat.le_of_ble_eq_true rfl), zTb_in 499 (by decide +kernel) rfl, in_X5, tyX5_ok, nmX5, rfl, rfl, rfl⟩
theorem pf_X5_18 : zFf RX5 18 5 3 (tyX5 3) := ⟨RX5, TX5, 5, tyX5, rfl, (Nat.le_of_ble_eq_true rfl), zTb_in 500 (by decide +kernel) rfl, in_X5, tyX5_ok, nmX5, rfl, rfl, rfl⟩
theorem pf_X5_21 : zFf RX5 21 5 4 (tyX5 4) := ⟨RX5, TX5, 5, tyX5, rfl, (Nat.le_of_ble_eq_true rfl), zTb_in 501 (by decide +kernel) rfl, in_X5, tyX5_ok, nmX5, rfl, rfl, rfl⟩
theorem pf_X5_24 : zFf RX5 24 5 0 (tyX5 0) := ⟨RX5, TX5, 5, tyX5, rfl, (Nat.le_of_ble_eq_true rfl), zTb_in 497 (by decide +kernel) rfl, in_X5, tyX5_ok, nmX5, rfl, rfl, rfl⟩
def wX5_l : List (Nat × Nat × List (Option Nat)) := [(8, 5, [some 5, some 1, some 2, some 3, some 4]), (0, 10, []), (0, 10, []), (0, 896, []), (0, 512, [])]
def wX5 : zWd := zsh wX5_l
def tX5_t : List (Nat × List (Nat × Int32)) := []
def hX5 : zHp := zhp tX5_t
set_option maxHeartbeats 4000000 in
set_option maxRecDepth 100000 in
theorem n_X5 (x : Nat) : Ini wX5 hX5 mX5_init 1 4 1428 [.ref x] 5 [.null, .null, .null, .null, .null] (fun q r => r 0 = q ∧ r 5 = x) := by
  refine Ini.of rfl (fun _ => Nat.le_of_ble_eq_true rfl) rfl (fun D g q => ?_)
  refine Cn.aload_n 0 dX5_init_0 rfl ?_
  refine Cn.obj dX5_init_1 mo_X5 io_obj co_obj (Nat.le_of_ble_eq_true rfl) (Nat.le_of_ble_eq_true rfl) ?_
  refine Cn.aload_n 0 dX5_init_4 rfl ?_
  refine Cn.bipush (v := (10 : Int32)) dX5_init_5 rfl ?_
  refine Cn.newI (N := 10) (c' := 1) (s' := 10) dX5_init_7 ac_int (by decide) rfl (Nat.le_of_ble_eq_true rfl) rfl rfl (Nat.le_of_ble_eq_true rfl) (Nat.le_of_ble_eq_true rfl) (fun a1 => ?_)
  refine Cn.putF (fs' := [.null, .ref a1, .null, .null, .null]) pf_X5_9 dX5_init_9 rfl rfl (Nat.le_of_ble_eq_true rfl) rfl ?_
  refine Cn.aload_n 0 dX5_init_12 rfl ?_
  refine Cn.bipush (v := (10 : Int32)) dX5_init_13 rfl ?_
  refine Cn.newI (N := 10) (c' := 2) (s' := 20) dX5_init_15 ac_int (by decide) rfl (Nat.le_of_ble_eq_true rfl) rfl rfl (Nat.le_of_ble_eq_true rfl) (Nat.le_of_ble_eq_true rfl) (fun a2 => ?_)
  refine Cn.putF (fs' := [.null, .ref a1, .ref a2, .null, .null]) pf_X5_15 dX5_init_17 rfl rfl (Nat.le_of_ble_eq_true rfl) rfl ?_
  refine Cn.aload_n 0 dX5_init_20 rfl ?_
  refine Cn.sipush (v := (896 : Int32)) dX5_init_21 rfl ?_
  refine Cn.newI (N := 896) (c' := 3) (s' := 916) dX5_init_24 ac_int (by decide) rfl (Nat.le_of_ble_eq_true rfl) rfl rfl (Nat.le_of_ble_eq_true rfl) (Nat.le_of_ble_eq_true rfl) (fun a3 => ?_)
  refine Cn.putF (fs' := [.null, .ref a1, .ref a2, .ref a3, .null]) pf_X5_18 dX5_init_26 rfl rfl (Nat.le_of_ble_eq_true rfl) rfl ?_
  refine Cn.aload_n 0 dX5_init_29 rfl ?_
  refine Cn.sipush (v := (512 : Int32)) dX5_init_30 rfl ?_
  refine Cn.newI (N := 512) (c' := 4) (s' := 1428) dX5_init_33 ac_int (by decide) rfl (Nat.le_of_ble_eq_true rfl) rfl rfl (Nat.le_of_ble_eq_true rfl) (Nat.le_of_ble_eq_true rfl) (fun a4 => ?_)
  refine Cn.putF (fs' := [.null, .ref a1, .ref a2, .ref a3, .ref a4]) pf_X5_21 dX5_init_35 rfl rfl (Nat.le_of_ble_eq_true rfl) rfl ?_
  refine Cn.aload_n 0 dX5_init_38 rfl ?_
  refine Cn.aload_n 1 dX5_init_39 rfl ?_
  refine Cn.putF (fs' := [.ref x, .ref a1, .ref a2, .ref a3, .ref a4]) pf_X5_24 dX5_init_40 rfl rfl (Nat.le_of_ble_eq_true rfl) rfl ?_
  have e1 : zSe g (zRp [(1, fun _ => q), (1, fun _ => a1), (1, fun _ => a2), (1, fun _ => a3), (1, fun _ => a4), (1, fun _ => x)]) wX5 hX5 1 1 = [(a1, .inl (g.1, 10, .inl (zuf [])))] := zSe_arr rfl rfl rfl rfl
  have e2 : zSe g (zRp [(1, fun _ => q), (1, fun _ => a1), (1, fun _ => a2), (1, fun _ => a3), (1, fun _ => a4), (1, fun _ => x)]) wX5 hX5 2 1 = [(a2, .inl (g.1, 10, .inl (zuf [])))] := zSe_arr rfl rfl rfl rfl
  have e3 : zSe g (zRp [(1, fun _ => q), (1, fun _ => a1), (1, fun _ => a2), (1, fun _ => a3), (1, fun _ => a4), (1, fun _ => x)]) wX5 hX5 3 1 = [(a3, .inl (g.1, 896, .inl (zuf [])))] := zSe_arr rfl rfl rfl rfl
  have e4 : zSe g (zRp [(1, fun _ => q), (1, fun _ => a1), (1, fun _ => a2), (1, fun _ => a3), (1, fun _ => a4), (1, fun _ => x)]) wX5 hX5 4 1 = [(a4, .inl (g.1, 512, .inl (zuf [])))] := zSe_arr rfl rfl rfl rfl
  exact Cn.ret (r := (zRp [(1, fun _ => q), (1, fun _ => a1), (1, fun _ => a2), (1, fun _ => a3), (1, fun _ => a4), (1, fun _ => x)])) dX5_init_43 rfl rfl rfl ⟨rfl, rfl⟩ (zW_of (n := 4) rfl rfl rfl (zSe_snoc (zSe_snoc (zSe_snoc (zSe_snoc zSe_nil (show 1 + 0 = 1 from rfl) (show 0 + 1 = 1 from rfl) e1) (show 1 + 1 = 2 from rfl) (show 1 + 1 = 2 from rfl) e2) (show 1 + 2 = 3 from rfl) (show 2 + 1 = 3 from rfl) e3) (show 1 + 3 = 4 from rfl) (show 3 + 1 = 4 from rfl) e4))
theorem mi_X10_61 : Cond.methodLink RX10 61 mX5_init.1 ∈ zTb := zTb_in 493 (by decide +kernel) rfl
theorem mm_X5 : zMm mX5_init 1 := ⟨zTb_in 495 (by decide +kernel) rfl, zTb_in 147 (by decide +kernel) rfl, ⟨by decide +kernel, by decide +kernel⟩, by decide +kernel⟩
theorem im_X5 : Cond.instanceMethod mX5_init.1 ∈ zTb := zTb_in 494 (by decide +kernel) rfl
theorem pf_X10_64 : zFf RX10 64 10 7 (tyX10 7) := ⟨RX10, TX10, 8, tyX10, rfl, (Nat.le_of_ble_eq_true rfl), zTb_in 520 (by decide +kernel) rfl, in_X10, tyX10_ok, nmX10, rfl, rfl, rfl⟩
def tX10_t : List (Nat × List (Nat × Int32)) := [(11, [(0, (150 : Int32))]), (20, [(0, (16 : Int32))]), (22, [(0, (16 : Int32))]), (24, [(0, (16 : Int32))]), (50, [(0, (150 : Int32))]), (59, [(0, (16 : Int32))]), (61, [(0, (16 : Int32))]), (63, [(0, (16 : Int32))]), (136, [(0, (1 : Int32))]), (145, [(7, (36 : Int32)), (13, (-1 : Int32))]), (157, [(0, (16 : Int32))])]
def hX : zHp := zhp tX10_t
set_option maxHeartbeats 4000000 in
set_option maxRecDepth 100000 in
theorem n_X10 : Ini wX hX mX10_init 4 165 7463 [] 10 [.null, .null, .int (0 : Int32), .null, .null, .null, .null, .null] (fun q r => r 0 = q) := by
  refine Ini.of rfl (fun _ => Nat.le_of_ble_eq_true rfl) rfl (fun D g q => ?_)
  refine Cn.aload_n 0 dX10_init_0 rfl ?_
  refine Cn.obj dX10_init_1 mo_X10 io_obj co_obj (Nat.le_of_ble_eq_true rfl) (Nat.le_of_ble_eq_true rfl) ?_
  refine Cn.aload_n 0 dX10_init_4 rfl ?_
  refine Cn.new (ci := 9) (C0 := RX9) (T := TX9) (N := 7) (fs := [.null, .null, .null, .null, .null, .null, .null]) (c' := 1) (s' := 7) dX10_init_5 rfl in_X9 tyX9_ok cl_X10_9 it_X9 ii_X9 df_X9 rfl rfl (Nat.le_of_ble_eq_true rfl) (Nat.le_of_ble_eq_true rfl) (fun a1 => ?_)
  refine Cn.dup dX10_init_8 rfl ?_
  refine Cn.callN0 (c' := 39) (s' := 1522) (n_X9) dX10_init_9 mi_X10_11 mm_X9 rfl rfl im_X9 (Nat.le_of_ble_eq_true rfl) (Nat.le_of_ble_eq_true rfl) (Nat.le_of_ble_eq_true rfl) rfl rfl (Nat.le_of_ble_eq_true rfl) (Nat.le_of_ble_eq_true rfl) (fun r2 hr => ?_)
  replace hr : r2 0 = a1 := hr
  subst hr
  refine Cn.putF (fs' := [.ref (r2 0), .null, .int (0 : Int32), .null, .null, .null, .null, .null]) pf_X10_12 dX10_init_12 rfl rfl (Nat.le_of_ble_eq_true rfl) rfl ?_
  refine Cn.aload_n 0 dX10_init_15 rfl ?_
  refine Cn.new (ci := 9) (C0 := RX9) (T := TX9) (N := 7) (fs := [.null, .null, .null, .null, .null, .null, .null]) (c' := 40) (s' := 1529) dX10_init_16 rfl in_X9 tyX9_ok cl_X10_9 it_X9 ii_X9 df_X9 rfl rfl (Nat.le_of_ble_eq_true rfl) (Nat.le_of_ble_eq_true rfl) (fun a3 => ?_)
  refine Cn.dup dX10_init_19 rfl ?_
  refine Cn.callN0 (c' := 78) (s' := 3044) (n_X9) dX10_init_20 mi_X10_11 mm_X9 rfl rfl im_X9 (Nat.le_of_ble_eq_true rfl) (Nat.le_of_ble_eq_true rfl) (Nat.le_of_ble_eq_true rfl) rfl rfl (Nat.le_of_ble_eq_true rfl) (Nat.le_of_ble_eq_true rfl) (fun r4 hr => ?_)
  replace hr : r4 0 = a3 := hr
  subst hr
  refine Cn.putF (fs' := [.ref (r2 0), .ref (r4 0), .int (0 : Int32), .null, .null, .null, .null, .null]) pf_X10_16 dX10_init_23 rfl rfl (Nat.le_of_ble_eq_true rfl) rfl ?_
  refine Cn.aload_n 0 dX10_init_26 rfl ?_
  refine Cn.iconst (v := (0 : Int32)) dX10_init_27 rfl ?_
  refine Cn.put (fs' := [.ref (r2 0), .ref (r4 0), .int (0 : Int32), .null, .null, .null, .null, .null]) pf_X10_19 dX10_init_28 rfl rfl (Nat.le_of_ble_eq_true rfl) rfl ?_
  refine Cn.aload_n 0 dX10_init_31 rfl ?_
  refine Cn.new (ci := 3) (C0 := RX3) (T := TX3) (N := 4) (fs := [.null, .null, .int (0 : Int32), .int (0 : Int32)]) (c' := 79) (s' := 3048) dX10_init_32 rfl in_X3 tyX3_ok cl_X10_23 it_X3 ii_X3 df_X3 rfl rfl (Nat.le_of_ble_eq_true rfl) (Nat.le_of_ble_eq_true rfl) (fun a5 => ?_)
  refine Cn.dup dX10_init_35 rfl ?_
  refine Cn.call0 (c' := 135) (s' := 3726) (n_X3) dX10_init_36 mi_X10_25 mm_X3 rfl rfl im_X3 (Nat.le_of_ble_eq_true rfl) (Nat.le_of_ble_eq_true rfl) (Nat.le_of_ble_eq_true rfl) rfl rfl (Nat.le_of_ble_eq_true rfl) (Nat.le_of_ble_eq_true rfl) (fun r6 hr => ?_)
  replace hr : r6 0 = a5 := hr
  subst hr
  refine Cn.putF (fs' := [.ref (r2 0), .ref (r4 0), .int (0 : Int32), .ref (r6 0), .null, .null, .null, .null]) pf_X10_26 dX10_init_39 rfl rfl (Nat.le_of_ble_eq_true rfl) rfl ?_
  refine Cn.aload_n 0 dX10_init_42 rfl ?_
  refine Cn.new (ci := 4) (C0 := RX4) (T := TX4) (N := 15) (fs := [.int (0 : Int32), .null, .null, .null, .null, .null, .null, .null, .null, .int (0 : Int32), .int (0 : Int32), .int (0 : Int32), .int (0 : Int32), .int (0 : Int32), .int (0 : Int32)]) (c' := 136) (s' := 3741) dX10_init_43 rfl in_X4 tyX4_ok cl_X10_30 it_X4 ii_X4 df_X4 rfl rfl (Nat.le_of_ble_eq_true rfl) (Nat.le_of_ble_eq_true rfl) (fun a7 => ?_)
  refine Cn.dup dX10_init_46 rfl ?_
  refine Cn.iconst (v := (1 : Int32)) dX10_init_47 rfl ?_
  refine Cn.call1 (c' := 144) (s' := 3837) (n_X4_1) dX10_init_48 mi_X10_32 mm_X4 rfl rfl im_X4 (Nat.le_of_ble_eq_true rfl) (Nat.le_of_ble_eq_true rfl) (Nat.le_of_ble_eq_true rfl) rfl rfl (Nat.le_of_ble_eq_true rfl) (Nat.le_of_ble_eq_true rfl) (fun r8 hr => ?_)
  replace hr : r8 0 = a7 := hr
  subst hr
  refine Cn.putF (fs' := [.ref (r2 0), .ref (r4 0), .int (0 : Int32), .ref (r6 0), .ref (r8 0), .null, .null, .null]) pf_X10_35 dX10_init_51 rfl rfl (Nat.le_of_ble_eq_true rfl) rfl ?_
  refine Cn.aload_n 0 dX10_init_54 rfl ?_
  refine Cn.new (ci := 6) (C0 := RX6) (T := TX6) (N := 14) (fs := [.null, .int (0 : Int32), .null, .null, .null, .int (0 : Int32), .int (0 : Int32), .int (0 : Int32), .int (0 : Int32), .int (0 : Int32), .null, .null, .int (0 : Int32), .int (0 : Int32)]) (c' := 145) (s' := 3851) dX10_init_55 rfl in_X6 tyX6_ok cl_X10_39 it_X6 ii_X6 df_X6 rfl rfl (Nat.le_of_ble_eq_true rfl) (Nat.le_of_ble_eq_true rfl) (fun a9 => ?_)
  refine Cn.dup dX10_init_58 rfl ?_
  refine Cn.callN0 (c' := 158) (s' := 6019) (n_X6) dX10_init_59 mi_X10_41 mm_X6 rfl rfl im_X6 (Nat.le_of_ble_eq_true rfl) (Nat.le_of_ble_eq_true rfl) (Nat.le_of_ble_eq_true rfl) rfl rfl (Nat.le_of_ble_eq_true rfl) (Nat.le_of_ble_eq_true rfl) (fun r10 hr => ?_)
  replace hr : r10 0 = a9 := hr
  subst hr
  refine Cn.putF (fs' := [.ref (r2 0), .ref (r4 0), .int (0 : Int32), .ref (r6 0), .ref (r8 0), .ref (r10 0), .null, .null]) pf_X10_42 dX10_init_62 rfl rfl (Nat.le_of_ble_eq_true rfl) rfl ?_
  refine Cn.aload_n 0 dX10_init_65 rfl ?_
  refine Cn.new (ci := 0) (C0 := RX0) (T := TX0) (N := 2) (fs := [.null, .null]) (c' := 159) (s' := 6021) dX10_init_66 rfl in_X0 tyX0_ok cl_X10_46 it_X0 ii_X0 df_X0 rfl rfl (Nat.le_of_ble_eq_true rfl) (Nat.le_of_ble_eq_true rfl) (fun a11 => ?_)
  refine Cn.dup dX10_init_69 rfl ?_
  refine Cn.aload_n 0 dX10_init_70 rfl ?_
  refine Cn.get 0 gf_X10_12 dX10_init_71 rfl rfl ?_
  refine Cn.call1 (c' := 160) (s' := 6030) (n_X0 (r2 0)) dX10_init_74 mi_X10_48 mm_X0 rfl rfl im_X0 (Nat.le_of_ble_eq_true rfl) (Nat.le_of_ble_eq_true rfl) (Nat.le_of_ble_eq_true rfl) rfl rfl (Nat.le_of_ble_eq_true rfl) (Nat.le_of_ble_eq_true rfl) (fun r12 hr => ?_)
  obtain ⟨hr, hxr12⟩ := hr
  replace hxr12 : r12 2 = (r2 0) := hxr12
  replace hr : r12 0 = a11 := hr
  subst hr
  refine Cn.putF (fs' := [.ref (r2 0), .ref (r4 0), .int (0 : Int32), .ref (r6 0), .ref (r8 0), .ref (r10 0), .ref (r12 0), .null]) pf_X10_51 dX10_init_77 rfl rfl (Nat.le_of_ble_eq_true rfl) rfl ?_
  refine Cn.aload_n 0 dX10_init_80 rfl ?_
  refine Cn.new (ci := 5) (C0 := RX5) (T := TX5) (N := 5) (fs := [.null, .null, .null, .null, .null]) (c' := 161) (s' := 6035) dX10_init_81 rfl in_X5 tyX5_ok cl_X10_55 it_X5 ii_X5 df_X5 rfl rfl (Nat.le_of_ble_eq_true rfl) (Nat.le_of_ble_eq_true rfl) (fun a13 => ?_)
  refine Cn.dup dX10_init_84 rfl ?_
  refine Cn.aload_n 0 dX10_init_85 rfl ?_
  refine Cn.get 0 gf_X10_12 dX10_init_86 rfl rfl ?_
  refine Cn.get 1 (fs := [.ref (r2 1), .ref (r2 10), .ref (r2 12), .ref (r2 19), .ref (r2 21), .ref (r2 23), .ref (r2 25)]) gf_X10_57 dX10_init_89 rfl rfl ?_
  refine Cn.call1 (c' := 165) (s' := 7463) (n_X5 (r2 25)) dX10_init_92 mi_X10_61 mm_X5 rfl rfl im_X5 (Nat.le_of_ble_eq_true rfl) (Nat.le_of_ble_eq_true rfl) (Nat.le_of_ble_eq_true rfl) rfl rfl (Nat.le_of_ble_eq_true rfl) (Nat.le_of_ble_eq_true rfl) (fun r14 hr => ?_)
  obtain ⟨hr, hxr14⟩ := hr
  replace hxr14 : r14 5 = (r2 25) := hxr14
  replace hr : r14 0 = a13 := hr
  subst hr
  refine Cn.putF (fs' := [.ref (r2 0), .ref (r4 0), .int (0 : Int32), .ref (r6 0), .ref (r8 0), .ref (r10 0), .ref (r12 0), .ref (r14 0)]) pf_X10_64 dX10_init_95 rfl rfl (Nat.le_of_ble_eq_true rfl) rfl ?_
  have e1 : zSe g (zRp [(1, fun _ => q), (39, r2), (39, r4), (57, r6), (9, r8), (14, r10), (2, r12), (5, r14)]) wX hX 1 39 = zW g r2 wX9 hX9 := zSe_in (l := wX_l) (l' := wX9_l) (t := tX10_t) (t' := tX9_t) rfl (by decide +kernel) (by decide +kernel) (by decide +kernel) (fun j hj => (congrArg (zRp _) (show 1 + j = 1 + (j) by omega)).trans (zRp_1.trans (zRp_0 hj)))
  have e2 : zSe g (zRp [(1, fun _ => q), (39, r2), (39, r4), (57, r6), (9, r8), (14, r10), (2, r12), (5, r14)]) wX hX 40 39 = zW g r4 wX9 hX9 := zSe_in (l := wX_l) (l' := wX9_l) (t := tX10_t) (t' := tX9_t) rfl (by decide +kernel) (by decide +kernel) (by decide +kernel) (fun j hj => (congrArg (zRp _) (show 40 + j = 1 + (39 + (j)) by omega)).trans (zRp_1.trans (zRp_1.trans (zRp_0 hj))))
  have e3 : zSe g (zRp [(1, fun _ => q), (39, r2), (39, r4), (57, r6), (9, r8), (14, r10), (2, r12), (5, r14)]) wX hX 79 57 = zW g r6 wX3 hX3 := zSe_in (l := wX_l) (l' := wX3_l) (t := tX10_t) (t' := tX3_t) rfl (by decide +kernel) (by decide +kernel) (by decide +kernel) (fun j hj => (congrArg (zRp _) (show 79 + j = 1 + (39 + (39 + (j))) by omega)).trans (zRp_1.trans (zRp_1.trans (zRp_1.trans (zRp_0 hj)))))
  have e4 : zSe g (zRp [(1, fun _ => q), (39, r2), (39, r4), (57, r6), (9, r8), (14, r10), (2, r12), (5, r14)]) wX hX 136 9 = zW g r8 wX4_1 hX4_1 := zSe_in (l := wX_l) (l' := wX4_1_l) (t := tX10_t) (t' := tX4_1_t) rfl (by decide +kernel) (by decide +kernel) (by decide +kernel) (fun j hj => (congrArg (zRp _) (show 136 + j = 1 + (39 + (39 + (57 + (j)))) by omega)).trans (zRp_1.trans (zRp_1.trans (zRp_1.trans (zRp_1.trans (zRp_0 hj))))))
  have e5 : zSe g (zRp [(1, fun _ => q), (39, r2), (39, r4), (57, r6), (9, r8), (14, r10), (2, r12), (5, r14)]) wX hX 145 14 = zW g r10 wX6 hX6 := zSe_in (l := wX_l) (l' := wX6_l) (t := tX10_t) (t' := tX6_t) rfl (by decide +kernel) (by decide +kernel) (by decide +kernel) (fun j hj => (congrArg (zRp _) (show 145 + j = 1 + (39 + (39 + (57 + (9 + (j))))) by omega)).trans (zRp_1.trans (zRp_1.trans (zRp_1.trans (zRp_1.trans (zRp_1.trans (zRp_0 hj)))))))
  have e6 : zSe g (zRp [(1, fun _ => q), (39, r2), (39, r4), (57, r6), (9, r8), (14, r10), (2, r12), (5, r14)]) wX hX 159 2 = zW g r12 wX0 hX0 := zSe_ex (l := wX_l) (l' := wX0_l) (t := tX10_t) (t' := tX0_t) 1 rfl (by decide +kernel) (by decide +kernel) (by decide +kernel) (fun j hj => (congrArg (zRp _) (show 159 + j = 1 + (39 + (39 + (57 + (9 + (14 + (j)))))) by omega)).trans (zRp_1.trans (zRp_1.trans (zRp_1.trans (zRp_1.trans (zRp_1.trans (zRp_1.trans (zRp_0 hj)))))))) hxr12.symm
  have e7 : zSe g (zRp [(1, fun _ => q), (39, r2), (39, r4), (57, r6), (9, r8), (14, r10), (2, r12), (5, r14)]) wX hX 161 5 = zW g r14 wX5 hX5 := zSe_ex (l := wX_l) (l' := wX5_l) (t := tX10_t) (t' := tX5_t) 26 rfl (by decide +kernel) (by decide +kernel) (by decide +kernel) (fun j hj => (congrArg (zRp _) (show 161 + j = 1 + (39 + (39 + (57 + (9 + (14 + (2 + (j))))))) by omega)).trans (zRp_1.trans (zRp_1.trans (zRp_1.trans (zRp_1.trans (zRp_1.trans (zRp_1.trans (zRp_1.trans (zRp_0 hj))))))))) hxr14.symm
  exact Cn.ret (r := (zRp [(1, fun _ => q), (39, r2), (39, r4), (57, r6), (9, r8), (14, r10), (2, r12), (5, r14)])) dX10_init_98 rfl rfl rfl rfl (zW_of (n := 165) rfl rfl rfl (zSe_snoc (zSe_snoc (zSe_snoc (zSe_snoc (zSe_snoc (zSe_snoc (zSe_snoc zSe_nil (show 1 + 0 = 1 from rfl) (show 0 + 39 = 39 from rfl) e1) (show 1 + 39 = 40 from rfl) (show 39 + 39 = 78 from rfl) e2) (show 1 + 78 = 79 from rfl) (show 78 + 57 = 135 from rfl) e3) (show 1 + 135 = 136 from rfl) (show 135 + 9 = 144 from rfl) e4) (show 1 + 144 = 145 from rfl) (show 144 + 14 = 158 from rfl) e5) (show 1 + 158 = 159 from rfl) (show 158 + 2 = 160 from rfl) e6) (show 1 + 160 = 161 from rfl) (show 160 + 5 = 165 from rfl) e7))
