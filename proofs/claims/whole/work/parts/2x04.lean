-- ===== RockingPorch.end(I)Z
abbrev mX10_end : zMt := (yX10_end, cX10_end, 2, some .boolean)
theorem fp_X10_165 : zFp RX10 165 6 1 .int := ⟨RX6, TX6, 14, tyX6, rfl, Nat.le_of_ble_eq_true rfl, zTb_in 431 (by decide +kernel) rfl, in_X6, tyX6_ok, nmX6, rfl, rfl⟩
theorem dX10_end_0 : decode cX10_end 0 = .ok (.iload_n 1, 1) := by decide +kernel
theorem dX10_end_1 : decode cX10_end 1 = .ok (.aload_n 0, 1) := by decide +kernel
theorem dX10_end_2 : decode cX10_end 2 = .ok (.getfield 42, 3) := by decide +kernel
theorem dX10_end_5 : decode cX10_end 5 = .ok (.getfield 165, 3) := by decide +kernel
theorem dX10_end_8 : decode cX10_end 8 = .ok (.invokestatic 78, 3) := by decide +kernel
theorem dX10_end_11 : decode cX10_end 11 = .ok (.ifCond .ne 5, 3) := by decide +kernel
theorem dX10_end_14 : decode cX10_end 14 = .ok (.iconst 0, 1) := by decide +kernel
theorem dX10_end_15 : decode cX10_end 15 = .ok (.ireturn, 1) := by decide +kernel
theorem dX10_end_16 : decode cX10_end 16 = .ok (.aload_n 0, 1) := by decide +kernel
theorem dX10_end_17 : decode cX10_end 17 = .ok (.getfield 42, 3) := by decide +kernel
theorem dX10_end_20 : decode cX10_end 20 = .ok (.iload_n 1, 1) := by decide +kernel
theorem dX10_end_21 : decode cX10_end 21 = .ok (.putfield 165, 3) := by decide +kernel
theorem dX10_end_24 : decode cX10_end 24 = .ok (.iconst 1, 1) := by decide +kernel
theorem dX10_end_25 : decode cX10_end 25 = .ok (.ireturn, 1) := by decide +kernel
def f_X10_end  (a1 : Int32) (h : zHp) : Option (Int32 × zHp) := (f_X10_within a1 (h 145 1) h).bind fun x1 => (if x1.1 = 0 then some ((0 : Int32), x1.2) else zlt (zst x1.2 145 1 a1) fun h2 => some ((1 : Int32), h2))
set_option maxHeartbeats 4000000 in
set_option maxRecDepth 100000 in
theorem s_X10_end  (a1 : Int32) (h : zHp) : Fn wX mX10_end 1 rI [.ref 0, .int a1] h (f_X10_end a1 h) := by
  refine Fn.of rfl (Nat.le_of_ble_eq_true rfl) ?_
  unfold f_X10_end
  refine Sim.iload_n 1 dX10_end_0 rfl ?_
  refine Sim.aload_n 0 dX10_end_1 rfl ?_
  refine Sim.getR (j := 145) fl_X10_42 dX10_end_2 xR_0_5 ?_
  refine Sim.getI fl_X10_165 dX10_end_5 xI_145_1 ?_
  refine Sim.callS2I (d1 := 0) (s_X10_within a1 (h 145 1) h) dX10_end_8 ml_X10_78 mv_X10_within (Nat.le_of_ble_eq_true rfl) (Nat.le_of_ble_eq_true rfl) (Nat.le_of_ble_eq_true rfl) (fun x1 => ?_)
  refine Sim.if_ne 16 dX10_end_11 rfl ?_ ?_
  · refine Sim.iconst (v := (0 : Int32)) dX10_end_14 rfl ?_
    exact Sim.nret dX10_end_15 rfl rfl
  · refine Sim.aload_n 0 dX10_end_16 rfl ?_
    refine Sim.getR (j := 145) fl_X10_42 dX10_end_17 xR_0_5 ?_
    refine Sim.iload_n 1 dX10_end_20 rfl ?_
    refine Sim.put fp_X10_165 dX10_end_21 xI_145_1 rfl rfl ?_
    refine Sim.lth (fun h2 => ?_)
    refine Sim.iconst (v := (1 : Int32)) dX10_end_24 rfl ?_
    exact Sim.nret dX10_end_25 rfl rfl
theorem mv_X10_end : zMV mX10_end 1 := ⟨⟨zTb_in 759 (by decide +kernel) rfl, zTb_in 137 (by decide +kernel) rfl, ⟨by decide +kernel, by decide +kernel⟩, by decide +kernel⟩, zTb_in 757 (by decide +kernel) rfl, zTb_in 758 (by decide +kernel) rfl⟩
-- ===== RockingPorch.text(I)I
abbrev mX10_text : zMt := (yX10_text, cX10_text, 3, some .int)
theorem ml_X10_172 : Cond.methodLink RX10 172 yX6_read ∈ zTb := zTb_in 764 (by decide +kernel) rfl
theorem ml_X10_176 : Cond.methodLink RX10 176 yX9_learn ∈ zTb := zTb_in 974 (by decide +kernel) rfl
theorem dX10_text_0 : decode cX10_text 0 = .ok (.aload_n 0, 1) := by decide +kernel
theorem dX10_text_1 : decode cX10_text 1 = .ok (.getfield 42, 3) := by decide +kernel
theorem dX10_text_4 : decode cX10_text 4 = .ok (.iload_n 1, 1) := by decide +kernel
theorem dX10_text_5 : decode cX10_text 5 = .ok (.aload_n 0, 1) := by decide +kernel
theorem dX10_text_6 : decode cX10_text 6 = .ok (.getfield 12, 3) := by decide +kernel
theorem dX10_text_9 : decode cX10_text 9 = .ok (.getfield 68, 3) := by decide +kernel
theorem dX10_text_12 : decode cX10_text 12 = .ok (.getfield 82, 3) := by decide +kernel
theorem dX10_text_15 : decode cX10_text 15 = .ok (.aload_n 0, 1) := by decide +kernel
theorem dX10_text_16 : decode cX10_text 16 = .ok (.getfield 12, 3) := by decide +kernel
theorem dX10_text_19 : decode cX10_text 19 = .ok (.getfield 68, 3) := by decide +kernel
theorem dX10_text_22 : decode cX10_text 22 = .ok (.getfield 89, 3) := by decide +kernel
theorem dX10_text_25 : decode cX10_text 25 = .ok (.invokevirtual 172, 3) := by decide +kernel
theorem dX10_text_28 : decode cX10_text 28 = .ok (.istore_n 2, 1) := by decide +kernel
theorem dX10_text_29 : decode cX10_text 29 = .ok (.iload_n 2, 1) := by decide +kernel
theorem dX10_text_30 : decode cX10_text 30 = .ok (.iconst (-1), 1) := by decide +kernel
theorem dX10_text_31 : decode cX10_text 31 = .ok (.if_icmp .ne 5, 3) := by decide +kernel
theorem dX10_text_34 : decode cX10_text 34 = .ok (.iconst (-1), 1) := by decide +kernel
theorem dX10_text_35 : decode cX10_text 35 = .ok (.ireturn, 1) := by decide +kernel
theorem dX10_text_36 : decode cX10_text 36 = .ok (.aload_n 0, 1) := by decide +kernel
theorem dX10_text_37 : decode cX10_text 37 = .ok (.getfield 12, 3) := by decide +kernel
theorem dX10_text_40 : decode cX10_text 40 = .ok (.iload_n 1, 1) := by decide +kernel
theorem dX10_text_41 : decode cX10_text 41 = .ok (.aload_n 0, 1) := by decide +kernel
theorem dX10_text_42 : decode cX10_text 42 = .ok (.getfield 42, 3) := by decide +kernel
theorem dX10_text_45 : decode cX10_text 45 = .ok (.invokevirtual 176, 3) := by decide +kernel
theorem dX10_text_48 : decode cX10_text 48 = .ok (.iload_n 1, 1) := by decide +kernel
theorem dX10_text_49 : decode cX10_text 49 = .ok (.iconst 1, 1) := by decide +kernel
theorem dX10_text_50 : decode cX10_text 50 = .ok (.if_icmp .eq 8, 3) := by decide +kernel
theorem dX10_text_53 : decode cX10_text 53 = .ok (.iload_n 1, 1) := by decide +kernel
theorem dX10_text_54 : decode cX10_text 54 = .ok (.iconst 2, 1) := by decide +kernel
theorem dX10_text_55 : decode cX10_text 55 = .ok (.if_icmp .ne 10, 3) := by decide +kernel
theorem dX10_text_58 : decode cX10_text 58 = .ok (.aload_n 0, 1) := by decide +kernel
theorem dX10_text_59 : decode cX10_text 59 = .ok (.getfield 26, 3) := by decide +kernel
theorem dX10_text_62 : decode cX10_text 62 = .ok (.invokevirtual 75, 3) := by decide +kernel
theorem dX10_text_65 : decode cX10_text 65 = .ok (.iload_n 2, 1) := by decide +kernel
theorem dX10_text_66 : decode cX10_text 66 = .ok (.ireturn, 1) := by decide +kernel
def f_X10_text  (a1 : Int32) (h : zHp) : Option (Int32 × zHp) := (f_X6_read a1 (h 2 9) (h 2 10) h).bind fun x1 => (if x1.1 = (-1 : Int32) then some ((-1 : Int32), x1.2) else (f_X9_learn 1 a1 x1.2).bind fun x2 => (if a1 = (1 : Int32) then (f_X3_forget x2).bind fun x3 => some (x1.1, x3) else (if a1 = (2 : Int32) then (f_X3_forget x2).bind fun x4 => some (x1.1, x4) else some (x1.1, x2))))
set_option maxHeartbeats 4000000 in
set_option maxRecDepth 100000 in
theorem s_X10_text  (a1 : Int32) (h : zHp) : Fn wX mX10_text 63 rI [.ref 0, .int a1] h (f_X10_text a1 h) := by
  refine Fn.of rfl (Nat.le_of_ble_eq_true rfl) ?_
  unfold f_X10_text
  refine Sim.aload_n 0 dX10_text_0 rfl ?_
  refine Sim.getR (j := 145) fl_X10_42 dX10_text_1 xR_0_5 ?_
  refine Sim.iload_n 1 dX10_text_4 rfl ?_
  refine Sim.aload_n 0 dX10_text_5 rfl ?_
  refine Sim.getR (j := 1) fl_X10_12 dX10_text_6 xR_0_0 ?_
  refine Sim.getR (j := 2) fl_X10_68 dX10_text_9 (xR_X9_0 _ xL_X9_1) ?_
  refine Sim.getI fl_X10_82 dX10_text_12 (xI_X4_9 _ xL_X4_2) ?_
  refine Sim.aload_n 0 dX10_text_15 rfl ?_
  refine Sim.getR (j := 1) fl_X10_12 dX10_text_16 xR_0_0 ?_
  refine Sim.getR (j := 2) fl_X10_68 dX10_text_19 (xR_X9_0 _ xL_X9_1) ?_
  refine Sim.getI fl_X10_89 dX10_text_22 (xI_X4_10 _ xL_X4_2) ?_
  refine Sim.callV3I (d1 := 62) (s_X6_read a1 (h 2 9) (h 2 10) h) dX10_text_25 ml_X10_172 mv_X6_read xO_X6 (Nat.le_of_ble_eq_true rfl) (Nat.le_of_ble_eq_true rfl) (Nat.le_of_ble_eq_true rfl) (fun x1 => ?_)
  refine Sim.istore_n (L' := [(2, .int x1.1), (0, .ref 0), (1, .int a1)]) dX10_text_28 (Nat.le_of_ble_eq_true rfl) rfl ?_
  refine Sim.iload_n 0 dX10_text_29 rfl ?_
  refine Sim.iconst (v := (-1 : Int32)) dX10_text_30 rfl ?_
  refine Sim.icmp_ne 36 dX10_text_31 rfl ?_ ?_
  · refine Sim.iconst (v := (-1 : Int32)) dX10_text_34 rfl ?_
    exact Sim.iret dX10_text_35 rfl
  · refine Sim.aload_n 1 dX10_text_36 rfl ?_
    refine Sim.getR (j := 1) fl_X10_12 dX10_text_37 xR_0_0 ?_
    refine Sim.iload_n 2 dX10_text_40 rfl ?_
    refine Sim.aload_n 1 dX10_text_41 rfl ?_
    refine Sim.getR (j := 145) fl_X10_42 dX10_text_42 xR_0_5 ?_
    refine Sim.callV2U (d1 := 2) (s_X9_learn 1 xL_X9_1 a1 x1.2) dX10_text_45 ml_X10_176 mv_X9_learn (xOC_X9 _ xL_X9_1) (Nat.le_of_ble_eq_true rfl) (Nat.le_of_ble_eq_true rfl) (Nat.le_of_ble_eq_true rfl) (fun x2 => ?_)
    refine Sim.iload_n 2 dX10_text_48 rfl ?_
    refine Sim.iconst (v := (1 : Int32)) dX10_text_49 rfl ?_
    refine Sim.icmp_eq 58 dX10_text_50 rfl ?_ ?_
    · refine Sim.aload_n 1 dX10_text_58 rfl ?_
      refine Sim.getR (j := 79) fl_X10_26 dX10_text_59 xR_0_3 ?_
      refine Sim.callV0U (d1 := 0) (s_X3_forget x2) dX10_text_62 ml_X10_75 mv_X3_forget xO_X3 (Nat.le_of_ble_eq_true rfl) (Nat.le_of_ble_eq_true rfl) (Nat.le_of_ble_eq_true rfl) (fun x3 => ?_)
      refine Sim.iload_n 0 dX10_text_65 rfl ?_
      exact Sim.iret dX10_text_66 rfl
    · refine Sim.iload_n 2 dX10_text_53 rfl ?_
      refine Sim.iconst (v := (2 : Int32)) dX10_text_54 rfl ?_
      refine Sim.icmp_ne 65 dX10_text_55 rfl ?_ ?_
      · refine Sim.aload_n 1 dX10_text_58 rfl ?_
        refine Sim.getR (j := 79) fl_X10_26 dX10_text_59 xR_0_3 ?_
        refine Sim.callV0U (d1 := 0) (s_X3_forget x2) dX10_text_62 ml_X10_75 mv_X3_forget xO_X3 (Nat.le_of_ble_eq_true rfl) (Nat.le_of_ble_eq_true rfl) (Nat.le_of_ble_eq_true rfl) (fun x4 => ?_)
        refine Sim.iload_n 0 dX10_text_65 rfl ?_
        exact Sim.iret dX10_text_66 rfl
      · refine Sim.iload_n 0 dX10_text_65 rfl ?_
        exact Sim.iret dX10_text_66 rfl
theorem mv_X10_text : zMV mX10_text 1 := ⟨⟨zTb_in 763 (by decide +kernel) rfl, zTb_in 137 (by decide +kernel) rfl, ⟨by decide +kernel, by decide +kernel⟩, by decide +kernel⟩, zTb_in 761 (by decide +kernel) rfl, zTb_in 762 (by decide +kernel) rfl⟩
-- ===== RockingPorch.fault(I)I
abbrev mX10_fault : zMt := (yX10_fault, cX10_fault, 2, some .int)
theorem fl_X10_180 : zF RX10 180 6 12 := ⟨RX6, TX6, 14, rfl, Nat.le_of_ble_eq_true rfl, zTb_in 445 (by decide +kernel) rfl, in_X6⟩
theorem fl_X10_183 : zF RX10 183 6 13 := ⟨RX6, TX6, 14, rfl, Nat.le_of_ble_eq_true rfl, zTb_in 447 (by decide +kernel) rfl, in_X6⟩
theorem dX10_fault_0 : decode cX10_fault 0 = .ok (.iload_n 1, 1) := by decide +kernel
theorem dX10_fault_1 : decode cX10_fault 1 = .ok (.ifCond .ne 13, 3) := by decide +kernel
theorem dX10_fault_4 : decode cX10_fault 4 = .ok (.aload_n 0, 1) := by decide +kernel
theorem dX10_fault_5 : decode cX10_fault 5 = .ok (.getfield 42, 3) := by decide +kernel
theorem dX10_fault_8 : decode cX10_fault 8 = .ok (.getfield 180, 3) := by decide +kernel
theorem dX10_fault_11 : decode cX10_fault 11 = .ok (.goto 19, 3) := by decide +kernel
theorem dX10_fault_14 : decode cX10_fault 14 = .ok (.iload_n 1, 1) := by decide +kernel
theorem dX10_fault_15 : decode cX10_fault 15 = .ok (.iconst 1, 1) := by decide +kernel
theorem dX10_fault_16 : decode cX10_fault 16 = .ok (.if_icmp .ne 13, 3) := by decide +kernel
theorem dX10_fault_19 : decode cX10_fault 19 = .ok (.aload_n 0, 1) := by decide +kernel
theorem dX10_fault_20 : decode cX10_fault 20 = .ok (.getfield 42, 3) := by decide +kernel
theorem dX10_fault_23 : decode cX10_fault 23 = .ok (.getfield 183, 3) := by decide +kernel
theorem dX10_fault_26 : decode cX10_fault 26 = .ok (.goto 4, 3) := by decide +kernel
theorem dX10_fault_29 : decode cX10_fault 29 = .ok (.iconst (-1), 1) := by decide +kernel
theorem dX10_fault_30 : decode cX10_fault 30 = .ok (.ireturn, 1) := by decide +kernel
def f_X10_fault  (a1 : Int32) (h : zHp) : Option (Int32 × zHp) := (if a1 = 0 then some ((h 145 12), h) else (if a1 = (1 : Int32) then some ((h 145 13), h) else some ((-1 : Int32), h)))
set_option maxHeartbeats 4000000 in
set_option maxRecDepth 100000 in
theorem s_X10_fault  (a1 : Int32) (h : zHp) : Fn wX mX10_fault 0 rI [.ref 0, .int a1] h (f_X10_fault a1 h) := by
  refine Fn.of rfl (Nat.le_of_ble_eq_true rfl) ?_
  unfold f_X10_fault
  refine Sim.iload_n 1 dX10_fault_0 rfl ?_
  refine Sim.if_ne 14 dX10_fault_1 rfl ?_ ?_
  · refine Sim.aload_n 0 dX10_fault_4 rfl ?_
    refine Sim.getR (j := 145) fl_X10_42 dX10_fault_5 xR_0_5 ?_
    refine Sim.getI fl_X10_180 dX10_fault_8 xI_145_12 ?_
    refine Sim.goto 30 dX10_fault_11 rfl ?_
    exact Sim.iret dX10_fault_30 rfl
  · refine Sim.iload_n 1 dX10_fault_14 rfl ?_
    refine Sim.iconst (v := (1 : Int32)) dX10_fault_15 rfl ?_
    refine Sim.icmp_ne 29 dX10_fault_16 rfl ?_ ?_
    · refine Sim.aload_n 0 dX10_fault_19 rfl ?_
      refine Sim.getR (j := 145) fl_X10_42 dX10_fault_20 xR_0_5 ?_
      refine Sim.getI fl_X10_183 dX10_fault_23 xI_145_13 ?_
      refine Sim.goto 30 dX10_fault_26 rfl ?_
      exact Sim.iret dX10_fault_30 rfl
    · refine Sim.iconst (v := (-1 : Int32)) dX10_fault_29 rfl ?_
      exact Sim.iret dX10_fault_30 rfl
theorem mv_X10_fault : zMV mX10_fault 1 := ⟨⟨zTb_in 992 (by decide +kernel) rfl, zTb_in 137 (by decide +kernel) rfl, ⟨by decide +kernel, by decide +kernel⟩, by decide +kernel⟩, zTb_in 990 (by decide +kernel) rfl, zTb_in 991 (by decide +kernel) rfl⟩
-- ===== RockingPorch.of(II)I
abbrev mX10_of : zMt := (yX10_of, cX10_of, 4, some .int)
theorem fl_X10_186 : zF RX10 186 4 2 := ⟨RX4, TX4, 15, rfl, Nat.le_of_ble_eq_true rfl, zTb_in 184 (by decide +kernel) rfl, in_X4⟩
theorem fl_X10_189 : zF RX10 189 4 4 := ⟨RX4, TX4, 15, rfl, Nat.le_of_ble_eq_true rfl, zTb_in 190 (by decide +kernel) rfl, in_X4⟩
theorem ml_X10_192 : Cond.methodLink RX10 192 yX0_ask ∈ zTb := zTb_in 997 (by decide +kernel) rfl
theorem dX10_of_0 : decode cX10_of 0 = .ok (.aload_n 0, 1) := by decide +kernel
theorem dX10_of_1 : decode cX10_of 1 = .ok (.getfield 12, 3) := by decide +kernel
theorem dX10_of_4 : decode cX10_of 4 = .ok (.getfield 68, 3) := by decide +kernel
theorem dX10_of_7 : decode cX10_of 7 = .ok (.astore_n 3, 1) := by decide +kernel
theorem dX10_of_8 : decode cX10_of 8 = .ok (.aload_n 3, 1) := by decide +kernel
theorem dX10_of_9 : decode cX10_of 9 = .ok (.iload_n 1, 1) := by decide +kernel
theorem dX10_of_10 : decode cX10_of 10 = .ok (.invokevirtual 116, 3) := by decide +kernel
theorem dX10_of_13 : decode cX10_of 13 = .ok (.ifCond .ne 6, 3) := by decide +kernel
theorem dX10_of_16 : decode cX10_of 16 = .ok (.bipush (-2), 2) := by decide +kernel
theorem dX10_of_18 : decode cX10_of 18 = .ok (.ireturn, 1) := by decide +kernel
theorem dX10_of_19 : decode cX10_of 19 = .ok (.iload_n 2, 1) := by decide +kernel
theorem dX10_of_20 : decode cX10_of 20 = .ok (.tableswitch 102 0 5 #[40, 47, 54, 61, 68, 85], 40) := by decide +kernel
theorem dX10_of_60 : decode cX10_of 60 = .ok (.aload_n 3, 1) := by decide +kernel
theorem dX10_of_61 : decode cX10_of 61 = .ok (.getfield 99, 3) := by decide +kernel
theorem dX10_of_64 : decode cX10_of 64 = .ok (.iload_n 1, 1) := by decide +kernel
theorem dX10_of_65 : decode cX10_of 65 = .ok (.iaload, 1) := by decide +kernel
theorem dX10_of_66 : decode cX10_of 66 = .ok (.ireturn, 1) := by decide +kernel
theorem dX10_of_67 : decode cX10_of 67 = .ok (.aload_n 3, 1) := by decide +kernel
theorem dX10_of_68 : decode cX10_of 68 = .ok (.getfield 186, 3) := by decide +kernel
theorem dX10_of_71 : decode cX10_of 71 = .ok (.iload_n 1, 1) := by decide +kernel
theorem dX10_of_72 : decode cX10_of 72 = .ok (.iaload, 1) := by decide +kernel
theorem dX10_of_73 : decode cX10_of 73 = .ok (.ireturn, 1) := by decide +kernel
theorem dX10_of_74 : decode cX10_of 74 = .ok (.aload_n 3, 1) := by decide +kernel
theorem dX10_of_75 : decode cX10_of 75 = .ok (.getfield 106, 3) := by decide +kernel
theorem dX10_of_78 : decode cX10_of 78 = .ok (.iload_n 1, 1) := by decide +kernel
theorem dX10_of_79 : decode cX10_of 79 = .ok (.iaload, 1) := by decide +kernel
theorem dX10_of_80 : decode cX10_of 80 = .ok (.ireturn, 1) := by decide +kernel
theorem dX10_of_81 : decode cX10_of 81 = .ok (.aload_n 3, 1) := by decide +kernel
theorem dX10_of_82 : decode cX10_of 82 = .ok (.getfield 189, 3) := by decide +kernel
theorem dX10_of_85 : decode cX10_of 85 = .ok (.iload_n 1, 1) := by decide +kernel
theorem dX10_of_86 : decode cX10_of 86 = .ok (.iaload, 1) := by decide +kernel
theorem dX10_of_87 : decode cX10_of 87 = .ok (.ireturn, 1) := by decide +kernel
theorem dX10_of_88 : decode cX10_of 88 = .ok (.aload_n 0, 1) := by decide +kernel
theorem dX10_of_89 : decode cX10_of 89 = .ok (.getfield 51, 3) := by decide +kernel
theorem dX10_of_92 : decode cX10_of 92 = .ok (.aload_n 3, 1) := by decide +kernel
theorem dX10_of_93 : decode cX10_of 93 = .ok (.iconst 1, 1) := by decide +kernel
theorem dX10_of_94 : decode cX10_of 94 = .ok (.iload_n 1, 1) := by decide +kernel
theorem dX10_of_95 : decode cX10_of 95 = .ok (.aload_n 3, 1) := by decide +kernel
theorem dX10_of_96 : decode cX10_of 96 = .ok (.getfield 106, 3) := by decide +kernel
theorem dX10_of_99 : decode cX10_of 99 = .ok (.iload_n 1, 1) := by decide +kernel
theorem dX10_of_100 : decode cX10_of 100 = .ok (.iaload, 1) := by decide +kernel
theorem dX10_of_101 : decode cX10_of 101 = .ok (.invokevirtual 192, 3) := by decide +kernel
theorem dX10_of_104 : decode cX10_of 104 = .ok (.ireturn, 1) := by decide +kernel
theorem dX10_of_105 : decode cX10_of 105 = .ok (.aload_n 0, 1) := by decide +kernel
theorem dX10_of_106 : decode cX10_of 106 = .ok (.getfield 51, 3) := by decide +kernel
theorem dX10_of_109 : decode cX10_of 109 = .ok (.aload_n 3, 1) := by decide +kernel
theorem dX10_of_110 : decode cX10_of 110 = .ok (.iconst 2, 1) := by decide +kernel
theorem dX10_of_111 : decode cX10_of 111 = .ok (.iload_n 1, 1) := by decide +kernel
theorem dX10_of_112 : decode cX10_of 112 = .ok (.aload_n 3, 1) := by decide +kernel
theorem dX10_of_113 : decode cX10_of 113 = .ok (.getfield 106, 3) := by decide +kernel
theorem dX10_of_116 : decode cX10_of 116 = .ok (.iload_n 1, 1) := by decide +kernel
theorem dX10_of_117 : decode cX10_of 117 = .ok (.iaload, 1) := by decide +kernel
theorem dX10_of_118 : decode cX10_of 118 = .ok (.invokevirtual 192, 3) := by decide +kernel
theorem dX10_of_121 : decode cX10_of 121 = .ok (.ireturn, 1) := by decide +kernel
theorem dX10_of_122 : decode cX10_of 122 = .ok (.iload_n 2, 1) := by decide +kernel
theorem dX10_of_123 : decode cX10_of 123 = .ok (.bipush 10, 2) := by decide +kernel
theorem dX10_of_125 : decode cX10_of 125 = .ok (.if_icmp .lt 31, 3) := by decide +kernel
theorem dX10_of_128 : decode cX10_of 128 = .ok (.aload_n 3, 1) := by decide +kernel
theorem dX10_of_129 : decode cX10_of 129 = .ok (.iload_n 2, 1) := by decide +kernel
theorem dX10_of_130 : decode cX10_of 130 = .ok (.bipush 10, 2) := by decide +kernel
theorem dX10_of_132 : decode cX10_of 132 = .ok (.isub, 1) := by decide +kernel
theorem dX10_of_133 : decode cX10_of 133 = .ok (.invokevirtual 120, 3) := by decide +kernel
theorem dX10_of_136 : decode cX10_of 136 = .ok (.ifCond .eq 20, 3) := by decide +kernel
theorem dX10_of_139 : decode cX10_of 139 = .ok (.aload_n 0, 1) := by decide +kernel
theorem dX10_of_140 : decode cX10_of 140 = .ok (.getfield 51, 3) := by decide +kernel
theorem dX10_of_143 : decode cX10_of 143 = .ok (.aload_n 3, 1) := by decide +kernel
theorem dX10_of_144 : decode cX10_of 144 = .ok (.iconst 0, 1) := by decide +kernel
theorem dX10_of_145 : decode cX10_of 145 = .ok (.iload_n 1, 1) := by decide +kernel
theorem dX10_of_146 : decode cX10_of 146 = .ok (.iload_n 2, 1) := by decide +kernel
theorem dX10_of_147 : decode cX10_of 147 = .ok (.bipush 10, 2) := by decide +kernel
theorem dX10_of_149 : decode cX10_of 149 = .ok (.isub, 1) := by decide +kernel
theorem dX10_of_150 : decode cX10_of 150 = .ok (.invokevirtual 192, 3) := by decide +kernel
theorem dX10_of_153 : decode cX10_of 153 = .ok (.goto 5, 3) := by decide +kernel
theorem dX10_of_156 : decode cX10_of 156 = .ok (.bipush (-2), 2) := by decide +kernel
theorem dX10_of_158 : decode cX10_of 158 = .ok (.ireturn, 1) := by decide +kernel
def f_X10_of  (a1 : Int32) (a2 : Int32) (h : zHp) : Option (Int32 × zHp) := (f_X4_isChair 2 a1 h).bind fun x1 => (if x1.1 = 0 then some ((-2 : Int32), x1.2) else (if a2 = (0 : Int32) then zix a1 10 (some ((x1.2 3 a1.toNatClampNeg), x1.2)) else (if a2 = (1 : Int32) then zix a1 10 (some ((x1.2 4 a1.toNatClampNeg), x1.2)) else (if a2 = (2 : Int32) then zix a1 10 (some ((x1.2 5 a1.toNatClampNeg), x1.2)) else (if a2 = (3 : Int32) then zix a1 10 (some ((x1.2 6 a1.toNatClampNeg), x1.2)) else (if a2 = (4 : Int32) then zix a1 10 ((f_X0_ask 2 (1 : Int32) a1 (x1.2 5 a1.toNatClampNeg) x1.2).bind fun x7 => some (x7.1, x7.2)) else (if a2 = (5 : Int32) then zix a1 10 ((f_X0_ask 2 (2 : Int32) a1 (x1.2 5 a1.toNatClampNeg) x1.2).bind fun x9 => some (x9.1, x9.2)) else (if a2 < (10 : Int32) then some ((-2 : Int32), x1.2) else (f_X4_isPerson 2 (a2 - (10 : Int32)) x1.2).bind fun x10 => (if x10.1 = 0 then some ((-2 : Int32), x10.2) else (f_X0_ask 2 (0 : Int32) a1 (a2 - (10 : Int32)) x10.2).bind fun x11 => some (x11.1, x11.2))))))))))
set_option maxHeartbeats 4000000 in
set_option maxRecDepth 100000 in
theorem s_X10_of  (a1 : Int32) (a2 : Int32) (h : zHp) : Fn wX mX10_of 4 rI [.ref 0, .int a1, .int a2] h (f_X10_of a1 a2 h) := by
  refine Fn.of rfl (Nat.le_of_ble_eq_true rfl) ?_
  unfold f_X10_of
  refine Sim.aload_n 0 dX10_of_0 rfl ?_
  refine Sim.getR (j := 1) fl_X10_12 dX10_of_1 xR_0_0 ?_
  refine Sim.getR (j := 2) fl_X10_68 dX10_of_4 (xR_X9_0 _ xL_X9_1) ?_
  refine Sim.astore_n (L' := [(3, .ref 2), (0, .ref 0), (1, .int a1), (2, .int a2)]) dX10_of_7 (Nat.le_of_ble_eq_true rfl) rfl ?_
  refine Sim.aload_n 0 dX10_of_8 rfl ?_
  refine Sim.iload_n 2 dX10_of_9 rfl ?_
  refine Sim.callV1I (d1 := 0) (s_X4_isChair 2 xL_X4_2 a1 h) dX10_of_10 ml_X10_116 mv_X4_isChair (xOC_X4 _ xL_X4_2) (Nat.le_of_ble_eq_true rfl) (Nat.le_of_ble_eq_true rfl) (Nat.le_of_ble_eq_true rfl) (fun x1 => ?_)
  refine Sim.if_ne 19 dX10_of_13 rfl ?_ ?_
  · refine Sim.bipush (v := (-2 : Int32)) dX10_of_16 rfl ?_
    exact Sim.iret dX10_of_18 rfl
  · refine Sim.iload_n 3 dX10_of_19 rfl ?_
    refine Sim.ite _ (fun q2 => ?_) (fun q2 => ?_)
    · refine Sim.tswIn 60 dX10_of_20 q2 (by decide) (by decide) rfl rfl ?_
      refine Sim.aload_n 0 dX10_of_60 rfl ?_
      refine Sim.getR (j := 3) fl_X10_99 dX10_of_61 (xR_X4_1 _ xL_X4_2) ?_
      refine Sim.iload_n 2 dX10_of_64 rfl ?_
      refine Sim.iald (n := 10) dX10_of_65 xA_3 ?_
      exact Sim.iret dX10_of_66 rfl
    refine Sim.ite _ (fun q3 => ?_) (fun q3 => ?_)
    · refine Sim.tswIn 67 dX10_of_20 q3 (by decide) (by decide) rfl rfl ?_
      refine Sim.aload_n 0 dX10_of_67 rfl ?_
      refine Sim.getR (j := 4) fl_X10_186 dX10_of_68 (xR_X4_2 _ xL_X4_2) ?_
      refine Sim.iload_n 2 dX10_of_71 rfl ?_
      refine Sim.iald (n := 10) dX10_of_72 xA_4 ?_
      exact Sim.iret dX10_of_73 rfl
    refine Sim.ite _ (fun q4 => ?_) (fun q4 => ?_)
    · refine Sim.tswIn 74 dX10_of_20 q4 (by decide) (by decide) rfl rfl ?_
      refine Sim.aload_n 0 dX10_of_74 rfl ?_
      refine Sim.getR (j := 5) fl_X10_106 dX10_of_75 (xR_X4_3 _ xL_X4_2) ?_
      refine Sim.iload_n 2 dX10_of_78 rfl ?_
      refine Sim.iald (n := 10) dX10_of_79 xA_5 ?_
      exact Sim.iret dX10_of_80 rfl
    refine Sim.ite _ (fun q5 => ?_) (fun q5 => ?_)
    · refine Sim.tswIn 81 dX10_of_20 q5 (by decide) (by decide) rfl rfl ?_
      refine Sim.aload_n 0 dX10_of_81 rfl ?_
      refine Sim.getR (j := 6) fl_X10_189 dX10_of_82 (xR_X4_4 _ xL_X4_2) ?_
      refine Sim.iload_n 2 dX10_of_85 rfl ?_
      refine Sim.iald (n := 10) dX10_of_86 xA_6 ?_
      exact Sim.iret dX10_of_87 rfl
    refine Sim.ite _ (fun q6 => ?_) (fun q6 => ?_)
    · refine Sim.tswIn 88 dX10_of_20 q6 (by decide) (by decide) rfl rfl ?_
      refine Sim.aload_n 1 dX10_of_88 rfl ?_
      refine Sim.getR (j := 159) fl_X10_51 dX10_of_89 xR_0_6 ?_
      refine Sim.aload_n 0 dX10_of_92 rfl ?_
      refine Sim.iconst (v := (1 : Int32)) dX10_of_93 rfl ?_
      refine Sim.iload_n 2 dX10_of_94 rfl ?_
      refine Sim.aload_n 0 dX10_of_95 rfl ?_
      refine Sim.getR (j := 5) fl_X10_106 dX10_of_96 (xR_X4_3 _ xL_X4_2) ?_
      refine Sim.iload_n 2 dX10_of_99 rfl ?_
      refine Sim.iald (n := 10) dX10_of_100 xA_5 ?_
      refine Sim.callV4I (d1 := 3) (s_X0_ask 2 xL_X4_2 (1 : Int32) a1 (x1.2 5 a1.toNatClampNeg) x1.2) dX10_of_101 ml_X10_192 mv_X0_ask xO_X0 (Nat.le_of_ble_eq_true rfl) (Nat.le_of_ble_eq_true rfl) (Nat.le_of_ble_eq_true rfl) (fun x7 => ?_)
      exact Sim.iret dX10_of_104 rfl
    refine Sim.ite _ (fun q8 => ?_) (fun q8 => ?_)
    · refine Sim.tswIn 105 dX10_of_20 q8 (by decide) (by decide) rfl rfl ?_
      refine Sim.aload_n 1 dX10_of_105 rfl ?_
      refine Sim.getR (j := 159) fl_X10_51 dX10_of_106 xR_0_6 ?_
      refine Sim.aload_n 0 dX10_of_109 rfl ?_
      refine Sim.iconst (v := (2 : Int32)) dX10_of_110 rfl ?_
      refine Sim.iload_n 2 dX10_of_111 rfl ?_
      refine Sim.aload_n 0 dX10_of_112 rfl ?_
      refine Sim.getR (j := 5) fl_X10_106 dX10_of_113 (xR_X4_3 _ xL_X4_2) ?_
      refine Sim.iload_n 2 dX10_of_116 rfl ?_
      refine Sim.iald (n := 10) dX10_of_117 xA_5 ?_
      refine Sim.callV4I (d1 := 3) (s_X0_ask 2 xL_X4_2 (2 : Int32) a1 (x1.2 5 a1.toNatClampNeg) x1.2) dX10_of_118 ml_X10_192 mv_X0_ask xO_X0 (Nat.le_of_ble_eq_true rfl) (Nat.le_of_ble_eq_true rfl) (Nat.le_of_ble_eq_true rfl) (fun x9 => ?_)
      exact Sim.iret dX10_of_121 rfl
    refine Sim.tswOut 122 dX10_of_20 (by have aq2 : a2.toInt ≠ 0 := fun w => q2 (Int32.toInt_inj.mp w); have aq3 : a2.toInt ≠ 1 := fun w => q3 (Int32.toInt_inj.mp w); have aq4 : a2.toInt ≠ 2 := fun w => q4 (Int32.toInt_inj.mp w); have aq5 : a2.toInt ≠ 3 := fun w => q5 (Int32.toInt_inj.mp w); have aq6 : a2.toInt ≠ 4 := fun w => q6 (Int32.toInt_inj.mp w); have aq8 : a2.toInt ≠ 5 := fun w => q8 (Int32.toInt_inj.mp w); omega) rfl ?_
    refine Sim.iload_n 3 dX10_of_122 rfl ?_
    refine Sim.bipush (v := (10 : Int32)) dX10_of_123 rfl ?_
    refine Sim.icmp_lt 156 dX10_of_125 rfl ?_ ?_
    · refine Sim.bipush (v := (-2 : Int32)) dX10_of_156 rfl ?_
      exact Sim.iret dX10_of_158 rfl
    · refine Sim.aload_n 0 dX10_of_128 rfl ?_
      refine Sim.iload_n 3 dX10_of_129 rfl ?_
      refine Sim.bipush (v := (10 : Int32)) dX10_of_130 rfl ?_
      refine Sim.isub dX10_of_132 ?_
      refine Sim.callV1I (d1 := 0) (s_X4_isPerson 2 xL_X4_2 (a2 - (10 : Int32)) x1.2) dX10_of_133 ml_X10_120 mv_X4_isPerson (xOC_X4 _ xL_X4_2) (Nat.le_of_ble_eq_true rfl) (Nat.le_of_ble_eq_true rfl) (Nat.le_of_ble_eq_true rfl) (fun x10 => ?_)
      refine Sim.if_eq 156 dX10_of_136 rfl ?_ ?_
      · refine Sim.bipush (v := (-2 : Int32)) dX10_of_156 rfl ?_
        exact Sim.iret dX10_of_158 rfl
      · refine Sim.aload_n 1 dX10_of_139 rfl ?_
        refine Sim.getR (j := 159) fl_X10_51 dX10_of_140 xR_0_6 ?_
        refine Sim.aload_n 0 dX10_of_143 rfl ?_
        refine Sim.iconst (v := (0 : Int32)) dX10_of_144 rfl ?_
        refine Sim.iload_n 2 dX10_of_145 rfl ?_
        refine Sim.iload_n 3 dX10_of_146 rfl ?_
        refine Sim.bipush (v := (10 : Int32)) dX10_of_147 rfl ?_
        refine Sim.isub dX10_of_149 ?_
        refine Sim.callV4I (d1 := 3) (s_X0_ask 2 xL_X4_2 (0 : Int32) a1 (a2 - (10 : Int32)) x10.2) dX10_of_150 ml_X10_192 mv_X0_ask xO_X0 (Nat.le_of_ble_eq_true rfl) (Nat.le_of_ble_eq_true rfl) (Nat.le_of_ble_eq_true rfl) (fun x11 => ?_)
        refine Sim.goto 158 dX10_of_153 rfl ?_
        exact Sim.iret dX10_of_158 rfl
theorem mv_X10_of : zMV mX10_of 2 := ⟨⟨zTb_in 996 (by decide +kernel) rfl, zTb_in 137 (by decide +kernel) rfl, ⟨by decide +kernel, by decide +kernel⟩, by decide +kernel⟩, zTb_in 994 (by decide +kernel) rfl, zTb_in 995 (by decide +kernel) rfl⟩
-- ===== RockingPorch.who(II)I
abbrev mX10_who : zMt := (yX10_who, cX10_who, 4, some .int)
theorem fl_X10_196 : zF RX10 196 4 6 := ⟨RX4, TX4, 15, rfl, Nat.le_of_ble_eq_true rfl, zTb_in 196 (by decide +kernel) rfl, in_X4⟩
theorem fl_X10_199 : zF RX10 199 4 7 := ⟨RX4, TX4, 15, rfl, Nat.le_of_ble_eq_true rfl, zTb_in 199 (by decide +kernel) rfl, in_X4⟩
theorem fl_X10_202 : zF RX10 202 4 8 := ⟨RX4, TX4, 15, rfl, Nat.le_of_ble_eq_true rfl, zTb_in 202 (by decide +kernel) rfl, in_X4⟩
theorem fl_X10_211 : zF RX10 211 9 5 := ⟨RX9, TX9, 7, rfl, Nat.le_of_ble_eq_true rfl, zTb_in 376 (by decide +kernel) rfl, in_X9⟩
theorem ml_X10_205 : Cond.methodLink RX10 205 yX4_chairOf ∈ zTb := zTb_in 1002 (by decide +kernel) rfl
theorem ml_X10_208 : Cond.methodLink RX10 208 yX4_rockingFor ∈ zTb := zTb_in 1003 (by decide +kernel) rfl
theorem ml_X10_214 : Cond.methodLink RX10 214 yX2_minders ∈ zTb := zTb_in 1008 (by decide +kernel) rfl
theorem dX10_who_0 : decode cX10_who 0 = .ok (.aload_n 0, 1) := by decide +kernel
theorem dX10_who_1 : decode cX10_who 1 = .ok (.getfield 12, 3) := by decide +kernel
theorem dX10_who_4 : decode cX10_who 4 = .ok (.getfield 68, 3) := by decide +kernel
theorem dX10_who_7 : decode cX10_who 7 = .ok (.astore_n 3, 1) := by decide +kernel
theorem dX10_who_8 : decode cX10_who 8 = .ok (.aload_n 3, 1) := by decide +kernel
theorem dX10_who_9 : decode cX10_who 9 = .ok (.iload_n 1, 1) := by decide +kernel
theorem dX10_who_10 : decode cX10_who 10 = .ok (.invokevirtual 120, 3) := by decide +kernel
theorem dX10_who_13 : decode cX10_who 13 = .ok (.ifCond .ne 6, 3) := by decide +kernel
theorem dX10_who_16 : decode cX10_who 16 = .ok (.bipush (-2), 2) := by decide +kernel
theorem dX10_who_18 : decode cX10_who 18 = .ok (.ireturn, 1) := by decide +kernel
theorem dX10_who_19 : decode cX10_who 19 = .ok (.iload_n 2, 1) := by decide +kernel
theorem dX10_who_20 : decode cX10_who 20 = .ok (.tableswitch 96 0 6 #[44, 51, 58, 65, 72, 78, 84], 44) := by decide +kernel
theorem dX10_who_64 : decode cX10_who 64 = .ok (.aload_n 3, 1) := by decide +kernel
theorem dX10_who_65 : decode cX10_who 65 = .ok (.getfield 103, 3) := by decide +kernel
theorem dX10_who_68 : decode cX10_who 68 = .ok (.iload_n 1, 1) := by decide +kernel
theorem dX10_who_69 : decode cX10_who 69 = .ok (.iaload, 1) := by decide +kernel
theorem dX10_who_70 : decode cX10_who 70 = .ok (.ireturn, 1) := by decide +kernel
theorem dX10_who_71 : decode cX10_who 71 = .ok (.aload_n 3, 1) := by decide +kernel
theorem dX10_who_72 : decode cX10_who 72 = .ok (.getfield 196, 3) := by decide +kernel
theorem dX10_who_75 : decode cX10_who 75 = .ok (.iload_n 1, 1) := by decide +kernel
theorem dX10_who_76 : decode cX10_who 76 = .ok (.iaload, 1) := by decide +kernel
theorem dX10_who_77 : decode cX10_who 77 = .ok (.ireturn, 1) := by decide +kernel
theorem dX10_who_78 : decode cX10_who 78 = .ok (.aload_n 3, 1) := by decide +kernel
theorem dX10_who_79 : decode cX10_who 79 = .ok (.getfield 199, 3) := by decide +kernel
theorem dX10_who_82 : decode cX10_who 82 = .ok (.iload_n 1, 1) := by decide +kernel
theorem dX10_who_83 : decode cX10_who 83 = .ok (.iaload, 1) := by decide +kernel
theorem dX10_who_84 : decode cX10_who 84 = .ok (.ireturn, 1) := by decide +kernel
theorem dX10_who_85 : decode cX10_who 85 = .ok (.aload_n 3, 1) := by decide +kernel
theorem dX10_who_86 : decode cX10_who 86 = .ok (.getfield 202, 3) := by decide +kernel
theorem dX10_who_89 : decode cX10_who 89 = .ok (.iload_n 1, 1) := by decide +kernel
theorem dX10_who_90 : decode cX10_who 90 = .ok (.iaload, 1) := by decide +kernel
theorem dX10_who_91 : decode cX10_who 91 = .ok (.ireturn, 1) := by decide +kernel
theorem dX10_who_92 : decode cX10_who 92 = .ok (.aload_n 3, 1) := by decide +kernel
theorem dX10_who_93 : decode cX10_who 93 = .ok (.iload_n 1, 1) := by decide +kernel
theorem dX10_who_94 : decode cX10_who 94 = .ok (.invokevirtual 205, 3) := by decide +kernel
theorem dX10_who_97 : decode cX10_who 97 = .ok (.ireturn, 1) := by decide +kernel
theorem dX10_who_98 : decode cX10_who 98 = .ok (.aload_n 3, 1) := by decide +kernel
theorem dX10_who_99 : decode cX10_who 99 = .ok (.iload_n 1, 1) := by decide +kernel
theorem dX10_who_100 : decode cX10_who 100 = .ok (.invokevirtual 208, 3) := by decide +kernel
theorem dX10_who_103 : decode cX10_who 103 = .ok (.ireturn, 1) := by decide +kernel
theorem dX10_who_104 : decode cX10_who 104 = .ok (.aload_n 0, 1) := by decide +kernel
theorem dX10_who_105 : decode cX10_who 105 = .ok (.getfield 12, 3) := by decide +kernel
theorem dX10_who_108 : decode cX10_who 108 = .ok (.getfield 211, 3) := by decide +kernel
theorem dX10_who_111 : decode cX10_who 111 = .ok (.iload_n 1, 1) := by decide +kernel
theorem dX10_who_112 : decode cX10_who 112 = .ok (.invokevirtual 214, 3) := by decide +kernel
theorem dX10_who_115 : decode cX10_who 115 = .ok (.ireturn, 1) := by decide +kernel
theorem dX10_who_116 : decode cX10_who 116 = .ok (.bipush (-2), 2) := by decide +kernel
theorem dX10_who_118 : decode cX10_who 118 = .ok (.ireturn, 1) := by decide +kernel
def f_X10_who  (a1 : Int32) (a2 : Int32) (h : zHp) : Option (Int32 × zHp) := (f_X4_isPerson 2 a1 h).bind fun x1 => (if x1.1 = 0 then some ((-2 : Int32), x1.2) else (if a2 = (0 : Int32) then zix a1 14 (some ((x1.2 7 a1.toNatClampNeg), x1.2)) else (if a2 = (1 : Int32) then zix a1 14 (some ((x1.2 8 a1.toNatClampNeg), x1.2)) else (if a2 = (2 : Int32) then zix a1 14 (some ((x1.2 9 a1.toNatClampNeg), x1.2)) else (if a2 = (3 : Int32) then zix a1 14 (some ((x1.2 10 a1.toNatClampNeg), x1.2)) else (if a2 = (4 : Int32) then (f_X4_chairOf 2 a1 x1.2).bind fun x7 => some (x7.1, x7.2) else (if a2 = (5 : Int32) then (f_X4_rockingFor 2 a1 x1.2).bind fun x9 => some (x9.1, x9.2) else (if a2 = (6 : Int32) then (f_X2_minders 24 a1 x1.2).bind fun x11 => some (x11.1, x11.2) else some ((-2 : Int32), x1.2)))))))))
set_option maxHeartbeats 4000000 in
set_option maxRecDepth 100000 in
theorem s_X10_who  (a1 : Int32) (a2 : Int32) (h : zHp) : Fn wX mX10_who 3 rI [.ref 0, .int a1, .int a2] h (f_X10_who a1 a2 h) := by
  refine Fn.of rfl (Nat.le_of_ble_eq_true rfl) ?_
  unfold f_X10_who
  refine Sim.aload_n 0 dX10_who_0 rfl ?_
  refine Sim.getR (j := 1) fl_X10_12 dX10_who_1 xR_0_0 ?_
  refine Sim.getR (j := 2) fl_X10_68 dX10_who_4 (xR_X9_0 _ xL_X9_1) ?_
  refine Sim.astore_n (L' := [(3, .ref 2), (0, .ref 0), (1, .int a1), (2, .int a2)]) dX10_who_7 (Nat.le_of_ble_eq_true rfl) rfl ?_
  refine Sim.aload_n 0 dX10_who_8 rfl ?_
  refine Sim.iload_n 2 dX10_who_9 rfl ?_
  refine Sim.callV1I (d1 := 0) (s_X4_isPerson 2 xL_X4_2 a1 h) dX10_who_10 ml_X10_120 mv_X4_isPerson (xOC_X4 _ xL_X4_2) (Nat.le_of_ble_eq_true rfl) (Nat.le_of_ble_eq_true rfl) (Nat.le_of_ble_eq_true rfl) (fun x1 => ?_)
  refine Sim.if_ne 19 dX10_who_13 rfl ?_ ?_
  · refine Sim.bipush (v := (-2 : Int32)) dX10_who_16 rfl ?_
    exact Sim.iret dX10_who_18 rfl
  · refine Sim.iload_n 3 dX10_who_19 rfl ?_
    refine Sim.ite _ (fun q2 => ?_) (fun q2 => ?_)
    · refine Sim.tswIn 64 dX10_who_20 q2 (by decide) (by decide) rfl rfl ?_
      refine Sim.aload_n 0 dX10_who_64 rfl ?_
      refine Sim.getR (j := 7) fl_X10_103 dX10_who_65 (xR_X4_5 _ xL_X4_2) ?_
      refine Sim.iload_n 2 dX10_who_68 rfl ?_
      refine Sim.iald (n := 14) dX10_who_69 xA_7 ?_
      exact Sim.iret dX10_who_70 rfl
    refine Sim.ite _ (fun q3 => ?_) (fun q3 => ?_)
    · refine Sim.tswIn 71 dX10_who_20 q3 (by decide) (by decide) rfl rfl ?_
      refine Sim.aload_n 0 dX10_who_71 rfl ?_
      refine Sim.getR (j := 8) fl_X10_196 dX10_who_72 (xR_X4_6 _ xL_X4_2) ?_
      refine Sim.iload_n 2 dX10_who_75 rfl ?_
      refine Sim.iald (n := 14) dX10_who_76 xA_8 ?_
      exact Sim.iret dX10_who_77 rfl
    refine Sim.ite _ (fun q4 => ?_) (fun q4 => ?_)
    · refine Sim.tswIn 78 dX10_who_20 q4 (by decide) (by decide) rfl rfl ?_
      refine Sim.aload_n 0 dX10_who_78 rfl ?_
      refine Sim.getR (j := 9) fl_X10_199 dX10_who_79 (xR_X4_7 _ xL_X4_2) ?_
      refine Sim.iload_n 2 dX10_who_82 rfl ?_
      refine Sim.iald (n := 14) dX10_who_83 xA_9 ?_
      exact Sim.iret dX10_who_84 rfl
    refine Sim.ite _ (fun q5 => ?_) (fun q5 => ?_)
    · refine Sim.tswIn 85 dX10_who_20 q5 (by decide) (by decide) rfl rfl ?_
      refine Sim.aload_n 0 dX10_who_85 rfl ?_
      refine Sim.getR (j := 10) fl_X10_202 dX10_who_86 (xR_X4_8 _ xL_X4_2) ?_
      refine Sim.iload_n 2 dX10_who_89 rfl ?_
      refine Sim.iald (n := 14) dX10_who_90 xA_10 ?_
      exact Sim.iret dX10_who_91 rfl
    refine Sim.ite _ (fun q6 => ?_) (fun q6 => ?_)
    · refine Sim.tswIn 92 dX10_who_20 q6 (by decide) (by decide) rfl rfl ?_
      refine Sim.aload_n 0 dX10_who_92 rfl ?_
      refine Sim.iload_n 2 dX10_who_93 rfl ?_
      refine Sim.callV1I (d1 := 1) (s_X4_chairOf 2 xL_X4_2 a1 x1.2) dX10_who_94 ml_X10_205 mv_X4_chairOf (xOC_X4 _ xL_X4_2) (Nat.le_of_ble_eq_true rfl) (Nat.le_of_ble_eq_true rfl) (Nat.le_of_ble_eq_true rfl) (fun x7 => ?_)
      exact Sim.iret dX10_who_97 rfl
    refine Sim.ite _ (fun q8 => ?_) (fun q8 => ?_)
    · refine Sim.tswIn 98 dX10_who_20 q8 (by decide) (by decide) rfl rfl ?_
      refine Sim.aload_n 0 dX10_who_98 rfl ?_
      refine Sim.iload_n 2 dX10_who_99 rfl ?_
      refine Sim.callV1I (d1 := 2) (s_X4_rockingFor 2 xL_X4_2 a1 x1.2) dX10_who_100 ml_X10_208 mv_X4_rockingFor (xOC_X4 _ xL_X4_2) (Nat.le_of_ble_eq_true rfl) (Nat.le_of_ble_eq_true rfl) (Nat.le_of_ble_eq_true rfl) (fun x9 => ?_)
      exact Sim.iret dX10_who_103 rfl
    refine Sim.ite _ (fun q10 => ?_) (fun q10 => ?_)
    · refine Sim.tswIn 104 dX10_who_20 q10 (by decide) (by decide) rfl rfl ?_
      refine Sim.aload_n 1 dX10_who_104 rfl ?_
      refine Sim.getR (j := 1) fl_X10_12 dX10_who_105 xR_0_0 ?_
      refine Sim.getR (j := 24) fl_X10_211 dX10_who_108 (xR_X9_5 _ xL_X9_1) ?_
      refine Sim.iload_n 2 dX10_who_111 rfl ?_
      refine Sim.callV1I (d1 := 1) (s_X2_minders 24 xL_X2_24 a1 x1.2) dX10_who_112 ml_X10_214 mv_X2_minders (xOC_X2 _ xL_X2_24) (Nat.le_of_ble_eq_true rfl) (Nat.le_of_ble_eq_true rfl) (Nat.le_of_ble_eq_true rfl) (fun x11 => ?_)
      exact Sim.iret dX10_who_115 rfl
    refine Sim.tswOut 116 dX10_who_20 (by have aq2 : a2.toInt ≠ 0 := fun w => q2 (Int32.toInt_inj.mp w); have aq3 : a2.toInt ≠ 1 := fun w => q3 (Int32.toInt_inj.mp w); have aq4 : a2.toInt ≠ 2 := fun w => q4 (Int32.toInt_inj.mp w); have aq5 : a2.toInt ≠ 3 := fun w => q5 (Int32.toInt_inj.mp w); have aq6 : a2.toInt ≠ 4 := fun w => q6 (Int32.toInt_inj.mp w); have aq8 : a2.toInt ≠ 5 := fun w => q8 (Int32.toInt_inj.mp w); have aq10 : a2.toInt ≠ 6 := fun w => q10 (Int32.toInt_inj.mp w); omega) rfl ?_
    refine Sim.bipush (v := (-2 : Int32)) dX10_who_116 rfl ?_
    exact Sim.iret dX10_who_118 rfl
theorem mv_X10_who : zMV mX10_who 2 := ⟨⟨zTb_in 1001 (by decide +kernel) rfl, zTb_in 137 (by decide +kernel) rfl, ⟨by decide +kernel, by decide +kernel⟩, by decide +kernel⟩, zTb_in 999 (by decide +kernel) rfl, zTb_in 1000 (by decide +kernel) rfl⟩
-- ===== RockingPorch.book(II)I
abbrev mX10_book : zMt := (yX10_book, cX10_book, 3, some .int)
theorem ml_X10_217 : Cond.methodLink RX10 217 yX2_cell ∈ zTb := zTb_in 1013 (by decide +kernel) rfl
theorem dX10_book_0 : decode cX10_book 0 = .ok (.aload_n 0, 1) := by decide +kernel
theorem dX10_book_1 : decode cX10_book 1 = .ok (.getfield 12, 3) := by decide +kernel
theorem dX10_book_4 : decode cX10_book 4 = .ok (.getfield 129, 3) := by decide +kernel
theorem dX10_book_7 : decode cX10_book 7 = .ok (.iload_n 1, 1) := by decide +kernel
theorem dX10_book_8 : decode cX10_book 8 = .ok (.iload_n 2, 1) := by decide +kernel
theorem dX10_book_9 : decode cX10_book 9 = .ok (.invokevirtual 217, 3) := by decide +kernel
theorem dX10_book_12 : decode cX10_book 12 = .ok (.ireturn, 1) := by decide +kernel
def f_X10_book  (a1 : Int32) (a2 : Int32) (h : zHp) : Option (Int32 × zHp) := (f_X2_cell 11 a1 a2 h).bind fun x1 => some (x1.1, x1.2)
set_option maxHeartbeats 4000000 in
set_option maxRecDepth 100000 in
theorem s_X10_book  (a1 : Int32) (a2 : Int32) (h : zHp) : Fn wX mX10_book 1 rI [.ref 0, .int a1, .int a2] h (f_X10_book a1 a2 h) := by
  refine Fn.of rfl (Nat.le_of_ble_eq_true rfl) ?_
  unfold f_X10_book
  refine Sim.aload_n 0 dX10_book_0 rfl ?_
  refine Sim.getR (j := 1) fl_X10_12 dX10_book_1 xR_0_0 ?_
  refine Sim.getR (j := 11) fl_X10_129 dX10_book_4 (xR_X9_1 _ xL_X9_1) ?_
  refine Sim.iload_n 1 dX10_book_7 rfl ?_
  refine Sim.iload_n 2 dX10_book_8 rfl ?_
  refine Sim.callV2I (d1 := 0) (s_X2_cell 11 xL_X2_11 a1 a2 h) dX10_book_9 ml_X10_217 mv_X2_cell (xOC_X2 _ xL_X2_11) (Nat.le_of_ble_eq_true rfl) (Nat.le_of_ble_eq_true rfl) (Nat.le_of_ble_eq_true rfl) (fun x1 => ?_)
  exact Sim.iret dX10_book_12 rfl
theorem mv_X10_book : zMV mX10_book 2 := ⟨⟨zTb_in 1012 (by decide +kernel) rfl, zTb_in 137 (by decide +kernel) rfl, ⟨by decide +kernel, by decide +kernel⟩, by decide +kernel⟩, zTb_in 1010 (by decide +kernel) rfl, zTb_in 1011 (by decide +kernel) rfl⟩
-- ===== RockingPorch.sum([II)I
abbrev mX10_sum : zMt := (yX10_sum, cX10_sum, 4, some .int)
theorem dX10_sum_0 : decode cX10_sum 0 = .ok (.iconst 0, 1) := by decide +kernel
theorem dX10_sum_1 : decode cX10_sum 1 = .ok (.istore_n 2, 1) := by decide +kernel
theorem dX10_sum_2 : decode cX10_sum 2 = .ok (.iconst 0, 1) := by decide +kernel
theorem dX10_sum_3 : decode cX10_sum 3 = .ok (.istore_n 3, 1) := by decide +kernel
theorem dX10_sum_4 : decode cX10_sum 4 = .ok (.iload_n 3, 1) := by decide +kernel
theorem dX10_sum_5 : decode cX10_sum 5 = .ok (.iload_n 1, 1) := by decide +kernel
theorem dX10_sum_6 : decode cX10_sum 6 = .ok (.if_icmp .ge 21, 3) := by decide +kernel
theorem dX10_sum_9 : decode cX10_sum 9 = .ok (.iload_n 3, 1) := by decide +kernel
theorem dX10_sum_10 : decode cX10_sum 10 = .ok (.aload_n 0, 1) := by decide +kernel
theorem dX10_sum_11 : decode cX10_sum 11 = .ok (.arraylength, 1) := by decide +kernel
theorem dX10_sum_12 : decode cX10_sum 12 = .ok (.if_icmp .ge 15, 3) := by decide +kernel
theorem dX10_sum_15 : decode cX10_sum 15 = .ok (.iload_n 2, 1) := by decide +kernel
theorem dX10_sum_16 : decode cX10_sum 16 = .ok (.aload_n 0, 1) := by decide +kernel
theorem dX10_sum_17 : decode cX10_sum 17 = .ok (.iload_n 3, 1) := by decide +kernel
theorem dX10_sum_18 : decode cX10_sum 18 = .ok (.iaload, 1) := by decide +kernel
theorem dX10_sum_19 : decode cX10_sum 19 = .ok (.iadd, 1) := by decide +kernel
theorem dX10_sum_20 : decode cX10_sum 20 = .ok (.istore_n 2, 1) := by decide +kernel
theorem dX10_sum_21 : decode cX10_sum 21 = .ok (.iinc 3 1, 3) := by decide +kernel
theorem dX10_sum_24 : decode cX10_sum 24 = .ok (.goto (-20), 3) := by decide +kernel
theorem dX10_sum_27 : decode cX10_sum 27 = .ok (.iload_n 2, 1) := by decide +kernel
theorem dX10_sum_28 : decode cX10_sum 28 = .ok (.ireturn, 1) := by decide +kernel
def f_X10_sum_4 (b1 n1 : Nat) (k4 : Int32 × Int32 × Int32 × zHp → Option (Int32 × zHp)) (v1 : Int32) (v2 : Int32) (v3 : Int32) (h : zHp) : Option (Int32 × zHp) := (if v3 < v1 then (if v3 < (Int32.ofNat n1) then zix v3 n1 (zlt (v2 + (h b1 v3.toNatClampNeg)) fun x1 => k4 (v1, x1, (v3 + (1 : Int32)), h)) else some (v2, h)) else some (v2, h))
set_option maxHeartbeats 4000000 in
set_option maxRecDepth 100000 in
theorem f_X10_sum_4_s (b1 n1 : Nat) (hb1 : zaI wX b1 n1) (k4 : Int32 × Int32 × Int32 × zHp → Option (Int32 × zHp)) (H4 : ∀ v : Int32 × Int32 × Int32 × zHp, Sim wX mX10_sum 0 rI 4 [(0, .ref b1), (1, .int v.1), (2, .int v.2.1), (3, .int v.2.2.1)] [] v.2.2.2 (k4 v)) (v1 : Int32) (v2 : Int32) (v3 : Int32) (h : zHp) : Sim wX mX10_sum 0 rI 4 [(0, .ref b1), (1, .int v1), (2, .int v2), (3, .int v3)] [] h (f_X10_sum_4 b1 n1 k4 v1 v2 v3 h) := by
  unfold f_X10_sum_4
  refine Sim.iload_n 3 dX10_sum_4 rfl ?_
  refine Sim.iload_n 1 dX10_sum_5 rfl ?_
  refine Sim.icmp_ge 27 dX10_sum_6 rfl ?_ ?_
  · refine Sim.iload_n 3 dX10_sum_9 rfl ?_
    refine Sim.aload_n 0 dX10_sum_10 rfl ?_
    refine Sim.alen (n := n1) dX10_sum_11 hb1 ?_
    refine Sim.icmp_ge 27 dX10_sum_12 rfl ?_ ?_
    · refine Sim.iload_n 2 dX10_sum_15 rfl ?_
      refine Sim.aload_n 0 dX10_sum_16 rfl ?_
      refine Sim.iload_n 3 dX10_sum_17 rfl ?_
      refine Sim.iald (n := n1) dX10_sum_18 hb1 ?_
      refine Sim.iadd dX10_sum_19 ?_
      refine Sim.lti (fun x1 => ?_)
      refine Sim.istore_n (L' := [(2, .int x1), (0, .ref b1), (1, .int v1), (3, .int v3)]) dX10_sum_20 (Nat.le_of_ble_eq_true rfl) rfl ?_
      refine Sim.iinc (L' := [(3, .int (v3 + (1 : Int32))), (2, .int x1), (0, .ref b1), (1, .int v1)]) 3 dX10_sum_21 rfl rfl (Nat.le_of_ble_eq_true rfl) rfl ?_
      refine Sim.goto 4 dX10_sum_24 rfl ?_
      refine Sim.locs [2, 3, 1, 0] rfl ?_
      exact H4 (v1, x1, (v3 + (1 : Int32)), h)
    · refine Sim.iload_n 2 dX10_sum_27 rfl ?_
      exact Sim.iret dX10_sum_28 rfl
  · refine Sim.iload_n 2 dX10_sum_27 rfl ?_
    exact Sim.iret dX10_sum_28 rfl
def f_X10_sum_4_lp (b1 n1 : Nat)  (n : Nat) (v : Int32 × Int32 × Int32 × zHp) : Option (Int32 × zHp) := zlp (fun k4 v => f_X10_sum_4 b1 n1 k4 v.1 v.2.1 v.2.2.1 v.2.2.2) n v
theorem f_X10_sum_4_ls (b1 n1 : Nat) (hb1 : zaI wX b1 n1) (n : Nat) (v : Int32 × Int32 × Int32 × zHp) : Sim wX mX10_sum 0 rI 4 [(0, .ref b1), (1, .int v.1), (2, .int v.2.1), (3, .int v.2.2.1)] [] v.2.2.2 (f_X10_sum_4_lp b1 n1 n v) :=
  Sim.lp (V := Int32 × Int32 × Int32 × zHp) (Lf := fun v => [(0, .ref b1), (1, .int v.1), (2, .int v.2.1), (3, .int v.2.2.1)]) (sf := fun v => []) (hf := fun v => v.2.2.2) (fun k4 H4 v => f_X10_sum_4_s b1 n1 hb1 k4 H4 v.1 v.2.1 v.2.2.1 v.2.2.2) n v
def f_X10_sum (b1 n1 : Nat) (a2 : Int32) (h : zHp) : Option (Int32 × zHp) := f_X10_sum_4_lp b1 n1 zN (a2, (0 : Int32), (0 : Int32), h)
set_option maxHeartbeats 4000000 in
set_option maxRecDepth 100000 in
theorem s_X10_sum (b1 n1 : Nat) (hb1 : zaI wX b1 n1) (a2 : Int32) (h : zHp) : Fn wX mX10_sum 0 rI [.ref b1, .int a2] h (f_X10_sum b1 n1 a2 h) := by
  refine Fn.of rfl (Nat.le_of_ble_eq_true rfl) ?_
  unfold f_X10_sum
  refine Sim.iconst (v := (0 : Int32)) dX10_sum_0 rfl ?_
  refine Sim.istore_n (L' := [(2, .int (0 : Int32)), (0, .ref b1), (1, .int a2)]) dX10_sum_1 (Nat.le_of_ble_eq_true rfl) rfl ?_
  refine Sim.iconst (v := (0 : Int32)) dX10_sum_2 rfl ?_
  refine Sim.istore_n (L' := [(3, .int (0 : Int32)), (2, .int (0 : Int32)), (0, .ref b1), (1, .int a2)]) dX10_sum_3 (Nat.le_of_ble_eq_true rfl) rfl ?_
  refine Sim.locs [2, 3, 1, 0] rfl ?_
  exact f_X10_sum_4_ls b1 n1 hb1 zN (a2, (0 : Int32), (0 : Int32), h)
theorem mv_X10_sum : zMS mX10_sum 2 := ⟨⟨zTb_in 1021 (by decide +kernel) rfl, zTb_in 137 (by decide +kernel) rfl, ⟨by decide +kernel, by decide +kernel⟩, by decide +kernel⟩, zTb_in 1020 (by decide +kernel) rfl⟩
-- ===== RockingPorch.goes(II)I
abbrev mX10_goes : zMt := (yX10_goes, cX10_goes, 4, some .int)
theorem fl_X10_35 : zF RX10 35 10 4 := ⟨RX10, TX10, 8, rfl, Nat.le_of_ble_eq_true rfl, zTb_in 517 (by decide +kernel) rfl, in_X10⟩
theorem ml_X10_221 : Cond.methodLink RX10 221 yX4_copyFrom ∈ zTb := zTb_in 1018 (by decide +kernel) rfl
theorem ml_X10_225 : Cond.methodLink RX10 225 yX10_sum ∈ zTb := zTb_in 1019 (by decide +kernel) rfl
theorem ml_X10_229 : Cond.methodLink RX10 229 yX4_freeSet ∈ zTb := zTb_in 1022 (by decide +kernel) rfl
theorem ml_X10_233 : Cond.methodLink RX10 233 yJ6_bitCount_0f7a4 ∈ zTb := zTb_in 1027 (by decide +kernel) rfl
theorem dX10_goes_0 : decode cX10_goes 0 = .ok (.iload_n 1, 1) := by decide +kernel
theorem dX10_goes_1 : decode cX10_goes 1 = .ok (.iconst 1, 1) := by decide +kernel
theorem dX10_goes_2 : decode cX10_goes 2 = .ok (.if_icmp .lt 17, 3) := by decide +kernel
theorem dX10_goes_5 : decode cX10_goes 5 = .ok (.iload_n 1, 1) := by decide +kernel
theorem dX10_goes_6 : decode cX10_goes 6 = .ok (.bipush 60, 2) := by decide +kernel
theorem dX10_goes_8 : decode cX10_goes 8 = .ok (.if_icmp .gt 11, 3) := by decide +kernel
theorem dX10_goes_11 : decode cX10_goes 11 = .ok (.iload_n 2, 1) := by decide +kernel
theorem dX10_goes_12 : decode cX10_goes 12 = .ok (.iconst 3, 1) := by decide +kernel
theorem dX10_goes_13 : decode cX10_goes 13 = .ok (.invokestatic 78, 3) := by decide +kernel
theorem dX10_goes_16 : decode cX10_goes 16 = .ok (.ifCond .ne 5, 3) := by decide +kernel
theorem dX10_goes_19 : decode cX10_goes 19 = .ok (.iconst (-1), 1) := by decide +kernel
theorem dX10_goes_20 : decode cX10_goes 20 = .ok (.ireturn, 1) := by decide +kernel
theorem dX10_goes_21 : decode cX10_goes 21 = .ok (.aload_n 0, 1) := by decide +kernel
theorem dX10_goes_22 : decode cX10_goes 22 = .ok (.getfield 35, 3) := by decide +kernel
theorem dX10_goes_25 : decode cX10_goes 25 = .ok (.aload_n 0, 1) := by decide +kernel
theorem dX10_goes_26 : decode cX10_goes 26 = .ok (.getfield 12, 3) := by decide +kernel
theorem dX10_goes_29 : decode cX10_goes 29 = .ok (.getfield 68, 3) := by decide +kernel
theorem dX10_goes_32 : decode cX10_goes 32 = .ok (.invokevirtual 221, 3) := by decide +kernel
theorem dX10_goes_35 : decode cX10_goes 35 = .ok (.iconst 0, 1) := by decide +kernel
theorem dX10_goes_36 : decode cX10_goes 36 = .ok (.istore_n 3, 1) := by decide +kernel
theorem dX10_goes_37 : decode cX10_goes 37 = .ok (.iload_n 3, 1) := by decide +kernel
theorem dX10_goes_38 : decode cX10_goes 38 = .ok (.iload_n 1, 1) := by decide +kernel
theorem dX10_goes_39 : decode cX10_goes 39 = .ok (.if_icmp .ge 21, 3) := by decide +kernel
theorem dX10_goes_42 : decode cX10_goes 42 = .ok (.aload_n 0, 1) := by decide +kernel
theorem dX10_goes_43 : decode cX10_goes 43 = .ok (.getfield 51, 3) := by decide +kernel
theorem dX10_goes_46 : decode cX10_goes 46 = .ok (.aload_n 0, 1) := by decide +kernel
theorem dX10_goes_47 : decode cX10_goes 47 = .ok (.getfield 35, 3) := by decide +kernel
theorem dX10_goes_50 : decode cX10_goes 50 = .ok (.invokevirtual 161, 3) := by decide +kernel
theorem dX10_goes_53 : decode cX10_goes 53 = .ok (.pop, 1) := by decide +kernel
theorem dX10_goes_54 : decode cX10_goes 54 = .ok (.iinc 3 1, 3) := by decide +kernel
theorem dX10_goes_57 : decode cX10_goes 57 = .ok (.goto (-20), 3) := by decide +kernel
theorem dX10_goes_60 : decode cX10_goes 60 = .ok (.iload_n 2, 1) := by decide +kernel
theorem dX10_goes_61 : decode cX10_goes 61 = .ok (.tableswitch 81 0 2 #[27, 45, 63], 27) := by decide +kernel
theorem dX10_goes_88 : decode cX10_goes 88 = .ok (.aload_n 0, 1) := by decide +kernel
theorem dX10_goes_89 : decode cX10_goes 89 = .ok (.getfield 35, 3) := by decide +kernel
theorem dX10_goes_92 : decode cX10_goes 92 = .ok (.getfield 186, 3) := by decide +kernel
theorem dX10_goes_95 : decode cX10_goes 95 = .ok (.aload_n 0, 1) := by decide +kernel
theorem dX10_goes_96 : decode cX10_goes 96 = .ok (.getfield 35, 3) := by decide +kernel
theorem dX10_goes_99 : decode cX10_goes 99 = .ok (.getfield 82, 3) := by decide +kernel
theorem dX10_goes_102 : decode cX10_goes 102 = .ok (.invokestatic 225, 3) := by decide +kernel
theorem dX10_goes_105 : decode cX10_goes 105 = .ok (.ireturn, 1) := by decide +kernel
theorem dX10_goes_106 : decode cX10_goes 106 = .ok (.aload_n 0, 1) := by decide +kernel
theorem dX10_goes_107 : decode cX10_goes 107 = .ok (.getfield 35, 3) := by decide +kernel
theorem dX10_goes_110 : decode cX10_goes 110 = .ok (.getfield 199, 3) := by decide +kernel
theorem dX10_goes_113 : decode cX10_goes 113 = .ok (.aload_n 0, 1) := by decide +kernel
theorem dX10_goes_114 : decode cX10_goes 114 = .ok (.getfield 35, 3) := by decide +kernel
theorem dX10_goes_117 : decode cX10_goes 117 = .ok (.getfield 89, 3) := by decide +kernel
theorem dX10_goes_120 : decode cX10_goes 120 = .ok (.invokestatic 225, 3) := by decide +kernel
theorem dX10_goes_123 : decode cX10_goes 123 = .ok (.ireturn, 1) := by decide +kernel
theorem dX10_goes_124 : decode cX10_goes 124 = .ok (.aload_n 0, 1) := by decide +kernel
theorem dX10_goes_125 : decode cX10_goes 125 = .ok (.getfield 35, 3) := by decide +kernel
theorem dX10_goes_128 : decode cX10_goes 128 = .ok (.getfield 202, 3) := by decide +kernel
theorem dX10_goes_131 : decode cX10_goes 131 = .ok (.aload_n 0, 1) := by decide +kernel
theorem dX10_goes_132 : decode cX10_goes 132 = .ok (.getfield 35, 3) := by decide +kernel
theorem dX10_goes_135 : decode cX10_goes 135 = .ok (.getfield 89, 3) := by decide +kernel
theorem dX10_goes_138 : decode cX10_goes 138 = .ok (.invokestatic 225, 3) := by decide +kernel
theorem dX10_goes_141 : decode cX10_goes 141 = .ok (.ireturn, 1) := by decide +kernel
theorem dX10_goes_142 : decode cX10_goes 142 = .ok (.aload_n 0, 1) := by decide +kernel
theorem dX10_goes_143 : decode cX10_goes 143 = .ok (.getfield 35, 3) := by decide +kernel
theorem dX10_goes_146 : decode cX10_goes 146 = .ok (.invokevirtual 229, 3) := by decide +kernel
theorem dX10_goes_149 : decode cX10_goes 149 = .ok (.invokestatic 233, 3) := by decide +kernel
theorem dX10_goes_152 : decode cX10_goes 152 = .ok (.ireturn, 1) := by decide +kernel
def f_X10_goes_37  (k37 : Int32 × Int32 × Int32 × zHp → Option (Int32 × zHp)) (v1 : Int32) (v2 : Int32) (v3 : Int32) (h : zHp) : Option (Int32 × zHp) := (if v3 < v1 then (f_X0_passMinute 136 h).bind fun x1 => k37 (v1, v2, (v3 + (1 : Int32)), x1.2) else (if v2 = (0 : Int32) then (f_X10_sum 138 10 (h 136 9) h).bind fun x3 => some (x3.1, x3.2) else (if v2 = (1 : Int32) then (f_X10_sum 143 14 (h 136 10) h).bind fun x5 => some (x5.1, x5.2) else (if v2 = (2 : Int32) then (f_X10_sum 144 14 (h 136 10) h).bind fun x7 => some (x7.1, x7.2) else (f_X4_freeSet 136 h).bind fun x8 => (f_J6_bitCount_0f7a4 x8.1 x8.2).bind fun x9 => some (x9.1, x9.2)))))
set_option maxHeartbeats 4000000 in
set_option maxRecDepth 100000 in
theorem f_X10_goes_37_s  (k37 : Int32 × Int32 × Int32 × zHp → Option (Int32 × zHp)) (H37 : ∀ v : Int32 × Int32 × Int32 × zHp, Sim wX mX10_goes 7 rI 37 [(0, .ref 0), (1, .int v.1), (2, .int v.2.1), (3, .int v.2.2.1)] [] v.2.2.2 (k37 v)) (v1 : Int32) (v2 : Int32) (v3 : Int32) (h : zHp) : Sim wX mX10_goes 7 rI 37 [(0, .ref 0), (1, .int v1), (2, .int v2), (3, .int v3)] [] h (f_X10_goes_37 k37 v1 v2 v3 h) := by
  unfold f_X10_goes_37
  refine Sim.iload_n 3 dX10_goes_37 rfl ?_
  refine Sim.iload_n 1 dX10_goes_38 rfl ?_
  refine Sim.icmp_ge 60 dX10_goes_39 rfl ?_ ?_
  · refine Sim.aload_n 0 dX10_goes_42 rfl ?_
    refine Sim.getR (j := 159) fl_X10_51 dX10_goes_43 xR_0_6 ?_
    refine Sim.aload_n 0 dX10_goes_46 rfl ?_
    refine Sim.getR (j := 136) fl_X10_35 dX10_goes_47 xR_0_4 ?_
    refine Sim.callV1I (d1 := 6) (s_X0_passMinute 136 xL_X4_136 h) dX10_goes_50 ml_X10_161 mv_X0_passMinute xO_X0 (Nat.le_of_ble_eq_true rfl) (Nat.le_of_ble_eq_true rfl) (Nat.le_of_ble_eq_true rfl) (fun x1 => ?_)
    refine Sim.pop dX10_goes_53 rfl ?_
    refine Sim.iinc (L' := [(3, .int (v3 + (1 : Int32))), (0, .ref 0), (1, .int v1), (2, .int v2)]) 3 dX10_goes_54 rfl rfl (Nat.le_of_ble_eq_true rfl) rfl ?_
    refine Sim.goto 37 dX10_goes_57 rfl ?_
    refine Sim.locs [1, 2, 3, 0] rfl ?_
    exact H37 (v1, v2, (v3 + (1 : Int32)), x1.2)
  · refine Sim.iload_n 2 dX10_goes_60 rfl ?_
    refine Sim.ite _ (fun q2 => ?_) (fun q2 => ?_)
    · refine Sim.tswIn 88 dX10_goes_61 q2 (by decide) (by decide) rfl rfl ?_
      refine Sim.aload_n 0 dX10_goes_88 rfl ?_
      refine Sim.getR (j := 136) fl_X10_35 dX10_goes_89 xR_0_4 ?_
      refine Sim.getR (j := 138) fl_X10_186 dX10_goes_92 (xR_X4_2 _ xL_X4_136) ?_
      refine Sim.aload_n 0 dX10_goes_95 rfl ?_
      refine Sim.getR (j := 136) fl_X10_35 dX10_goes_96 xR_0_4 ?_
      refine Sim.getI fl_X10_82 dX10_goes_99 (xI_X4_9 _ xL_X4_136) ?_
      refine Sim.callS2I (d1 := 0) (s_X10_sum 138 10 xA_138 (h 136 9) h) dX10_goes_102 ml_X10_225 mv_X10_sum (Nat.le_of_ble_eq_true rfl) (Nat.le_of_ble_eq_true rfl) (Nat.le_of_ble_eq_true rfl) (fun x3 => ?_)
      exact Sim.iret dX10_goes_105 rfl
    refine Sim.ite _ (fun q4 => ?_) (fun q4 => ?_)
    · refine Sim.tswIn 106 dX10_goes_61 q4 (by decide) (by decide) rfl rfl ?_
      refine Sim.aload_n 0 dX10_goes_106 rfl ?_
      refine Sim.getR (j := 136) fl_X10_35 dX10_goes_107 xR_0_4 ?_
      refine Sim.getR (j := 143) fl_X10_199 dX10_goes_110 (xR_X4_7 _ xL_X4_136) ?_
      refine Sim.aload_n 0 dX10_goes_113 rfl ?_
      refine Sim.getR (j := 136) fl_X10_35 dX10_goes_114 xR_0_4 ?_
      refine Sim.getI fl_X10_89 dX10_goes_117 (xI_X4_10 _ xL_X4_136) ?_
      refine Sim.callS2I (d1 := 0) (s_X10_sum 143 14 xA_143 (h 136 10) h) dX10_goes_120 ml_X10_225 mv_X10_sum (Nat.le_of_ble_eq_true rfl) (Nat.le_of_ble_eq_true rfl) (Nat.le_of_ble_eq_true rfl) (fun x5 => ?_)
      exact Sim.iret dX10_goes_123 rfl
    refine Sim.ite _ (fun q6 => ?_) (fun q6 => ?_)
    · refine Sim.tswIn 124 dX10_goes_61 q6 (by decide) (by decide) rfl rfl ?_
      refine Sim.aload_n 0 dX10_goes_124 rfl ?_
      refine Sim.getR (j := 136) fl_X10_35 dX10_goes_125 xR_0_4 ?_
      refine Sim.getR (j := 144) fl_X10_202 dX10_goes_128 (xR_X4_8 _ xL_X4_136) ?_
      refine Sim.aload_n 0 dX10_goes_131 rfl ?_
      refine Sim.getR (j := 136) fl_X10_35 dX10_goes_132 xR_0_4 ?_
      refine Sim.getI fl_X10_89 dX10_goes_135 (xI_X4_10 _ xL_X4_136) ?_
      refine Sim.callS2I (d1 := 0) (s_X10_sum 144 14 xA_144 (h 136 10) h) dX10_goes_138 ml_X10_225 mv_X10_sum (Nat.le_of_ble_eq_true rfl) (Nat.le_of_ble_eq_true rfl) (Nat.le_of_ble_eq_true rfl) (fun x7 => ?_)
      exact Sim.iret dX10_goes_141 rfl
    refine Sim.tswOut 142 dX10_goes_61 (by have aq2 : v2.toInt ≠ 0 := fun w => q2 (Int32.toInt_inj.mp w); have aq4 : v2.toInt ≠ 1 := fun w => q4 (Int32.toInt_inj.mp w); have aq6 : v2.toInt ≠ 2 := fun w => q6 (Int32.toInt_inj.mp w); omega) rfl ?_
    refine Sim.aload_n 0 dX10_goes_142 rfl ?_
    refine Sim.getR (j := 136) fl_X10_35 dX10_goes_143 xR_0_4 ?_
    refine Sim.callV0I (d1 := 2) (s_X4_freeSet 136 xL_X4_136 h) dX10_goes_146 ml_X10_229 mv_X4_freeSet (xOC_X4 _ xL_X4_136) (Nat.le_of_ble_eq_true rfl) (Nat.le_of_ble_eq_true rfl) (Nat.le_of_ble_eq_true rfl) (fun x8 => ?_)
    refine Sim.callS1I (d1 := 0) (s_J6_bitCount_0f7a4 x8.1 x8.2) dX10_goes_149 ml_X10_233 mv_J6_bitCount_0f7a4 (Nat.le_of_ble_eq_true rfl) (Nat.le_of_ble_eq_true rfl) (Nat.le_of_ble_eq_true rfl) (fun x9 => ?_)
    exact Sim.iret dX10_goes_152 rfl
def f_X10_goes_37_lp   (n : Nat) (v : Int32 × Int32 × Int32 × zHp) : Option (Int32 × zHp) := zlp (fun k37 v => f_X10_goes_37 k37 v.1 v.2.1 v.2.2.1 v.2.2.2) n v
theorem f_X10_goes_37_ls  (n : Nat) (v : Int32 × Int32 × Int32 × zHp) : Sim wX mX10_goes 7 rI 37 [(0, .ref 0), (1, .int v.1), (2, .int v.2.1), (3, .int v.2.2.1)] [] v.2.2.2 (f_X10_goes_37_lp n v) :=
  Sim.lp (V := Int32 × Int32 × Int32 × zHp) (Lf := fun v => [(0, .ref 0), (1, .int v.1), (2, .int v.2.1), (3, .int v.2.2.1)]) (sf := fun v => []) (hf := fun v => v.2.2.2) (fun k37 H37 v => f_X10_goes_37_s k37 H37 v.1 v.2.1 v.2.2.1 v.2.2.2) n v
def f_X10_goes  (a1 : Int32) (a2 : Int32) (h : zHp) : Option (Int32 × zHp) := (if a1 < (1 : Int32) then some ((-1 : Int32), h) else (if (60 : Int32) < a1 then some ((-1 : Int32), h) else (f_X10_within a2 (3 : Int32) h).bind fun x1 => (if x1.1 = 0 then some ((-1 : Int32), x1.2) else (f_X4_copyFrom 136 2 x1.2).bind fun x2 => f_X10_goes_37_lp  zN (a1, a2, (0 : Int32), x2))))
set_option maxHeartbeats 4000000 in
set_option maxRecDepth 100000 in
theorem s_X10_goes  (a1 : Int32) (a2 : Int32) (h : zHp) : Fn wX mX10_goes 7 rI [.ref 0, .int a1, .int a2] h (f_X10_goes a1 a2 h) := by
  refine Fn.of rfl (Nat.le_of_ble_eq_true rfl) ?_
  unfold f_X10_goes
  refine Sim.iload_n 1 dX10_goes_0 rfl ?_
  refine Sim.iconst (v := (1 : Int32)) dX10_goes_1 rfl ?_
  refine Sim.icmp_lt 19 dX10_goes_2 rfl ?_ ?_
  · refine Sim.iconst (v := (-1 : Int32)) dX10_goes_19 rfl ?_
    exact Sim.iret dX10_goes_20 rfl
  · refine Sim.iload_n 1 dX10_goes_5 rfl ?_
    refine Sim.bipush (v := (60 : Int32)) dX10_goes_6 rfl ?_
    refine Sim.icmp_gt 19 dX10_goes_8 rfl ?_ ?_
    · refine Sim.iconst (v := (-1 : Int32)) dX10_goes_19 rfl ?_
      exact Sim.iret dX10_goes_20 rfl
    · refine Sim.iload_n 2 dX10_goes_11 rfl ?_
      refine Sim.iconst (v := (3 : Int32)) dX10_goes_12 rfl ?_
      refine Sim.callS2I (d1 := 0) (s_X10_within a2 (3 : Int32) h) dX10_goes_13 ml_X10_78 mv_X10_within (Nat.le_of_ble_eq_true rfl) (Nat.le_of_ble_eq_true rfl) (Nat.le_of_ble_eq_true rfl) (fun x1 => ?_)
      refine Sim.if_ne 21 dX10_goes_16 rfl ?_ ?_
      · refine Sim.iconst (v := (-1 : Int32)) dX10_goes_19 rfl ?_
        exact Sim.iret dX10_goes_20 rfl
      · refine Sim.aload_n 0 dX10_goes_21 rfl ?_
        refine Sim.getR (j := 136) fl_X10_35 dX10_goes_22 xR_0_4 ?_
        refine Sim.aload_n 0 dX10_goes_25 rfl ?_
        refine Sim.getR (j := 1) fl_X10_12 dX10_goes_26 xR_0_0 ?_
        refine Sim.getR (j := 2) fl_X10_68 dX10_goes_29 (xR_X9_0 _ xL_X9_1) ?_
        refine Sim.callV1U (d1 := 1) (s_X4_copyFrom 136 xL_X4_136 2 xL_X4_2 x1.2) dX10_goes_32 ml_X10_221 mv_X4_copyFrom (xOC_X4 _ xL_X4_136) (Nat.le_of_ble_eq_true rfl) (Nat.le_of_ble_eq_true rfl) (Nat.le_of_ble_eq_true rfl) (fun x2 => ?_)
        refine Sim.iconst (v := (0 : Int32)) dX10_goes_35 rfl ?_
        refine Sim.istore_n (L' := [(3, .int (0 : Int32)), (0, .ref 0), (1, .int a1), (2, .int a2)]) dX10_goes_36 (Nat.le_of_ble_eq_true rfl) rfl ?_
        refine Sim.locs [1, 2, 3, 0] rfl ?_
        exact f_X10_goes_37_ls  zN (a1, a2, (0 : Int32), x2)
theorem mv_X10_goes : zMV mX10_goes 2 := ⟨⟨zTb_in 1017 (by decide +kernel) rfl, zTb_in 137 (by decide +kernel) rfl, ⟨by decide +kernel, by decide +kernel⟩, by decide +kernel⟩, zTb_in 1015 (by decide +kernel) rfl, zTb_in 1016 (by decide +kernel) rfl⟩
-- ===== RockingPorch.seat()I
abbrev mX10_seat : zMt := (yX10_seat, cX10_seat, 2, some .int)
theorem dX10_seat_0 : decode cX10_seat 0 = .ok (.aload_n 0, 1) := by decide +kernel
theorem dX10_seat_1 : decode cX10_seat 1 = .ok (.getfield 35, 3) := by decide +kernel
theorem dX10_seat_4 : decode cX10_seat 4 = .ok (.aload_n 0, 1) := by decide +kernel
theorem dX10_seat_5 : decode cX10_seat 5 = .ok (.getfield 12, 3) := by decide +kernel
theorem dX10_seat_8 : decode cX10_seat 8 = .ok (.getfield 68, 3) := by decide +kernel
theorem dX10_seat_11 : decode cX10_seat 11 = .ok (.invokevirtual 221, 3) := by decide +kernel
theorem dX10_seat_14 : decode cX10_seat 14 = .ok (.iconst 0, 1) := by decide +kernel
theorem dX10_seat_15 : decode cX10_seat 15 = .ok (.istore_n 1, 1) := by decide +kernel
theorem dX10_seat_16 : decode cX10_seat 16 = .ok (.iload_n 1, 1) := by decide +kernel
theorem dX10_seat_17 : decode cX10_seat 17 = .ok (.bipush 60, 2) := by decide +kernel
theorem dX10_seat_19 : decode cX10_seat 19 = .ok (.if_icmp .gt 39, 3) := by decide +kernel
theorem dX10_seat_22 : decode cX10_seat 22 = .ok (.aload_n 0, 1) := by decide +kernel
theorem dX10_seat_23 : decode cX10_seat 23 = .ok (.getfield 35, 3) := by decide +kernel
theorem dX10_seat_26 : decode cX10_seat 26 = .ok (.invokevirtual 229, 3) := by decide +kernel
theorem dX10_seat_29 : decode cX10_seat 29 = .ok (.ifCond .eq 5, 3) := by decide +kernel
theorem dX10_seat_32 : decode cX10_seat 32 = .ok (.iload_n 1, 1) := by decide +kernel
theorem dX10_seat_33 : decode cX10_seat 33 = .ok (.ireturn, 1) := by decide +kernel
theorem dX10_seat_34 : decode cX10_seat 34 = .ok (.iload_n 1, 1) := by decide +kernel
theorem dX10_seat_35 : decode cX10_seat 35 = .ok (.bipush 60, 2) := by decide +kernel
theorem dX10_seat_37 : decode cX10_seat 37 = .ok (.if_icmp .ge 15, 3) := by decide +kernel
theorem dX10_seat_40 : decode cX10_seat 40 = .ok (.aload_n 0, 1) := by decide +kernel
theorem dX10_seat_41 : decode cX10_seat 41 = .ok (.getfield 51, 3) := by decide +kernel
theorem dX10_seat_44 : decode cX10_seat 44 = .ok (.aload_n 0, 1) := by decide +kernel
theorem dX10_seat_45 : decode cX10_seat 45 = .ok (.getfield 35, 3) := by decide +kernel
theorem dX10_seat_48 : decode cX10_seat 48 = .ok (.invokevirtual 161, 3) := by decide +kernel
theorem dX10_seat_51 : decode cX10_seat 51 = .ok (.pop, 1) := by decide +kernel
theorem dX10_seat_52 : decode cX10_seat 52 = .ok (.iinc 1 1, 3) := by decide +kernel
theorem dX10_seat_55 : decode cX10_seat 55 = .ok (.goto (-39), 3) := by decide +kernel
theorem dX10_seat_58 : decode cX10_seat 58 = .ok (.iconst (-1), 1) := by decide +kernel
theorem dX10_seat_59 : decode cX10_seat 59 = .ok (.ireturn, 1) := by decide +kernel
def f_X10_seat_16  (k16 : Int32 × zHp → Option (Int32 × zHp)) (v1 : Int32) (h : zHp) : Option (Int32 × zHp) := (if (60 : Int32) < v1 then some ((-1 : Int32), h) else (f_X4_freeSet 136 h).bind fun x1 => (if x1.1 = 0 then (if v1 < (60 : Int32) then (f_X0_passMinute 136 x1.2).bind fun x2 => k16 ((v1 + (1 : Int32)), x2.2) else k16 ((v1 + (1 : Int32)), x1.2)) else some (v1, x1.2)))
set_option maxHeartbeats 4000000 in
set_option maxRecDepth 100000 in
theorem f_X10_seat_16_s  (k16 : Int32 × zHp → Option (Int32 × zHp)) (H16 : ∀ v : Int32 × zHp, Sim wX mX10_seat 7 rI 16 [(0, .ref 0), (1, .int v.1)] [] v.2 (k16 v)) (v1 : Int32) (h : zHp) : Sim wX mX10_seat 7 rI 16 [(0, .ref 0), (1, .int v1)] [] h (f_X10_seat_16 k16 v1 h) := by
  unfold f_X10_seat_16
  refine Sim.iload_n 1 dX10_seat_16 rfl ?_
  refine Sim.bipush (v := (60 : Int32)) dX10_seat_17 rfl ?_
  refine Sim.icmp_gt 58 dX10_seat_19 rfl ?_ ?_
  · refine Sim.iconst (v := (-1 : Int32)) dX10_seat_58 rfl ?_
    exact Sim.iret dX10_seat_59 rfl
  · refine Sim.aload_n 0 dX10_seat_22 rfl ?_
    refine Sim.getR (j := 136) fl_X10_35 dX10_seat_23 xR_0_4 ?_
    refine Sim.callV0I (d1 := 2) (s_X4_freeSet 136 xL_X4_136 h) dX10_seat_26 ml_X10_229 mv_X4_freeSet (xOC_X4 _ xL_X4_136) (Nat.le_of_ble_eq_true rfl) (Nat.le_of_ble_eq_true rfl) (Nat.le_of_ble_eq_true rfl) (fun x1 => ?_)
    refine Sim.if_eq 34 dX10_seat_29 rfl ?_ ?_
    · refine Sim.iload_n 1 dX10_seat_34 rfl ?_
      refine Sim.bipush (v := (60 : Int32)) dX10_seat_35 rfl ?_
      refine Sim.icmp_ge 52 dX10_seat_37 rfl ?_ ?_
      · refine Sim.aload_n 0 dX10_seat_40 rfl ?_
        refine Sim.getR (j := 159) fl_X10_51 dX10_seat_41 xR_0_6 ?_
        refine Sim.aload_n 0 dX10_seat_44 rfl ?_
        refine Sim.getR (j := 136) fl_X10_35 dX10_seat_45 xR_0_4 ?_
        refine Sim.callV1I (d1 := 6) (s_X0_passMinute 136 xL_X4_136 x1.2) dX10_seat_48 ml_X10_161 mv_X0_passMinute xO_X0 (Nat.le_of_ble_eq_true rfl) (Nat.le_of_ble_eq_true rfl) (Nat.le_of_ble_eq_true rfl) (fun x2 => ?_)
        refine Sim.pop dX10_seat_51 rfl ?_
        refine Sim.iinc (L' := [(1, .int (v1 + (1 : Int32))), (0, .ref 0)]) 1 dX10_seat_52 rfl rfl (Nat.le_of_ble_eq_true rfl) rfl ?_
        refine Sim.goto 16 dX10_seat_55 rfl ?_
        refine Sim.locs [1, 0] rfl ?_
        exact H16 ((v1 + (1 : Int32)), x2.2)
      · refine Sim.iinc (L' := [(1, .int (v1 + (1 : Int32))), (0, .ref 0)]) 1 dX10_seat_52 rfl rfl (Nat.le_of_ble_eq_true rfl) rfl ?_
        refine Sim.goto 16 dX10_seat_55 rfl ?_
        refine Sim.locs [1, 0] rfl ?_
        exact H16 ((v1 + (1 : Int32)), x1.2)
    · refine Sim.iload_n 1 dX10_seat_32 rfl ?_
      exact Sim.iret dX10_seat_33 rfl
def f_X10_seat_16_lp   (n : Nat) (v : Int32 × zHp) : Option (Int32 × zHp) := zlp (fun k16 v => f_X10_seat_16 k16 v.1 v.2) n v
theorem f_X10_seat_16_ls  (n : Nat) (v : Int32 × zHp) : Sim wX mX10_seat 7 rI 16 [(0, .ref 0), (1, .int v.1)] [] v.2 (f_X10_seat_16_lp n v) :=
  Sim.lp (V := Int32 × zHp) (Lf := fun v => [(0, .ref 0), (1, .int v.1)]) (sf := fun v => []) (hf := fun v => v.2) (fun k16 H16 v => f_X10_seat_16_s k16 H16 v.1 v.2) n v
def f_X10_seat   (h : zHp) : Option (Int32 × zHp) := (f_X4_copyFrom 136 2 h).bind fun x1 => f_X10_seat_16_lp  zN ((0 : Int32), x1)
set_option maxHeartbeats 4000000 in
set_option maxRecDepth 100000 in
theorem s_X10_seat   (h : zHp) : Fn wX mX10_seat 7 rI [.ref 0] h (f_X10_seat  h) := by
  refine Fn.of rfl (Nat.le_of_ble_eq_true rfl) ?_
  unfold f_X10_seat
  refine Sim.aload_n 0 dX10_seat_0 rfl ?_
  refine Sim.getR (j := 136) fl_X10_35 dX10_seat_1 xR_0_4 ?_
  refine Sim.aload_n 0 dX10_seat_4 rfl ?_
  refine Sim.getR (j := 1) fl_X10_12 dX10_seat_5 xR_0_0 ?_
  refine Sim.getR (j := 2) fl_X10_68 dX10_seat_8 (xR_X9_0 _ xL_X9_1) ?_
  refine Sim.callV1U (d1 := 1) (s_X4_copyFrom 136 xL_X4_136 2 xL_X4_2 h) dX10_seat_11 ml_X10_221 mv_X4_copyFrom (xOC_X4 _ xL_X4_136) (Nat.le_of_ble_eq_true rfl) (Nat.le_of_ble_eq_true rfl) (Nat.le_of_ble_eq_true rfl) (fun x1 => ?_)
  refine Sim.iconst (v := (0 : Int32)) dX10_seat_14 rfl ?_
  refine Sim.istore_n (L' := [(1, .int (0 : Int32)), (0, .ref 0)]) dX10_seat_15 (Nat.le_of_ble_eq_true rfl) rfl ?_
  refine Sim.locs [1, 0] rfl ?_
  exact f_X10_seat_16_ls  zN ((0 : Int32), x1)
theorem mv_X10_seat : zMV mX10_seat 0 := ⟨⟨zTb_in 1031 (by decide +kernel) rfl, zTb_in 137 (by decide +kernel) rfl, ⟨by decide +kernel, by decide +kernel⟩, by decide +kernel⟩, zTb_in 1029 (by decide +kernel) rfl, zTb_in 1030 (by decide +kernel) rfl⟩
-- ===== RockingPorch.tick(II)I
abbrev mX10_tick : zMt := (yX10_tick, cX10_tick, 3, some .int)
theorem fl_X10_238 : zF RX10 238 8 0 := ⟨RX8, TX8, 7, rfl, Nat.le_of_ble_eq_true rfl, zTb_in 326 (by decide +kernel) rfl, in_X8⟩
theorem fl_X10_57 : zF RX10 57 9 6 := ⟨RX9, TX9, 7, rfl, Nat.le_of_ble_eq_true rfl, zTb_in 378 (by decide +kernel) rfl, in_X9⟩
theorem ml_X10_244 : Cond.methodLink RX10 244 yX7_clear ∈ zTb := zTb_in 1036 (by decide +kernel) rfl
theorem ml_X10_249 : Cond.methodLink RX10 249 yX8_pair ∈ zTb := zTb_in 1040 (by decide +kernel) rfl
theorem ml_X10_252 : Cond.methodLink RX10 252 yX7_add ∈ zTb := zTb_in 1043 (by decide +kernel) rfl
theorem dX10_tick_0 : decode cX10_tick 0 = .ok (.iload_n 2, 1) := by decide +kernel
theorem dX10_tick_1 : decode cX10_tick 1 = .ok (.iconst (-1), 1) := by decide +kernel
theorem dX10_tick_2 : decode cX10_tick 2 = .ok (.if_icmp .ne 17, 3) := by decide +kernel
theorem dX10_tick_5 : decode cX10_tick 5 = .ok (.aload_n 0, 1) := by decide +kernel
theorem dX10_tick_6 : decode cX10_tick 6 = .ok (.getfield 12, 3) := by decide +kernel
theorem dX10_tick_9 : decode cX10_tick 9 = .ok (.getfield 57, 3) := by decide +kernel
theorem dX10_tick_12 : decode cX10_tick 12 = .ok (.getfield 238, 3) := by decide +kernel
theorem dX10_tick_15 : decode cX10_tick 15 = .ok (.invokevirtual 244, 3) := by decide +kernel
theorem dX10_tick_18 : decode cX10_tick 18 = .ok (.ireturn, 1) := by decide +kernel
theorem dX10_tick_19 : decode cX10_tick 19 = .ok (.iload_n 2, 1) := by decide +kernel
theorem dX10_tick_20 : decode cX10_tick 20 = .ok (.iconst 1, 1) := by decide +kernel
theorem dX10_tick_21 : decode cX10_tick 21 = .ok (.if_icmp .lt 19, 3) := by decide +kernel
theorem dX10_tick_24 : decode cX10_tick 24 = .ok (.iload_n 2, 1) := by decide +kernel
theorem dX10_tick_25 : decode cX10_tick 25 = .ok (.bipush 12, 2) := by decide +kernel
theorem dX10_tick_27 : decode cX10_tick 27 = .ok (.if_icmp .gt 13, 3) := by decide +kernel
theorem dX10_tick_30 : decode cX10_tick 30 = .ok (.iload_n 1, 1) := by decide +kernel
theorem dX10_tick_31 : decode cX10_tick 31 = .ok (.iload_n 2, 1) := by decide +kernel
theorem dX10_tick_32 : decode cX10_tick 32 = .ok (.iconst 1, 1) := by decide +kernel
theorem dX10_tick_33 : decode cX10_tick 33 = .ok (.isub, 1) := by decide +kernel
theorem dX10_tick_34 : decode cX10_tick 34 = .ok (.invokestatic 78, 3) := by decide +kernel
theorem dX10_tick_37 : decode cX10_tick 37 = .ok (.ifCond .ne 5, 3) := by decide +kernel
theorem dX10_tick_40 : decode cX10_tick 40 = .ok (.iconst (-1), 1) := by decide +kernel
theorem dX10_tick_41 : decode cX10_tick 41 = .ok (.ireturn, 1) := by decide +kernel
theorem dX10_tick_42 : decode cX10_tick 42 = .ok (.aload_n 0, 1) := by decide +kernel
theorem dX10_tick_43 : decode cX10_tick 43 = .ok (.getfield 12, 3) := by decide +kernel
theorem dX10_tick_46 : decode cX10_tick 46 = .ok (.getfield 57, 3) := by decide +kernel
theorem dX10_tick_49 : decode cX10_tick 49 = .ok (.getfield 238, 3) := by decide +kernel
theorem dX10_tick_52 : decode cX10_tick 52 = .ok (.iload_n 2, 1) := by decide +kernel
theorem dX10_tick_53 : decode cX10_tick 53 = .ok (.iload_n 1, 1) := by decide +kernel
theorem dX10_tick_54 : decode cX10_tick 54 = .ok (.invokestatic 249, 3) := by decide +kernel
theorem dX10_tick_57 : decode cX10_tick 57 = .ok (.invokevirtual 252, 3) := by decide +kernel
theorem dX10_tick_60 : decode cX10_tick 60 = .ok (.ireturn, 1) := by decide +kernel
def f_X10_tick  (a1 : Int32) (a2 : Int32) (h : zHp) : Option (Int32 × zHp) := (if a2 = (-1 : Int32) then (f_X7_clear 27 h).bind fun x1 => some (x1.1, x1.2) else (if a2 < (1 : Int32) then some ((-1 : Int32), h) else (if (12 : Int32) < a2 then some ((-1 : Int32), h) else (f_X10_within a1 (a2 - (1 : Int32)) h).bind fun x2 => (if x2.1 = 0 then some ((-1 : Int32), x2.2) else (f_X8_pair a2 a1 x2.2).bind fun x3 => (f_X7_add 27 x3.1 x3.2).bind fun x4 => some (x4.1, x4.2)))))
set_option maxHeartbeats 4000000 in
set_option maxRecDepth 100000 in
theorem s_X10_tick  (a1 : Int32) (a2 : Int32) (h : zHp) : Fn wX mX10_tick 1 rI [.ref 0, .int a1, .int a2] h (f_X10_tick a1 a2 h) := by
  refine Fn.of rfl (Nat.le_of_ble_eq_true rfl) ?_
  unfold f_X10_tick
  refine Sim.iload_n 2 dX10_tick_0 rfl ?_
  refine Sim.iconst (v := (-1 : Int32)) dX10_tick_1 rfl ?_
  refine Sim.icmp_ne 19 dX10_tick_2 rfl ?_ ?_
  · refine Sim.aload_n 0 dX10_tick_5 rfl ?_
    refine Sim.getR (j := 1) fl_X10_12 dX10_tick_6 xR_0_0 ?_
    refine Sim.getR (j := 26) fl_X10_57 dX10_tick_9 (xR_X9_6 _ xL_X9_1) ?_
    refine Sim.getR (j := 27) fl_X10_238 dX10_tick_12 (xR_X8_0 _ xL_X8_26) ?_
    refine Sim.callV0I (d1 := 0) (s_X7_clear 27 xL_X7_27 h) dX10_tick_15 ml_X10_244 mv_X7_clear (xOC_X7 _ xL_X7_27) (Nat.le_of_ble_eq_true rfl) (Nat.le_of_ble_eq_true rfl) (Nat.le_of_ble_eq_true rfl) (fun x1 => ?_)
    exact Sim.iret dX10_tick_18 rfl
  · refine Sim.iload_n 2 dX10_tick_19 rfl ?_
    refine Sim.iconst (v := (1 : Int32)) dX10_tick_20 rfl ?_
    refine Sim.icmp_lt 40 dX10_tick_21 rfl ?_ ?_
    · refine Sim.iconst (v := (-1 : Int32)) dX10_tick_40 rfl ?_
      exact Sim.iret dX10_tick_41 rfl
    · refine Sim.iload_n 2 dX10_tick_24 rfl ?_
      refine Sim.bipush (v := (12 : Int32)) dX10_tick_25 rfl ?_
      refine Sim.icmp_gt 40 dX10_tick_27 rfl ?_ ?_
      · refine Sim.iconst (v := (-1 : Int32)) dX10_tick_40 rfl ?_
        exact Sim.iret dX10_tick_41 rfl
      · refine Sim.iload_n 1 dX10_tick_30 rfl ?_
        refine Sim.iload_n 2 dX10_tick_31 rfl ?_
        refine Sim.iconst (v := (1 : Int32)) dX10_tick_32 rfl ?_
        refine Sim.isub dX10_tick_33 ?_
        refine Sim.callS2I (d1 := 0) (s_X10_within a1 (a2 - (1 : Int32)) h) dX10_tick_34 ml_X10_78 mv_X10_within (Nat.le_of_ble_eq_true rfl) (Nat.le_of_ble_eq_true rfl) (Nat.le_of_ble_eq_true rfl) (fun x2 => ?_)
        refine Sim.if_ne 42 dX10_tick_37 rfl ?_ ?_
        · refine Sim.iconst (v := (-1 : Int32)) dX10_tick_40 rfl ?_
          exact Sim.iret dX10_tick_41 rfl
        · refine Sim.aload_n 0 dX10_tick_42 rfl ?_
          refine Sim.getR (j := 1) fl_X10_12 dX10_tick_43 xR_0_0 ?_
          refine Sim.getR (j := 26) fl_X10_57 dX10_tick_46 (xR_X9_6 _ xL_X9_1) ?_
          refine Sim.getR (j := 27) fl_X10_238 dX10_tick_49 (xR_X8_0 _ xL_X8_26) ?_
          refine Sim.iload_n 2 dX10_tick_52 rfl ?_
          refine Sim.iload_n 1 dX10_tick_53 rfl ?_
          refine Sim.callS2I (d1 := 0) (s_X8_pair a2 a1 x2.2) dX10_tick_54 ml_X10_249 mv_X8_pair (Nat.le_of_ble_eq_true rfl) (Nat.le_of_ble_eq_true rfl) (Nat.le_of_ble_eq_true rfl) (fun x3 => ?_)
          refine Sim.callV1I (d1 := 0) (s_X7_add 27 xL_X7_27 x3.1 x3.2) dX10_tick_57 ml_X10_252 mv_X7_add (xOC_X7 _ xL_X7_27) (Nat.le_of_ble_eq_true rfl) (Nat.le_of_ble_eq_true rfl) (Nat.le_of_ble_eq_true rfl) (fun x4 => ?_)
          exact Sim.iret dX10_tick_60 rfl
theorem mv_X10_tick : zMV mX10_tick 2 := ⟨⟨zTb_in 1035 (by decide +kernel) rfl, zTb_in 137 (by decide +kernel) rfl, ⟨by decide +kernel, by decide +kernel⟩, by decide +kernel⟩, zTb_in 1033 (by decide +kernel) rfl, zTb_in 1034 (by decide +kernel) rfl⟩
-- ===== RockingPorch.ticks(I)I
abbrev mX10_ticks : zMt := (yX10_ticks, cX10_ticks, 2, some .int)
theorem fl_X10_64 : zF RX10 64 10 7 := ⟨RX10, TX10, 8, rfl, Nat.le_of_ble_eq_true rfl, zTb_in 520 (by decide +kernel) rfl, in_X10⟩
theorem ml_X10_255 : Cond.methodLink RX10 255 yX5_meeting ∈ zTb := zTb_in 1051 (by decide +kernel) rfl
theorem dX10_ticks_0 : decode cX10_ticks 0 = .ok (.iload_n 1, 1) := by decide +kernel
theorem dX10_ticks_1 : decode cX10_ticks 1 = .ok (.iconst 1, 1) := by decide +kernel
theorem dX10_ticks_2 : decode cX10_ticks 2 = .ok (.invokestatic 78, 3) := by decide +kernel
theorem dX10_ticks_5 : decode cX10_ticks 5 = .ok (.ifCond .eq 23, 3) := by decide +kernel
theorem dX10_ticks_8 : decode cX10_ticks 8 = .ok (.aload_n 0, 1) := by decide +kernel
theorem dX10_ticks_9 : decode cX10_ticks 9 = .ok (.getfield 64, 3) := by decide +kernel
theorem dX10_ticks_12 : decode cX10_ticks 12 = .ok (.iload_n 1, 1) := by decide +kernel
theorem dX10_ticks_13 : decode cX10_ticks 13 = .ok (.iconst 1, 1) := by decide +kernel
theorem dX10_ticks_14 : decode cX10_ticks 14 = .ok (.if_icmp .ne 7, 3) := by decide +kernel
theorem dX10_ticks_17 : decode cX10_ticks 17 = .ok (.iconst 1, 1) := by decide +kernel
theorem dX10_ticks_18 : decode cX10_ticks 18 = .ok (.goto 4, 3) := by decide +kernel
theorem dX10_ticks_21 : decode cX10_ticks 21 = .ok (.iconst 0, 1) := by decide +kernel
theorem dX10_ticks_22 : decode cX10_ticks 22 = .ok (.invokevirtual 255, 3) := by decide +kernel
theorem dX10_ticks_25 : decode cX10_ticks 25 = .ok (.goto 4, 3) := by decide +kernel
theorem dX10_ticks_28 : decode cX10_ticks 28 = .ok (.iconst (-1), 1) := by decide +kernel
theorem dX10_ticks_29 : decode cX10_ticks 29 = .ok (.ireturn, 1) := by decide +kernel
def f_X10_ticks  (a1 : Int32) (h : zHp) : Option (Int32 × zHp) := (f_X10_within a1 (1 : Int32) h).bind fun x1 => (if x1.1 = 0 then some ((-1 : Int32), x1.2) else (if a1 = (1 : Int32) then (f_X5_meeting (1 : Int32) x1.2).bind fun x2 => some (x2.1, x2.2) else (f_X5_meeting (0 : Int32) x1.2).bind fun x3 => some (x3.1, x3.2)))
set_option maxHeartbeats 4000000 in
set_option maxRecDepth 100000 in
theorem s_X10_ticks  (a1 : Int32) (h : zHp) : Fn wX mX10_ticks 3 rI [.ref 0, .int a1] h (f_X10_ticks a1 h) := by
  refine Fn.of rfl (Nat.le_of_ble_eq_true rfl) ?_
  unfold f_X10_ticks
  refine Sim.iload_n 1 dX10_ticks_0 rfl ?_
  refine Sim.iconst (v := (1 : Int32)) dX10_ticks_1 rfl ?_
  refine Sim.callS2I (d1 := 0) (s_X10_within a1 (1 : Int32) h) dX10_ticks_2 ml_X10_78 mv_X10_within (Nat.le_of_ble_eq_true rfl) (Nat.le_of_ble_eq_true rfl) (Nat.le_of_ble_eq_true rfl) (fun x1 => ?_)
  refine Sim.if_eq 28 dX10_ticks_5 rfl ?_ ?_
  · refine Sim.iconst (v := (-1 : Int32)) dX10_ticks_28 rfl ?_
    exact Sim.iret dX10_ticks_29 rfl
  · refine Sim.aload_n 0 dX10_ticks_8 rfl ?_
    refine Sim.getR (j := 161) fl_X10_64 dX10_ticks_9 xR_0_7 ?_
    refine Sim.iload_n 1 dX10_ticks_12 rfl ?_
    refine Sim.iconst (v := (1 : Int32)) dX10_ticks_13 rfl ?_
    refine Sim.icmp_ne 21 dX10_ticks_14 rfl ?_ ?_
    · refine Sim.iconst (v := (1 : Int32)) dX10_ticks_17 rfl ?_
      refine Sim.goto 22 dX10_ticks_18 rfl ?_
      refine Sim.callV1I (d1 := 2) (s_X5_meeting (1 : Int32) x1.2) dX10_ticks_22 ml_X10_255 mv_X5_meeting xO_X5 (Nat.le_of_ble_eq_true rfl) (Nat.le_of_ble_eq_true rfl) (Nat.le_of_ble_eq_true rfl) (fun x2 => ?_)
      refine Sim.goto 29 dX10_ticks_25 rfl ?_
      exact Sim.iret dX10_ticks_29 rfl
    · refine Sim.iconst (v := (0 : Int32)) dX10_ticks_21 rfl ?_
      refine Sim.callV1I (d1 := 2) (s_X5_meeting (0 : Int32) x1.2) dX10_ticks_22 ml_X10_255 mv_X5_meeting xO_X5 (Nat.le_of_ble_eq_true rfl) (Nat.le_of_ble_eq_true rfl) (Nat.le_of_ble_eq_true rfl) (fun x3 => ?_)
      refine Sim.goto 29 dX10_ticks_25 rfl ?_
      exact Sim.iret dX10_ticks_29 rfl
theorem mv_X10_ticks : zMV mX10_ticks 1 := ⟨⟨zTb_in 1050 (by decide +kernel) rfl, zTb_in 137 (by decide +kernel) rfl, ⟨by decide +kernel, by decide +kernel⟩, by decide +kernel⟩, zTb_in 1048 (by decide +kernel) rfl, zTb_in 1049 (by decide +kernel) rfl⟩
-- ===== RockingPorch.apart(II)I
abbrev mX10_apart : zMt := (yX10_apart, cX10_apart, 3, some .int)
theorem fl_X10_259 : zF RX10 259 8 1 := ⟨RX8, TX8, 7, rfl, Nat.le_of_ble_eq_true rfl, zTb_in 329 (by decide +kernel) rfl, in_X8⟩
theorem dX10_apart_0 : decode cX10_apart 0 = .ok (.iload_n 1, 1) := by decide +kernel
theorem dX10_apart_1 : decode cX10_apart 1 = .ok (.iconst (-1), 1) := by decide +kernel
theorem dX10_apart_2 : decode cX10_apart 2 = .ok (.if_icmp .ne 17, 3) := by decide +kernel
theorem dX10_apart_5 : decode cX10_apart 5 = .ok (.aload_n 0, 1) := by decide +kernel
theorem dX10_apart_6 : decode cX10_apart 6 = .ok (.getfield 12, 3) := by decide +kernel
theorem dX10_apart_9 : decode cX10_apart 9 = .ok (.getfield 57, 3) := by decide +kernel
theorem dX10_apart_12 : decode cX10_apart 12 = .ok (.getfield 259, 3) := by decide +kernel
theorem dX10_apart_15 : decode cX10_apart 15 = .ok (.invokevirtual 244, 3) := by decide +kernel
theorem dX10_apart_18 : decode cX10_apart 18 = .ok (.ireturn, 1) := by decide +kernel
theorem dX10_apart_19 : decode cX10_apart 19 = .ok (.iload_n 1, 1) := by decide +kernel
theorem dX10_apart_20 : decode cX10_apart 20 = .ok (.bipush 6, 2) := by decide +kernel
theorem dX10_apart_22 : decode cX10_apart 22 = .ok (.invokestatic 78, 3) := by decide +kernel
theorem dX10_apart_25 : decode cX10_apart 25 = .ok (.ifCond .eq 17, 3) := by decide +kernel
theorem dX10_apart_28 : decode cX10_apart 28 = .ok (.iload_n 2, 1) := by decide +kernel
theorem dX10_apart_29 : decode cX10_apart 29 = .ok (.bipush 6, 2) := by decide +kernel
theorem dX10_apart_31 : decode cX10_apart 31 = .ok (.invokestatic 78, 3) := by decide +kernel
theorem dX10_apart_34 : decode cX10_apart 34 = .ok (.ifCond .eq 8, 3) := by decide +kernel
theorem dX10_apart_37 : decode cX10_apart 37 = .ok (.iload_n 1, 1) := by decide +kernel
theorem dX10_apart_38 : decode cX10_apart 38 = .ok (.iload_n 2, 1) := by decide +kernel
theorem dX10_apart_39 : decode cX10_apart 39 = .ok (.if_icmp .ne 5, 3) := by decide +kernel
theorem dX10_apart_42 : decode cX10_apart 42 = .ok (.iconst (-1), 1) := by decide +kernel
theorem dX10_apart_43 : decode cX10_apart 43 = .ok (.ireturn, 1) := by decide +kernel
theorem dX10_apart_44 : decode cX10_apart 44 = .ok (.aload_n 0, 1) := by decide +kernel
theorem dX10_apart_45 : decode cX10_apart 45 = .ok (.getfield 12, 3) := by decide +kernel
theorem dX10_apart_48 : decode cX10_apart 48 = .ok (.getfield 57, 3) := by decide +kernel
theorem dX10_apart_51 : decode cX10_apart 51 = .ok (.getfield 259, 3) := by decide +kernel
theorem dX10_apart_54 : decode cX10_apart 54 = .ok (.iload_n 1, 1) := by decide +kernel
theorem dX10_apart_55 : decode cX10_apart 55 = .ok (.iload_n 2, 1) := by decide +kernel
theorem dX10_apart_56 : decode cX10_apart 56 = .ok (.invokestatic 249, 3) := by decide +kernel
theorem dX10_apart_59 : decode cX10_apart 59 = .ok (.invokevirtual 252, 3) := by decide +kernel
theorem dX10_apart_62 : decode cX10_apart 62 = .ok (.ireturn, 1) := by decide +kernel
def f_X10_apart  (a1 : Int32) (a2 : Int32) (h : zHp) : Option (Int32 × zHp) := (if a1 = (-1 : Int32) then (f_X7_clear 29 h).bind fun x1 => some (x1.1, x1.2) else (f_X10_within a1 (6 : Int32) h).bind fun x2 => (if x2.1 = 0 then some ((-1 : Int32), x2.2) else (f_X10_within a2 (6 : Int32) x2.2).bind fun x3 => (if x3.1 = 0 then some ((-1 : Int32), x3.2) else (if a1 = a2 then some ((-1 : Int32), x3.2) else (f_X8_pair a1 a2 x3.2).bind fun x4 => (f_X7_add 29 x4.1 x4.2).bind fun x5 => some (x5.1, x5.2)))))
set_option maxHeartbeats 4000000 in
set_option maxRecDepth 100000 in
theorem s_X10_apart  (a1 : Int32) (a2 : Int32) (h : zHp) : Fn wX mX10_apart 1 rI [.ref 0, .int a1, .int a2] h (f_X10_apart a1 a2 h) := by
  refine Fn.of rfl (Nat.le_of_ble_eq_true rfl) ?_
  unfold f_X10_apart
  refine Sim.iload_n 1 dX10_apart_0 rfl ?_
  refine Sim.iconst (v := (-1 : Int32)) dX10_apart_1 rfl ?_
  refine Sim.icmp_ne 19 dX10_apart_2 rfl ?_ ?_
  · refine Sim.aload_n 0 dX10_apart_5 rfl ?_
    refine Sim.getR (j := 1) fl_X10_12 dX10_apart_6 xR_0_0 ?_
    refine Sim.getR (j := 26) fl_X10_57 dX10_apart_9 (xR_X9_6 _ xL_X9_1) ?_
    refine Sim.getR (j := 29) fl_X10_259 dX10_apart_12 (xR_X8_1 _ xL_X8_26) ?_
    refine Sim.callV0I (d1 := 0) (s_X7_clear 29 xL_X7_29 h) dX10_apart_15 ml_X10_244 mv_X7_clear (xOC_X7 _ xL_X7_29) (Nat.le_of_ble_eq_true rfl) (Nat.le_of_ble_eq_true rfl) (Nat.le_of_ble_eq_true rfl) (fun x1 => ?_)
    exact Sim.iret dX10_apart_18 rfl
  · refine Sim.iload_n 1 dX10_apart_19 rfl ?_
    refine Sim.bipush (v := (6 : Int32)) dX10_apart_20 rfl ?_
    refine Sim.callS2I (d1 := 0) (s_X10_within a1 (6 : Int32) h) dX10_apart_22 ml_X10_78 mv_X10_within (Nat.le_of_ble_eq_true rfl) (Nat.le_of_ble_eq_true rfl) (Nat.le_of_ble_eq_true rfl) (fun x2 => ?_)
    refine Sim.if_eq 42 dX10_apart_25 rfl ?_ ?_
    · refine Sim.iconst (v := (-1 : Int32)) dX10_apart_42 rfl ?_
      exact Sim.iret dX10_apart_43 rfl
    · refine Sim.iload_n 2 dX10_apart_28 rfl ?_
      refine Sim.bipush (v := (6 : Int32)) dX10_apart_29 rfl ?_
      refine Sim.callS2I (d1 := 0) (s_X10_within a2 (6 : Int32) x2.2) dX10_apart_31 ml_X10_78 mv_X10_within (Nat.le_of_ble_eq_true rfl) (Nat.le_of_ble_eq_true rfl) (Nat.le_of_ble_eq_true rfl) (fun x3 => ?_)
      refine Sim.if_eq 42 dX10_apart_34 rfl ?_ ?_
      · refine Sim.iconst (v := (-1 : Int32)) dX10_apart_42 rfl ?_
        exact Sim.iret dX10_apart_43 rfl
      · refine Sim.iload_n 1 dX10_apart_37 rfl ?_
        refine Sim.iload_n 2 dX10_apart_38 rfl ?_
        refine Sim.icmp_ne 44 dX10_apart_39 rfl ?_ ?_
        · refine Sim.iconst (v := (-1 : Int32)) dX10_apart_42 rfl ?_
          exact Sim.iret dX10_apart_43 rfl
        · refine Sim.aload_n 0 dX10_apart_44 rfl ?_
          refine Sim.getR (j := 1) fl_X10_12 dX10_apart_45 xR_0_0 ?_
          refine Sim.getR (j := 26) fl_X10_57 dX10_apart_48 (xR_X9_6 _ xL_X9_1) ?_
          refine Sim.getR (j := 29) fl_X10_259 dX10_apart_51 (xR_X8_1 _ xL_X8_26) ?_
          refine Sim.iload_n 1 dX10_apart_54 rfl ?_
          refine Sim.iload_n 2 dX10_apart_55 rfl ?_
          refine Sim.callS2I (d1 := 0) (s_X8_pair a1 a2 x3.2) dX10_apart_56 ml_X10_249 mv_X8_pair (Nat.le_of_ble_eq_true rfl) (Nat.le_of_ble_eq_true rfl) (Nat.le_of_ble_eq_true rfl) (fun x4 => ?_)
          refine Sim.callV1I (d1 := 0) (s_X7_add 29 xL_X7_29 x4.1 x4.2) dX10_apart_59 ml_X10_252 mv_X7_add (xOC_X7 _ xL_X7_29) (Nat.le_of_ble_eq_true rfl) (Nat.le_of_ble_eq_true rfl) (Nat.le_of_ble_eq_true rfl) (fun x5 => ?_)
          exact Sim.iret dX10_apart_62 rfl
theorem mv_X10_apart : zMV mX10_apart 2 := ⟨⟨zTb_in 1072 (by decide +kernel) rfl, zTb_in 137 (by decide +kernel) rfl, ⟨by decide +kernel, by decide +kernel⟩, by decide +kernel⟩, zTb_in 1070 (by decide +kernel) rfl, zTb_in 1071 (by decide +kernel) rfl⟩
-- ===== RockingPorch.seated(II)I
abbrev mX10_seated : zMt := (yX10_seated, cX10_seated, 3, some .int)
theorem ml_X10_262 : Cond.methodLink RX10 262 yX5_orders ∈ zTb := zTb_in 1077 (by decide +kernel) rfl
theorem dX10_seated_0 : decode cX10_seated 0 = .ok (.iload_n 1, 1) := by decide +kernel
theorem dX10_seated_1 : decode cX10_seated 1 = .ok (.iconst 1, 1) := by decide +kernel
theorem dX10_seated_2 : decode cX10_seated 2 = .ok (.if_icmp .lt 17, 3) := by decide +kernel
theorem dX10_seated_5 : decode cX10_seated 5 = .ok (.iload_n 1, 1) := by decide +kernel
theorem dX10_seated_6 : decode cX10_seated 6 = .ok (.bipush 7, 2) := by decide +kernel
theorem dX10_seated_8 : decode cX10_seated 8 = .ok (.if_icmp .gt 11, 3) := by decide +kernel
theorem dX10_seated_11 : decode cX10_seated 11 = .ok (.iload_n 2, 1) := by decide +kernel
theorem dX10_seated_12 : decode cX10_seated 12 = .ok (.iconst 1, 1) := by decide +kernel
theorem dX10_seated_13 : decode cX10_seated 13 = .ok (.invokestatic 78, 3) := by decide +kernel
theorem dX10_seated_16 : decode cX10_seated 16 = .ok (.ifCond .ne 7, 3) := by decide +kernel
theorem dX10_seated_19 : decode cX10_seated 19 = .ok (.iconst (-1), 1) := by decide +kernel
theorem dX10_seated_20 : decode cX10_seated 20 = .ok (.goto 21, 3) := by decide +kernel
theorem dX10_seated_23 : decode cX10_seated 23 = .ok (.aload_n 0, 1) := by decide +kernel
theorem dX10_seated_24 : decode cX10_seated 24 = .ok (.getfield 64, 3) := by decide +kernel
theorem dX10_seated_27 : decode cX10_seated 27 = .ok (.iload_n 1, 1) := by decide +kernel
theorem dX10_seated_28 : decode cX10_seated 28 = .ok (.iload_n 2, 1) := by decide +kernel
theorem dX10_seated_29 : decode cX10_seated 29 = .ok (.iconst 1, 1) := by decide +kernel
theorem dX10_seated_30 : decode cX10_seated 30 = .ok (.if_icmp .ne 7, 3) := by decide +kernel
theorem dX10_seated_33 : decode cX10_seated 33 = .ok (.iconst 1, 1) := by decide +kernel
theorem dX10_seated_34 : decode cX10_seated 34 = .ok (.goto 4, 3) := by decide +kernel
theorem dX10_seated_37 : decode cX10_seated 37 = .ok (.iconst 0, 1) := by decide +kernel
theorem dX10_seated_38 : decode cX10_seated 38 = .ok (.invokevirtual 262, 3) := by decide +kernel
theorem dX10_seated_41 : decode cX10_seated 41 = .ok (.ireturn, 1) := by decide +kernel
def f_X10_seated  (a1 : Int32) (a2 : Int32) (h : zHp) : Option (Int32 × zHp) := (if a1 < (1 : Int32) then some ((-1 : Int32), h) else (if (7 : Int32) < a1 then some ((-1 : Int32), h) else (f_X10_within a2 (1 : Int32) h).bind fun x1 => (if x1.1 = 0 then some ((-1 : Int32), x1.2) else (if a2 = (1 : Int32) then (f_X5_orders a1 (1 : Int32) x1.2).bind fun x2 => some (x2.1, x2.2) else (f_X5_orders a1 (0 : Int32) x1.2).bind fun x3 => some (x3.1, x3.2)))))
set_option maxHeartbeats 4000000 in
set_option maxRecDepth 100000 in
theorem s_X10_seated  (a1 : Int32) (a2 : Int32) (h : zHp) : Fn wX mX10_seated 3 rI [.ref 0, .int a1, .int a2] h (f_X10_seated a1 a2 h) := by
  refine Fn.of rfl (Nat.le_of_ble_eq_true rfl) ?_
  unfold f_X10_seated
  refine Sim.iload_n 1 dX10_seated_0 rfl ?_
  refine Sim.iconst (v := (1 : Int32)) dX10_seated_1 rfl ?_
  refine Sim.icmp_lt 19 dX10_seated_2 rfl ?_ ?_
  · refine Sim.iconst (v := (-1 : Int32)) dX10_seated_19 rfl ?_
    refine Sim.goto 41 dX10_seated_20 rfl ?_
    exact Sim.iret dX10_seated_41 rfl
  · refine Sim.iload_n 1 dX10_seated_5 rfl ?_
    refine Sim.bipush (v := (7 : Int32)) dX10_seated_6 rfl ?_
    refine Sim.icmp_gt 19 dX10_seated_8 rfl ?_ ?_
    · refine Sim.iconst (v := (-1 : Int32)) dX10_seated_19 rfl ?_
      refine Sim.goto 41 dX10_seated_20 rfl ?_
      exact Sim.iret dX10_seated_41 rfl
    · refine Sim.iload_n 2 dX10_seated_11 rfl ?_
      refine Sim.iconst (v := (1 : Int32)) dX10_seated_12 rfl ?_
      refine Sim.callS2I (d1 := 0) (s_X10_within a2 (1 : Int32) h) dX10_seated_13 ml_X10_78 mv_X10_within (Nat.le_of_ble_eq_true rfl) (Nat.le_of_ble_eq_true rfl) (Nat.le_of_ble_eq_true rfl) (fun x1 => ?_)
      refine Sim.if_ne 23 dX10_seated_16 rfl ?_ ?_
      · refine Sim.iconst (v := (-1 : Int32)) dX10_seated_19 rfl ?_
        refine Sim.goto 41 dX10_seated_20 rfl ?_
        exact Sim.iret dX10_seated_41 rfl
      · refine Sim.aload_n 0 dX10_seated_23 rfl ?_
        refine Sim.getR (j := 161) fl_X10_64 dX10_seated_24 xR_0_7 ?_
        refine Sim.iload_n 1 dX10_seated_27 rfl ?_
        refine Sim.iload_n 2 dX10_seated_28 rfl ?_
        refine Sim.iconst (v := (1 : Int32)) dX10_seated_29 rfl ?_
        refine Sim.icmp_ne 37 dX10_seated_30 rfl ?_ ?_
        · refine Sim.iconst (v := (1 : Int32)) dX10_seated_33 rfl ?_
          refine Sim.goto 38 dX10_seated_34 rfl ?_
          refine Sim.callV2I (d1 := 2) (s_X5_orders a1 (1 : Int32) x1.2) dX10_seated_38 ml_X10_262 mv_X5_orders xO_X5 (Nat.le_of_ble_eq_true rfl) (Nat.le_of_ble_eq_true rfl) (Nat.le_of_ble_eq_true rfl) (fun x2 => ?_)
          exact Sim.iret dX10_seated_41 rfl
        · refine Sim.iconst (v := (0 : Int32)) dX10_seated_37 rfl ?_
          refine Sim.callV2I (d1 := 2) (s_X5_orders a1 (0 : Int32) x1.2) dX10_seated_38 ml_X10_262 mv_X5_orders xO_X5 (Nat.le_of_ble_eq_true rfl) (Nat.le_of_ble_eq_true rfl) (Nat.le_of_ble_eq_true rfl) (fun x3 => ?_)
          exact Sim.iret dX10_seated_41 rfl
theorem mv_X10_seated : zMV mX10_seated 2 := ⟨⟨zTb_in 1076 (by decide +kernel) rfl, zTb_in 137 (by decide +kernel) rfl, ⟨by decide +kernel, by decide +kernel⟩, by decide +kernel⟩, zTb_in 1074 (by decide +kernel) rfl, zTb_in 1075 (by decide +kernel) rfl⟩
-- ===== RockingPorch.point(II)I
abbrev mX10_point : zMt := (yX10_point, cX10_point, 3, some .int)
theorem fl_X10_266 : zF RX10 266 8 2 := ⟨RX8, TX8, 7, rfl, Nat.le_of_ble_eq_true rfl, zTb_in 332 (by decide +kernel) rfl, in_X8⟩
theorem ml_X10_269 : Cond.methodLink RX10 269 yX7_addUnlike ∈ zTb := zTb_in 1093 (by decide +kernel) rfl
theorem dX10_point_0 : decode cX10_point 0 = .ok (.iload_n 1, 1) := by decide +kernel
theorem dX10_point_1 : decode cX10_point 1 = .ok (.iconst (-1), 1) := by decide +kernel
theorem dX10_point_2 : decode cX10_point 2 = .ok (.if_icmp .ne 17, 3) := by decide +kernel
theorem dX10_point_5 : decode cX10_point 5 = .ok (.aload_n 0, 1) := by decide +kernel
theorem dX10_point_6 : decode cX10_point 6 = .ok (.getfield 12, 3) := by decide +kernel
theorem dX10_point_9 : decode cX10_point 9 = .ok (.getfield 57, 3) := by decide +kernel
theorem dX10_point_12 : decode cX10_point 12 = .ok (.getfield 266, 3) := by decide +kernel
theorem dX10_point_15 : decode cX10_point 15 = .ok (.invokevirtual 244, 3) := by decide +kernel
theorem dX10_point_18 : decode cX10_point 18 = .ok (.ireturn, 1) := by decide +kernel
theorem dX10_point_19 : decode cX10_point 19 = .ok (.iload_n 1, 1) := by decide +kernel
theorem dX10_point_20 : decode cX10_point 20 = .ok (.bipush 20, 2) := by decide +kernel
theorem dX10_point_22 : decode cX10_point 22 = .ok (.invokestatic 78, 3) := by decide +kernel
theorem dX10_point_25 : decode cX10_point 25 = .ok (.ifCond .eq 12, 3) := by decide +kernel
theorem dX10_point_28 : decode cX10_point 28 = .ok (.iload_n 2, 1) := by decide +kernel
theorem dX10_point_29 : decode cX10_point 29 = .ok (.bipush 20, 2) := by decide +kernel
theorem dX10_point_31 : decode cX10_point 31 = .ok (.invokestatic 78, 3) := by decide +kernel
theorem dX10_point_34 : decode cX10_point 34 = .ok (.ifCond .ne 5, 3) := by decide +kernel
theorem dX10_point_37 : decode cX10_point 37 = .ok (.iconst (-1), 1) := by decide +kernel
theorem dX10_point_38 : decode cX10_point 38 = .ok (.ireturn, 1) := by decide +kernel
theorem dX10_point_39 : decode cX10_point 39 = .ok (.aload_n 0, 1) := by decide +kernel
theorem dX10_point_40 : decode cX10_point 40 = .ok (.getfield 12, 3) := by decide +kernel
theorem dX10_point_43 : decode cX10_point 43 = .ok (.getfield 57, 3) := by decide +kernel
theorem dX10_point_46 : decode cX10_point 46 = .ok (.getfield 266, 3) := by decide +kernel
theorem dX10_point_49 : decode cX10_point 49 = .ok (.iload_n 1, 1) := by decide +kernel
theorem dX10_point_50 : decode cX10_point 50 = .ok (.iload_n 2, 1) := by decide +kernel
theorem dX10_point_51 : decode cX10_point 51 = .ok (.invokestatic 249, 3) := by decide +kernel
theorem dX10_point_54 : decode cX10_point 54 = .ok (.invokevirtual 269, 3) := by decide +kernel
theorem dX10_point_57 : decode cX10_point 57 = .ok (.ireturn, 1) := by decide +kernel
def f_X10_point  (a1 : Int32) (a2 : Int32) (h : zHp) : Option (Int32 × zHp) := (if a1 = (-1 : Int32) then (f_X7_clear 31 h).bind fun x1 => some (x1.1, x1.2) else (f_X10_within a1 (20 : Int32) h).bind fun x2 => (if x2.1 = 0 then some ((-1 : Int32), x2.2) else (f_X10_within a2 (20 : Int32) x2.2).bind fun x3 => (if x3.1 = 0 then some ((-1 : Int32), x3.2) else (f_X8_pair a1 a2 x3.2).bind fun x4 => (f_X7_addUnlike 31 x4.1 x4.2).bind fun x5 => some (x5.1, x5.2))))
set_option maxHeartbeats 4000000 in
set_option maxRecDepth 100000 in
theorem s_X10_point  (a1 : Int32) (a2 : Int32) (h : zHp) : Fn wX mX10_point 2 rI [.ref 0, .int a1, .int a2] h (f_X10_point a1 a2 h) := by
  refine Fn.of rfl (Nat.le_of_ble_eq_true rfl) ?_
  unfold f_X10_point
  refine Sim.iload_n 1 dX10_point_0 rfl ?_
  refine Sim.iconst (v := (-1 : Int32)) dX10_point_1 rfl ?_
  refine Sim.icmp_ne 19 dX10_point_2 rfl ?_ ?_
  · refine Sim.aload_n 0 dX10_point_5 rfl ?_
    refine Sim.getR (j := 1) fl_X10_12 dX10_point_6 xR_0_0 ?_
    refine Sim.getR (j := 26) fl_X10_57 dX10_point_9 (xR_X9_6 _ xL_X9_1) ?_
    refine Sim.getR (j := 31) fl_X10_266 dX10_point_12 (xR_X8_2 _ xL_X8_26) ?_
    refine Sim.callV0I (d1 := 0) (s_X7_clear 31 xL_X7_31 h) dX10_point_15 ml_X10_244 mv_X7_clear (xOC_X7 _ xL_X7_31) (Nat.le_of_ble_eq_true rfl) (Nat.le_of_ble_eq_true rfl) (Nat.le_of_ble_eq_true rfl) (fun x1 => ?_)
    exact Sim.iret dX10_point_18 rfl
  · refine Sim.iload_n 1 dX10_point_19 rfl ?_
    refine Sim.bipush (v := (20 : Int32)) dX10_point_20 rfl ?_
    refine Sim.callS2I (d1 := 0) (s_X10_within a1 (20 : Int32) h) dX10_point_22 ml_X10_78 mv_X10_within (Nat.le_of_ble_eq_true rfl) (Nat.le_of_ble_eq_true rfl) (Nat.le_of_ble_eq_true rfl) (fun x2 => ?_)
    refine Sim.if_eq 37 dX10_point_25 rfl ?_ ?_
    · refine Sim.iconst (v := (-1 : Int32)) dX10_point_37 rfl ?_
      exact Sim.iret dX10_point_38 rfl
    · refine Sim.iload_n 2 dX10_point_28 rfl ?_
      refine Sim.bipush (v := (20 : Int32)) dX10_point_29 rfl ?_
      refine Sim.callS2I (d1 := 0) (s_X10_within a2 (20 : Int32) x2.2) dX10_point_31 ml_X10_78 mv_X10_within (Nat.le_of_ble_eq_true rfl) (Nat.le_of_ble_eq_true rfl) (Nat.le_of_ble_eq_true rfl) (fun x3 => ?_)
      refine Sim.if_ne 39 dX10_point_34 rfl ?_ ?_
      · refine Sim.iconst (v := (-1 : Int32)) dX10_point_37 rfl ?_
        exact Sim.iret dX10_point_38 rfl
      · refine Sim.aload_n 0 dX10_point_39 rfl ?_
        refine Sim.getR (j := 1) fl_X10_12 dX10_point_40 xR_0_0 ?_
        refine Sim.getR (j := 26) fl_X10_57 dX10_point_43 (xR_X9_6 _ xL_X9_1) ?_
        refine Sim.getR (j := 31) fl_X10_266 dX10_point_46 (xR_X8_2 _ xL_X8_26) ?_
        refine Sim.iload_n 1 dX10_point_49 rfl ?_
        refine Sim.iload_n 2 dX10_point_50 rfl ?_
        refine Sim.callS2I (d1 := 0) (s_X8_pair a1 a2 x3.2) dX10_point_51 ml_X10_249 mv_X8_pair (Nat.le_of_ble_eq_true rfl) (Nat.le_of_ble_eq_true rfl) (Nat.le_of_ble_eq_true rfl) (fun x4 => ?_)
        refine Sim.callV1I (d1 := 1) (s_X7_addUnlike 31 xL_X7_31 x4.1 x4.2) dX10_point_54 ml_X10_269 mv_X7_addUnlike (xOC_X7 _ xL_X7_31) (Nat.le_of_ble_eq_true rfl) (Nat.le_of_ble_eq_true rfl) (Nat.le_of_ble_eq_true rfl) (fun x5 => ?_)
        exact Sim.iret dX10_point_57 rfl
theorem mv_X10_point : zMV mX10_point 2 := ⟨⟨zTb_in 1092 (by decide +kernel) rfl, zTb_in 137 (by decide +kernel) rfl, ⟨by decide +kernel, by decide +kernel⟩, by decide +kernel⟩, zTb_in 1090 (by decide +kernel) rfl, zTb_in 1091 (by decide +kernel) rfl⟩
-- ===== RockingPorch.line(I)I
abbrev mX10_line : zMt := (yX10_line, cX10_line, 2, some .int)
theorem ml_X10_272 : Cond.methodLink RX10 272 yX5_mostOnLine ∈ zTb := zTb_in 1102 (by decide +kernel) rfl
theorem ml_X10_275 : Cond.methodLink RX10 275 yX5_distance ∈ zTb := zTb_in 1115 (by decide +kernel) rfl
theorem dX10_line_0 : decode cX10_line 0 = .ok (.iload_n 1, 1) := by decide +kernel
theorem dX10_line_1 : decode cX10_line 1 = .ok (.tableswitch 53 0 2 #[27, 35, 44], 27) := by decide +kernel
theorem dX10_line_28 : decode cX10_line 28 = .ok (.aload_n 0, 1) := by decide +kernel
theorem dX10_line_29 : decode cX10_line 29 = .ok (.getfield 64, 3) := by decide +kernel
theorem dX10_line_32 : decode cX10_line 32 = .ok (.invokevirtual 272, 3) := by decide +kernel
theorem dX10_line_35 : decode cX10_line 35 = .ok (.ireturn, 1) := by decide +kernel
theorem dX10_line_36 : decode cX10_line 36 = .ok (.aload_n 0, 1) := by decide +kernel
theorem dX10_line_37 : decode cX10_line 37 = .ok (.getfield 64, 3) := by decide +kernel
theorem dX10_line_40 : decode cX10_line 40 = .ok (.iconst 0, 1) := by decide +kernel
theorem dX10_line_41 : decode cX10_line 41 = .ok (.invokevirtual 275, 3) := by decide +kernel
theorem dX10_line_44 : decode cX10_line 44 = .ok (.ireturn, 1) := by decide +kernel
theorem dX10_line_45 : decode cX10_line 45 = .ok (.aload_n 0, 1) := by decide +kernel
theorem dX10_line_46 : decode cX10_line 46 = .ok (.getfield 64, 3) := by decide +kernel
theorem dX10_line_49 : decode cX10_line 49 = .ok (.iconst 1, 1) := by decide +kernel
theorem dX10_line_50 : decode cX10_line 50 = .ok (.invokevirtual 275, 3) := by decide +kernel
theorem dX10_line_53 : decode cX10_line 53 = .ok (.ireturn, 1) := by decide +kernel
theorem dX10_line_54 : decode cX10_line 54 = .ok (.iconst (-1), 1) := by decide +kernel
theorem dX10_line_55 : decode cX10_line 55 = .ok (.ireturn, 1) := by decide +kernel
def f_X10_line  (a1 : Int32) (h : zHp) : Option (Int32 × zHp) := (if a1 = (0 : Int32) then (f_X5_mostOnLine h).bind fun x2 => some (x2.1, x2.2) else (if a1 = (1 : Int32) then (f_X5_distance (0 : Int32) h).bind fun x4 => some (x4.1, x4.2) else (if a1 = (2 : Int32) then (f_X5_distance (1 : Int32) h).bind fun x6 => some (x6.1, x6.2) else some ((-1 : Int32), h))))
set_option maxHeartbeats 4000000 in
set_option maxRecDepth 100000 in
theorem s_X10_line  (a1 : Int32) (h : zHp) : Fn wX mX10_line 3 rI [.ref 0, .int a1] h (f_X10_line a1 h) := by
  refine Fn.of rfl (Nat.le_of_ble_eq_true rfl) ?_
  unfold f_X10_line
  refine Sim.iload_n 1 dX10_line_0 rfl ?_
  refine Sim.ite _ (fun q1 => ?_) (fun q1 => ?_)
  · refine Sim.tswIn 28 dX10_line_1 q1 (by decide) (by decide) rfl rfl ?_
    refine Sim.aload_n 0 dX10_line_28 rfl ?_
    refine Sim.getR (j := 161) fl_X10_64 dX10_line_29 xR_0_7 ?_
    refine Sim.callV0I (d1 := 2) (s_X5_mostOnLine h) dX10_line_32 ml_X10_272 mv_X5_mostOnLine xO_X5 (Nat.le_of_ble_eq_true rfl) (Nat.le_of_ble_eq_true rfl) (Nat.le_of_ble_eq_true rfl) (fun x2 => ?_)
    exact Sim.iret dX10_line_35 rfl
  refine Sim.ite _ (fun q3 => ?_) (fun q3 => ?_)
  · refine Sim.tswIn 36 dX10_line_1 q3 (by decide) (by decide) rfl rfl ?_
    refine Sim.aload_n 0 dX10_line_36 rfl ?_
    refine Sim.getR (j := 161) fl_X10_64 dX10_line_37 xR_0_7 ?_
    refine Sim.iconst (v := (0 : Int32)) dX10_line_40 rfl ?_
    refine Sim.callV1I (d1 := 2) (s_X5_distance (0 : Int32) h) dX10_line_41 ml_X10_275 mv_X5_distance xO_X5 (Nat.le_of_ble_eq_true rfl) (Nat.le_of_ble_eq_true rfl) (Nat.le_of_ble_eq_true rfl) (fun x4 => ?_)
    exact Sim.iret dX10_line_44 rfl
  refine Sim.ite _ (fun q5 => ?_) (fun q5 => ?_)
  · refine Sim.tswIn 45 dX10_line_1 q5 (by decide) (by decide) rfl rfl ?_
    refine Sim.aload_n 0 dX10_line_45 rfl ?_
    refine Sim.getR (j := 161) fl_X10_64 dX10_line_46 xR_0_7 ?_
    refine Sim.iconst (v := (1 : Int32)) dX10_line_49 rfl ?_
    refine Sim.callV1I (d1 := 2) (s_X5_distance (1 : Int32) h) dX10_line_50 ml_X10_275 mv_X5_distance xO_X5 (Nat.le_of_ble_eq_true rfl) (Nat.le_of_ble_eq_true rfl) (Nat.le_of_ble_eq_true rfl) (fun x6 => ?_)
    exact Sim.iret dX10_line_53 rfl
  refine Sim.tswOut 54 dX10_line_1 (by have aq1 : a1.toInt ≠ 0 := fun w => q1 (Int32.toInt_inj.mp w); have aq3 : a1.toInt ≠ 1 := fun w => q3 (Int32.toInt_inj.mp w); have aq5 : a1.toInt ≠ 2 := fun w => q5 (Int32.toInt_inj.mp w); omega) rfl ?_
  refine Sim.iconst (v := (-1 : Int32)) dX10_line_54 rfl ?_
  exact Sim.iret dX10_line_55 rfl
theorem mv_X10_line : zMV mX10_line 1 := ⟨⟨zTb_in 1101 (by decide +kernel) rfl, zTb_in 137 (by decide +kernel) rfl, ⟨by decide +kernel, by decide +kernel⟩, by decide +kernel⟩, zTb_in 1099 (by decide +kernel) rfl, zTb_in 1100 (by decide +kernel) rfl⟩
-- ===== RockingPorch.full(IIZ)Z
abbrev mX10_full : zMt := (yX10_full, cX10_full, 4, some .boolean)
theorem fl_X10_278 : zF RX10 278 8 6 := ⟨RX8, TX8, 7, rfl, Nat.le_of_ble_eq_true rfl, zTb_in 344 (by decide +kernel) rfl, in_X8⟩
theorem dX10_full_0 : decode cX10_full 0 = .ok (.iload_n 1, 1) := by decide +kernel
theorem dX10_full_1 : decode cX10_full 1 = .ok (.iconst 5, 1) := by decide +kernel
theorem dX10_full_2 : decode cX10_full 2 = .ok (.invokestatic 78, 3) := by decide +kernel
theorem dX10_full_5 : decode cX10_full 5 = .ok (.ifCond .eq 11, 3) := by decide +kernel
theorem dX10_full_8 : decode cX10_full 8 = .ok (.iload_n 2, 1) := by decide +kernel
theorem dX10_full_9 : decode cX10_full 9 = .ok (.iconst 5, 1) := by decide +kernel
theorem dX10_full_10 : decode cX10_full 10 = .ok (.invokestatic 78, 3) := by decide +kernel
theorem dX10_full_13 : decode cX10_full 13 = .ok (.ifCond .ne 5, 3) := by decide +kernel
theorem dX10_full_16 : decode cX10_full 16 = .ok (.iconst 0, 1) := by decide +kernel
theorem dX10_full_17 : decode cX10_full 17 = .ok (.ireturn, 1) := by decide +kernel
theorem dX10_full_18 : decode cX10_full 18 = .ok (.aload_n 0, 1) := by decide +kernel
theorem dX10_full_19 : decode cX10_full 19 = .ok (.getfield 12, 3) := by decide +kernel
theorem dX10_full_22 : decode cX10_full 22 = .ok (.getfield 57, 3) := by decide +kernel
theorem dX10_full_25 : decode cX10_full 25 = .ok (.getfield 278, 3) := by decide +kernel
theorem dX10_full_28 : decode cX10_full 28 = .ok (.iload_n 2, 1) := by decide +kernel
theorem dX10_full_29 : decode cX10_full 29 = .ok (.bipush 6, 2) := by decide +kernel
theorem dX10_full_31 : decode cX10_full 31 = .ok (.imul, 1) := by decide +kernel
theorem dX10_full_32 : decode cX10_full 32 = .ok (.iload_n 1, 1) := by decide +kernel
theorem dX10_full_33 : decode cX10_full 33 = .ok (.iadd, 1) := by decide +kernel
theorem dX10_full_34 : decode cX10_full 34 = .ok (.iload_n 3, 1) := by decide +kernel
theorem dX10_full_35 : decode cX10_full 35 = .ok (.ifCond .eq 7, 3) := by decide +kernel
theorem dX10_full_38 : decode cX10_full 38 = .ok (.iconst 1, 1) := by decide +kernel
theorem dX10_full_39 : decode cX10_full 39 = .ok (.goto 4, 3) := by decide +kernel
theorem dX10_full_42 : decode cX10_full 42 = .ok (.iconst 0, 1) := by decide +kernel
theorem dX10_full_43 : decode cX10_full 43 = .ok (.iastore, 1) := by decide +kernel
theorem dX10_full_44 : decode cX10_full 44 = .ok (.iconst 1, 1) := by decide +kernel
theorem dX10_full_45 : decode cX10_full 45 = .ok (.ireturn, 1) := by decide +kernel
def f_X10_full  (a1 : Int32) (a2 : Int32) (a3 : Int32) (h : zHp) : Option (Int32 × zHp) := (f_X10_within a1 (5 : Int32) h).bind fun x1 => (if x1.1 = 0 then some ((0 : Int32), x1.2) else (f_X10_within a2 (5 : Int32) x1.2).bind fun x2 => (if x2.1 = 0 then some ((0 : Int32), x2.2) else (if a3 = 0 then zix ((a2 * (6 : Int32)) + a1) 36 (zlt (zst x2.2 39 ((a2 * (6 : Int32)) + a1).toNatClampNeg (0 : Int32)) fun h3 => some ((1 : Int32), h3)) else zix ((a2 * (6 : Int32)) + a1) 36 (zlt (zst x2.2 39 ((a2 * (6 : Int32)) + a1).toNatClampNeg (1 : Int32)) fun h4 => some ((1 : Int32), h4)))))
set_option maxHeartbeats 4000000 in
set_option maxRecDepth 100000 in
theorem s_X10_full  (a1 : Int32) (a2 : Int32) (a3 : Int32) (h : zHp) : Fn wX mX10_full 1 rI [.ref 0, .int a1, .int a2, .int a3] h (f_X10_full a1 a2 a3 h) := by
  refine Fn.of rfl (Nat.le_of_ble_eq_true rfl) ?_
  unfold f_X10_full
  refine Sim.iload_n 1 dX10_full_0 rfl ?_
  refine Sim.iconst (v := (5 : Int32)) dX10_full_1 rfl ?_
  refine Sim.callS2I (d1 := 0) (s_X10_within a1 (5 : Int32) h) dX10_full_2 ml_X10_78 mv_X10_within (Nat.le_of_ble_eq_true rfl) (Nat.le_of_ble_eq_true rfl) (Nat.le_of_ble_eq_true rfl) (fun x1 => ?_)
  refine Sim.if_eq 16 dX10_full_5 rfl ?_ ?_
  · refine Sim.iconst (v := (0 : Int32)) dX10_full_16 rfl ?_
    exact Sim.nret dX10_full_17 rfl rfl
  · refine Sim.iload_n 2 dX10_full_8 rfl ?_
    refine Sim.iconst (v := (5 : Int32)) dX10_full_9 rfl ?_
    refine Sim.callS2I (d1 := 0) (s_X10_within a2 (5 : Int32) x1.2) dX10_full_10 ml_X10_78 mv_X10_within (Nat.le_of_ble_eq_true rfl) (Nat.le_of_ble_eq_true rfl) (Nat.le_of_ble_eq_true rfl) (fun x2 => ?_)
    refine Sim.if_ne 18 dX10_full_13 rfl ?_ ?_
    · refine Sim.iconst (v := (0 : Int32)) dX10_full_16 rfl ?_
      exact Sim.nret dX10_full_17 rfl rfl
    · refine Sim.aload_n 0 dX10_full_18 rfl ?_
      refine Sim.getR (j := 1) fl_X10_12 dX10_full_19 xR_0_0 ?_
      refine Sim.getR (j := 26) fl_X10_57 dX10_full_22 (xR_X9_6 _ xL_X9_1) ?_
      refine Sim.getR (j := 39) fl_X10_278 dX10_full_25 (xR_X8_6 _ xL_X8_26) ?_
      refine Sim.iload_n 2 dX10_full_28 rfl ?_
      refine Sim.bipush (v := (6 : Int32)) dX10_full_29 rfl ?_
      refine Sim.imul dX10_full_31 ?_
      refine Sim.iload_n 1 dX10_full_32 rfl ?_
      refine Sim.iadd dX10_full_33 ?_
      refine Sim.iload_n 3 dX10_full_34 rfl ?_
      refine Sim.if_eq 42 dX10_full_35 rfl ?_ ?_
      · refine Sim.iconst (v := (0 : Int32)) dX10_full_42 rfl ?_
        refine Sim.iast (n := 36) dX10_full_43 xA_39 ?_
        refine Sim.lth (fun h3 => ?_)
        refine Sim.iconst (v := (1 : Int32)) dX10_full_44 rfl ?_
        exact Sim.nret dX10_full_45 rfl rfl
      · refine Sim.iconst (v := (1 : Int32)) dX10_full_38 rfl ?_
        refine Sim.goto 43 dX10_full_39 rfl ?_
        refine Sim.iast (n := 36) dX10_full_43 xA_39 ?_
        refine Sim.lth (fun h4 => ?_)
        refine Sim.iconst (v := (1 : Int32)) dX10_full_44 rfl ?_
        exact Sim.nret dX10_full_45 rfl rfl
theorem mv_X10_full : zMV mX10_full 3 := ⟨⟨zTb_in 1122 (by decide +kernel) rfl, zTb_in 137 (by decide +kernel) rfl, ⟨by decide +kernel, by decide +kernel⟩, by decide +kernel⟩, zTb_in 1120 (by decide +kernel) rfl, zTb_in 1121 (by decide +kernel) rfl⟩
-- ===== RockingPorch.rug(I)I
abbrev mX10_rug : zMt := (yX10_rug, cX10_rug, 2, some .int)
theorem ml_X10_281 : Cond.methodLink RX10 281 yX5_rugs ∈ zTb := zTb_in 1127 (by decide +kernel) rfl
theorem dX10_rug_0 : decode cX10_rug 0 = .ok (.iload_n 1, 1) := by decide +kernel
theorem dX10_rug_1 : decode cX10_rug 1 = .ok (.iconst 1, 1) := by decide +kernel
theorem dX10_rug_2 : decode cX10_rug 2 = .ok (.invokestatic 78, 3) := by decide +kernel
theorem dX10_rug_5 : decode cX10_rug 5 = .ok (.ifCond .eq 23, 3) := by decide +kernel
theorem dX10_rug_8 : decode cX10_rug 8 = .ok (.aload_n 0, 1) := by decide +kernel
theorem dX10_rug_9 : decode cX10_rug 9 = .ok (.getfield 64, 3) := by decide +kernel
theorem dX10_rug_12 : decode cX10_rug 12 = .ok (.iload_n 1, 1) := by decide +kernel
theorem dX10_rug_13 : decode cX10_rug 13 = .ok (.iconst 1, 1) := by decide +kernel
theorem dX10_rug_14 : decode cX10_rug 14 = .ok (.if_icmp .ne 7, 3) := by decide +kernel
theorem dX10_rug_17 : decode cX10_rug 17 = .ok (.iconst 1, 1) := by decide +kernel
theorem dX10_rug_18 : decode cX10_rug 18 = .ok (.goto 4, 3) := by decide +kernel
theorem dX10_rug_21 : decode cX10_rug 21 = .ok (.iconst 0, 1) := by decide +kernel
theorem dX10_rug_22 : decode cX10_rug 22 = .ok (.invokevirtual 281, 3) := by decide +kernel
theorem dX10_rug_25 : decode cX10_rug 25 = .ok (.goto 4, 3) := by decide +kernel
theorem dX10_rug_28 : decode cX10_rug 28 = .ok (.iconst (-1), 1) := by decide +kernel
theorem dX10_rug_29 : decode cX10_rug 29 = .ok (.ireturn, 1) := by decide +kernel
def f_X10_rug  (a1 : Int32) (h : zHp) : Option (Int32 × zHp) := (f_X10_within a1 (1 : Int32) h).bind fun x1 => (if x1.1 = 0 then some ((-1 : Int32), x1.2) else (if a1 = (1 : Int32) then (f_X5_rugs (1 : Int32) x1.2).bind fun x2 => some (x2.1, x2.2) else (f_X5_rugs (0 : Int32) x1.2).bind fun x3 => some (x3.1, x3.2)))
set_option maxHeartbeats 4000000 in
set_option maxRecDepth 100000 in
theorem s_X10_rug  (a1 : Int32) (h : zHp) : Fn wX mX10_rug 2 rI [.ref 0, .int a1] h (f_X10_rug a1 h) := by
  refine Fn.of rfl (Nat.le_of_ble_eq_true rfl) ?_
  unfold f_X10_rug
  refine Sim.iload_n 1 dX10_rug_0 rfl ?_
  refine Sim.iconst (v := (1 : Int32)) dX10_rug_1 rfl ?_
  refine Sim.callS2I (d1 := 0) (s_X10_within a1 (1 : Int32) h) dX10_rug_2 ml_X10_78 mv_X10_within (Nat.le_of_ble_eq_true rfl) (Nat.le_of_ble_eq_true rfl) (Nat.le_of_ble_eq_true rfl) (fun x1 => ?_)
  refine Sim.if_eq 28 dX10_rug_5 rfl ?_ ?_
  · refine Sim.iconst (v := (-1 : Int32)) dX10_rug_28 rfl ?_
    exact Sim.iret dX10_rug_29 rfl
  · refine Sim.aload_n 0 dX10_rug_8 rfl ?_
    refine Sim.getR (j := 161) fl_X10_64 dX10_rug_9 xR_0_7 ?_
    refine Sim.iload_n 1 dX10_rug_12 rfl ?_
    refine Sim.iconst (v := (1 : Int32)) dX10_rug_13 rfl ?_
    refine Sim.icmp_ne 21 dX10_rug_14 rfl ?_ ?_
    · refine Sim.iconst (v := (1 : Int32)) dX10_rug_17 rfl ?_
      refine Sim.goto 22 dX10_rug_18 rfl ?_
      refine Sim.callV1I (d1 := 1) (s_X5_rugs (1 : Int32) x1.2) dX10_rug_22 ml_X10_281 mv_X5_rugs xO_X5 (Nat.le_of_ble_eq_true rfl) (Nat.le_of_ble_eq_true rfl) (Nat.le_of_ble_eq_true rfl) (fun x2 => ?_)
      refine Sim.goto 29 dX10_rug_25 rfl ?_
      exact Sim.iret dX10_rug_29 rfl
    · refine Sim.iconst (v := (0 : Int32)) dX10_rug_21 rfl ?_
      refine Sim.callV1I (d1 := 1) (s_X5_rugs (0 : Int32) x1.2) dX10_rug_22 ml_X10_281 mv_X5_rugs xO_X5 (Nat.le_of_ble_eq_true rfl) (Nat.le_of_ble_eq_true rfl) (Nat.le_of_ble_eq_true rfl) (fun x3 => ?_)
      refine Sim.goto 29 dX10_rug_25 rfl ?_
      exact Sim.iret dX10_rug_29 rfl
theorem mv_X10_rug : zMV mX10_rug 1 := ⟨⟨zTb_in 1126 (by decide +kernel) rfl, zTb_in 137 (by decide +kernel) rfl, ⟨by decide +kernel, by decide +kernel⟩, by decide +kernel⟩, zTb_in 1124 (by decide +kernel) rfl, zTb_in 1125 (by decide +kernel) rfl⟩
-- ===== RockingPorch.stack(II)I
abbrev mX10_stack : zMt := (yX10_stack, cX10_stack, 4, some .int)
theorem ml_X10_284 : Cond.methodLink RX10 284 yX5_readOrder ∈ zTb := zTb_in 1139 (by decide +kernel) rfl
theorem ml_X10_287 : Cond.methodLink RX10 287 yX5_letsOut ∈ zTb := zTb_in 1143 (by decide +kernel) rfl
theorem ml_X10_290 : Cond.methodLink RX10 290 yX5_tracks ∈ zTb := zTb_in 1147 (by decide +kernel) rfl
theorem dX10_stack_0 : decode cX10_stack 0 = .ok (.aload_n 0, 1) := by decide +kernel
theorem dX10_stack_1 : decode cX10_stack 1 = .ok (.getfield 64, 3) := by decide +kernel
theorem dX10_stack_4 : decode cX10_stack 4 = .ok (.iload_n 1, 1) := by decide +kernel
theorem dX10_stack_5 : decode cX10_stack 5 = .ok (.invokevirtual 284, 3) := by decide +kernel
theorem dX10_stack_8 : decode cX10_stack 8 = .ok (.istore_n 3, 1) := by decide +kernel
theorem dX10_stack_9 : decode cX10_stack 9 = .ok (.iload_n 3, 1) := by decide +kernel
theorem dX10_stack_10 : decode cX10_stack 10 = .ok (.ifCond .eq 11, 3) := by decide +kernel
theorem dX10_stack_13 : decode cX10_stack 13 = .ok (.iload_n 2, 1) := by decide +kernel
theorem dX10_stack_14 : decode cX10_stack 14 = .ok (.iconst 1, 1) := by decide +kernel
theorem dX10_stack_15 : decode cX10_stack 15 = .ok (.invokestatic 78, 3) := by decide +kernel
theorem dX10_stack_18 : decode cX10_stack 18 = .ok (.ifCond .ne 5, 3) := by decide +kernel
theorem dX10_stack_21 : decode cX10_stack 21 = .ok (.iconst (-1), 1) := by decide +kernel
theorem dX10_stack_22 : decode cX10_stack 22 = .ok (.ireturn, 1) := by decide +kernel
theorem dX10_stack_23 : decode cX10_stack 23 = .ok (.iload_n 2, 1) := by decide +kernel
theorem dX10_stack_24 : decode cX10_stack 24 = .ok (.ifCond .ne 14, 3) := by decide +kernel
theorem dX10_stack_27 : decode cX10_stack 27 = .ok (.aload_n 0, 1) := by decide +kernel
theorem dX10_stack_28 : decode cX10_stack 28 = .ok (.getfield 64, 3) := by decide +kernel
theorem dX10_stack_31 : decode cX10_stack 31 = .ok (.iload_n 3, 1) := by decide +kernel
theorem dX10_stack_32 : decode cX10_stack 32 = .ok (.invokevirtual 287, 3) := by decide +kernel
theorem dX10_stack_35 : decode cX10_stack 35 = .ok (.goto 11, 3) := by decide +kernel
theorem dX10_stack_38 : decode cX10_stack 38 = .ok (.aload_n 0, 1) := by decide +kernel
theorem dX10_stack_39 : decode cX10_stack 39 = .ok (.getfield 64, 3) := by decide +kernel
theorem dX10_stack_42 : decode cX10_stack 42 = .ok (.iload_n 3, 1) := by decide +kernel
theorem dX10_stack_43 : decode cX10_stack 43 = .ok (.invokevirtual 290, 3) := by decide +kernel
theorem dX10_stack_46 : decode cX10_stack 46 = .ok (.ireturn, 1) := by decide +kernel
def f_X10_stack  (a1 : Int32) (a2 : Int32) (h : zHp) : Option (Int32 × zHp) := (f_X5_readOrder a1 h).bind fun x1 => (if x1.1 = 0 then some ((-1 : Int32), x1.2) else (f_X10_within a2 (1 : Int32) x1.2).bind fun x2 => (if x2.1 = 0 then some ((-1 : Int32), x2.2) else (if a2 = 0 then (f_X5_letsOut x1.1 x2.2).bind fun x3 => some (x3.1, x3.2) else (f_X5_tracks x1.1 x2.2).bind fun x4 => some (x4.1, x4.2))))
set_option maxHeartbeats 4000000 in
set_option maxRecDepth 100000 in
theorem s_X10_stack  (a1 : Int32) (a2 : Int32) (h : zHp) : Fn wX mX10_stack 2 rI [.ref 0, .int a1, .int a2] h (f_X10_stack a1 a2 h) := by
  refine Fn.of rfl (Nat.le_of_ble_eq_true rfl) ?_
  unfold f_X10_stack
  refine Sim.aload_n 0 dX10_stack_0 rfl ?_
  refine Sim.getR (j := 161) fl_X10_64 dX10_stack_1 xR_0_7 ?_
  refine Sim.iload_n 1 dX10_stack_4 rfl ?_
  refine Sim.callV1I (d1 := 0) (s_X5_readOrder a1 h) dX10_stack_5 ml_X10_284 mv_X5_readOrder xO_X5 (Nat.le_of_ble_eq_true rfl) (Nat.le_of_ble_eq_true rfl) (Nat.le_of_ble_eq_true rfl) (fun x1 => ?_)
  refine Sim.istore_n (L' := [(3, .int x1.1), (0, .ref 0), (1, .int a1), (2, .int a2)]) dX10_stack_8 (Nat.le_of_ble_eq_true rfl) rfl ?_
  refine Sim.iload_n 0 dX10_stack_9 rfl ?_
  refine Sim.if_eq 21 dX10_stack_10 rfl ?_ ?_
  · refine Sim.iconst (v := (-1 : Int32)) dX10_stack_21 rfl ?_
    exact Sim.iret dX10_stack_22 rfl
  · refine Sim.iload_n 3 dX10_stack_13 rfl ?_
    refine Sim.iconst (v := (1 : Int32)) dX10_stack_14 rfl ?_
    refine Sim.callS2I (d1 := 0) (s_X10_within a2 (1 : Int32) x1.2) dX10_stack_15 ml_X10_78 mv_X10_within (Nat.le_of_ble_eq_true rfl) (Nat.le_of_ble_eq_true rfl) (Nat.le_of_ble_eq_true rfl) (fun x2 => ?_)
    refine Sim.if_ne 23 dX10_stack_18 rfl ?_ ?_
    · refine Sim.iconst (v := (-1 : Int32)) dX10_stack_21 rfl ?_
      exact Sim.iret dX10_stack_22 rfl
    · refine Sim.iload_n 3 dX10_stack_23 rfl ?_
      refine Sim.if_ne 38 dX10_stack_24 rfl ?_ ?_
      · refine Sim.aload_n 1 dX10_stack_27 rfl ?_
        refine Sim.getR (j := 161) fl_X10_64 dX10_stack_28 xR_0_7 ?_
        refine Sim.iload_n 0 dX10_stack_31 rfl ?_
        refine Sim.callV1I (d1 := 0) (s_X5_letsOut x1.1 x2.2) dX10_stack_32 ml_X10_287 mv_X5_letsOut xO_X5 (Nat.le_of_ble_eq_true rfl) (Nat.le_of_ble_eq_true rfl) (Nat.le_of_ble_eq_true rfl) (fun x3 => ?_)
        refine Sim.goto 46 dX10_stack_35 rfl ?_
        exact Sim.iret dX10_stack_46 rfl
      · refine Sim.aload_n 1 dX10_stack_38 rfl ?_
        refine Sim.getR (j := 161) fl_X10_64 dX10_stack_39 xR_0_7 ?_
        refine Sim.iload_n 0 dX10_stack_42 rfl ?_
        refine Sim.callV1I (d1 := 1) (s_X5_tracks x1.1 x2.2) dX10_stack_43 ml_X10_290 mv_X5_tracks xO_X5 (Nat.le_of_ble_eq_true rfl) (Nat.le_of_ble_eq_true rfl) (Nat.le_of_ble_eq_true rfl) (fun x4 => ?_)
        exact Sim.iret dX10_stack_46 rfl
theorem mv_X10_stack : zMV mX10_stack 2 := ⟨⟨zTb_in 1138 (by decide +kernel) rfl, zTb_in 137 (by decide +kernel) rfl, ⟨by decide +kernel, by decide +kernel⟩, by decide +kernel⟩, zTb_in 1136 (by decide +kernel) rfl, zTb_in 1137 (by decide +kernel) rfl⟩
-- ===== RockingPorch.weight(I)I
abbrev mX10_weight : zMt := (yX10_weight, cX10_weight, 2, some .int)
theorem fl_X10_293 : zF RX10 293 8 3 := ⟨RX8, TX8, 7, rfl, Nat.le_of_ble_eq_true rfl, zTb_in 335 (by decide +kernel) rfl, in_X8⟩
theorem dX10_weight_0 : decode cX10_weight 0 = .ok (.iload_n 1, 1) := by decide +kernel
theorem dX10_weight_1 : decode cX10_weight 1 = .ok (.iconst (-1), 1) := by decide +kernel
theorem dX10_weight_2 : decode cX10_weight 2 = .ok (.if_icmp .ne 17, 3) := by decide +kernel
theorem dX10_weight_5 : decode cX10_weight 5 = .ok (.aload_n 0, 1) := by decide +kernel
theorem dX10_weight_6 : decode cX10_weight 6 = .ok (.getfield 12, 3) := by decide +kernel
theorem dX10_weight_9 : decode cX10_weight 9 = .ok (.getfield 57, 3) := by decide +kernel
theorem dX10_weight_12 : decode cX10_weight 12 = .ok (.getfield 293, 3) := by decide +kernel
theorem dX10_weight_15 : decode cX10_weight 15 = .ok (.invokevirtual 244, 3) := by decide +kernel
theorem dX10_weight_18 : decode cX10_weight 18 = .ok (.ireturn, 1) := by decide +kernel
theorem dX10_weight_19 : decode cX10_weight 19 = .ok (.iload_n 1, 1) := by decide +kernel
theorem dX10_weight_20 : decode cX10_weight 20 = .ok (.iconst 1, 1) := by decide +kernel
theorem dX10_weight_21 : decode cX10_weight 21 = .ok (.if_icmp .lt 9, 3) := by decide +kernel
theorem dX10_weight_24 : decode cX10_weight 24 = .ok (.iload_n 1, 1) := by decide +kernel
theorem dX10_weight_25 : decode cX10_weight 25 = .ok (.bipush 99, 2) := by decide +kernel
theorem dX10_weight_27 : decode cX10_weight 27 = .ok (.if_icmp .le 7, 3) := by decide +kernel
theorem dX10_weight_30 : decode cX10_weight 30 = .ok (.iconst (-1), 1) := by decide +kernel
theorem dX10_weight_31 : decode cX10_weight 31 = .ok (.goto 17, 3) := by decide +kernel
theorem dX10_weight_34 : decode cX10_weight 34 = .ok (.aload_n 0, 1) := by decide +kernel
theorem dX10_weight_35 : decode cX10_weight 35 = .ok (.getfield 12, 3) := by decide +kernel
theorem dX10_weight_38 : decode cX10_weight 38 = .ok (.getfield 57, 3) := by decide +kernel
theorem dX10_weight_41 : decode cX10_weight 41 = .ok (.getfield 293, 3) := by decide +kernel
theorem dX10_weight_44 : decode cX10_weight 44 = .ok (.iload_n 1, 1) := by decide +kernel
theorem dX10_weight_45 : decode cX10_weight 45 = .ok (.invokevirtual 252, 3) := by decide +kernel
theorem dX10_weight_48 : decode cX10_weight 48 = .ok (.ireturn, 1) := by decide +kernel
def f_X10_weight  (a1 : Int32) (h : zHp) : Option (Int32 × zHp) := (if a1 = (-1 : Int32) then (f_X7_clear 33 h).bind fun x1 => some (x1.1, x1.2) else (if a1 < (1 : Int32) then some ((-1 : Int32), h) else (if (99 : Int32) < a1 then some ((-1 : Int32), h) else (f_X7_add 33 a1 h).bind fun x2 => some (x2.1, x2.2))))
set_option maxHeartbeats 4000000 in
set_option maxRecDepth 100000 in
theorem s_X10_weight  (a1 : Int32) (h : zHp) : Fn wX mX10_weight 1 rI [.ref 0, .int a1] h (f_X10_weight a1 h) := by
  refine Fn.of rfl (Nat.le_of_ble_eq_true rfl) ?_
  unfold f_X10_weight
  refine Sim.iload_n 1 dX10_weight_0 rfl ?_
  refine Sim.iconst (v := (-1 : Int32)) dX10_weight_1 rfl ?_
  refine Sim.icmp_ne 19 dX10_weight_2 rfl ?_ ?_
  · refine Sim.aload_n 0 dX10_weight_5 rfl ?_
    refine Sim.getR (j := 1) fl_X10_12 dX10_weight_6 xR_0_0 ?_
    refine Sim.getR (j := 26) fl_X10_57 dX10_weight_9 (xR_X9_6 _ xL_X9_1) ?_
    refine Sim.getR (j := 33) fl_X10_293 dX10_weight_12 (xR_X8_3 _ xL_X8_26) ?_
    refine Sim.callV0I (d1 := 0) (s_X7_clear 33 xL_X7_33 h) dX10_weight_15 ml_X10_244 mv_X7_clear (xOC_X7 _ xL_X7_33) (Nat.le_of_ble_eq_true rfl) (Nat.le_of_ble_eq_true rfl) (Nat.le_of_ble_eq_true rfl) (fun x1 => ?_)
    exact Sim.iret dX10_weight_18 rfl
  · refine Sim.iload_n 1 dX10_weight_19 rfl ?_
    refine Sim.iconst (v := (1 : Int32)) dX10_weight_20 rfl ?_
    refine Sim.icmp_lt 30 dX10_weight_21 rfl ?_ ?_
    · refine Sim.iconst (v := (-1 : Int32)) dX10_weight_30 rfl ?_
      refine Sim.goto 48 dX10_weight_31 rfl ?_
      exact Sim.iret dX10_weight_48 rfl
    · refine Sim.iload_n 1 dX10_weight_24 rfl ?_
      refine Sim.bipush (v := (99 : Int32)) dX10_weight_25 rfl ?_
      refine Sim.icmp_le 34 dX10_weight_27 rfl ?_ ?_
      · refine Sim.iconst (v := (-1 : Int32)) dX10_weight_30 rfl ?_
        refine Sim.goto 48 dX10_weight_31 rfl ?_
        exact Sim.iret dX10_weight_48 rfl
      · refine Sim.aload_n 0 dX10_weight_34 rfl ?_
        refine Sim.getR (j := 1) fl_X10_12 dX10_weight_35 xR_0_0 ?_
        refine Sim.getR (j := 26) fl_X10_57 dX10_weight_38 (xR_X9_6 _ xL_X9_1) ?_
        refine Sim.getR (j := 33) fl_X10_293 dX10_weight_41 (xR_X8_3 _ xL_X8_26) ?_
        refine Sim.iload_n 1 dX10_weight_44 rfl ?_
        refine Sim.callV1I (d1 := 0) (s_X7_add 33 xL_X7_33 a1 h) dX10_weight_45 ml_X10_252 mv_X7_add (xOC_X7 _ xL_X7_33) (Nat.le_of_ble_eq_true rfl) (Nat.le_of_ble_eq_true rfl) (Nat.le_of_ble_eq_true rfl) (fun x2 => ?_)
        exact Sim.iret dX10_weight_48 rfl
theorem mv_X10_weight : zMV mX10_weight 1 := ⟨⟨zTb_in 1154 (by decide +kernel) rfl, zTb_in 137 (by decide +kernel) rfl, ⟨by decide +kernel, by decide +kernel⟩, by decide +kernel⟩, zTb_in 1152 (by decide +kernel) rfl, zTb_in 1153 (by decide +kernel) rfl⟩
-- ===== RockingPorch.trunks(II)I
abbrev mX10_trunks : zMt := (yX10_trunks, cX10_trunks, 3, some .int)
theorem ml_X10_296 : Cond.methodLink RX10 296 yX7_greatest ∈ zTb := zTb_in 1159 (by decide +kernel) rfl
theorem ml_X10_299 : Cond.methodLink RX10 299 yX5_firstFit ∈ zTb := zTb_in 1164 (by decide +kernel) rfl
theorem ml_X10_302 : Cond.methodLink RX10 302 yX5_fewestTrunks ∈ zTb := zTb_in 1168 (by decide +kernel) rfl
theorem dX10_trunks_0 : decode cX10_trunks 0 = .ok (.iload_n 1, 1) := by decide +kernel
theorem dX10_trunks_1 : decode cX10_trunks 1 = .ok (.iconst 1, 1) := by decide +kernel
theorem dX10_trunks_2 : decode cX10_trunks 2 = .ok (.if_icmp .lt 34, 3) := by decide +kernel
theorem dX10_trunks_5 : decode cX10_trunks 5 = .ok (.iload_n 1, 1) := by decide +kernel
theorem dX10_trunks_6 : decode cX10_trunks 6 = .ok (.bipush 99, 2) := by decide +kernel
theorem dX10_trunks_8 : decode cX10_trunks 8 = .ok (.if_icmp .gt 28, 3) := by decide +kernel
theorem dX10_trunks_11 : decode cX10_trunks 11 = .ok (.iload_n 2, 1) := by decide +kernel
theorem dX10_trunks_12 : decode cX10_trunks 12 = .ok (.iconst 1, 1) := by decide +kernel
theorem dX10_trunks_13 : decode cX10_trunks 13 = .ok (.invokestatic 78, 3) := by decide +kernel
theorem dX10_trunks_16 : decode cX10_trunks 16 = .ok (.ifCond .eq 20, 3) := by decide +kernel
theorem dX10_trunks_19 : decode cX10_trunks 19 = .ok (.aload_n 0, 1) := by decide +kernel
theorem dX10_trunks_20 : decode cX10_trunks 20 = .ok (.getfield 12, 3) := by decide +kernel
theorem dX10_trunks_23 : decode cX10_trunks 23 = .ok (.getfield 57, 3) := by decide +kernel
theorem dX10_trunks_26 : decode cX10_trunks 26 = .ok (.getfield 293, 3) := by decide +kernel
theorem dX10_trunks_29 : decode cX10_trunks 29 = .ok (.invokevirtual 296, 3) := by decide +kernel
theorem dX10_trunks_32 : decode cX10_trunks 32 = .ok (.iload_n 1, 1) := by decide +kernel
theorem dX10_trunks_33 : decode cX10_trunks 33 = .ok (.if_icmp .le 5, 3) := by decide +kernel
theorem dX10_trunks_36 : decode cX10_trunks 36 = .ok (.iconst (-1), 1) := by decide +kernel
theorem dX10_trunks_37 : decode cX10_trunks 37 = .ok (.ireturn, 1) := by decide +kernel
theorem dX10_trunks_38 : decode cX10_trunks 38 = .ok (.iload_n 2, 1) := by decide +kernel
theorem dX10_trunks_39 : decode cX10_trunks 39 = .ok (.ifCond .ne 14, 3) := by decide +kernel
theorem dX10_trunks_42 : decode cX10_trunks 42 = .ok (.aload_n 0, 1) := by decide +kernel
theorem dX10_trunks_43 : decode cX10_trunks 43 = .ok (.getfield 64, 3) := by decide +kernel
theorem dX10_trunks_46 : decode cX10_trunks 46 = .ok (.iload_n 1, 1) := by decide +kernel
theorem dX10_trunks_47 : decode cX10_trunks 47 = .ok (.invokevirtual 299, 3) := by decide +kernel
theorem dX10_trunks_50 : decode cX10_trunks 50 = .ok (.goto 11, 3) := by decide +kernel
theorem dX10_trunks_53 : decode cX10_trunks 53 = .ok (.aload_n 0, 1) := by decide +kernel
theorem dX10_trunks_54 : decode cX10_trunks 54 = .ok (.getfield 64, 3) := by decide +kernel
theorem dX10_trunks_57 : decode cX10_trunks 57 = .ok (.iload_n 1, 1) := by decide +kernel
theorem dX10_trunks_58 : decode cX10_trunks 58 = .ok (.invokevirtual 302, 3) := by decide +kernel
theorem dX10_trunks_61 : decode cX10_trunks 61 = .ok (.ireturn, 1) := by decide +kernel
def f_X10_trunks  (a1 : Int32) (a2 : Int32) (h : zHp) : Option (Int32 × zHp) := (if a1 < (1 : Int32) then some ((-1 : Int32), h) else (if (99 : Int32) < a1 then some ((-1 : Int32), h) else (f_X10_within a2 (1 : Int32) h).bind fun x1 => (if x1.1 = 0 then some ((-1 : Int32), x1.2) else (f_X7_greatest 33 x1.2).bind fun x2 => (if a1 < x2.1 then some ((-1 : Int32), x2.2) else (if a2 = 0 then (f_X5_firstFit a1 x2.2).bind fun x3 => some (x3.1, x3.2) else (f_X5_fewestTrunks a1 x2.2).bind fun x4 => some (x4.1, x4.2))))))
set_option maxHeartbeats 4000000 in
set_option maxRecDepth 100000 in
theorem s_X10_trunks  (a1 : Int32) (a2 : Int32) (h : zHp) : Fn wX mX10_trunks 2 rI [.ref 0, .int a1, .int a2] h (f_X10_trunks a1 a2 h) := by
  refine Fn.of rfl (Nat.le_of_ble_eq_true rfl) ?_
  unfold f_X10_trunks
  refine Sim.iload_n 1 dX10_trunks_0 rfl ?_
  refine Sim.iconst (v := (1 : Int32)) dX10_trunks_1 rfl ?_
  refine Sim.icmp_lt 36 dX10_trunks_2 rfl ?_ ?_
  · refine Sim.iconst (v := (-1 : Int32)) dX10_trunks_36 rfl ?_
    exact Sim.iret dX10_trunks_37 rfl
  · refine Sim.iload_n 1 dX10_trunks_5 rfl ?_
    refine Sim.bipush (v := (99 : Int32)) dX10_trunks_6 rfl ?_
    refine Sim.icmp_gt 36 dX10_trunks_8 rfl ?_ ?_
    · refine Sim.iconst (v := (-1 : Int32)) dX10_trunks_36 rfl ?_
      exact Sim.iret dX10_trunks_37 rfl
    · refine Sim.iload_n 2 dX10_trunks_11 rfl ?_
      refine Sim.iconst (v := (1 : Int32)) dX10_trunks_12 rfl ?_
      refine Sim.callS2I (d1 := 0) (s_X10_within a2 (1 : Int32) h) dX10_trunks_13 ml_X10_78 mv_X10_within (Nat.le_of_ble_eq_true rfl) (Nat.le_of_ble_eq_true rfl) (Nat.le_of_ble_eq_true rfl) (fun x1 => ?_)
      refine Sim.if_eq 36 dX10_trunks_16 rfl ?_ ?_
      · refine Sim.iconst (v := (-1 : Int32)) dX10_trunks_36 rfl ?_
        exact Sim.iret dX10_trunks_37 rfl
      · refine Sim.aload_n 0 dX10_trunks_19 rfl ?_
        refine Sim.getR (j := 1) fl_X10_12 dX10_trunks_20 xR_0_0 ?_
        refine Sim.getR (j := 26) fl_X10_57 dX10_trunks_23 (xR_X9_6 _ xL_X9_1) ?_
        refine Sim.getR (j := 33) fl_X10_293 dX10_trunks_26 (xR_X8_3 _ xL_X8_26) ?_
        refine Sim.callV0I (d1 := 1) (s_X7_greatest 33 xL_X7_33 x1.2) dX10_trunks_29 ml_X10_296 mv_X7_greatest (xOC_X7 _ xL_X7_33) (Nat.le_of_ble_eq_true rfl) (Nat.le_of_ble_eq_true rfl) (Nat.le_of_ble_eq_true rfl) (fun x2 => ?_)
        refine Sim.iload_n 1 dX10_trunks_32 rfl ?_
        refine Sim.icmp_le 38 dX10_trunks_33 rfl ?_ ?_
        · refine Sim.iconst (v := (-1 : Int32)) dX10_trunks_36 rfl ?_
          exact Sim.iret dX10_trunks_37 rfl
        · refine Sim.iload_n 2 dX10_trunks_38 rfl ?_
          refine Sim.if_ne 53 dX10_trunks_39 rfl ?_ ?_
          · refine Sim.aload_n 0 dX10_trunks_42 rfl ?_
            refine Sim.getR (j := 161) fl_X10_64 dX10_trunks_43 xR_0_7 ?_
            refine Sim.iload_n 1 dX10_trunks_46 rfl ?_
            refine Sim.callV1I (d1 := 1) (s_X5_firstFit a1 x2.2) dX10_trunks_47 ml_X10_299 mv_X5_firstFit xO_X5 (Nat.le_of_ble_eq_true rfl) (Nat.le_of_ble_eq_true rfl) (Nat.le_of_ble_eq_true rfl) (fun x3 => ?_)
            refine Sim.goto 61 dX10_trunks_50 rfl ?_
            exact Sim.iret dX10_trunks_61 rfl
          · refine Sim.aload_n 0 dX10_trunks_53 rfl ?_
            refine Sim.getR (j := 161) fl_X10_64 dX10_trunks_54 xR_0_7 ?_
            refine Sim.iload_n 1 dX10_trunks_57 rfl ?_
            refine Sim.callV1I (d1 := 1) (s_X5_fewestTrunks a1 x2.2) dX10_trunks_58 ml_X10_302 mv_X5_fewestTrunks xO_X5 (Nat.le_of_ble_eq_true rfl) (Nat.le_of_ble_eq_true rfl) (Nat.le_of_ble_eq_true rfl) (fun x4 => ?_)
            exact Sim.iret dX10_trunks_61 rfl
theorem mv_X10_trunks : zMV mX10_trunks 2 := ⟨⟨zTb_in 1158 (by decide +kernel) rfl, zTb_in 137 (by decide +kernel) rfl, ⟨by decide +kernel, by decide +kernel⟩, by decide +kernel⟩, zTb_in 1156 (by decide +kernel) rfl, zTb_in 1157 (by decide +kernel) rfl⟩
-- ===== RockingPorch.throwing(I)I
abbrev mX10_throwing : zMt := (yX10_throwing, cX10_throwing, 2, some .int)
theorem ml_X10_305 : Cond.methodLink RX10 305 yX5_fit ∈ zTb := zTb_in 1179 (by decide +kernel) rfl
theorem dX10_throwing_0 : decode cX10_throwing 0 = .ok (.iload_n 1, 1) := by decide +kernel
theorem dX10_throwing_1 : decode cX10_throwing 1 = .ok (.iconst 2, 1) := by decide +kernel
theorem dX10_throwing_2 : decode cX10_throwing 2 = .ok (.if_icmp .lt 10, 3) := by decide +kernel
theorem dX10_throwing_5 : decode cX10_throwing 5 = .ok (.iload_n 1, 1) := by decide +kernel
theorem dX10_throwing_6 : decode cX10_throwing 6 = .ok (.sipush 511, 3) := by decide +kernel
theorem dX10_throwing_9 : decode cX10_throwing 9 = .ok (.if_icmp .le 7, 3) := by decide +kernel
theorem dX10_throwing_12 : decode cX10_throwing 12 = .ok (.iconst (-1), 1) := by decide +kernel
theorem dX10_throwing_13 : decode cX10_throwing 13 = .ok (.goto 8, 3) := by decide +kernel
theorem dX10_throwing_16 : decode cX10_throwing 16 = .ok (.iload_n 1, 1) := by decide +kernel
theorem dX10_throwing_17 : decode cX10_throwing 17 = .ok (.iload_n 1, 1) := by decide +kernel
theorem dX10_throwing_18 : decode cX10_throwing 18 = .ok (.invokestatic 305, 3) := by decide +kernel
theorem dX10_throwing_21 : decode cX10_throwing 21 = .ok (.ireturn, 1) := by decide +kernel
def f_X10_throwing  (a1 : Int32) (h : zHp) : Option (Int32 × zHp) := (if a1 < (2 : Int32) then some ((-1 : Int32), h) else (if (511 : Int32) < a1 then some ((-1 : Int32), h) else (f_X5_fit a1 a1 h).bind fun x1 => some (x1.1, x1.2)))
set_option maxHeartbeats 4000000 in
set_option maxRecDepth 100000 in
theorem s_X10_throwing  (a1 : Int32) (h : zHp) : Fn wX mX10_throwing 2 rI [.ref 0, .int a1] h (f_X10_throwing a1 h) := by
  refine Fn.of rfl (Nat.le_of_ble_eq_true rfl) ?_
  unfold f_X10_throwing
  refine Sim.iload_n 1 dX10_throwing_0 rfl ?_
  refine Sim.iconst (v := (2 : Int32)) dX10_throwing_1 rfl ?_
  refine Sim.icmp_lt 12 dX10_throwing_2 rfl ?_ ?_
  · refine Sim.iconst (v := (-1 : Int32)) dX10_throwing_12 rfl ?_
    refine Sim.goto 21 dX10_throwing_13 rfl ?_
    exact Sim.iret dX10_throwing_21 rfl
  · refine Sim.iload_n 1 dX10_throwing_5 rfl ?_
    refine Sim.sipush (v := (511 : Int32)) dX10_throwing_6 rfl ?_
    refine Sim.icmp_le 16 dX10_throwing_9 rfl ?_ ?_
    · refine Sim.iconst (v := (-1 : Int32)) dX10_throwing_12 rfl ?_
      refine Sim.goto 21 dX10_throwing_13 rfl ?_
      exact Sim.iret dX10_throwing_21 rfl
    · refine Sim.iload_n 1 dX10_throwing_16 rfl ?_
      refine Sim.iload_n 1 dX10_throwing_17 rfl ?_
      refine Sim.callS2I (d1 := 1) (s_X5_fit a1 a1 h) dX10_throwing_18 ml_X10_305 mv_X5_fit (Nat.le_of_ble_eq_true rfl) (Nat.le_of_ble_eq_true rfl) (Nat.le_of_ble_eq_true rfl) (fun x1 => ?_)
      exact Sim.iret dX10_throwing_21 rfl
theorem mv_X10_throwing : zMV mX10_throwing 1 := ⟨⟨zTb_in 1178 (by decide +kernel) rfl, zTb_in 137 (by decide +kernel) rfl, ⟨by decide +kernel, by decide +kernel⟩, by decide +kernel⟩, zTb_in 1176 (by decide +kernel) rfl, zTb_in 1177 (by decide +kernel) rfl⟩
-- ===== RockingPorch.ahead(III)I
abbrev mX10_ahead : zMt := (yX10_ahead, cX10_ahead, 4, some .int)
theorem ml_X10_308 : Cond.methodLink RX10 308 yX5_throwsOf ∈ zTb := zTb_in 1189 (by decide +kernel) rfl
theorem ml_X10_311 : Cond.methodLink RX10 311 yX5_likely ∈ zTb := zTb_in 1190 (by decide +kernel) rfl
theorem dX10_ahead_0 : decode cX10_ahead 0 = .ok (.iload_n 1, 1) := by decide +kernel
theorem dX10_ahead_1 : decode cX10_ahead 1 = .ok (.iconst 2, 1) := by decide +kernel
theorem dX10_ahead_2 : decode cX10_ahead 2 = .ok (.if_icmp .lt 46, 3) := by decide +kernel
theorem dX10_ahead_5 : decode cX10_ahead 5 = .ok (.iload_n 1, 1) := by decide +kernel
theorem dX10_ahead_6 : decode cX10_ahead 6 = .ok (.sipush 511, 3) := by decide +kernel
theorem dX10_ahead_9 : decode cX10_ahead 9 = .ok (.if_icmp .gt 39, 3) := by decide +kernel
theorem dX10_ahead_12 : decode cX10_ahead 12 = .ok (.iload_n 2, 1) := by decide +kernel
theorem dX10_ahead_13 : decode cX10_ahead 13 = .ok (.iconst 2, 1) := by decide +kernel
theorem dX10_ahead_14 : decode cX10_ahead 14 = .ok (.if_icmp .lt 34, 3) := by decide +kernel
theorem dX10_ahead_17 : decode cX10_ahead 17 = .ok (.iload_n 2, 1) := by decide +kernel
theorem dX10_ahead_18 : decode cX10_ahead 18 = .ok (.sipush 511, 3) := by decide +kernel
theorem dX10_ahead_21 : decode cX10_ahead 21 = .ok (.if_icmp .gt 27, 3) := by decide +kernel
theorem dX10_ahead_24 : decode cX10_ahead 24 = .ok (.iload_n 1, 1) := by decide +kernel
theorem dX10_ahead_25 : decode cX10_ahead 25 = .ok (.iload_n 2, 1) := by decide +kernel
theorem dX10_ahead_26 : decode cX10_ahead 26 = .ok (.if_icmp .eq 22, 3) := by decide +kernel
theorem dX10_ahead_29 : decode cX10_ahead 29 = .ok (.iload_n 3, 1) := by decide +kernel
theorem dX10_ahead_30 : decode cX10_ahead 30 = .ok (.iconst 1, 1) := by decide +kernel
theorem dX10_ahead_31 : decode cX10_ahead 31 = .ok (.invokestatic 78, 3) := by decide +kernel
theorem dX10_ahead_34 : decode cX10_ahead 34 = .ok (.ifCond .eq 14, 3) := by decide +kernel
theorem dX10_ahead_37 : decode cX10_ahead 37 = .ok (.iload_n 1, 1) := by decide +kernel
theorem dX10_ahead_38 : decode cX10_ahead 38 = .ok (.invokestatic 308, 3) := by decide +kernel
theorem dX10_ahead_41 : decode cX10_ahead 41 = .ok (.iload_n 2, 1) := by decide +kernel
theorem dX10_ahead_42 : decode cX10_ahead 42 = .ok (.invokestatic 308, 3) := by decide +kernel
theorem dX10_ahead_45 : decode cX10_ahead 45 = .ok (.if_icmp .eq 5, 3) := by decide +kernel
theorem dX10_ahead_48 : decode cX10_ahead 48 = .ok (.iconst (-1), 1) := by decide +kernel
theorem dX10_ahead_49 : decode cX10_ahead 49 = .ok (.ireturn, 1) := by decide +kernel
theorem dX10_ahead_50 : decode cX10_ahead 50 = .ok (.iload_n 1, 1) := by decide +kernel
theorem dX10_ahead_51 : decode cX10_ahead 51 = .ok (.iload_n 2, 1) := by decide +kernel
theorem dX10_ahead_52 : decode cX10_ahead 52 = .ok (.iload_n 3, 1) := by decide +kernel
theorem dX10_ahead_53 : decode cX10_ahead 53 = .ok (.iconst 1, 1) := by decide +kernel
theorem dX10_ahead_54 : decode cX10_ahead 54 = .ok (.if_icmp .ne 7, 3) := by decide +kernel
theorem dX10_ahead_57 : decode cX10_ahead 57 = .ok (.iconst 1, 1) := by decide +kernel
theorem dX10_ahead_58 : decode cX10_ahead 58 = .ok (.goto 4, 3) := by decide +kernel
theorem dX10_ahead_61 : decode cX10_ahead 61 = .ok (.iconst 0, 1) := by decide +kernel
theorem dX10_ahead_62 : decode cX10_ahead 62 = .ok (.invokestatic 311, 3) := by decide +kernel
theorem dX10_ahead_65 : decode cX10_ahead 65 = .ok (.ireturn, 1) := by decide +kernel
def f_X10_ahead  (a1 : Int32) (a2 : Int32) (a3 : Int32) (h : zHp) : Option (Int32 × zHp) := (if a1 < (2 : Int32) then some ((-1 : Int32), h) else (if (511 : Int32) < a1 then some ((-1 : Int32), h) else (if a2 < (2 : Int32) then some ((-1 : Int32), h) else (if (511 : Int32) < a2 then some ((-1 : Int32), h) else (if a1 = a2 then some ((-1 : Int32), h) else (f_X10_within a3 (1 : Int32) h).bind fun x1 => (if x1.1 = 0 then some ((-1 : Int32), x1.2) else (f_X5_throwsOf a1 x1.2).bind fun x2 => (f_X5_throwsOf a2 x2.2).bind fun x3 => (if x2.1 = x3.1 then (if a3 = (1 : Int32) then (f_X5_likely a1 a2 (1 : Int32) x3.2).bind fun x4 => some (x4.1, x4.2) else (f_X5_likely a1 a2 (0 : Int32) x3.2).bind fun x5 => some (x5.1, x5.2)) else some ((-1 : Int32), x3.2))))))))
set_option maxHeartbeats 4000000 in
set_option maxRecDepth 100000 in
theorem s_X10_ahead  (a1 : Int32) (a2 : Int32) (a3 : Int32) (h : zHp) : Fn wX mX10_ahead 3 rI [.ref 0, .int a1, .int a2, .int a3] h (f_X10_ahead a1 a2 a3 h) := by
  refine Fn.of rfl (Nat.le_of_ble_eq_true rfl) ?_
  unfold f_X10_ahead
  refine Sim.iload_n 1 dX10_ahead_0 rfl ?_
  refine Sim.iconst (v := (2 : Int32)) dX10_ahead_1 rfl ?_
  refine Sim.icmp_lt 48 dX10_ahead_2 rfl ?_ ?_
  · refine Sim.iconst (v := (-1 : Int32)) dX10_ahead_48 rfl ?_
    exact Sim.iret dX10_ahead_49 rfl
  · refine Sim.iload_n 1 dX10_ahead_5 rfl ?_
    refine Sim.sipush (v := (511 : Int32)) dX10_ahead_6 rfl ?_
    refine Sim.icmp_gt 48 dX10_ahead_9 rfl ?_ ?_
    · refine Sim.iconst (v := (-1 : Int32)) dX10_ahead_48 rfl ?_
      exact Sim.iret dX10_ahead_49 rfl
    · refine Sim.iload_n 2 dX10_ahead_12 rfl ?_
      refine Sim.iconst (v := (2 : Int32)) dX10_ahead_13 rfl ?_
      refine Sim.icmp_lt 48 dX10_ahead_14 rfl ?_ ?_
      · refine Sim.iconst (v := (-1 : Int32)) dX10_ahead_48 rfl ?_
        exact Sim.iret dX10_ahead_49 rfl
      · refine Sim.iload_n 2 dX10_ahead_17 rfl ?_
        refine Sim.sipush (v := (511 : Int32)) dX10_ahead_18 rfl ?_
        refine Sim.icmp_gt 48 dX10_ahead_21 rfl ?_ ?_
        · refine Sim.iconst (v := (-1 : Int32)) dX10_ahead_48 rfl ?_
          exact Sim.iret dX10_ahead_49 rfl
        · refine Sim.iload_n 1 dX10_ahead_24 rfl ?_
          refine Sim.iload_n 2 dX10_ahead_25 rfl ?_
          refine Sim.icmp_eq 48 dX10_ahead_26 rfl ?_ ?_
          · refine Sim.iconst (v := (-1 : Int32)) dX10_ahead_48 rfl ?_
            exact Sim.iret dX10_ahead_49 rfl
          · refine Sim.iload_n 3 dX10_ahead_29 rfl ?_
            refine Sim.iconst (v := (1 : Int32)) dX10_ahead_30 rfl ?_
            refine Sim.callS2I (d1 := 0) (s_X10_within a3 (1 : Int32) h) dX10_ahead_31 ml_X10_78 mv_X10_within (Nat.le_of_ble_eq_true rfl) (Nat.le_of_ble_eq_true rfl) (Nat.le_of_ble_eq_true rfl) (fun x1 => ?_)
            refine Sim.if_eq 48 dX10_ahead_34 rfl ?_ ?_
            · refine Sim.iconst (v := (-1 : Int32)) dX10_ahead_48 rfl ?_
              exact Sim.iret dX10_ahead_49 rfl
            · refine Sim.iload_n 1 dX10_ahead_37 rfl ?_
              refine Sim.callS1I (d1 := 0) (s_X5_throwsOf a1 x1.2) dX10_ahead_38 ml_X10_308 mv_X5_throwsOf (Nat.le_of_ble_eq_true rfl) (Nat.le_of_ble_eq_true rfl) (Nat.le_of_ble_eq_true rfl) (fun x2 => ?_)
              refine Sim.iload_n 2 dX10_ahead_41 rfl ?_
              refine Sim.callS1I (d1 := 0) (s_X5_throwsOf a2 x2.2) dX10_ahead_42 ml_X10_308 mv_X5_throwsOf (Nat.le_of_ble_eq_true rfl) (Nat.le_of_ble_eq_true rfl) (Nat.le_of_ble_eq_true rfl) (fun x3 => ?_)
              refine Sim.icmp_eq 50 dX10_ahead_45 rfl ?_ ?_
              · refine Sim.iload_n 1 dX10_ahead_50 rfl ?_
                refine Sim.iload_n 2 dX10_ahead_51 rfl ?_
                refine Sim.iload_n 3 dX10_ahead_52 rfl ?_
                refine Sim.iconst (v := (1 : Int32)) dX10_ahead_53 rfl ?_
                refine Sim.icmp_ne 61 dX10_ahead_54 rfl ?_ ?_
                · refine Sim.iconst (v := (1 : Int32)) dX10_ahead_57 rfl ?_
                  refine Sim.goto 62 dX10_ahead_58 rfl ?_
                  refine Sim.callS3I (d1 := 2) (s_X5_likely a1 a2 (1 : Int32) x3.2) dX10_ahead_62 ml_X10_311 mv_X5_likely (Nat.le_of_ble_eq_true rfl) (Nat.le_of_ble_eq_true rfl) (Nat.le_of_ble_eq_true rfl) (fun x4 => ?_)
                  exact Sim.iret dX10_ahead_65 rfl
                · refine Sim.iconst (v := (0 : Int32)) dX10_ahead_61 rfl ?_
                  refine Sim.callS3I (d1 := 2) (s_X5_likely a1 a2 (0 : Int32) x3.2) dX10_ahead_62 ml_X10_311 mv_X5_likely (Nat.le_of_ble_eq_true rfl) (Nat.le_of_ble_eq_true rfl) (Nat.le_of_ble_eq_true rfl) (fun x5 => ?_)
                  exact Sim.iret dX10_ahead_65 rfl
              · refine Sim.iconst (v := (-1 : Int32)) dX10_ahead_48 rfl ?_
                exact Sim.iret dX10_ahead_49 rfl
theorem mv_X10_ahead : zMV mX10_ahead 3 := ⟨⟨zTb_in 1188 (by decide +kernel) rfl, zTb_in 137 (by decide +kernel) rfl, ⟨by decide +kernel, by decide +kernel⟩, by decide +kernel⟩, zTb_in 1186 (by decide +kernel) rfl, zTb_in 1187 (by decide +kernel) rfl⟩
-- ===== RockingPorch.hands(II)I
abbrev mX10_hands : zMt := (yX10_hands, cX10_hands, 3, some .int)
theorem ml_X10_315 : Cond.methodLink RX10 315 yX5_handsApart ∈ zTb := zTb_in 1198 (by decide +kernel) rfl
theorem ml_X10_318 : Cond.methodLink RX10 318 yX5_handsAsNear ∈ zTb := zTb_in 1201 (by decide +kernel) rfl
theorem dX10_hands_0 : decode cX10_hands 0 = .ok (.iload_n 1, 1) := by decide +kernel
theorem dX10_hands_1 : decode cX10_hands 1 = .ok (.sipush 719, 3) := by decide +kernel
theorem dX10_hands_4 : decode cX10_hands 4 = .ok (.invokestatic 78, 3) := by decide +kernel
theorem dX10_hands_7 : decode cX10_hands 7 = .ok (.ifCond .eq 11, 3) := by decide +kernel
theorem dX10_hands_10 : decode cX10_hands 10 = .ok (.iload_n 2, 1) := by decide +kernel
theorem dX10_hands_11 : decode cX10_hands 11 = .ok (.iconst 1, 1) := by decide +kernel
theorem dX10_hands_12 : decode cX10_hands 12 = .ok (.invokestatic 78, 3) := by decide +kernel
theorem dX10_hands_15 : decode cX10_hands 15 = .ok (.ifCond .ne 5, 3) := by decide +kernel
theorem dX10_hands_18 : decode cX10_hands 18 = .ok (.iconst (-1), 1) := by decide +kernel
theorem dX10_hands_19 : decode cX10_hands 19 = .ok (.ireturn, 1) := by decide +kernel
theorem dX10_hands_20 : decode cX10_hands 20 = .ok (.iload_n 2, 1) := by decide +kernel
theorem dX10_hands_21 : decode cX10_hands 21 = .ok (.ifCond .ne 10, 3) := by decide +kernel
theorem dX10_hands_24 : decode cX10_hands 24 = .ok (.iload_n 1, 1) := by decide +kernel
theorem dX10_hands_25 : decode cX10_hands 25 = .ok (.invokestatic 315, 3) := by decide +kernel
theorem dX10_hands_28 : decode cX10_hands 28 = .ok (.goto 7, 3) := by decide +kernel
theorem dX10_hands_31 : decode cX10_hands 31 = .ok (.iload_n 1, 1) := by decide +kernel
theorem dX10_hands_32 : decode cX10_hands 32 = .ok (.invokestatic 318, 3) := by decide +kernel
theorem dX10_hands_35 : decode cX10_hands 35 = .ok (.ireturn, 1) := by decide +kernel
def f_X10_hands  (a1 : Int32) (a2 : Int32) (h : zHp) : Option (Int32 × zHp) := (f_X10_within a1 (719 : Int32) h).bind fun x1 => (if x1.1 = 0 then some ((-1 : Int32), x1.2) else (f_X10_within a2 (1 : Int32) x1.2).bind fun x2 => (if x2.1 = 0 then some ((-1 : Int32), x2.2) else (if a2 = 0 then (f_X5_handsApart a1 x2.2).bind fun x3 => some (x3.1, x3.2) else (f_X5_handsAsNear a1 x2.2).bind fun x4 => some (x4.1, x4.2))))
set_option maxHeartbeats 4000000 in
set_option maxRecDepth 100000 in
theorem s_X10_hands  (a1 : Int32) (a2 : Int32) (h : zHp) : Fn wX mX10_hands 3 rI [.ref 0, .int a1, .int a2] h (f_X10_hands a1 a2 h) := by
  refine Fn.of rfl (Nat.le_of_ble_eq_true rfl) ?_
  unfold f_X10_hands
  refine Sim.iload_n 1 dX10_hands_0 rfl ?_
  refine Sim.sipush (v := (719 : Int32)) dX10_hands_1 rfl ?_
  refine Sim.callS2I (d1 := 0) (s_X10_within a1 (719 : Int32) h) dX10_hands_4 ml_X10_78 mv_X10_within (Nat.le_of_ble_eq_true rfl) (Nat.le_of_ble_eq_true rfl) (Nat.le_of_ble_eq_true rfl) (fun x1 => ?_)
  refine Sim.if_eq 18 dX10_hands_7 rfl ?_ ?_
  · refine Sim.iconst (v := (-1 : Int32)) dX10_hands_18 rfl ?_
    exact Sim.iret dX10_hands_19 rfl
  · refine Sim.iload_n 2 dX10_hands_10 rfl ?_
    refine Sim.iconst (v := (1 : Int32)) dX10_hands_11 rfl ?_
    refine Sim.callS2I (d1 := 0) (s_X10_within a2 (1 : Int32) x1.2) dX10_hands_12 ml_X10_78 mv_X10_within (Nat.le_of_ble_eq_true rfl) (Nat.le_of_ble_eq_true rfl) (Nat.le_of_ble_eq_true rfl) (fun x2 => ?_)
    refine Sim.if_ne 20 dX10_hands_15 rfl ?_ ?_
    · refine Sim.iconst (v := (-1 : Int32)) dX10_hands_18 rfl ?_
      exact Sim.iret dX10_hands_19 rfl
    · refine Sim.iload_n 2 dX10_hands_20 rfl ?_
      refine Sim.if_ne 31 dX10_hands_21 rfl ?_ ?_
      · refine Sim.iload_n 1 dX10_hands_24 rfl ?_
        refine Sim.callS1I (d1 := 1) (s_X5_handsApart a1 x2.2) dX10_hands_25 ml_X10_315 mv_X5_handsApart (Nat.le_of_ble_eq_true rfl) (Nat.le_of_ble_eq_true rfl) (Nat.le_of_ble_eq_true rfl) (fun x3 => ?_)
        refine Sim.goto 35 dX10_hands_28 rfl ?_
        exact Sim.iret dX10_hands_35 rfl
      · refine Sim.iload_n 1 dX10_hands_31 rfl ?_
        refine Sim.callS1I (d1 := 2) (s_X5_handsAsNear a1 x2.2) dX10_hands_32 ml_X10_318 mv_X5_handsAsNear (Nat.le_of_ble_eq_true rfl) (Nat.le_of_ble_eq_true rfl) (Nat.le_of_ble_eq_true rfl) (fun x4 => ?_)
        exact Sim.iret dX10_hands_35 rfl
theorem mv_X10_hands : zMV mX10_hands 2 := ⟨⟨zTb_in 1197 (by decide +kernel) rfl, zTb_in 137 (by decide +kernel) rfl, ⟨by decide +kernel, by decide +kernel⟩, by decide +kernel⟩, zTb_in 1195 (by decide +kernel) rfl, zTb_in 1196 (by decide +kernel) rfl⟩
-- ===== RockingPorch.step(I)I
abbrev mX10_step : zMt := (yX10_step, cX10_step, 2, some .int)
theorem fl_X10_321 : zF RX10 321 8 4 := ⟨RX8, TX8, 7, rfl, Nat.le_of_ble_eq_true rfl, zTb_in 338 (by decide +kernel) rfl, in_X8⟩
theorem dX10_step_0 : decode cX10_step 0 = .ok (.iload_n 1, 1) := by decide +kernel
theorem dX10_step_1 : decode cX10_step 1 = .ok (.iconst (-1), 1) := by decide +kernel
theorem dX10_step_2 : decode cX10_step 2 = .ok (.if_icmp .ne 17, 3) := by decide +kernel
theorem dX10_step_5 : decode cX10_step 5 = .ok (.aload_n 0, 1) := by decide +kernel
theorem dX10_step_6 : decode cX10_step 6 = .ok (.getfield 12, 3) := by decide +kernel
theorem dX10_step_9 : decode cX10_step 9 = .ok (.getfield 57, 3) := by decide +kernel
theorem dX10_step_12 : decode cX10_step 12 = .ok (.getfield 321, 3) := by decide +kernel
theorem dX10_step_15 : decode cX10_step 15 = .ok (.invokevirtual 244, 3) := by decide +kernel
theorem dX10_step_18 : decode cX10_step 18 = .ok (.ireturn, 1) := by decide +kernel
theorem dX10_step_19 : decode cX10_step 19 = .ok (.iload_n 1, 1) := by decide +kernel
theorem dX10_step_20 : decode cX10_step 20 = .ok (.bipush 60, 2) := by decide +kernel
theorem dX10_step_22 : decode cX10_step 22 = .ok (.invokestatic 78, 3) := by decide +kernel
theorem dX10_step_25 : decode cX10_step 25 = .ok (.ifCond .eq 20, 3) := by decide +kernel
theorem dX10_step_28 : decode cX10_step 28 = .ok (.aload_n 0, 1) := by decide +kernel
theorem dX10_step_29 : decode cX10_step 29 = .ok (.getfield 12, 3) := by decide +kernel
theorem dX10_step_32 : decode cX10_step 32 = .ok (.getfield 57, 3) := by decide +kernel
theorem dX10_step_35 : decode cX10_step 35 = .ok (.getfield 321, 3) := by decide +kernel
theorem dX10_step_38 : decode cX10_step 38 = .ok (.iload_n 1, 1) := by decide +kernel
theorem dX10_step_39 : decode cX10_step 39 = .ok (.invokevirtual 269, 3) := by decide +kernel
theorem dX10_step_42 : decode cX10_step 42 = .ok (.goto 4, 3) := by decide +kernel
theorem dX10_step_45 : decode cX10_step 45 = .ok (.iconst (-1), 1) := by decide +kernel
theorem dX10_step_46 : decode cX10_step 46 = .ok (.ireturn, 1) := by decide +kernel
def f_X10_step  (a1 : Int32) (h : zHp) : Option (Int32 × zHp) := (if a1 = (-1 : Int32) then (f_X7_clear 35 h).bind fun x1 => some (x1.1, x1.2) else (f_X10_within a1 (60 : Int32) h).bind fun x2 => (if x2.1 = 0 then some ((-1 : Int32), x2.2) else (f_X7_addUnlike 35 a1 x2.2).bind fun x3 => some (x3.1, x3.2)))
set_option maxHeartbeats 4000000 in
set_option maxRecDepth 100000 in
theorem s_X10_step  (a1 : Int32) (h : zHp) : Fn wX mX10_step 2 rI [.ref 0, .int a1] h (f_X10_step a1 h) := by
  refine Fn.of rfl (Nat.le_of_ble_eq_true rfl) ?_
  unfold f_X10_step
  refine Sim.iload_n 1 dX10_step_0 rfl ?_
  refine Sim.iconst (v := (-1 : Int32)) dX10_step_1 rfl ?_
  refine Sim.icmp_ne 19 dX10_step_2 rfl ?_ ?_
  · refine Sim.aload_n 0 dX10_step_5 rfl ?_
    refine Sim.getR (j := 1) fl_X10_12 dX10_step_6 xR_0_0 ?_
    refine Sim.getR (j := 26) fl_X10_57 dX10_step_9 (xR_X9_6 _ xL_X9_1) ?_
    refine Sim.getR (j := 35) fl_X10_321 dX10_step_12 (xR_X8_4 _ xL_X8_26) ?_
    refine Sim.callV0I (d1 := 0) (s_X7_clear 35 xL_X7_35 h) dX10_step_15 ml_X10_244 mv_X7_clear (xOC_X7 _ xL_X7_35) (Nat.le_of_ble_eq_true rfl) (Nat.le_of_ble_eq_true rfl) (Nat.le_of_ble_eq_true rfl) (fun x1 => ?_)
    exact Sim.iret dX10_step_18 rfl
  · refine Sim.iload_n 1 dX10_step_19 rfl ?_
    refine Sim.bipush (v := (60 : Int32)) dX10_step_20 rfl ?_
    refine Sim.callS2I (d1 := 0) (s_X10_within a1 (60 : Int32) h) dX10_step_22 ml_X10_78 mv_X10_within (Nat.le_of_ble_eq_true rfl) (Nat.le_of_ble_eq_true rfl) (Nat.le_of_ble_eq_true rfl) (fun x2 => ?_)
    refine Sim.if_eq 45 dX10_step_25 rfl ?_ ?_
    · refine Sim.iconst (v := (-1 : Int32)) dX10_step_45 rfl ?_
      exact Sim.iret dX10_step_46 rfl
    · refine Sim.aload_n 0 dX10_step_28 rfl ?_
      refine Sim.getR (j := 1) fl_X10_12 dX10_step_29 xR_0_0 ?_
      refine Sim.getR (j := 26) fl_X10_57 dX10_step_32 (xR_X9_6 _ xL_X9_1) ?_
      refine Sim.getR (j := 35) fl_X10_321 dX10_step_35 (xR_X8_4 _ xL_X8_26) ?_
      refine Sim.iload_n 1 dX10_step_38 rfl ?_
      refine Sim.callV1I (d1 := 1) (s_X7_addUnlike 35 xL_X7_35 a1 x2.2) dX10_step_39 ml_X10_269 mv_X7_addUnlike (xOC_X7 _ xL_X7_35) (Nat.le_of_ble_eq_true rfl) (Nat.le_of_ble_eq_true rfl) (Nat.le_of_ble_eq_true rfl) (fun x3 => ?_)
      refine Sim.goto 46 dX10_step_42 rfl ?_
      exact Sim.iret dX10_step_46 rfl
theorem mv_X10_step : zMV mX10_step 1 := ⟨⟨zTb_in 1208 (by decide +kernel) rfl, zTb_in 137 (by decide +kernel) rfl, ⟨by decide +kernel, by decide +kernel⟩, by decide +kernel⟩, zTb_in 1206 (by decide +kernel) rfl, zTb_in 1207 (by decide +kernel) rfl⟩
-- ===== RockingPorch.steps(I)I
abbrev mX10_steps : zMt := (yX10_steps, cX10_steps, 2, some .int)
theorem ml_X10_324 : Cond.methodLink RX10 324 yX5_threes ∈ zTb := zTb_in 1213 (by decide +kernel) rfl
theorem ml_X10_327 : Cond.methodLink RX10 327 yX5_longestStair ∈ zTb := zTb_in 1224 (by decide +kernel) rfl
theorem dX10_steps_0 : decode cX10_steps 0 = .ok (.iload_n 1, 1) := by decide +kernel
theorem dX10_steps_1 : decode cX10_steps 1 = .ok (.lookupswitch 43 #[(0, 27), (1, 35)], 27) := by decide +kernel
theorem dX10_steps_28 : decode cX10_steps 28 = .ok (.aload_n 0, 1) := by decide +kernel
theorem dX10_steps_29 : decode cX10_steps 29 = .ok (.getfield 64, 3) := by decide +kernel
theorem dX10_steps_32 : decode cX10_steps 32 = .ok (.invokevirtual 324, 3) := by decide +kernel
theorem dX10_steps_35 : decode cX10_steps 35 = .ok (.ireturn, 1) := by decide +kernel
theorem dX10_steps_36 : decode cX10_steps 36 = .ok (.aload_n 0, 1) := by decide +kernel
theorem dX10_steps_37 : decode cX10_steps 37 = .ok (.getfield 64, 3) := by decide +kernel
theorem dX10_steps_40 : decode cX10_steps 40 = .ok (.invokevirtual 327, 3) := by decide +kernel
theorem dX10_steps_43 : decode cX10_steps 43 = .ok (.ireturn, 1) := by decide +kernel
theorem dX10_steps_44 : decode cX10_steps 44 = .ok (.iconst (-1), 1) := by decide +kernel
theorem dX10_steps_45 : decode cX10_steps 45 = .ok (.ireturn, 1) := by decide +kernel
def f_X10_steps  (a1 : Int32) (h : zHp) : Option (Int32 × zHp) := (if a1 = (0 : Int32) then (f_X5_threes h).bind fun x2 => some (x2.1, x2.2) else (if a1 = (1 : Int32) then (f_X5_longestStair h).bind fun x4 => some (x4.1, x4.2) else some ((-1 : Int32), h)))
set_option maxHeartbeats 4000000 in
set_option maxRecDepth 100000 in
theorem s_X10_steps  (a1 : Int32) (h : zHp) : Fn wX mX10_steps 3 rI [.ref 0, .int a1] h (f_X10_steps a1 h) := by
  refine Fn.of rfl (Nat.le_of_ble_eq_true rfl) ?_
  unfold f_X10_steps
  refine Sim.iload_n 1 dX10_steps_0 rfl ?_
  refine Sim.ite _ (fun q1 => ?_) (fun q1 => ?_)
  · refine Sim.lsw (off := 27) 28 dX10_steps_1 rfl (by rw [q1] <;> rfl) rfl ?_
    refine Sim.aload_n 0 dX10_steps_28 rfl ?_
    refine Sim.getR (j := 161) fl_X10_64 dX10_steps_29 xR_0_7 ?_
    refine Sim.callV0I (d1 := 2) (s_X5_threes h) dX10_steps_32 ml_X10_324 mv_X5_threes xO_X5 (Nat.le_of_ble_eq_true rfl) (Nat.le_of_ble_eq_true rfl) (Nat.le_of_ble_eq_true rfl) (fun x2 => ?_)
    exact Sim.iret dX10_steps_35 rfl
  refine Sim.ite _ (fun q3 => ?_) (fun q3 => ?_)
  · refine Sim.lsw (off := 35) 36 dX10_steps_1 rfl (by rw [q3] <;> rfl) rfl ?_
    refine Sim.aload_n 0 dX10_steps_36 rfl ?_
    refine Sim.getR (j := 161) fl_X10_64 dX10_steps_37 xR_0_7 ?_
    refine Sim.callV0I (d1 := 2) (s_X5_longestStair h) dX10_steps_40 ml_X10_327 mv_X5_longestStair xO_X5 (Nat.le_of_ble_eq_true rfl) (Nat.le_of_ble_eq_true rfl) (Nat.le_of_ble_eq_true rfl) (fun x4 => ?_)
    exact Sim.iret dX10_steps_43 rfl
  refine Sim.lsw (off := 43) 44 dX10_steps_1 rfl (by have aq1 : a1.toInt ≠ 0 := fun w => q1 (Int32.toInt_inj.mp w); have aq3 : a1.toInt ≠ 1 := fun w => q3 (Int32.toInt_inj.mp w); simp [Op.lookupswitch.offset, aq1, Ne.symm aq1, aq3, Ne.symm aq3]) rfl ?_
  refine Sim.iconst (v := (-1 : Int32)) dX10_steps_44 rfl ?_
  exact Sim.iret dX10_steps_45 rfl
theorem mv_X10_steps : zMV mX10_steps 1 := ⟨⟨zTb_in 1212 (by decide +kernel) rfl, zTb_in 137 (by decide +kernel) rfl, ⟨by decide +kernel, by decide +kernel⟩, by decide +kernel⟩, zTb_in 1210 (by decide +kernel) rfl, zTb_in 1211 (by decide +kernel) rfl⟩
-- ===== RockingPorch.coin(I)I
abbrev mX10_coin : zMt := (yX10_coin, cX10_coin, 2, some .int)
theorem fl_X10_330 : zF RX10 330 8 5 := ⟨RX8, TX8, 7, rfl, Nat.le_of_ble_eq_true rfl, zTb_in 341 (by decide +kernel) rfl, in_X8⟩
theorem dX10_coin_0 : decode cX10_coin 0 = .ok (.iload_n 1, 1) := by decide +kernel
theorem dX10_coin_1 : decode cX10_coin 1 = .ok (.iconst (-1), 1) := by decide +kernel
theorem dX10_coin_2 : decode cX10_coin 2 = .ok (.if_icmp .ne 17, 3) := by decide +kernel
theorem dX10_coin_5 : decode cX10_coin 5 = .ok (.aload_n 0, 1) := by decide +kernel
theorem dX10_coin_6 : decode cX10_coin 6 = .ok (.getfield 12, 3) := by decide +kernel
theorem dX10_coin_9 : decode cX10_coin 9 = .ok (.getfield 57, 3) := by decide +kernel
theorem dX10_coin_12 : decode cX10_coin 12 = .ok (.getfield 330, 3) := by decide +kernel
theorem dX10_coin_15 : decode cX10_coin 15 = .ok (.invokevirtual 244, 3) := by decide +kernel
theorem dX10_coin_18 : decode cX10_coin 18 = .ok (.ireturn, 1) := by decide +kernel
theorem dX10_coin_19 : decode cX10_coin 19 = .ok (.iload_n 1, 1) := by decide +kernel
theorem dX10_coin_20 : decode cX10_coin 20 = .ok (.bipush 40, 2) := by decide +kernel
theorem dX10_coin_22 : decode cX10_coin 22 = .ok (.invokestatic 78, 3) := by decide +kernel
theorem dX10_coin_25 : decode cX10_coin 25 = .ok (.ifCond .eq 20, 3) := by decide +kernel
theorem dX10_coin_28 : decode cX10_coin 28 = .ok (.aload_n 0, 1) := by decide +kernel
theorem dX10_coin_29 : decode cX10_coin 29 = .ok (.getfield 12, 3) := by decide +kernel
theorem dX10_coin_32 : decode cX10_coin 32 = .ok (.getfield 57, 3) := by decide +kernel
theorem dX10_coin_35 : decode cX10_coin 35 = .ok (.getfield 330, 3) := by decide +kernel
theorem dX10_coin_38 : decode cX10_coin 38 = .ok (.iload_n 1, 1) := by decide +kernel
theorem dX10_coin_39 : decode cX10_coin 39 = .ok (.invokevirtual 269, 3) := by decide +kernel
theorem dX10_coin_42 : decode cX10_coin 42 = .ok (.goto 4, 3) := by decide +kernel
theorem dX10_coin_45 : decode cX10_coin 45 = .ok (.iconst (-1), 1) := by decide +kernel
theorem dX10_coin_46 : decode cX10_coin 46 = .ok (.ireturn, 1) := by decide +kernel
def f_X10_coin  (a1 : Int32) (h : zHp) : Option (Int32 × zHp) := (if a1 = (-1 : Int32) then (f_X7_clear 37 h).bind fun x1 => some (x1.1, x1.2) else (f_X10_within a1 (40 : Int32) h).bind fun x2 => (if x2.1 = 0 then some ((-1 : Int32), x2.2) else (f_X7_addUnlike 37 a1 x2.2).bind fun x3 => some (x3.1, x3.2)))
set_option maxHeartbeats 4000000 in
set_option maxRecDepth 100000 in
theorem s_X10_coin  (a1 : Int32) (h : zHp) : Fn wX mX10_coin 2 rI [.ref 0, .int a1] h (f_X10_coin a1 h) := by
  refine Fn.of rfl (Nat.le_of_ble_eq_true rfl) ?_
  unfold f_X10_coin
  refine Sim.iload_n 1 dX10_coin_0 rfl ?_
  refine Sim.iconst (v := (-1 : Int32)) dX10_coin_1 rfl ?_
  refine Sim.icmp_ne 19 dX10_coin_2 rfl ?_ ?_
  · refine Sim.aload_n 0 dX10_coin_5 rfl ?_
    refine Sim.getR (j := 1) fl_X10_12 dX10_coin_6 xR_0_0 ?_
    refine Sim.getR (j := 26) fl_X10_57 dX10_coin_9 (xR_X9_6 _ xL_X9_1) ?_
    refine Sim.getR (j := 37) fl_X10_330 dX10_coin_12 (xR_X8_5 _ xL_X8_26) ?_
    refine Sim.callV0I (d1 := 0) (s_X7_clear 37 xL_X7_37 h) dX10_coin_15 ml_X10_244 mv_X7_clear (xOC_X7 _ xL_X7_37) (Nat.le_of_ble_eq_true rfl) (Nat.le_of_ble_eq_true rfl) (Nat.le_of_ble_eq_true rfl) (fun x1 => ?_)
    exact Sim.iret dX10_coin_18 rfl
  · refine Sim.iload_n 1 dX10_coin_19 rfl ?_
    refine Sim.bipush (v := (40 : Int32)) dX10_coin_20 rfl ?_
    refine Sim.callS2I (d1 := 0) (s_X10_within a1 (40 : Int32) h) dX10_coin_22 ml_X10_78 mv_X10_within (Nat.le_of_ble_eq_true rfl) (Nat.le_of_ble_eq_true rfl) (Nat.le_of_ble_eq_true rfl) (fun x2 => ?_)
    refine Sim.if_eq 45 dX10_coin_25 rfl ?_ ?_
    · refine Sim.iconst (v := (-1 : Int32)) dX10_coin_45 rfl ?_
      exact Sim.iret dX10_coin_46 rfl
    · refine Sim.aload_n 0 dX10_coin_28 rfl ?_
      refine Sim.getR (j := 1) fl_X10_12 dX10_coin_29 xR_0_0 ?_
      refine Sim.getR (j := 26) fl_X10_57 dX10_coin_32 (xR_X9_6 _ xL_X9_1) ?_
      refine Sim.getR (j := 37) fl_X10_330 dX10_coin_35 (xR_X8_5 _ xL_X8_26) ?_
      refine Sim.iload_n 1 dX10_coin_38 rfl ?_
      refine Sim.callV1I (d1 := 1) (s_X7_addUnlike 37 xL_X7_37 a1 x2.2) dX10_coin_39 ml_X10_269 mv_X7_addUnlike (xOC_X7 _ xL_X7_37) (Nat.le_of_ble_eq_true rfl) (Nat.le_of_ble_eq_true rfl) (Nat.le_of_ble_eq_true rfl) (fun x3 => ?_)
      refine Sim.goto 46 dX10_coin_42 rfl ?_
      exact Sim.iret dX10_coin_46 rfl
theorem mv_X10_coin : zMV mX10_coin 1 := ⟨⟨zTb_in 1231 (by decide +kernel) rfl, zTb_in 137 (by decide +kernel) rfl, ⟨by decide +kernel, by decide +kernel⟩, by decide +kernel⟩, zTb_in 1229 (by decide +kernel) rfl, zTb_in 1230 (by decide +kernel) rfl⟩
-- ===== RockingPorch.slide()I
abbrev mX10_slide : zMt := (yX10_slide, cX10_slide, 1, some .int)
theorem ml_X10_333 : Cond.methodLink RX10 333 yX5_winningSlide ∈ zTb := zTb_in 1236 (by decide +kernel) rfl
theorem dX10_slide_0 : decode cX10_slide 0 = .ok (.aload_n 0, 1) := by decide +kernel
theorem dX10_slide_1 : decode cX10_slide 1 = .ok (.getfield 64, 3) := by decide +kernel
theorem dX10_slide_4 : decode cX10_slide 4 = .ok (.invokevirtual 333, 3) := by decide +kernel
theorem dX10_slide_7 : decode cX10_slide 7 = .ok (.ireturn, 1) := by decide +kernel
def f_X10_slide   (h : zHp) : Option (Int32 × zHp) := (f_X5_winningSlide h).bind fun x1 => some (x1.1, x1.2)
set_option maxHeartbeats 4000000 in
set_option maxRecDepth 100000 in
theorem s_X10_slide   (h : zHp) : Fn wX mX10_slide 3 rI [.ref 0] h (f_X10_slide  h) := by
  refine Fn.of rfl (Nat.le_of_ble_eq_true rfl) ?_
  unfold f_X10_slide
  refine Sim.aload_n 0 dX10_slide_0 rfl ?_
  refine Sim.getR (j := 161) fl_X10_64 dX10_slide_1 xR_0_7 ?_
  refine Sim.callV0I (d1 := 2) (s_X5_winningSlide h) dX10_slide_4 ml_X10_333 mv_X5_winningSlide xO_X5 (Nat.le_of_ble_eq_true rfl) (Nat.le_of_ble_eq_true rfl) (Nat.le_of_ble_eq_true rfl) (fun x1 => ?_)
  exact Sim.iret dX10_slide_7 rfl
theorem mv_X10_slide : zMV mX10_slide 0 := ⟨⟨zTb_in 1235 (by decide +kernel) rfl, zTb_in 137 (by decide +kernel) rfl, ⟨by decide +kernel, by decide +kernel⟩, by decide +kernel⟩, zTb_in 1233 (by decide +kernel) rfl, zTb_in 1234 (by decide +kernel) rfl⟩
-- ===== RockingPorch.undo()Z
abbrev mX10_undo : zMt := (yX10_undo, cX10_undo, 1, some .boolean)
theorem ml_X10_336 : Cond.methodLink RX10 336 yX3_goBack ∈ zTb := zTb_in 1256 (by decide +kernel) rfl
theorem dX10_undo_0 : decode cX10_undo 0 = .ok (.aload_n 0, 1) := by decide +kernel
theorem dX10_undo_1 : decode cX10_undo 1 = .ok (.getfield 26, 3) := by decide +kernel
theorem dX10_undo_4 : decode cX10_undo 4 = .ok (.aload_n 0, 1) := by decide +kernel
theorem dX10_undo_5 : decode cX10_undo 5 = .ok (.getfield 12, 3) := by decide +kernel
theorem dX10_undo_8 : decode cX10_undo 8 = .ok (.getfield 68, 3) := by decide +kernel
theorem dX10_undo_11 : decode cX10_undo 11 = .ok (.aload_n 0, 1) := by decide +kernel
theorem dX10_undo_12 : decode cX10_undo 12 = .ok (.getfield 12, 3) := by decide +kernel
theorem dX10_undo_15 : decode cX10_undo 15 = .ok (.getfield 129, 3) := by decide +kernel
theorem dX10_undo_18 : decode cX10_undo 18 = .ok (.invokevirtual 336, 3) := by decide +kernel
theorem dX10_undo_21 : decode cX10_undo 21 = .ok (.ireturn, 1) := by decide +kernel
def f_X10_undo   (h : zHp) : Option (Int32 × zHp) := (f_X3_goBack 2 11 h).bind fun x1 => zzb x1.1 (some (x1.1, x1.2))
set_option maxHeartbeats 4000000 in
set_option maxRecDepth 100000 in
theorem s_X10_undo   (h : zHp) : Fn wX mX10_undo 3 rI [.ref 0] h (f_X10_undo  h) := by
  refine Fn.of rfl (Nat.le_of_ble_eq_true rfl) ?_
  unfold f_X10_undo
  refine Sim.aload_n 0 dX10_undo_0 rfl ?_
  refine Sim.getR (j := 79) fl_X10_26 dX10_undo_1 xR_0_3 ?_
  refine Sim.aload_n 0 dX10_undo_4 rfl ?_
  refine Sim.getR (j := 1) fl_X10_12 dX10_undo_5 xR_0_0 ?_
  refine Sim.getR (j := 2) fl_X10_68 dX10_undo_8 (xR_X9_0 _ xL_X9_1) ?_
  refine Sim.aload_n 0 dX10_undo_11 rfl ?_
  refine Sim.getR (j := 1) fl_X10_12 dX10_undo_12 xR_0_0 ?_
  refine Sim.getR (j := 11) fl_X10_129 dX10_undo_15 (xR_X9_1 _ xL_X9_1) ?_
  refine Sim.callV2I (d1 := 2) (s_X3_goBack 2 xL_X4_2 11 xL_X2_11 h) dX10_undo_18 ml_X10_336 mv_X3_goBack xO_X3 (Nat.le_of_ble_eq_true rfl) (Nat.le_of_ble_eq_true rfl) (Nat.le_of_ble_eq_true rfl) (fun x1 => ?_)
  exact Sim.zret dX10_undo_21 rfl
theorem mv_X10_undo : zMV mX10_undo 0 := ⟨⟨zTb_in 1255 (by decide +kernel) rfl, zTb_in 137 (by decide +kernel) rfl, ⟨by decide +kernel, by decide +kernel⟩, by decide +kernel⟩, zTb_in 1253 (by decide +kernel) rfl, zTb_in 1254 (by decide +kernel) rfl⟩
-- ===== RockingPorch.image(Z)Z
abbrev mX10_image : zMt := (yX10_image, cX10_image, 2, some .boolean)
theorem fl_X10_16 : zF RX10 16 10 1 := ⟨RX10, TX10, 8, rfl, Nat.le_of_ble_eq_true rfl, zTb_in 514 (by decide +kernel) rfl, in_X10⟩
theorem fl_X10_19 : zF RX10 19 10 2 := ⟨RX10, TX10, 8, rfl, Nat.le_of_ble_eq_true rfl, zTb_in 515 (by decide +kernel) rfl, in_X10⟩
theorem fp_X10_19 : zFp RX10 19 10 2 .boolean := ⟨RX10, TX10, 8, tyX10, rfl, Nat.le_of_ble_eq_true rfl, zTb_in 515 (by decide +kernel) rfl, in_X10, tyX10_ok, nmX10, rfl, rfl⟩
theorem ml_X10_340 : Cond.methodLink RX10 340 yX9_copyFrom ∈ zTb := zTb_in 1264 (by decide +kernel) rfl
theorem dX10_image_0 : decode cX10_image 0 = .ok (.iload_n 1, 1) := by decide +kernel
theorem dX10_image_1 : decode cX10_image 1 = .ok (.ifCond .eq 22, 3) := by decide +kernel
theorem dX10_image_4 : decode cX10_image 4 = .ok (.aload_n 0, 1) := by decide +kernel
theorem dX10_image_5 : decode cX10_image 5 = .ok (.getfield 16, 3) := by decide +kernel
theorem dX10_image_8 : decode cX10_image 8 = .ok (.aload_n 0, 1) := by decide +kernel
theorem dX10_image_9 : decode cX10_image 9 = .ok (.getfield 12, 3) := by decide +kernel
theorem dX10_image_12 : decode cX10_image 12 = .ok (.invokevirtual 340, 3) := by decide +kernel
theorem dX10_image_15 : decode cX10_image 15 = .ok (.aload_n 0, 1) := by decide +kernel
theorem dX10_image_16 : decode cX10_image 16 = .ok (.iconst 1, 1) := by decide +kernel
theorem dX10_image_17 : decode cX10_image 17 = .ok (.putfield 19, 3) := by decide +kernel
theorem dX10_image_20 : decode cX10_image 20 = .ok (.goto 28, 3) := by decide +kernel
theorem dX10_image_23 : decode cX10_image 23 = .ok (.aload_n 0, 1) := by decide +kernel
theorem dX10_image_24 : decode cX10_image 24 = .ok (.getfield 19, 3) := by decide +kernel
theorem dX10_image_27 : decode cX10_image 27 = .ok (.ifCond .eq 21, 3) := by decide +kernel
theorem dX10_image_30 : decode cX10_image 30 = .ok (.aload_n 0, 1) := by decide +kernel
theorem dX10_image_31 : decode cX10_image 31 = .ok (.getfield 12, 3) := by decide +kernel
theorem dX10_image_34 : decode cX10_image 34 = .ok (.aload_n 0, 1) := by decide +kernel
theorem dX10_image_35 : decode cX10_image 35 = .ok (.getfield 16, 3) := by decide +kernel
theorem dX10_image_38 : decode cX10_image 38 = .ok (.invokevirtual 340, 3) := by decide +kernel
theorem dX10_image_41 : decode cX10_image 41 = .ok (.aload_n 0, 1) := by decide +kernel
theorem dX10_image_42 : decode cX10_image 42 = .ok (.getfield 26, 3) := by decide +kernel
theorem dX10_image_45 : decode cX10_image 45 = .ok (.invokevirtual 75, 3) := by decide +kernel
theorem dX10_image_48 : decode cX10_image 48 = .ok (.aload_n 0, 1) := by decide +kernel
theorem dX10_image_49 : decode cX10_image 49 = .ok (.getfield 19, 3) := by decide +kernel
theorem dX10_image_52 : decode cX10_image 52 = .ok (.ireturn, 1) := by decide +kernel
def f_X10_image  (a1 : Int32) (h : zHp) : Option (Int32 × zHp) := (if a1 = 0 then (if (h 0 2) = 0 then zzb (h 0 2) (some ((h 0 2), h)) else (f_X9_copyFrom 1 40 h).bind fun x1 => (f_X3_forget x1).bind fun x2 => zzb (x2 0 2) (some ((x2 0 2), x2))) else (f_X9_copyFrom 40 1 h).bind fun x3 => zlt (zst x3 0 2 (1 : Int32)) fun h4 => zzb (h4 0 2) (some ((h4 0 2), h4)))
set_option maxHeartbeats 4000000 in
set_option maxRecDepth 100000 in
theorem s_X10_image  (a1 : Int32) (h : zHp) : Fn wX mX10_image 4 rI [.ref 0, .int a1] h (f_X10_image a1 h) := by
  refine Fn.of rfl (Nat.le_of_ble_eq_true rfl) ?_
  unfold f_X10_image
  refine Sim.iload_n 1 dX10_image_0 rfl ?_
  refine Sim.if_eq 23 dX10_image_1 rfl ?_ ?_
  · refine Sim.aload_n 0 dX10_image_23 rfl ?_
    refine Sim.getI fl_X10_19 dX10_image_24 xI_0_2 ?_
    refine Sim.if_eq 48 dX10_image_27 rfl ?_ ?_
    · refine Sim.aload_n 0 dX10_image_48 rfl ?_
      refine Sim.getI fl_X10_19 dX10_image_49 xI_0_2 ?_
      exact Sim.zret dX10_image_52 rfl
    · refine Sim.aload_n 0 dX10_image_30 rfl ?_
      refine Sim.getR (j := 1) fl_X10_12 dX10_image_31 xR_0_0 ?_
      refine Sim.aload_n 0 dX10_image_34 rfl ?_
      refine Sim.getR (j := 40) fl_X10_16 dX10_image_35 xR_0_1 ?_
      refine Sim.callV1U (d1 := 3) (s_X9_copyFrom 1 xL_X9_1 40 xL_X9_40 h) dX10_image_38 ml_X10_340 mv_X9_copyFrom (xOC_X9 _ xL_X9_1) (Nat.le_of_ble_eq_true rfl) (Nat.le_of_ble_eq_true rfl) (Nat.le_of_ble_eq_true rfl) (fun x1 => ?_)
      refine Sim.aload_n 0 dX10_image_41 rfl ?_
      refine Sim.getR (j := 79) fl_X10_26 dX10_image_42 xR_0_3 ?_
      refine Sim.callV0U (d1 := 0) (s_X3_forget x1) dX10_image_45 ml_X10_75 mv_X3_forget xO_X3 (Nat.le_of_ble_eq_true rfl) (Nat.le_of_ble_eq_true rfl) (Nat.le_of_ble_eq_true rfl) (fun x2 => ?_)
      refine Sim.aload_n 0 dX10_image_48 rfl ?_
      refine Sim.getI fl_X10_19 dX10_image_49 xI_0_2 ?_
      exact Sim.zret dX10_image_52 rfl
  · refine Sim.aload_n 0 dX10_image_4 rfl ?_
    refine Sim.getR (j := 40) fl_X10_16 dX10_image_5 xR_0_1 ?_
    refine Sim.aload_n 0 dX10_image_8 rfl ?_
    refine Sim.getR (j := 1) fl_X10_12 dX10_image_9 xR_0_0 ?_
    refine Sim.callV1U (d1 := 3) (s_X9_copyFrom 40 xL_X9_40 1 xL_X9_1 h) dX10_image_12 ml_X10_340 mv_X9_copyFrom (xOC_X9 _ xL_X9_40) (Nat.le_of_ble_eq_true rfl) (Nat.le_of_ble_eq_true rfl) (Nat.le_of_ble_eq_true rfl) (fun x3 => ?_)
    refine Sim.aload_n 0 dX10_image_15 rfl ?_
    refine Sim.iconst (v := (1 : Int32)) dX10_image_16 rfl ?_
    refine Sim.put fp_X10_19 dX10_image_17 xI_0_2 rfl rfl ?_
    refine Sim.lth (fun h4 => ?_)
    refine Sim.goto 48 dX10_image_20 rfl ?_
    refine Sim.aload_n 0 dX10_image_48 rfl ?_
    refine Sim.getI fl_X10_19 dX10_image_49 xI_0_2 ?_
    exact Sim.zret dX10_image_52 rfl
theorem mv_X10_image : zMV mX10_image 1 := ⟨⟨zTb_in 1263 (by decide +kernel) rfl, zTb_in 137 (by decide +kernel) rfl, ⟨by decide +kernel, by decide +kernel⟩, by decide +kernel⟩, zTb_in 1261 (by decide +kernel) rfl, zTb_in 1262 (by decide +kernel) rfl⟩
-- ===== RockingPorch.look(I)I
abbrev mX10_look : zMt := (yX10_look, cX10_look, 2, some .int)
theorem fl_X10_342 : zF RX10 342 9 2 := ⟨RX9, TX9, 7, rfl, Nat.le_of_ble_eq_true rfl, zTb_in 367 (by decide +kernel) rfl, in_X9⟩
theorem fl_X10_346 : zF RX10 346 1 7 := ⟨RX1, TX1, 8, rfl, Nat.le_of_ble_eq_true rfl, zTb_in 286 (by decide +kernel) rfl, in_X1⟩
theorem fl_X10_349 : zF RX10 349 9 3 := ⟨RX9, TX9, 7, rfl, Nat.le_of_ble_eq_true rfl, zTb_in 370 (by decide +kernel) rfl, in_X9⟩
theorem fl_X10_352 : zF RX10 352 9 4 := ⟨RX9, TX9, 7, rfl, Nat.le_of_ble_eq_true rfl, zTb_in 373 (by decide +kernel) rfl, in_X9⟩
theorem fl_X10_355 : zF RX10 355 3 3 := ⟨RX3, TX3, 4, rfl, Nat.le_of_ble_eq_true rfl, zTb_in 407 (by decide +kernel) rfl, in_X3⟩
theorem ml_X10_356 : Cond.methodLink RX10 356 yX4_show ∈ zTb := zTb_in 1283 (by decide +kernel) rfl
theorem dX10_look_0 : decode cX10_look 0 = .ok (.iload_n 1, 1) := by decide +kernel
theorem dX10_look_1 : decode cX10_look 1 = .ok (.tableswitch 106 8 14 #[43, 106, 54, 65, 76, 87, 98], 43) := by decide +kernel
theorem dX10_look_44 : decode cX10_look 44 = .ok (.aload_n 0, 1) := by decide +kernel
theorem dX10_look_45 : decode cX10_look 45 = .ok (.getfield 12, 3) := by decide +kernel
theorem dX10_look_48 : decode cX10_look 48 = .ok (.getfield 129, 3) := by decide +kernel
theorem dX10_look_51 : decode cX10_look 51 = .ok (.getfield 133, 3) := by decide +kernel
theorem dX10_look_54 : decode cX10_look 54 = .ok (.ireturn, 1) := by decide +kernel
theorem dX10_look_55 : decode cX10_look 55 = .ok (.aload_n 0, 1) := by decide +kernel
theorem dX10_look_56 : decode cX10_look 56 = .ok (.getfield 12, 3) := by decide +kernel
theorem dX10_look_59 : decode cX10_look 59 = .ok (.getfield 342, 3) := by decide +kernel
theorem dX10_look_62 : decode cX10_look 62 = .ok (.getfield 346, 3) := by decide +kernel
theorem dX10_look_65 : decode cX10_look 65 = .ok (.ireturn, 1) := by decide +kernel
theorem dX10_look_66 : decode cX10_look 66 = .ok (.aload_n 0, 1) := by decide +kernel
theorem dX10_look_67 : decode cX10_look 67 = .ok (.getfield 12, 3) := by decide +kernel
theorem dX10_look_70 : decode cX10_look 70 = .ok (.getfield 349, 3) := by decide +kernel
theorem dX10_look_73 : decode cX10_look 73 = .ok (.getfield 133, 3) := by decide +kernel
theorem dX10_look_76 : decode cX10_look 76 = .ok (.ireturn, 1) := by decide +kernel
theorem dX10_look_77 : decode cX10_look 77 = .ok (.aload_n 0, 1) := by decide +kernel
theorem dX10_look_78 : decode cX10_look 78 = .ok (.getfield 12, 3) := by decide +kernel
theorem dX10_look_81 : decode cX10_look 81 = .ok (.getfield 352, 3) := by decide +kernel
theorem dX10_look_84 : decode cX10_look 84 = .ok (.getfield 133, 3) := by decide +kernel
theorem dX10_look_87 : decode cX10_look 87 = .ok (.ireturn, 1) := by decide +kernel
theorem dX10_look_88 : decode cX10_look 88 = .ok (.aload_n 0, 1) := by decide +kernel
theorem dX10_look_89 : decode cX10_look 89 = .ok (.getfield 12, 3) := by decide +kernel
theorem dX10_look_92 : decode cX10_look 92 = .ok (.getfield 211, 3) := by decide +kernel
theorem dX10_look_95 : decode cX10_look 95 = .ok (.getfield 133, 3) := by decide +kernel
theorem dX10_look_98 : decode cX10_look 98 = .ok (.ireturn, 1) := by decide +kernel
theorem dX10_look_99 : decode cX10_look 99 = .ok (.aload_n 0, 1) := by decide +kernel
theorem dX10_look_100 : decode cX10_look 100 = .ok (.getfield 26, 3) := by decide +kernel
theorem dX10_look_103 : decode cX10_look 103 = .ok (.getfield 355, 3) := by decide +kernel
theorem dX10_look_106 : decode cX10_look 106 = .ok (.ireturn, 1) := by decide +kernel
theorem dX10_look_107 : decode cX10_look 107 = .ok (.aload_n 0, 1) := by decide +kernel
theorem dX10_look_108 : decode cX10_look 108 = .ok (.getfield 12, 3) := by decide +kernel
theorem dX10_look_111 : decode cX10_look 111 = .ok (.getfield 68, 3) := by decide +kernel
theorem dX10_look_114 : decode cX10_look 114 = .ok (.iload_n 1, 1) := by decide +kernel
theorem dX10_look_115 : decode cX10_look 115 = .ok (.invokevirtual 356, 3) := by decide +kernel
theorem dX10_look_118 : decode cX10_look 118 = .ok (.ireturn, 1) := by decide +kernel
def f_X10_look  (a1 : Int32) (h : zHp) : Option (Int32 × zHp) := (if a1 = (8 : Int32) then some ((h 11 2), h) else (if a1 = (9 : Int32) then (f_X4_show 2 a1 h).bind fun x3 => some (x3.1, x3.2) else (if a1 = (10 : Int32) then some ((h 13 7), h) else (if a1 = (11 : Int32) then some ((h 20 2), h) else (if a1 = (12 : Int32) then some ((h 22 2), h) else (if a1 = (13 : Int32) then some ((h 24 2), h) else (if a1 = (14 : Int32) then some ((h 79 3), h) else (f_X4_show 2 a1 h).bind fun x9 => some (x9.1, x9.2))))))))
set_option maxHeartbeats 4000000 in
set_option maxRecDepth 100000 in
theorem s_X10_look  (a1 : Int32) (h : zHp) : Fn wX mX10_look 4 rI [.ref 0, .int a1] h (f_X10_look a1 h) := by
  refine Fn.of rfl (Nat.le_of_ble_eq_true rfl) ?_
  unfold f_X10_look
  refine Sim.iload_n 1 dX10_look_0 rfl ?_
  refine Sim.ite _ (fun q1 => ?_) (fun q1 => ?_)
  · refine Sim.tswIn 44 dX10_look_1 q1 (by decide) (by decide) rfl rfl ?_
    refine Sim.aload_n 0 dX10_look_44 rfl ?_
    refine Sim.getR (j := 1) fl_X10_12 dX10_look_45 xR_0_0 ?_
    refine Sim.getR (j := 11) fl_X10_129 dX10_look_48 (xR_X9_1 _ xL_X9_1) ?_
    refine Sim.getI fl_X10_133 dX10_look_51 (xI_X2_2 _ xL_X2_11) ?_
    exact Sim.iret dX10_look_54 rfl
  refine Sim.ite _ (fun q2 => ?_) (fun q2 => ?_)
  · refine Sim.tswIn 107 dX10_look_1 q2 (by decide) (by decide) rfl rfl ?_
    refine Sim.aload_n 0 dX10_look_107 rfl ?_
    refine Sim.getR (j := 1) fl_X10_12 dX10_look_108 xR_0_0 ?_
    refine Sim.getR (j := 2) fl_X10_68 dX10_look_111 (xR_X9_0 _ xL_X9_1) ?_
    refine Sim.iload_n 1 dX10_look_114 rfl ?_
    refine Sim.callV1I (d1 := 3) (s_X4_show 2 xL_X4_2 a1 h) dX10_look_115 ml_X10_356 mv_X4_show (xOC_X4 _ xL_X4_2) (Nat.le_of_ble_eq_true rfl) (Nat.le_of_ble_eq_true rfl) (Nat.le_of_ble_eq_true rfl) (fun x3 => ?_)
    exact Sim.iret dX10_look_118 rfl
  refine Sim.ite _ (fun q4 => ?_) (fun q4 => ?_)
  · refine Sim.tswIn 55 dX10_look_1 q4 (by decide) (by decide) rfl rfl ?_
    refine Sim.aload_n 0 dX10_look_55 rfl ?_
    refine Sim.getR (j := 1) fl_X10_12 dX10_look_56 xR_0_0 ?_
    refine Sim.getR (j := 13) fl_X10_342 dX10_look_59 (xR_X9_2 _ xL_X9_1) ?_
    refine Sim.getI fl_X10_346 dX10_look_62 (xI_X1_7 _ xL_X1_13) ?_
    exact Sim.iret dX10_look_65 rfl
  refine Sim.ite _ (fun q5 => ?_) (fun q5 => ?_)
  · refine Sim.tswIn 66 dX10_look_1 q5 (by decide) (by decide) rfl rfl ?_
    refine Sim.aload_n 0 dX10_look_66 rfl ?_
    refine Sim.getR (j := 1) fl_X10_12 dX10_look_67 xR_0_0 ?_
    refine Sim.getR (j := 20) fl_X10_349 dX10_look_70 (xR_X9_3 _ xL_X9_1) ?_
    refine Sim.getI fl_X10_133 dX10_look_73 (xI_X2_2 _ xL_X2_20) ?_
    exact Sim.iret dX10_look_76 rfl
  refine Sim.ite _ (fun q6 => ?_) (fun q6 => ?_)
  · refine Sim.tswIn 77 dX10_look_1 q6 (by decide) (by decide) rfl rfl ?_
    refine Sim.aload_n 0 dX10_look_77 rfl ?_
    refine Sim.getR (j := 1) fl_X10_12 dX10_look_78 xR_0_0 ?_
    refine Sim.getR (j := 22) fl_X10_352 dX10_look_81 (xR_X9_4 _ xL_X9_1) ?_
    refine Sim.getI fl_X10_133 dX10_look_84 (xI_X2_2 _ xL_X2_22) ?_
    exact Sim.iret dX10_look_87 rfl
  refine Sim.ite _ (fun q7 => ?_) (fun q7 => ?_)
  · refine Sim.tswIn 88 dX10_look_1 q7 (by decide) (by decide) rfl rfl ?_
    refine Sim.aload_n 0 dX10_look_88 rfl ?_
    refine Sim.getR (j := 1) fl_X10_12 dX10_look_89 xR_0_0 ?_
    refine Sim.getR (j := 24) fl_X10_211 dX10_look_92 (xR_X9_5 _ xL_X9_1) ?_
    refine Sim.getI fl_X10_133 dX10_look_95 (xI_X2_2 _ xL_X2_24) ?_
    exact Sim.iret dX10_look_98 rfl
  refine Sim.ite _ (fun q8 => ?_) (fun q8 => ?_)
  · refine Sim.tswIn 99 dX10_look_1 q8 (by decide) (by decide) rfl rfl ?_
    refine Sim.aload_n 0 dX10_look_99 rfl ?_
    refine Sim.getR (j := 79) fl_X10_26 dX10_look_100 xR_0_3 ?_
    refine Sim.getI fl_X10_355 dX10_look_103 xI_79_3 ?_
    exact Sim.iret dX10_look_106 rfl
  refine Sim.tswOut 107 dX10_look_1 (by have aq1 : a1.toInt ≠ 8 := fun w => q1 (Int32.toInt_inj.mp w); have aq2 : a1.toInt ≠ 9 := fun w => q2 (Int32.toInt_inj.mp w); have aq4 : a1.toInt ≠ 10 := fun w => q4 (Int32.toInt_inj.mp w); have aq5 : a1.toInt ≠ 11 := fun w => q5 (Int32.toInt_inj.mp w); have aq6 : a1.toInt ≠ 12 := fun w => q6 (Int32.toInt_inj.mp w); have aq7 : a1.toInt ≠ 13 := fun w => q7 (Int32.toInt_inj.mp w); have aq8 : a1.toInt ≠ 14 := fun w => q8 (Int32.toInt_inj.mp w); omega) rfl ?_
  refine Sim.aload_n 0 dX10_look_107 rfl ?_
  refine Sim.getR (j := 1) fl_X10_12 dX10_look_108 xR_0_0 ?_
  refine Sim.getR (j := 2) fl_X10_68 dX10_look_111 (xR_X9_0 _ xL_X9_1) ?_
  refine Sim.iload_n 1 dX10_look_114 rfl ?_
  refine Sim.callV1I (d1 := 3) (s_X4_show 2 xL_X4_2 a1 h) dX10_look_115 ml_X10_356 mv_X4_show (xOC_X4 _ xL_X4_2) (Nat.le_of_ble_eq_true rfl) (Nat.le_of_ble_eq_true rfl) (Nat.le_of_ble_eq_true rfl) (fun x9 => ?_)
  exact Sim.iret dX10_look_118 rfl
theorem mv_X10_look : zMV mX10_look 1 := ⟨⟨zTb_in 1282 (by decide +kernel) rfl, zTb_in 137 (by decide +kernel) rfl, ⟨by decide +kernel, by decide +kernel⟩, by decide +kernel⟩, zTb_in 1280 (by decide +kernel) rfl, zTb_in 1281 (by decide +kernel) rfl⟩
