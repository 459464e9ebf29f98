-- ===== RockingPorch$Past.goBack(LRockingPorch$Porch;LRockingPorch$Lines;)Z
abbrev mX3_goBack : zMt := (yX3_goBack, cX3_goBack, 4, some .boolean)
theorem fp_X3_41 : zFp RX3 41 2 2 .int := ⟨RX2, TX2, 3, tyX2, rfl, Nat.le_of_ble_eq_true rfl, zTb_in 261 (by decide +kernel) rfl, in_X2, tyX2_ok, nmX2, rfl, rfl⟩
theorem dX3_goBack_0 : decode cX3_goBack 0 = .ok (.aload_n 0, 1) := by decide +kernel
theorem dX3_goBack_1 : decode cX3_goBack 1 = .ok (.getfield 25, 3) := by decide +kernel
theorem dX3_goBack_4 : decode cX3_goBack 4 = .ok (.ifCond .ne 5, 3) := by decide +kernel
theorem dX3_goBack_7 : decode cX3_goBack 7 = .ok (.iconst 0, 1) := by decide +kernel
theorem dX3_goBack_8 : decode cX3_goBack 8 = .ok (.ireturn, 1) := by decide +kernel
theorem dX3_goBack_9 : decode cX3_goBack 9 = .ok (.aload_n 0, 1) := by decide +kernel
theorem dX3_goBack_10 : decode cX3_goBack 10 = .ok (.dup, 1) := by decide +kernel
theorem dX3_goBack_11 : decode cX3_goBack 11 = .ok (.getfield 25, 3) := by decide +kernel
theorem dX3_goBack_14 : decode cX3_goBack 14 = .ok (.iconst 1, 1) := by decide +kernel
theorem dX3_goBack_15 : decode cX3_goBack 15 = .ok (.isub, 1) := by decide +kernel
theorem dX3_goBack_16 : decode cX3_goBack 16 = .ok (.putfield 25, 3) := by decide +kernel
theorem dX3_goBack_19 : decode cX3_goBack 19 = .ok (.aload_n 0, 1) := by decide +kernel
theorem dX3_goBack_20 : decode cX3_goBack 20 = .ok (.aload_n 0, 1) := by decide +kernel
theorem dX3_goBack_21 : decode cX3_goBack 21 = .ok (.getfield 21, 3) := by decide +kernel
theorem dX3_goBack_24 : decode cX3_goBack 24 = .ok (.bipush 6, 2) := by decide +kernel
theorem dX3_goBack_26 : decode cX3_goBack 26 = .ok (.iadd, 1) := by decide +kernel
theorem dX3_goBack_27 : decode cX3_goBack 27 = .ok (.iconst 1, 1) := by decide +kernel
theorem dX3_goBack_28 : decode cX3_goBack 28 = .ok (.isub, 1) := by decide +kernel
theorem dX3_goBack_29 : decode cX3_goBack 29 = .ok (.bipush 6, 2) := by decide +kernel
theorem dX3_goBack_31 : decode cX3_goBack 31 = .ok (.irem, 1) := by decide +kernel
theorem dX3_goBack_32 : decode cX3_goBack 32 = .ok (.putfield 21, 3) := by decide +kernel
theorem dX3_goBack_35 : decode cX3_goBack 35 = .ok (.aload_n 0, 1) := by decide +kernel
theorem dX3_goBack_36 : decode cX3_goBack 36 = .ok (.getfield 11, 3) := by decide +kernel
theorem dX3_goBack_39 : decode cX3_goBack 39 = .ok (.aload_n 0, 1) := by decide +kernel
theorem dX3_goBack_40 : decode cX3_goBack 40 = .ok (.getfield 21, 3) := by decide +kernel
theorem dX3_goBack_43 : decode cX3_goBack 43 = .ok (.aaload, 1) := by decide +kernel
theorem dX3_goBack_44 : decode cX3_goBack 44 = .ok (.astore_n 3, 1) := by decide +kernel
theorem dX3_goBack_45 : decode cX3_goBack 45 = .ok (.aload_n 3, 1) := by decide +kernel
theorem dX3_goBack_46 : decode cX3_goBack 46 = .ok (.ifnonnull 5, 3) := by decide +kernel
theorem dX3_goBack_51 : decode cX3_goBack 51 = .ok (.aload_n 1, 1) := by decide +kernel
theorem dX3_goBack_52 : decode cX3_goBack 52 = .ok (.aload_n 3, 1) := by decide +kernel
theorem dX3_goBack_53 : decode cX3_goBack 53 = .ok (.invokevirtual 31, 3) := by decide +kernel
theorem dX3_goBack_56 : decode cX3_goBack 56 = .ok (.aload_n 2, 1) := by decide +kernel
theorem dX3_goBack_57 : decode cX3_goBack 57 = .ok (.aload_n 0, 1) := by decide +kernel
theorem dX3_goBack_58 : decode cX3_goBack 58 = .ok (.getfield 17, 3) := by decide +kernel
theorem dX3_goBack_61 : decode cX3_goBack 61 = .ok (.aload_n 0, 1) := by decide +kernel
theorem dX3_goBack_62 : decode cX3_goBack 62 = .ok (.getfield 21, 3) := by decide +kernel
theorem dX3_goBack_65 : decode cX3_goBack 65 = .ok (.iaload, 1) := by decide +kernel
theorem dX3_goBack_66 : decode cX3_goBack 66 = .ok (.putfield 41, 3) := by decide +kernel
theorem dX3_goBack_69 : decode cX3_goBack 69 = .ok (.iconst 1, 1) := by decide +kernel
theorem dX3_goBack_70 : decode cX3_goBack 70 = .ok (.ireturn, 1) := by decide +kernel
def f_X3_goBack (b1 : Nat) (b2 : Nat)  (h : zHp) : Option (Int32 × zHp) := (if (h 79 3) = 0 then some ((0 : Int32), h) else zlt (zst h 79 3 ((h 79 3) - (1 : Int32))) fun h1 => zlt (zst h1 79 2 ((((h1 79 2) + (6 : Int32)) - (1 : Int32)) - (((h1 79 2) + (6 : Int32)) - (1 : Int32)) / (6 : Int32) * (6 : Int32))) fun h2 => zix (h2 79 2) 6 ((f_X4_copyFrom b1 (82 + 9 * (h2 79 2).toNatClampNeg) h2).bind fun x4 => zix (x4 79 2) 6 (zlt (zst x4 b2 2 (x4 81 (x4 79 2).toNatClampNeg)) fun h5 => some ((1 : Int32), h5))))
set_option maxHeartbeats 4000000 in
set_option maxRecDepth 100000 in
theorem s_X3_goBack (b1 : Nat) (hb1 : b1 ∈ xPorch) (b2 : Nat) (hb2 : b2 ∈ xLines)  (h : zHp) : Fn wX mX3_goBack 2 rI [.ref 79, .ref b1, .ref b2] h (f_X3_goBack b1 b2 h) := by
  refine Fn.of rfl (Nat.le_of_ble_eq_true rfl) ?_
  unfold f_X3_goBack
  refine Sim.aload_n 0 dX3_goBack_0 rfl ?_
  refine Sim.getI fl_X3_25 dX3_goBack_1 xI_79_3 ?_
  refine Sim.if_ne 9 dX3_goBack_4 rfl ?_ ?_
  · refine Sim.iconst (v := (0 : Int32)) dX3_goBack_7 rfl ?_
    exact Sim.nret dX3_goBack_8 rfl rfl
  · refine Sim.aload_n 0 dX3_goBack_9 rfl ?_
    refine Sim.dup dX3_goBack_10 rfl ?_
    refine Sim.getI fl_X3_25 dX3_goBack_11 xI_79_3 ?_
    refine Sim.iconst (v := (1 : Int32)) dX3_goBack_14 rfl ?_
    refine Sim.isub dX3_goBack_15 ?_
    refine Sim.put fp_X3_25 dX3_goBack_16 xI_79_3 rfl rfl ?_
    refine Sim.lth (fun h1 => ?_)
    refine Sim.aload_n 0 dX3_goBack_19 rfl ?_
    refine Sim.aload_n 0 dX3_goBack_20 rfl ?_
    refine Sim.getI fl_X3_21 dX3_goBack_21 xI_79_2 ?_
    refine Sim.bipush (v := (6 : Int32)) dX3_goBack_24 rfl ?_
    refine Sim.iadd dX3_goBack_26 ?_
    refine Sim.iconst (v := (1 : Int32)) dX3_goBack_27 rfl ?_
    refine Sim.isub dX3_goBack_28 ?_
    refine Sim.bipush (v := (6 : Int32)) dX3_goBack_29 rfl ?_
    refine Sim.iremL dX3_goBack_31 (by decide) ?_
    refine Sim.put fp_X3_21 dX3_goBack_32 xI_79_2 rfl rfl ?_
    refine Sim.lth (fun h2 => ?_)
    refine Sim.aload_n 0 dX3_goBack_35 rfl ?_
    refine Sim.getR (j := 80) fl_X3_11 dX3_goBack_36 xR_79_0 ?_
    refine Sim.aload_n 0 dX3_goBack_39 rfl ?_
    refine Sim.getI fl_X3_21 dX3_goBack_40 xI_79_2 ?_
    refine Sim.aald (n := 6) (j := fun i => 82 + 9 * i) dX3_goBack_43 xP_80 (fun q3 => ?_)
    refine Sim.astore_n (L' := [(3, .ref (82 + 9 * (h2 79 2).toNatClampNeg)), (0, .ref 79), (1, .ref b1), (2, .ref b2)]) dX3_goBack_44 (Nat.le_of_ble_eq_true rfl) rfl ?_
    refine Sim.aload_n 0 dX3_goBack_45 rfl ?_
    refine Sim.ifnonnull 51 dX3_goBack_46 rfl ?_
    refine Sim.aload_n 2 dX3_goBack_51 rfl ?_
    refine Sim.aload_n 0 dX3_goBack_52 rfl ?_
    refine Sim.callV1U (d1 := 1) (s_X4_copyFrom b1 hb1 (82 + 9 * (h2 79 2).toNatClampNeg) (xPp q3) h2) dX3_goBack_53 ml_X3_31 mv_X4_copyFrom (xOC_X4 _ hb1) (Nat.le_of_ble_eq_true rfl) (Nat.le_of_ble_eq_true rfl) (Nat.le_of_ble_eq_true rfl) (fun x4 => ?_)
    refine Sim.aload_n 3 dX3_goBack_56 rfl ?_
    refine Sim.aload_n 1 dX3_goBack_57 rfl ?_
    refine Sim.getR (j := 81) fl_X3_17 dX3_goBack_58 xR_79_1 ?_
    refine Sim.aload_n 1 dX3_goBack_61 rfl ?_
    refine Sim.getI fl_X3_21 dX3_goBack_62 xI_79_2 ?_
    refine Sim.iald (n := 6) dX3_goBack_65 xA_81 ?_
    refine Sim.put fp_X3_41 dX3_goBack_66 (xI_X2_2 _ hb2) rfl rfl ?_
    refine Sim.lth (fun h5 => ?_)
    refine Sim.iconst (v := (1 : Int32)) dX3_goBack_69 rfl ?_
    exact Sim.nret dX3_goBack_70 rfl rfl
theorem mv_X3_goBack : zMV mX3_goBack 2 := ⟨⟨zTb_in 1259 (by decide +kernel) rfl, zTb_in 144 (by decide +kernel) rfl, ⟨by decide +kernel, by decide +kernel⟩, by decide +kernel⟩, zTb_in 1257 (by decide +kernel) rfl, zTb_in 1258 (by decide +kernel) rfl⟩
-- ===== RockingPorch$Porch.addChair(I)I
abbrev mX4_addChair : zMt := (yX4_addChair, cX4_addChair, 2, some .int)
theorem ml_X4_65 : Cond.methodLink RX4 65 yX4_rock ∈ zTb := zTb_in 557 (by decide +kernel) rfl
theorem dX4_addChair_0 : decode cX4_addChair 0 = .ok (.aload_n 0, 1) := by decide +kernel
theorem dX4_addChair_1 : decode cX4_addChair 1 = .ok (.getfield 36, 3) := by decide +kernel
theorem dX4_addChair_4 : decode cX4_addChair 4 = .ok (.bipush 10, 2) := by decide +kernel
theorem dX4_addChair_6 : decode cX4_addChair 6 = .ok (.if_icmp .lt 5, 3) := by decide +kernel
theorem dX4_addChair_9 : decode cX4_addChair 9 = .ok (.iconst (-1), 1) := by decide +kernel
theorem dX4_addChair_10 : decode cX4_addChair 10 = .ok (.ireturn, 1) := by decide +kernel
theorem dX4_addChair_11 : decode cX4_addChair 11 = .ok (.aload_n 0, 1) := by decide +kernel
theorem dX4_addChair_12 : decode cX4_addChair 12 = .ok (.getfield 9, 3) := by decide +kernel
theorem dX4_addChair_15 : decode cX4_addChair 15 = .ok (.aload_n 0, 1) := by decide +kernel
theorem dX4_addChair_16 : decode cX4_addChair 16 = .ok (.getfield 36, 3) := by decide +kernel
theorem dX4_addChair_19 : decode cX4_addChair 19 = .ok (.iload_n 1, 1) := by decide +kernel
theorem dX4_addChair_20 : decode cX4_addChair 20 = .ok (.iastore, 1) := by decide +kernel
theorem dX4_addChair_21 : decode cX4_addChair 21 = .ok (.aload_n 0, 1) := by decide +kernel
theorem dX4_addChair_22 : decode cX4_addChair 22 = .ok (.getfield 21, 3) := by decide +kernel
theorem dX4_addChair_25 : decode cX4_addChair 25 = .ok (.aload_n 0, 1) := by decide +kernel
theorem dX4_addChair_26 : decode cX4_addChair 26 = .ok (.getfield 36, 3) := by decide +kernel
theorem dX4_addChair_29 : decode cX4_addChair 29 = .ok (.iconst (-1), 1) := by decide +kernel
theorem dX4_addChair_30 : decode cX4_addChair 30 = .ok (.iastore, 1) := by decide +kernel
theorem dX4_addChair_31 : decode cX4_addChair 31 = .ok (.aload_n 0, 1) := by decide +kernel
theorem dX4_addChair_32 : decode cX4_addChair 32 = .ok (.aload_n 0, 1) := by decide +kernel
theorem dX4_addChair_33 : decode cX4_addChair 33 = .ok (.getfield 36, 3) := by decide +kernel
theorem dX4_addChair_36 : decode cX4_addChair 36 = .ok (.iconst 0, 1) := by decide +kernel
theorem dX4_addChair_37 : decode cX4_addChair 37 = .ok (.iconst (-1), 1) := by decide +kernel
theorem dX4_addChair_38 : decode cX4_addChair 38 = .ok (.invokevirtual 65, 3) := by decide +kernel
theorem dX4_addChair_41 : decode cX4_addChair 41 = .ok (.aload_n 0, 1) := by decide +kernel
theorem dX4_addChair_42 : decode cX4_addChair 42 = .ok (.dup, 1) := by decide +kernel
theorem dX4_addChair_43 : decode cX4_addChair 43 = .ok (.getfield 36, 3) := by decide +kernel
theorem dX4_addChair_46 : decode cX4_addChair 46 = .ok (.iconst 1, 1) := by decide +kernel
theorem dX4_addChair_47 : decode cX4_addChair 47 = .ok (.iadd, 1) := by decide +kernel
theorem dX4_addChair_48 : decode cX4_addChair 48 = .ok (.putfield 36, 3) := by decide +kernel
theorem dX4_addChair_51 : decode cX4_addChair 51 = .ok (.aload_n 0, 1) := by decide +kernel
theorem dX4_addChair_52 : decode cX4_addChair 52 = .ok (.getfield 36, 3) := by decide +kernel
theorem dX4_addChair_55 : decode cX4_addChair 55 = .ok (.iconst 1, 1) := by decide +kernel
theorem dX4_addChair_56 : decode cX4_addChair 56 = .ok (.isub, 1) := by decide +kernel
theorem dX4_addChair_57 : decode cX4_addChair 57 = .ok (.ireturn, 1) := by decide +kernel
def f_X4_addChair (o : Nat) (a1 : Int32) (h : zHp) : Option (Int32 × zHp) := (if (h o 9) < (10 : Int32) then zix (h o 9) 10 (zlt (zst h (o + 1) (h o 9).toNatClampNeg a1) fun h1 => zix (h1 o 9) 10 (zlt (zst h1 (o + 4) (h1 o 9).toNatClampNeg (-1 : Int32)) fun h2 => (f_X4_rock o (h2 o 9) (0 : Int32) (-1 : Int32) h2).bind fun x3 => zlt (zst x3 o 9 ((x3 o 9) + (1 : Int32))) fun h4 => some (((h4 o 9) - (1 : Int32)), h4))) else some ((-1 : Int32), h))
set_option maxHeartbeats 4000000 in
set_option maxRecDepth 100000 in
theorem s_X4_addChair (o : Nat) (ho : o ∈ xPorch) (a1 : Int32) (h : zHp) : Fn wX mX4_addChair 1 rI [.ref o, .int a1] h (f_X4_addChair o a1 h) := by
  refine Fn.of rfl (Nat.le_of_ble_eq_true rfl) ?_
  unfold f_X4_addChair
  refine Sim.aload_n 0 dX4_addChair_0 rfl ?_
  refine Sim.getI fl_X4_36 dX4_addChair_1 (xI_X4_9 _ ho) ?_
  refine Sim.bipush (v := (10 : Int32)) dX4_addChair_4 rfl ?_
  refine Sim.icmp_lt 11 dX4_addChair_6 rfl ?_ ?_
  · refine Sim.aload_n 0 dX4_addChair_11 rfl ?_
    refine Sim.getR (j := (o + 1)) fl_X4_9 dX4_addChair_12 (xR_X4_1 _ ho) ?_
    refine Sim.aload_n 0 dX4_addChair_15 rfl ?_
    refine Sim.getI fl_X4_36 dX4_addChair_16 (xI_X4_9 _ ho) ?_
    refine Sim.iload_n 1 dX4_addChair_19 rfl ?_
    refine Sim.iast (n := 10) dX4_addChair_20 (xA_X4_1 _ ho) ?_
    refine Sim.lth (fun h1 => ?_)
    refine Sim.aload_n 0 dX4_addChair_21 rfl ?_
    refine Sim.getR (j := (o + 4)) fl_X4_21 dX4_addChair_22 (xR_X4_4 _ ho) ?_
    refine Sim.aload_n 0 dX4_addChair_25 rfl ?_
    refine Sim.getI fl_X4_36 dX4_addChair_26 (xI_X4_9 _ ho) ?_
    refine Sim.iconst (v := (-1 : Int32)) dX4_addChair_29 rfl ?_
    refine Sim.iast (n := 10) dX4_addChair_30 (xA_X4_4 _ ho) ?_
    refine Sim.lth (fun h2 => ?_)
    refine Sim.aload_n 0 dX4_addChair_31 rfl ?_
    refine Sim.aload_n 0 dX4_addChair_32 rfl ?_
    refine Sim.getI fl_X4_36 dX4_addChair_33 (xI_X4_9 _ ho) ?_
    refine Sim.iconst (v := (0 : Int32)) dX4_addChair_36 rfl ?_
    refine Sim.iconst (v := (-1 : Int32)) dX4_addChair_37 rfl ?_
    refine Sim.callV3U (d1 := 0) (s_X4_rock o ho (h2 o 9) (0 : Int32) (-1 : Int32) h2) dX4_addChair_38 ml_X4_65 mv_X4_rock (xOC_X4 _ ho) (Nat.le_of_ble_eq_true rfl) (Nat.le_of_ble_eq_true rfl) (Nat.le_of_ble_eq_true rfl) (fun x3 => ?_)
    refine Sim.aload_n 0 dX4_addChair_41 rfl ?_
    refine Sim.dup dX4_addChair_42 rfl ?_
    refine Sim.getI fl_X4_36 dX4_addChair_43 (xI_X4_9 _ ho) ?_
    refine Sim.iconst (v := (1 : Int32)) dX4_addChair_46 rfl ?_
    refine Sim.iadd dX4_addChair_47 ?_
    refine Sim.put fp_X4_36 dX4_addChair_48 (xI_X4_9 _ ho) rfl rfl ?_
    refine Sim.lth (fun h4 => ?_)
    refine Sim.aload_n 0 dX4_addChair_51 rfl ?_
    refine Sim.getI fl_X4_36 dX4_addChair_52 (xI_X4_9 _ ho) ?_
    refine Sim.iconst (v := (1 : Int32)) dX4_addChair_55 rfl ?_
    refine Sim.isub dX4_addChair_56 ?_
    exact Sim.iret dX4_addChair_57 rfl
  · refine Sim.iconst (v := (-1 : Int32)) dX4_addChair_9 rfl ?_
    exact Sim.iret dX4_addChair_10 rfl
theorem mv_X4_addChair : zMV mX4_addChair 1 := ⟨⟨zTb_in 556 (by decide +kernel) rfl, zTb_in 139 (by decide +kernel) rfl, ⟨by decide +kernel, by decide +kernel⟩, by decide +kernel⟩, zTb_in 554 (by decide +kernel) rfl, zTb_in 555 (by decide +kernel) rfl⟩
-- ===== RockingPorch$Porch.addPerson(I)I
abbrev mX4_addPerson : zMt := (yX4_addPerson, cX4_addPerson, 2, some .int)
theorem dX4_addPerson_0 : decode cX4_addPerson 0 = .ok (.aload_n 0, 1) := by decide +kernel
theorem dX4_addPerson_1 : decode cX4_addPerson 1 = .ok (.getfield 40, 3) := by decide +kernel
theorem dX4_addPerson_4 : decode cX4_addPerson 4 = .ok (.bipush 14, 2) := by decide +kernel
theorem dX4_addPerson_6 : decode cX4_addPerson 6 = .ok (.if_icmp .lt 5, 3) := by decide +kernel
theorem dX4_addPerson_9 : decode cX4_addPerson 9 = .ok (.iconst (-1), 1) := by decide +kernel
theorem dX4_addPerson_10 : decode cX4_addPerson 10 = .ok (.ireturn, 1) := by decide +kernel
theorem dX4_addPerson_11 : decode cX4_addPerson 11 = .ok (.aload_n 0, 1) := by decide +kernel
theorem dX4_addPerson_12 : decode cX4_addPerson 12 = .ok (.getfield 24, 3) := by decide +kernel
theorem dX4_addPerson_15 : decode cX4_addPerson 15 = .ok (.aload_n 0, 1) := by decide +kernel
theorem dX4_addPerson_16 : decode cX4_addPerson 16 = .ok (.getfield 40, 3) := by decide +kernel
theorem dX4_addPerson_19 : decode cX4_addPerson 19 = .ok (.iload_n 1, 1) := by decide +kernel
theorem dX4_addPerson_20 : decode cX4_addPerson 20 = .ok (.iastore, 1) := by decide +kernel
theorem dX4_addPerson_21 : decode cX4_addPerson 21 = .ok (.aload_n 0, 1) := by decide +kernel
theorem dX4_addPerson_22 : decode cX4_addPerson 22 = .ok (.getfield 27, 3) := by decide +kernel
theorem dX4_addPerson_25 : decode cX4_addPerson 25 = .ok (.aload_n 0, 1) := by decide +kernel
theorem dX4_addPerson_26 : decode cX4_addPerson 26 = .ok (.getfield 40, 3) := by decide +kernel
theorem dX4_addPerson_29 : decode cX4_addPerson 29 = .ok (.iconst 1, 1) := by decide +kernel
theorem dX4_addPerson_30 : decode cX4_addPerson 30 = .ok (.iastore, 1) := by decide +kernel
theorem dX4_addPerson_31 : decode cX4_addPerson 31 = .ok (.aload_n 0, 1) := by decide +kernel
theorem dX4_addPerson_32 : decode cX4_addPerson 32 = .ok (.getfield 30, 3) := by decide +kernel
theorem dX4_addPerson_35 : decode cX4_addPerson 35 = .ok (.aload_n 0, 1) := by decide +kernel
theorem dX4_addPerson_36 : decode cX4_addPerson 36 = .ok (.getfield 40, 3) := by decide +kernel
theorem dX4_addPerson_39 : decode cX4_addPerson 39 = .ok (.iconst 0, 1) := by decide +kernel
theorem dX4_addPerson_40 : decode cX4_addPerson 40 = .ok (.iastore, 1) := by decide +kernel
theorem dX4_addPerson_41 : decode cX4_addPerson 41 = .ok (.aload_n 0, 1) := by decide +kernel
theorem dX4_addPerson_42 : decode cX4_addPerson 42 = .ok (.getfield 33, 3) := by decide +kernel
theorem dX4_addPerson_45 : decode cX4_addPerson 45 = .ok (.aload_n 0, 1) := by decide +kernel
theorem dX4_addPerson_46 : decode cX4_addPerson 46 = .ok (.getfield 40, 3) := by decide +kernel
theorem dX4_addPerson_49 : decode cX4_addPerson 49 = .ok (.iconst 0, 1) := by decide +kernel
theorem dX4_addPerson_50 : decode cX4_addPerson 50 = .ok (.iastore, 1) := by decide +kernel
theorem dX4_addPerson_51 : decode cX4_addPerson 51 = .ok (.aload_n 0, 1) := by decide +kernel
theorem dX4_addPerson_52 : decode cX4_addPerson 52 = .ok (.dup, 1) := by decide +kernel
theorem dX4_addPerson_53 : decode cX4_addPerson 53 = .ok (.getfield 40, 3) := by decide +kernel
theorem dX4_addPerson_56 : decode cX4_addPerson 56 = .ok (.iconst 1, 1) := by decide +kernel
theorem dX4_addPerson_57 : decode cX4_addPerson 57 = .ok (.iadd, 1) := by decide +kernel
theorem dX4_addPerson_58 : decode cX4_addPerson 58 = .ok (.putfield 40, 3) := by decide +kernel
theorem dX4_addPerson_61 : decode cX4_addPerson 61 = .ok (.aload_n 0, 1) := by decide +kernel
theorem dX4_addPerson_62 : decode cX4_addPerson 62 = .ok (.getfield 40, 3) := by decide +kernel
theorem dX4_addPerson_65 : decode cX4_addPerson 65 = .ok (.iconst 1, 1) := by decide +kernel
theorem dX4_addPerson_66 : decode cX4_addPerson 66 = .ok (.isub, 1) := by decide +kernel
theorem dX4_addPerson_67 : decode cX4_addPerson 67 = .ok (.ireturn, 1) := by decide +kernel
def f_X4_addPerson (o : Nat) (a1 : Int32) (h : zHp) : Option (Int32 × zHp) := (if (h o 10) < (14 : Int32) then zix (h o 10) 14 (zlt (zst h (o + 5) (h o 10).toNatClampNeg a1) fun h1 => zix (h1 o 10) 14 (zlt (zst h1 (o + 6) (h1 o 10).toNatClampNeg (1 : Int32)) fun h2 => zix (h2 o 10) 14 (zlt (zst h2 (o + 7) (h2 o 10).toNatClampNeg (0 : Int32)) fun h3 => zix (h3 o 10) 14 (zlt (zst h3 (o + 8) (h3 o 10).toNatClampNeg (0 : Int32)) fun h4 => zlt (zst h4 o 10 ((h4 o 10) + (1 : Int32))) fun h5 => some (((h5 o 10) - (1 : Int32)), h5))))) else some ((-1 : Int32), h))
set_option maxHeartbeats 4000000 in
set_option maxRecDepth 100000 in
theorem s_X4_addPerson (o : Nat) (ho : o ∈ xPorch) (a1 : Int32) (h : zHp) : Fn wX mX4_addPerson 0 rI [.ref o, .int a1] h (f_X4_addPerson o a1 h) := by
  refine Fn.of rfl (Nat.le_of_ble_eq_true rfl) ?_
  unfold f_X4_addPerson
  refine Sim.aload_n 0 dX4_addPerson_0 rfl ?_
  refine Sim.getI fl_X4_40 dX4_addPerson_1 (xI_X4_10 _ ho) ?_
  refine Sim.bipush (v := (14 : Int32)) dX4_addPerson_4 rfl ?_
  refine Sim.icmp_lt 11 dX4_addPerson_6 rfl ?_ ?_
  · refine Sim.aload_n 0 dX4_addPerson_11 rfl ?_
    refine Sim.getR (j := (o + 5)) fl_X4_24 dX4_addPerson_12 (xR_X4_5 _ ho) ?_
    refine Sim.aload_n 0 dX4_addPerson_15 rfl ?_
    refine Sim.getI fl_X4_40 dX4_addPerson_16 (xI_X4_10 _ ho) ?_
    refine Sim.iload_n 1 dX4_addPerson_19 rfl ?_
    refine Sim.iast (n := 14) dX4_addPerson_20 (xA_X4_5 _ ho) ?_
    refine Sim.lth (fun h1 => ?_)
    refine Sim.aload_n 0 dX4_addPerson_21 rfl ?_
    refine Sim.getR (j := (o + 6)) fl_X4_27 dX4_addPerson_22 (xR_X4_6 _ ho) ?_
    refine Sim.aload_n 0 dX4_addPerson_25 rfl ?_
    refine Sim.getI fl_X4_40 dX4_addPerson_26 (xI_X4_10 _ ho) ?_
    refine Sim.iconst (v := (1 : Int32)) dX4_addPerson_29 rfl ?_
    refine Sim.iast (n := 14) dX4_addPerson_30 (xA_X4_6 _ ho) ?_
    refine Sim.lth (fun h2 => ?_)
    refine Sim.aload_n 0 dX4_addPerson_31 rfl ?_
    refine Sim.getR (j := (o + 7)) fl_X4_30 dX4_addPerson_32 (xR_X4_7 _ ho) ?_
    refine Sim.aload_n 0 dX4_addPerson_35 rfl ?_
    refine Sim.getI fl_X4_40 dX4_addPerson_36 (xI_X4_10 _ ho) ?_
    refine Sim.iconst (v := (0 : Int32)) dX4_addPerson_39 rfl ?_
    refine Sim.iast (n := 14) dX4_addPerson_40 (xA_X4_7 _ ho) ?_
    refine Sim.lth (fun h3 => ?_)
    refine Sim.aload_n 0 dX4_addPerson_41 rfl ?_
    refine Sim.getR (j := (o + 8)) fl_X4_33 dX4_addPerson_42 (xR_X4_8 _ ho) ?_
    refine Sim.aload_n 0 dX4_addPerson_45 rfl ?_
    refine Sim.getI fl_X4_40 dX4_addPerson_46 (xI_X4_10 _ ho) ?_
    refine Sim.iconst (v := (0 : Int32)) dX4_addPerson_49 rfl ?_
    refine Sim.iast (n := 14) dX4_addPerson_50 (xA_X4_8 _ ho) ?_
    refine Sim.lth (fun h4 => ?_)
    refine Sim.aload_n 0 dX4_addPerson_51 rfl ?_
    refine Sim.dup dX4_addPerson_52 rfl ?_
    refine Sim.getI fl_X4_40 dX4_addPerson_53 (xI_X4_10 _ ho) ?_
    refine Sim.iconst (v := (1 : Int32)) dX4_addPerson_56 rfl ?_
    refine Sim.iadd dX4_addPerson_57 ?_
    refine Sim.put fp_X4_40 dX4_addPerson_58 (xI_X4_10 _ ho) rfl rfl ?_
    refine Sim.lth (fun h5 => ?_)
    refine Sim.aload_n 0 dX4_addPerson_61 rfl ?_
    refine Sim.getI fl_X4_40 dX4_addPerson_62 (xI_X4_10 _ ho) ?_
    refine Sim.iconst (v := (1 : Int32)) dX4_addPerson_65 rfl ?_
    refine Sim.isub dX4_addPerson_66 ?_
    exact Sim.iret dX4_addPerson_67 rfl
  · refine Sim.iconst (v := (-1 : Int32)) dX4_addPerson_9 rfl ?_
    exact Sim.iret dX4_addPerson_10 rfl
theorem mv_X4_addPerson : zMV mX4_addPerson 1 := ⟨⟨zTb_in 568 (by decide +kernel) rfl, zTb_in 139 (by decide +kernel) rfl, ⟨by decide +kernel, by decide +kernel⟩, by decide +kernel⟩, zTb_in 566 (by decide +kernel) rfl, zTb_in 567 (by decide +kernel) rfl⟩
-- ===== RockingPorch$Porch.rockingFor(I)I
abbrev mX4_rockingFor : zMt := (yX4_rockingFor, cX4_rockingFor, 4, some .int)
theorem ml_X4_76 : Cond.methodLink RX4 76 yX4_rocks ∈ zTb := zTb_in 1007 (by decide +kernel) rfl
theorem dX4_rockingFor_0 : decode cX4_rockingFor 0 = .ok (.iconst 0, 1) := by decide +kernel
theorem dX4_rockingFor_1 : decode cX4_rockingFor 1 = .ok (.istore_n 2, 1) := by decide +kernel
theorem dX4_rockingFor_2 : decode cX4_rockingFor 2 = .ok (.iconst 0, 1) := by decide +kernel
theorem dX4_rockingFor_3 : decode cX4_rockingFor 3 = .ok (.istore_n 3, 1) := by decide +kernel
theorem dX4_rockingFor_4 : decode cX4_rockingFor 4 = .ok (.iload_n 3, 1) := by decide +kernel
theorem dX4_rockingFor_5 : decode cX4_rockingFor 5 = .ok (.aload_n 0, 1) := by decide +kernel
theorem dX4_rockingFor_6 : decode cX4_rockingFor 6 = .ok (.getfield 36, 3) := by decide +kernel
theorem dX4_rockingFor_9 : decode cX4_rockingFor 9 = .ok (.if_icmp .ge 33, 3) := by decide +kernel
theorem dX4_rockingFor_12 : decode cX4_rockingFor 12 = .ok (.aload_n 0, 1) := by decide +kernel
theorem dX4_rockingFor_13 : decode cX4_rockingFor 13 = .ok (.iload_n 3, 1) := by decide +kernel
theorem dX4_rockingFor_14 : decode cX4_rockingFor 14 = .ok (.invokevirtual 76, 3) := by decide +kernel
theorem dX4_rockingFor_17 : decode cX4_rockingFor 17 = .ok (.ifCond .eq 19, 3) := by decide +kernel
theorem dX4_rockingFor_20 : decode cX4_rockingFor 20 = .ok (.aload_n 0, 1) := by decide +kernel
theorem dX4_rockingFor_21 : decode cX4_rockingFor 21 = .ok (.getfield 18, 3) := by decide +kernel
theorem dX4_rockingFor_24 : decode cX4_rockingFor 24 = .ok (.iload_n 3, 1) := by decide +kernel
theorem dX4_rockingFor_25 : decode cX4_rockingFor 25 = .ok (.iaload, 1) := by decide +kernel
theorem dX4_rockingFor_26 : decode cX4_rockingFor 26 = .ok (.iload_n 1, 1) := by decide +kernel
theorem dX4_rockingFor_27 : decode cX4_rockingFor 27 = .ok (.if_icmp .ne 9, 3) := by decide +kernel
theorem dX4_rockingFor_30 : decode cX4_rockingFor 30 = .ok (.iload_n 2, 1) := by decide +kernel
theorem dX4_rockingFor_31 : decode cX4_rockingFor 31 = .ok (.iconst 1, 1) := by decide +kernel
theorem dX4_rockingFor_32 : decode cX4_rockingFor 32 = .ok (.iload_n 3, 1) := by decide +kernel
theorem dX4_rockingFor_33 : decode cX4_rockingFor 33 = .ok (.ishl, 1) := by decide +kernel
theorem dX4_rockingFor_34 : decode cX4_rockingFor 34 = .ok (.ior, 1) := by decide +kernel
theorem dX4_rockingFor_35 : decode cX4_rockingFor 35 = .ok (.istore_n 2, 1) := by decide +kernel
theorem dX4_rockingFor_36 : decode cX4_rockingFor 36 = .ok (.iinc 3 1, 3) := by decide +kernel
theorem dX4_rockingFor_39 : decode cX4_rockingFor 39 = .ok (.goto (-35), 3) := by decide +kernel
theorem dX4_rockingFor_42 : decode cX4_rockingFor 42 = .ok (.iload_n 2, 1) := by decide +kernel
theorem dX4_rockingFor_43 : decode cX4_rockingFor 43 = .ok (.ireturn, 1) := by decide +kernel
def f_X4_rockingFor_4 (o : Nat) (k4 : Int32 × Int32 × Int32 × zHp → Option (Int32 × zHp)) (v1 : Int32) (v2 : Int32) (v3 : Int32) (h : zHp) : Option (Int32 × zHp) := (if v3 < (h o 9) then (f_X4_rocks o v3 h).bind fun x1 => (if x1.1 = 0 then k4 (v1, v2, (v3 + (1 : Int32)), x1.2) else zix v3 10 ((if (x1.2 (o + 3) v3.toNatClampNeg) = v1 then zlt (v2 ||| ((1 : Int32) <<< (v3 &&& 31))) fun x2 => k4 (v1, x2, (v3 + (1 : Int32)), x1.2) else k4 (v1, v2, (v3 + (1 : Int32)), x1.2)))) else some (v2, h))
set_option maxHeartbeats 4000000 in
set_option maxRecDepth 100000 in
theorem f_X4_rockingFor_4_s (o : Nat) (ho : o ∈ xPorch) (k4 : Int32 × Int32 × Int32 × zHp → Option (Int32 × zHp)) (H4 : ∀ v : Int32 × Int32 × Int32 × zHp, Sim wX mX4_rockingFor 2 rI 4 [(0, .ref o), (1, .int v.1), (2, .int v.2.1), (3, .int v.2.2.1)] [] v.2.2.2 (k4 v)) (v1 : Int32) (v2 : Int32) (v3 : Int32) (h : zHp) : Sim wX mX4_rockingFor 2 rI 4 [(0, .ref o), (1, .int v1), (2, .int v2), (3, .int v3)] [] h (f_X4_rockingFor_4 o k4 v1 v2 v3 h) := by
  unfold f_X4_rockingFor_4
  refine Sim.iload_n 3 dX4_rockingFor_4 rfl ?_
  refine Sim.aload_n 0 dX4_rockingFor_5 rfl ?_
  refine Sim.getI fl_X4_36 dX4_rockingFor_6 (xI_X4_9 _ ho) ?_
  refine Sim.icmp_ge 42 dX4_rockingFor_9 rfl ?_ ?_
  · refine Sim.aload_n 0 dX4_rockingFor_12 rfl ?_
    refine Sim.iload_n 3 dX4_rockingFor_13 rfl ?_
    refine Sim.callV1I (d1 := 1) (s_X4_rocks o ho v3 h) dX4_rockingFor_14 ml_X4_76 mv_X4_rocks (xOC_X4 _ ho) (Nat.le_of_ble_eq_true rfl) (Nat.le_of_ble_eq_true rfl) (Nat.le_of_ble_eq_true rfl) (fun x1 => ?_)
    refine Sim.if_eq 36 dX4_rockingFor_17 rfl ?_ ?_
    · refine Sim.iinc (L' := [(3, .int (v3 + (1 : Int32))), (0, .ref o), (1, .int v1), (2, .int v2)]) 3 dX4_rockingFor_36 rfl rfl (Nat.le_of_ble_eq_true rfl) rfl ?_
      refine Sim.goto 4 dX4_rockingFor_39 rfl ?_
      refine Sim.locs [1, 2, 3, 0] rfl ?_
      exact H4 (v1, v2, (v3 + (1 : Int32)), x1.2)
    · refine Sim.aload_n 0 dX4_rockingFor_20 rfl ?_
      refine Sim.getR (j := (o + 3)) fl_X4_18 dX4_rockingFor_21 (xR_X4_3 _ ho) ?_
      refine Sim.iload_n 3 dX4_rockingFor_24 rfl ?_
      refine Sim.iald (n := 10) dX4_rockingFor_25 (xA_X4_3 _ ho) ?_
      refine Sim.iload_n 1 dX4_rockingFor_26 rfl ?_
      refine Sim.icmp_ne 36 dX4_rockingFor_27 rfl ?_ ?_
      · refine Sim.iload_n 2 dX4_rockingFor_30 rfl ?_
        refine Sim.iconst (v := (1 : Int32)) dX4_rockingFor_31 rfl ?_
        refine Sim.iload_n 3 dX4_rockingFor_32 rfl ?_
        refine Sim.ishl dX4_rockingFor_33 ?_
        refine Sim.ior dX4_rockingFor_34 ?_
        refine Sim.lti (fun x2 => ?_)
        refine Sim.istore_n (L' := [(2, .int x2), (0, .ref o), (1, .int v1), (3, .int v3)]) dX4_rockingFor_35 (Nat.le_of_ble_eq_true rfl) rfl ?_
        refine Sim.iinc (L' := [(3, .int (v3 + (1 : Int32))), (2, .int x2), (0, .ref o), (1, .int v1)]) 3 dX4_rockingFor_36 rfl rfl (Nat.le_of_ble_eq_true rfl) rfl ?_
        refine Sim.goto 4 dX4_rockingFor_39 rfl ?_
        refine Sim.locs [2, 3, 1, 0] rfl ?_
        exact H4 (v1, x2, (v3 + (1 : Int32)), x1.2)
      · refine Sim.iinc (L' := [(3, .int (v3 + (1 : Int32))), (0, .ref o), (1, .int v1), (2, .int v2)]) 3 dX4_rockingFor_36 rfl rfl (Nat.le_of_ble_eq_true rfl) rfl ?_
        refine Sim.goto 4 dX4_rockingFor_39 rfl ?_
        refine Sim.locs [1, 2, 3, 0] rfl ?_
        exact H4 (v1, v2, (v3 + (1 : Int32)), x1.2)
  · refine Sim.iload_n 2 dX4_rockingFor_42 rfl ?_
    exact Sim.iret dX4_rockingFor_43 rfl
def f_X4_rockingFor_4_lp (o : Nat)  (n : Nat) (v : Int32 × Int32 × Int32 × zHp) : Option (Int32 × zHp) := zlp (fun k4 v => f_X4_rockingFor_4 o k4 v.1 v.2.1 v.2.2.1 v.2.2.2) n v
theorem f_X4_rockingFor_4_ls (o : Nat) (ho : o ∈ xPorch) (n : Nat) (v : Int32 × Int32 × Int32 × zHp) : Sim wX mX4_rockingFor 2 rI 4 [(0, .ref o), (1, .int v.1), (2, .int v.2.1), (3, .int v.2.2.1)] [] v.2.2.2 (f_X4_rockingFor_4_lp o n v) :=
  Sim.lp (V := Int32 × Int32 × Int32 × zHp) (Lf := fun v => [(0, .ref o), (1, .int v.1), (2, .int v.2.1), (3, .int v.2.2.1)]) (sf := fun v => []) (hf := fun v => v.2.2.2) (fun k4 H4 v => f_X4_rockingFor_4_s o ho k4 H4 v.1 v.2.1 v.2.2.1 v.2.2.2) n v
def f_X4_rockingFor (o : Nat) (a1 : Int32) (h : zHp) : Option (Int32 × zHp) := f_X4_rockingFor_4_lp o zN (a1, (0 : Int32), (0 : Int32), h)
set_option maxHeartbeats 4000000 in
set_option maxRecDepth 100000 in
theorem s_X4_rockingFor (o : Nat) (ho : o ∈ xPorch) (a1 : Int32) (h : zHp) : Fn wX mX4_rockingFor 2 rI [.ref o, .int a1] h (f_X4_rockingFor o a1 h) := by
  refine Fn.of rfl (Nat.le_of_ble_eq_true rfl) ?_
  unfold f_X4_rockingFor
  refine Sim.iconst (v := (0 : Int32)) dX4_rockingFor_0 rfl ?_
  refine Sim.istore_n (L' := [(2, .int (0 : Int32)), (0, .ref o), (1, .int a1)]) dX4_rockingFor_1 (Nat.le_of_ble_eq_true rfl) rfl ?_
  refine Sim.iconst (v := (0 : Int32)) dX4_rockingFor_2 rfl ?_
  refine Sim.istore_n (L' := [(3, .int (0 : Int32)), (2, .int (0 : Int32)), (0, .ref o), (1, .int a1)]) dX4_rockingFor_3 (Nat.le_of_ble_eq_true rfl) rfl ?_
  refine Sim.locs [2, 3, 1, 0] rfl ?_
  exact f_X4_rockingFor_4_ls o ho zN (a1, (0 : Int32), (0 : Int32), h)
theorem mv_X4_rockingFor : zMV mX4_rockingFor 1 := ⟨⟨zTb_in 1006 (by decide +kernel) rfl, zTb_in 139 (by decide +kernel) rfl, ⟨by decide +kernel, by decide +kernel⟩, by decide +kernel⟩, zTb_in 1004 (by decide +kernel) rfl, zTb_in 1005 (by decide +kernel) rfl⟩
-- ===== RockingPorch$Porch.rockingSet()I
abbrev mX4_rockingSet : zMt := (yX4_rockingSet, cX4_rockingSet, 3, some .int)
theorem dX4_rockingSet_0 : decode cX4_rockingSet 0 = .ok (.iconst 0, 1) := by decide +kernel
theorem dX4_rockingSet_1 : decode cX4_rockingSet 1 = .ok (.istore_n 1, 1) := by decide +kernel
theorem dX4_rockingSet_2 : decode cX4_rockingSet 2 = .ok (.iconst 0, 1) := by decide +kernel
theorem dX4_rockingSet_3 : decode cX4_rockingSet 3 = .ok (.istore_n 2, 1) := by decide +kernel
theorem dX4_rockingSet_4 : decode cX4_rockingSet 4 = .ok (.iload_n 2, 1) := by decide +kernel
theorem dX4_rockingSet_5 : decode cX4_rockingSet 5 = .ok (.aload_n 0, 1) := by decide +kernel
theorem dX4_rockingSet_6 : decode cX4_rockingSet 6 = .ok (.getfield 36, 3) := by decide +kernel
theorem dX4_rockingSet_9 : decode cX4_rockingSet 9 = .ok (.if_icmp .ge 23, 3) := by decide +kernel
theorem dX4_rockingSet_12 : decode cX4_rockingSet 12 = .ok (.aload_n 0, 1) := by decide +kernel
theorem dX4_rockingSet_13 : decode cX4_rockingSet 13 = .ok (.iload_n 2, 1) := by decide +kernel
theorem dX4_rockingSet_14 : decode cX4_rockingSet 14 = .ok (.invokevirtual 76, 3) := by decide +kernel
theorem dX4_rockingSet_17 : decode cX4_rockingSet 17 = .ok (.ifCond .eq 9, 3) := by decide +kernel
theorem dX4_rockingSet_20 : decode cX4_rockingSet 20 = .ok (.iload_n 1, 1) := by decide +kernel
theorem dX4_rockingSet_21 : decode cX4_rockingSet 21 = .ok (.iconst 1, 1) := by decide +kernel
theorem dX4_rockingSet_22 : decode cX4_rockingSet 22 = .ok (.iload_n 2, 1) := by decide +kernel
theorem dX4_rockingSet_23 : decode cX4_rockingSet 23 = .ok (.ishl, 1) := by decide +kernel
theorem dX4_rockingSet_24 : decode cX4_rockingSet 24 = .ok (.ior, 1) := by decide +kernel
theorem dX4_rockingSet_25 : decode cX4_rockingSet 25 = .ok (.istore_n 1, 1) := by decide +kernel
theorem dX4_rockingSet_26 : decode cX4_rockingSet 26 = .ok (.iinc 2 1, 3) := by decide +kernel
theorem dX4_rockingSet_29 : decode cX4_rockingSet 29 = .ok (.goto (-25), 3) := by decide +kernel
theorem dX4_rockingSet_32 : decode cX4_rockingSet 32 = .ok (.iload_n 1, 1) := by decide +kernel
theorem dX4_rockingSet_33 : decode cX4_rockingSet 33 = .ok (.ireturn, 1) := by decide +kernel
def f_X4_rockingSet_4 (o : Nat) (k4 : Int32 × Int32 × zHp → Option (Int32 × zHp)) (v1 : Int32) (v2 : Int32) (h : zHp) : Option (Int32 × zHp) := (if v2 < (h o 9) then (f_X4_rocks o v2 h).bind fun x1 => (if x1.1 = 0 then k4 (v1, (v2 + (1 : Int32)), x1.2) else zlt (v1 ||| ((1 : Int32) <<< (v2 &&& 31))) fun x2 => k4 (x2, (v2 + (1 : Int32)), x1.2)) else some (v1, h))
set_option maxHeartbeats 4000000 in
set_option maxRecDepth 100000 in
theorem f_X4_rockingSet_4_s (o : Nat) (ho : o ∈ xPorch) (k4 : Int32 × Int32 × zHp → Option (Int32 × zHp)) (H4 : ∀ v : Int32 × Int32 × zHp, Sim wX mX4_rockingSet 2 rI 4 [(0, .ref o), (1, .int v.1), (2, .int v.2.1)] [] v.2.2 (k4 v)) (v1 : Int32) (v2 : Int32) (h : zHp) : Sim wX mX4_rockingSet 2 rI 4 [(0, .ref o), (1, .int v1), (2, .int v2)] [] h (f_X4_rockingSet_4 o k4 v1 v2 h) := by
  unfold f_X4_rockingSet_4
  refine Sim.iload_n 2 dX4_rockingSet_4 rfl ?_
  refine Sim.aload_n 0 dX4_rockingSet_5 rfl ?_
  refine Sim.getI fl_X4_36 dX4_rockingSet_6 (xI_X4_9 _ ho) ?_
  refine Sim.icmp_ge 32 dX4_rockingSet_9 rfl ?_ ?_
  · refine Sim.aload_n 0 dX4_rockingSet_12 rfl ?_
    refine Sim.iload_n 2 dX4_rockingSet_13 rfl ?_
    refine Sim.callV1I (d1 := 1) (s_X4_rocks o ho v2 h) dX4_rockingSet_14 ml_X4_76 mv_X4_rocks (xOC_X4 _ ho) (Nat.le_of_ble_eq_true rfl) (Nat.le_of_ble_eq_true rfl) (Nat.le_of_ble_eq_true rfl) (fun x1 => ?_)
    refine Sim.if_eq 26 dX4_rockingSet_17 rfl ?_ ?_
    · refine Sim.iinc (L' := [(2, .int (v2 + (1 : Int32))), (0, .ref o), (1, .int v1)]) 2 dX4_rockingSet_26 rfl rfl (Nat.le_of_ble_eq_true rfl) rfl ?_
      refine Sim.goto 4 dX4_rockingSet_29 rfl ?_
      refine Sim.locs [1, 2, 0] rfl ?_
      exact H4 (v1, (v2 + (1 : Int32)), x1.2)
    · refine Sim.iload_n 1 dX4_rockingSet_20 rfl ?_
      refine Sim.iconst (v := (1 : Int32)) dX4_rockingSet_21 rfl ?_
      refine Sim.iload_n 2 dX4_rockingSet_22 rfl ?_
      refine Sim.ishl dX4_rockingSet_23 ?_
      refine Sim.ior dX4_rockingSet_24 ?_
      refine Sim.lti (fun x2 => ?_)
      refine Sim.istore_n (L' := [(1, .int x2), (0, .ref o), (2, .int v2)]) dX4_rockingSet_25 (Nat.le_of_ble_eq_true rfl) rfl ?_
      refine Sim.iinc (L' := [(2, .int (v2 + (1 : Int32))), (1, .int x2), (0, .ref o)]) 2 dX4_rockingSet_26 rfl rfl (Nat.le_of_ble_eq_true rfl) rfl ?_
      refine Sim.goto 4 dX4_rockingSet_29 rfl ?_
      refine Sim.locs [2, 1, 0] rfl ?_
      exact H4 (x2, (v2 + (1 : Int32)), x1.2)
  · refine Sim.iload_n 1 dX4_rockingSet_32 rfl ?_
    exact Sim.iret dX4_rockingSet_33 rfl
def f_X4_rockingSet_4_lp (o : Nat)  (n : Nat) (v : Int32 × Int32 × zHp) : Option (Int32 × zHp) := zlp (fun k4 v => f_X4_rockingSet_4 o k4 v.1 v.2.1 v.2.2) n v
theorem f_X4_rockingSet_4_ls (o : Nat) (ho : o ∈ xPorch) (n : Nat) (v : Int32 × Int32 × zHp) : Sim wX mX4_rockingSet 2 rI 4 [(0, .ref o), (1, .int v.1), (2, .int v.2.1)] [] v.2.2 (f_X4_rockingSet_4_lp o n v) :=
  Sim.lp (V := Int32 × Int32 × zHp) (Lf := fun v => [(0, .ref o), (1, .int v.1), (2, .int v.2.1)]) (sf := fun v => []) (hf := fun v => v.2.2) (fun k4 H4 v => f_X4_rockingSet_4_s o ho k4 H4 v.1 v.2.1 v.2.2) n v
def f_X4_rockingSet (o : Nat)  (h : zHp) : Option (Int32 × zHp) := f_X4_rockingSet_4_lp o zN ((0 : Int32), (0 : Int32), h)
set_option maxHeartbeats 4000000 in
set_option maxRecDepth 100000 in
theorem s_X4_rockingSet (o : Nat) (ho : o ∈ xPorch)  (h : zHp) : Fn wX mX4_rockingSet 2 rI [.ref o] h (f_X4_rockingSet o h) := by
  refine Fn.of rfl (Nat.le_of_ble_eq_true rfl) ?_
  unfold f_X4_rockingSet
  refine Sim.iconst (v := (0 : Int32)) dX4_rockingSet_0 rfl ?_
  refine Sim.istore_n (L' := [(1, .int (0 : Int32)), (0, .ref o)]) dX4_rockingSet_1 (Nat.le_of_ble_eq_true rfl) rfl ?_
  refine Sim.iconst (v := (0 : Int32)) dX4_rockingSet_2 rfl ?_
  refine Sim.istore_n (L' := [(2, .int (0 : Int32)), (1, .int (0 : Int32)), (0, .ref o)]) dX4_rockingSet_3 (Nat.le_of_ble_eq_true rfl) rfl ?_
  refine Sim.locs [2, 1, 0] rfl ?_
  exact f_X4_rockingSet_4_ls o ho zN ((0 : Int32), (0 : Int32), h)
theorem mv_X4_rockingSet : zMV mX4_rockingSet 0 := ⟨⟨zTb_in 1290 (by decide +kernel) rfl, zTb_in 139 (by decide +kernel) rfl, ⟨by decide +kernel, by decide +kernel⟩, by decide +kernel⟩, zTb_in 1288 (by decide +kernel) rfl, zTb_in 1289 (by decide +kernel) rfl⟩
-- ===== RockingPorch$Porch.freeSet()I
abbrev mX4_freeSet : zMt := (yX4_freeSet, cX4_freeSet, 3, some .int)
theorem ml_X4_79 : Cond.methodLink RX4 79 yX4_isFree ∈ zTb := zTb_in 1026 (by decide +kernel) rfl
theorem dX4_freeSet_0 : decode cX4_freeSet 0 = .ok (.iconst 0, 1) := by decide +kernel
theorem dX4_freeSet_1 : decode cX4_freeSet 1 = .ok (.istore_n 1, 1) := by decide +kernel
theorem dX4_freeSet_2 : decode cX4_freeSet 2 = .ok (.iconst 0, 1) := by decide +kernel
theorem dX4_freeSet_3 : decode cX4_freeSet 3 = .ok (.istore_n 2, 1) := by decide +kernel
theorem dX4_freeSet_4 : decode cX4_freeSet 4 = .ok (.iload_n 2, 1) := by decide +kernel
theorem dX4_freeSet_5 : decode cX4_freeSet 5 = .ok (.aload_n 0, 1) := by decide +kernel
theorem dX4_freeSet_6 : decode cX4_freeSet 6 = .ok (.getfield 36, 3) := by decide +kernel
theorem dX4_freeSet_9 : decode cX4_freeSet 9 = .ok (.if_icmp .ge 23, 3) := by decide +kernel
theorem dX4_freeSet_12 : decode cX4_freeSet 12 = .ok (.aload_n 0, 1) := by decide +kernel
theorem dX4_freeSet_13 : decode cX4_freeSet 13 = .ok (.iload_n 2, 1) := by decide +kernel
theorem dX4_freeSet_14 : decode cX4_freeSet 14 = .ok (.invokevirtual 79, 3) := by decide +kernel
theorem dX4_freeSet_17 : decode cX4_freeSet 17 = .ok (.ifCond .eq 9, 3) := by decide +kernel
theorem dX4_freeSet_20 : decode cX4_freeSet 20 = .ok (.iload_n 1, 1) := by decide +kernel
theorem dX4_freeSet_21 : decode cX4_freeSet 21 = .ok (.iconst 1, 1) := by decide +kernel
theorem dX4_freeSet_22 : decode cX4_freeSet 22 = .ok (.iload_n 2, 1) := by decide +kernel
theorem dX4_freeSet_23 : decode cX4_freeSet 23 = .ok (.ishl, 1) := by decide +kernel
theorem dX4_freeSet_24 : decode cX4_freeSet 24 = .ok (.ior, 1) := by decide +kernel
theorem dX4_freeSet_25 : decode cX4_freeSet 25 = .ok (.istore_n 1, 1) := by decide +kernel
theorem dX4_freeSet_26 : decode cX4_freeSet 26 = .ok (.iinc 2 1, 3) := by decide +kernel
theorem dX4_freeSet_29 : decode cX4_freeSet 29 = .ok (.goto (-25), 3) := by decide +kernel
theorem dX4_freeSet_32 : decode cX4_freeSet 32 = .ok (.iload_n 1, 1) := by decide +kernel
theorem dX4_freeSet_33 : decode cX4_freeSet 33 = .ok (.ireturn, 1) := by decide +kernel
def f_X4_freeSet_4 (o : Nat) (k4 : Int32 × Int32 × zHp → Option (Int32 × zHp)) (v1 : Int32) (v2 : Int32) (h : zHp) : Option (Int32 × zHp) := (if v2 < (h o 9) then (f_X4_isFree o v2 h).bind fun x1 => (if x1.1 = 0 then k4 (v1, (v2 + (1 : Int32)), x1.2) else zlt (v1 ||| ((1 : Int32) <<< (v2 &&& 31))) fun x2 => k4 (x2, (v2 + (1 : Int32)), x1.2)) else some (v1, h))
set_option maxHeartbeats 4000000 in
set_option maxRecDepth 100000 in
theorem f_X4_freeSet_4_s (o : Nat) (ho : o ∈ xPorch) (k4 : Int32 × Int32 × zHp → Option (Int32 × zHp)) (H4 : ∀ v : Int32 × Int32 × zHp, Sim wX mX4_freeSet 2 rI 4 [(0, .ref o), (1, .int v.1), (2, .int v.2.1)] [] v.2.2 (k4 v)) (v1 : Int32) (v2 : Int32) (h : zHp) : Sim wX mX4_freeSet 2 rI 4 [(0, .ref o), (1, .int v1), (2, .int v2)] [] h (f_X4_freeSet_4 o k4 v1 v2 h) := by
  unfold f_X4_freeSet_4
  refine Sim.iload_n 2 dX4_freeSet_4 rfl ?_
  refine Sim.aload_n 0 dX4_freeSet_5 rfl ?_
  refine Sim.getI fl_X4_36 dX4_freeSet_6 (xI_X4_9 _ ho) ?_
  refine Sim.icmp_ge 32 dX4_freeSet_9 rfl ?_ ?_
  · refine Sim.aload_n 0 dX4_freeSet_12 rfl ?_
    refine Sim.iload_n 2 dX4_freeSet_13 rfl ?_
    refine Sim.callV1I (d1 := 1) (s_X4_isFree o ho v2 h) dX4_freeSet_14 ml_X4_79 mv_X4_isFree (xOC_X4 _ ho) (Nat.le_of_ble_eq_true rfl) (Nat.le_of_ble_eq_true rfl) (Nat.le_of_ble_eq_true rfl) (fun x1 => ?_)
    refine Sim.if_eq 26 dX4_freeSet_17 rfl ?_ ?_
    · refine Sim.iinc (L' := [(2, .int (v2 + (1 : Int32))), (0, .ref o), (1, .int v1)]) 2 dX4_freeSet_26 rfl rfl (Nat.le_of_ble_eq_true rfl) rfl ?_
      refine Sim.goto 4 dX4_freeSet_29 rfl ?_
      refine Sim.locs [1, 2, 0] rfl ?_
      exact H4 (v1, (v2 + (1 : Int32)), x1.2)
    · refine Sim.iload_n 1 dX4_freeSet_20 rfl ?_
      refine Sim.iconst (v := (1 : Int32)) dX4_freeSet_21 rfl ?_
      refine Sim.iload_n 2 dX4_freeSet_22 rfl ?_
      refine Sim.ishl dX4_freeSet_23 ?_
      refine Sim.ior dX4_freeSet_24 ?_
      refine Sim.lti (fun x2 => ?_)
      refine Sim.istore_n (L' := [(1, .int x2), (0, .ref o), (2, .int v2)]) dX4_freeSet_25 (Nat.le_of_ble_eq_true rfl) rfl ?_
      refine Sim.iinc (L' := [(2, .int (v2 + (1 : Int32))), (1, .int x2), (0, .ref o)]) 2 dX4_freeSet_26 rfl rfl (Nat.le_of_ble_eq_true rfl) rfl ?_
      refine Sim.goto 4 dX4_freeSet_29 rfl ?_
      refine Sim.locs [2, 1, 0] rfl ?_
      exact H4 (x2, (v2 + (1 : Int32)), x1.2)
  · refine Sim.iload_n 1 dX4_freeSet_32 rfl ?_
    exact Sim.iret dX4_freeSet_33 rfl
def f_X4_freeSet_4_lp (o : Nat)  (n : Nat) (v : Int32 × Int32 × zHp) : Option (Int32 × zHp) := zlp (fun k4 v => f_X4_freeSet_4 o k4 v.1 v.2.1 v.2.2) n v
theorem f_X4_freeSet_4_ls (o : Nat) (ho : o ∈ xPorch) (n : Nat) (v : Int32 × Int32 × zHp) : Sim wX mX4_freeSet 2 rI 4 [(0, .ref o), (1, .int v.1), (2, .int v.2.1)] [] v.2.2 (f_X4_freeSet_4_lp o n v) :=
  Sim.lp (V := Int32 × Int32 × zHp) (Lf := fun v => [(0, .ref o), (1, .int v.1), (2, .int v.2.1)]) (sf := fun v => []) (hf := fun v => v.2.2) (fun k4 H4 v => f_X4_freeSet_4_s o ho k4 H4 v.1 v.2.1 v.2.2) n v
def f_X4_freeSet (o : Nat)  (h : zHp) : Option (Int32 × zHp) := f_X4_freeSet_4_lp o zN ((0 : Int32), (0 : Int32), h)
set_option maxHeartbeats 4000000 in
set_option maxRecDepth 100000 in
theorem s_X4_freeSet (o : Nat) (ho : o ∈ xPorch)  (h : zHp) : Fn wX mX4_freeSet 2 rI [.ref o] h (f_X4_freeSet o h) := by
  refine Fn.of rfl (Nat.le_of_ble_eq_true rfl) ?_
  unfold f_X4_freeSet
  refine Sim.iconst (v := (0 : Int32)) dX4_freeSet_0 rfl ?_
  refine Sim.istore_n (L' := [(1, .int (0 : Int32)), (0, .ref o)]) dX4_freeSet_1 (Nat.le_of_ble_eq_true rfl) rfl ?_
  refine Sim.iconst (v := (0 : Int32)) dX4_freeSet_2 rfl ?_
  refine Sim.istore_n (L' := [(2, .int (0 : Int32)), (1, .int (0 : Int32)), (0, .ref o)]) dX4_freeSet_3 (Nat.le_of_ble_eq_true rfl) rfl ?_
  refine Sim.locs [2, 1, 0] rfl ?_
  exact f_X4_freeSet_4_ls o ho zN ((0 : Int32), (0 : Int32), h)
theorem mv_X4_freeSet : zMV mX4_freeSet 0 := ⟨⟨zTb_in 1025 (by decide +kernel) rfl, zTb_in 139 (by decide +kernel) rfl, ⟨by decide +kernel, by decide +kernel⟩, by decide +kernel⟩, zTb_in 1023 (by decide +kernel) rfl, zTb_in 1024 (by decide +kernel) rfl⟩
-- ===== RockingPorch$Porch.show(I)I
abbrev mX4_show : zMt := (yX4_show, cX4_show, 2, some .int)
theorem ct_X4_100 : Cond.constant RX4 100 (-100000 : Int32) ∈ zTb := zTb_in 1292 (by decide +kernel) rfl
theorem ml_X4_94 : Cond.methodLink RX4 94 yX4_rockingSet ∈ zTb := zTb_in 1287 (by decide +kernel) rfl
theorem ml_X4_97 : Cond.methodLink RX4 97 yX4_freeSet ∈ zTb := zTb_in 1291 (by decide +kernel) rfl
theorem dX4_show_0 : decode cX4_show 0 = .ok (.iload_n 1, 1) := by decide +kernel
theorem dX4_show_1 : decode cX4_show 1 = .ok (.tableswitch 100 0 9 #[55, 60, 65, 70, 75, 80, 85, 90, 100, 95], 55) := by decide +kernel
theorem dX4_show_56 : decode cX4_show 56 = .ok (.aload_n 0, 1) := by decide +kernel
theorem dX4_show_57 : decode cX4_show 57 = .ok (.getfield 36, 3) := by decide +kernel
theorem dX4_show_60 : decode cX4_show 60 = .ok (.ireturn, 1) := by decide +kernel
theorem dX4_show_61 : decode cX4_show 61 = .ok (.aload_n 0, 1) := by decide +kernel
theorem dX4_show_62 : decode cX4_show 62 = .ok (.getfield 40, 3) := by decide +kernel
theorem dX4_show_65 : decode cX4_show 65 = .ok (.ireturn, 1) := by decide +kernel
theorem dX4_show_66 : decode cX4_show 66 = .ok (.aload_n 0, 1) := by decide +kernel
theorem dX4_show_67 : decode cX4_show 67 = .ok (.invokevirtual 94, 3) := by decide +kernel
theorem dX4_show_70 : decode cX4_show 70 = .ok (.ireturn, 1) := by decide +kernel
theorem dX4_show_71 : decode cX4_show 71 = .ok (.aload_n 0, 1) := by decide +kernel
theorem dX4_show_72 : decode cX4_show 72 = .ok (.invokevirtual 97, 3) := by decide +kernel
theorem dX4_show_75 : decode cX4_show 75 = .ok (.ireturn, 1) := by decide +kernel
theorem dX4_show_76 : decode cX4_show 76 = .ok (.aload_n 0, 1) := by decide +kernel
theorem dX4_show_77 : decode cX4_show 77 = .ok (.invokevirtual 82, 3) := by decide +kernel
theorem dX4_show_80 : decode cX4_show 80 = .ok (.ireturn, 1) := by decide +kernel
theorem dX4_show_81 : decode cX4_show 81 = .ok (.aload_n 0, 1) := by decide +kernel
theorem dX4_show_82 : decode cX4_show 82 = .ok (.getfield 43, 3) := by decide +kernel
theorem dX4_show_85 : decode cX4_show 85 = .ok (.ireturn, 1) := by decide +kernel
theorem dX4_show_86 : decode cX4_show 86 = .ok (.aload_n 0, 1) := by decide +kernel
theorem dX4_show_87 : decode cX4_show 87 = .ok (.getfield 46, 3) := by decide +kernel
theorem dX4_show_90 : decode cX4_show 90 = .ok (.ireturn, 1) := by decide +kernel
theorem dX4_show_91 : decode cX4_show 91 = .ok (.aload_n 0, 1) := by decide +kernel
theorem dX4_show_92 : decode cX4_show 92 = .ok (.getfield 49, 3) := by decide +kernel
theorem dX4_show_95 : decode cX4_show 95 = .ok (.ireturn, 1) := by decide +kernel
theorem dX4_show_96 : decode cX4_show 96 = .ok (.aload_n 0, 1) := by decide +kernel
theorem dX4_show_97 : decode cX4_show 97 = .ok (.getfield 52, 3) := by decide +kernel
theorem dX4_show_100 : decode cX4_show 100 = .ok (.ireturn, 1) := by decide +kernel
theorem dX4_show_101 : decode cX4_show 101 = .ok (.ldc 100, 2) := by decide +kernel
theorem dX4_show_103 : decode cX4_show 103 = .ok (.ireturn, 1) := by decide +kernel
def f_X4_show (o : Nat) (a1 : Int32) (h : zHp) : Option (Int32 × zHp) := (if a1 = (0 : Int32) then some ((h o 9), h) else (if a1 = (1 : Int32) then some ((h o 10), h) else (if a1 = (2 : Int32) then (f_X4_rockingSet o h).bind fun x4 => some (x4.1, x4.2) else (if a1 = (3 : Int32) then (f_X4_freeSet o h).bind fun x6 => some (x6.1, x6.2) else (if a1 = (4 : Int32) then (f_X4_awaySet o h).bind fun x8 => some (x8.1, x8.2) else (if a1 = (5 : Int32) then some ((h o 11), h) else (if a1 = (6 : Int32) then some ((h o 12), h) else (if a1 = (7 : Int32) then some ((h o 13), h) else (if a1 = (8 : Int32) then some ((-100000 : Int32), h) else (if a1 = (9 : Int32) then some ((h o 14), h) else some ((-100000 : Int32), h)))))))))))
set_option maxHeartbeats 4000000 in
set_option maxRecDepth 100000 in
theorem s_X4_show (o : Nat) (ho : o ∈ xPorch) (a1 : Int32) (h : zHp) : Fn wX mX4_show 3 rI [.ref o, .int a1] h (f_X4_show o a1 h) := by
  refine Fn.of rfl (Nat.le_of_ble_eq_true rfl) ?_
  unfold f_X4_show
  refine Sim.iload_n 1 dX4_show_0 rfl ?_
  refine Sim.ite _ (fun q1 => ?_) (fun q1 => ?_)
  · refine Sim.tswIn 56 dX4_show_1 q1 (by decide) (by decide) rfl rfl ?_
    refine Sim.aload_n 0 dX4_show_56 rfl ?_
    refine Sim.getI fl_X4_36 dX4_show_57 (xI_X4_9 _ ho) ?_
    exact Sim.iret dX4_show_60 rfl
  refine Sim.ite _ (fun q2 => ?_) (fun q2 => ?_)
  · refine Sim.tswIn 61 dX4_show_1 q2 (by decide) (by decide) rfl rfl ?_
    refine Sim.aload_n 0 dX4_show_61 rfl ?_
    refine Sim.getI fl_X4_40 dX4_show_62 (xI_X4_10 _ ho) ?_
    exact Sim.iret dX4_show_65 rfl
  refine Sim.ite _ (fun q3 => ?_) (fun q3 => ?_)
  · refine Sim.tswIn 66 dX4_show_1 q3 (by decide) (by decide) rfl rfl ?_
    refine Sim.aload_n 0 dX4_show_66 rfl ?_
    refine Sim.callV0I (d1 := 2) (s_X4_rockingSet o ho h) dX4_show_67 ml_X4_94 mv_X4_rockingSet (xOC_X4 _ ho) (Nat.le_of_ble_eq_true rfl) (Nat.le_of_ble_eq_true rfl) (Nat.le_of_ble_eq_true rfl) (fun x4 => ?_)
    exact Sim.iret dX4_show_70 rfl
  refine Sim.ite _ (fun q5 => ?_) (fun q5 => ?_)
  · refine Sim.tswIn 71 dX4_show_1 q5 (by decide) (by decide) rfl rfl ?_
    refine Sim.aload_n 0 dX4_show_71 rfl ?_
    refine Sim.callV0I (d1 := 2) (s_X4_freeSet o ho h) dX4_show_72 ml_X4_97 mv_X4_freeSet (xOC_X4 _ ho) (Nat.le_of_ble_eq_true rfl) (Nat.le_of_ble_eq_true rfl) (Nat.le_of_ble_eq_true rfl) (fun x6 => ?_)
    exact Sim.iret dX4_show_75 rfl
  refine Sim.ite _ (fun q7 => ?_) (fun q7 => ?_)
  · refine Sim.tswIn 76 dX4_show_1 q7 (by decide) (by decide) rfl rfl ?_
    refine Sim.aload_n 0 dX4_show_76 rfl ?_
    refine Sim.callV0I (d1 := 0) (s_X4_awaySet o ho h) dX4_show_77 ml_X4_82 mv_X4_awaySet (xOC_X4 _ ho) (Nat.le_of_ble_eq_true rfl) (Nat.le_of_ble_eq_true rfl) (Nat.le_of_ble_eq_true rfl) (fun x8 => ?_)
    exact Sim.iret dX4_show_80 rfl
  refine Sim.ite _ (fun q9 => ?_) (fun q9 => ?_)
  · refine Sim.tswIn 81 dX4_show_1 q9 (by decide) (by decide) rfl rfl ?_
    refine Sim.aload_n 0 dX4_show_81 rfl ?_
    refine Sim.getI fl_X4_43 dX4_show_82 (xI_X4_11 _ ho) ?_
    exact Sim.iret dX4_show_85 rfl
  refine Sim.ite _ (fun q10 => ?_) (fun q10 => ?_)
  · refine Sim.tswIn 86 dX4_show_1 q10 (by decide) (by decide) rfl rfl ?_
    refine Sim.aload_n 0 dX4_show_86 rfl ?_
    refine Sim.getI fl_X4_46 dX4_show_87 (xI_X4_12 _ ho) ?_
    exact Sim.iret dX4_show_90 rfl
  refine Sim.ite _ (fun q11 => ?_) (fun q11 => ?_)
  · refine Sim.tswIn 91 dX4_show_1 q11 (by decide) (by decide) rfl rfl ?_
    refine Sim.aload_n 0 dX4_show_91 rfl ?_
    refine Sim.getI fl_X4_49 dX4_show_92 (xI_X4_13 _ ho) ?_
    exact Sim.iret dX4_show_95 rfl
  refine Sim.ite _ (fun q12 => ?_) (fun q12 => ?_)
  · refine Sim.tswIn 101 dX4_show_1 q12 (by decide) (by decide) rfl rfl ?_
    refine Sim.ldc (v := (-100000 : Int32)) dX4_show_101 ct_X4_100 ?_
    exact Sim.iret dX4_show_103 rfl
  refine Sim.ite _ (fun q13 => ?_) (fun q13 => ?_)
  · refine Sim.tswIn 96 dX4_show_1 q13 (by decide) (by decide) rfl rfl ?_
    refine Sim.aload_n 0 dX4_show_96 rfl ?_
    refine Sim.getI fl_X4_52 dX4_show_97 (xI_X4_14 _ ho) ?_
    exact Sim.iret dX4_show_100 rfl
  refine Sim.tswOut 101 dX4_show_1 (by have aq1 : a1.toInt ≠ 0 := fun w => q1 (Int32.toInt_inj.mp w); have aq2 : a1.toInt ≠ 1 := fun w => q2 (Int32.toInt_inj.mp w); have aq3 : a1.toInt ≠ 2 := fun w => q3 (Int32.toInt_inj.mp w); have aq5 : a1.toInt ≠ 3 := fun w => q5 (Int32.toInt_inj.mp w); have aq7 : a1.toInt ≠ 4 := fun w => q7 (Int32.toInt_inj.mp w); have aq9 : a1.toInt ≠ 5 := fun w => q9 (Int32.toInt_inj.mp w); have aq10 : a1.toInt ≠ 6 := fun w => q10 (Int32.toInt_inj.mp w); have aq11 : a1.toInt ≠ 7 := fun w => q11 (Int32.toInt_inj.mp w); have aq12 : a1.toInt ≠ 8 := fun w => q12 (Int32.toInt_inj.mp w); have aq13 : a1.toInt ≠ 9 := fun w => q13 (Int32.toInt_inj.mp w); omega) rfl ?_
  refine Sim.ldc (v := (-100000 : Int32)) dX4_show_101 ct_X4_100 ?_
  exact Sim.iret dX4_show_103 rfl
theorem mv_X4_show : zMV mX4_show 1 := ⟨⟨zTb_in 1286 (by decide +kernel) rfl, zTb_in 139 (by decide +kernel) rfl, ⟨by decide +kernel, by decide +kernel⟩, by decide +kernel⟩, zTb_in 1284 (by decide +kernel) rfl, zTb_in 1285 (by decide +kernel) rfl⟩
-- ===== RockingPorch$Row.get(I)I
abbrev mX7_get : zMt := (yX7_get, cX7_get, 2, some .int)
theorem fl_X7_15 : zF RX7 15 7 0 := ⟨RX7, TX7, 2, rfl, Nat.le_of_ble_eq_true rfl, zTb_in 316 (by decide +kernel) rfl, in_X7⟩
theorem fl_X7_9 : zF RX7 9 7 1 := ⟨RX7, TX7, 2, rfl, Nat.le_of_ble_eq_true rfl, zTb_in 317 (by decide +kernel) rfl, in_X7⟩
theorem dX7_get_0 : decode cX7_get 0 = .ok (.iload_n 1, 1) := by decide +kernel
theorem dX7_get_1 : decode cX7_get 1 = .ok (.ifCond .lt 29, 3) := by decide +kernel
theorem dX7_get_4 : decode cX7_get 4 = .ok (.iload_n 1, 1) := by decide +kernel
theorem dX7_get_5 : decode cX7_get 5 = .ok (.aload_n 0, 1) := by decide +kernel
theorem dX7_get_6 : decode cX7_get 6 = .ok (.getfield 9, 3) := by decide +kernel
theorem dX7_get_9 : decode cX7_get 9 = .ok (.if_icmp .ge 21, 3) := by decide +kernel
theorem dX7_get_12 : decode cX7_get 12 = .ok (.iload_n 1, 1) := by decide +kernel
theorem dX7_get_13 : decode cX7_get 13 = .ok (.aload_n 0, 1) := by decide +kernel
theorem dX7_get_14 : decode cX7_get 14 = .ok (.getfield 15, 3) := by decide +kernel
theorem dX7_get_17 : decode cX7_get 17 = .ok (.arraylength, 1) := by decide +kernel
theorem dX7_get_18 : decode cX7_get 18 = .ok (.if_icmp .ge 12, 3) := by decide +kernel
theorem dX7_get_21 : decode cX7_get 21 = .ok (.aload_n 0, 1) := by decide +kernel
theorem dX7_get_22 : decode cX7_get 22 = .ok (.getfield 15, 3) := by decide +kernel
theorem dX7_get_25 : decode cX7_get 25 = .ok (.iload_n 1, 1) := by decide +kernel
theorem dX7_get_26 : decode cX7_get 26 = .ok (.iaload, 1) := by decide +kernel
theorem dX7_get_27 : decode cX7_get 27 = .ok (.goto 4, 3) := by decide +kernel
theorem dX7_get_30 : decode cX7_get 30 = .ok (.iconst 0, 1) := by decide +kernel
theorem dX7_get_31 : decode cX7_get 31 = .ok (.ireturn, 1) := by decide +kernel
def f_X7_get (o : Nat) (a1 : Int32) (h : zHp) : Option (Int32 × zHp) := (if a1 < 0 then some ((0 : Int32), h) else (if a1 < (h o 1) then (if a1 < (Int32.ofNat (zln wX (o + 1))) then zix a1 (zln wX (o + 1)) (some ((h (o + 1) a1.toNatClampNeg), h)) else some ((0 : Int32), h)) else some ((0 : Int32), h)))
set_option maxHeartbeats 4000000 in
set_option maxRecDepth 100000 in
theorem s_X7_get (o : Nat) (ho : o ∈ xRow) (a1 : Int32) (h : zHp) : Fn wX mX7_get 0 rI [.ref o, .int a1] h (f_X7_get o a1 h) := by
  refine Fn.of rfl (Nat.le_of_ble_eq_true rfl) ?_
  unfold f_X7_get
  refine Sim.iload_n 1 dX7_get_0 rfl ?_
  refine Sim.if_lt 30 dX7_get_1 rfl ?_ ?_
  · refine Sim.iconst (v := (0 : Int32)) dX7_get_30 rfl ?_
    exact Sim.iret dX7_get_31 rfl
  · refine Sim.iload_n 1 dX7_get_4 rfl ?_
    refine Sim.aload_n 0 dX7_get_5 rfl ?_
    refine Sim.getI fl_X7_9 dX7_get_6 (xI_X7_1 _ ho) ?_
    refine Sim.icmp_ge 30 dX7_get_9 rfl ?_ ?_
    · refine Sim.iload_n 1 dX7_get_12 rfl ?_
      refine Sim.aload_n 0 dX7_get_13 rfl ?_
      refine Sim.getR (j := (o + 1)) fl_X7_15 dX7_get_14 (xR_X7_0 _ ho) ?_
      refine Sim.alen (n := (zln wX (o + 1))) dX7_get_17 (xA_X7_0 _ ho) ?_
      refine Sim.icmp_ge 30 dX7_get_18 rfl ?_ ?_
      · refine Sim.aload_n 0 dX7_get_21 rfl ?_
        refine Sim.getR (j := (o + 1)) fl_X7_15 dX7_get_22 (xR_X7_0 _ ho) ?_
        refine Sim.iload_n 1 dX7_get_25 rfl ?_
        refine Sim.iald (n := (zln wX (o + 1))) dX7_get_26 (xA_X7_0 _ ho) ?_
        refine Sim.goto 31 dX7_get_27 rfl ?_
        exact Sim.iret dX7_get_31 rfl
      · refine Sim.iconst (v := (0 : Int32)) dX7_get_30 rfl ?_
        exact Sim.iret dX7_get_31 rfl
    · refine Sim.iconst (v := (0 : Int32)) dX7_get_30 rfl ?_
      exact Sim.iret dX7_get_31 rfl
theorem mv_X7_get : zMV mX7_get 1 := ⟨⟨zTb_in 1058 (by decide +kernel) rfl, zTb_in 143 (by decide +kernel) rfl, ⟨by decide +kernel, by decide +kernel⟩, by decide +kernel⟩, zTb_in 1056 (by decide +kernel) rfl, zTb_in 1057 (by decide +kernel) rfl⟩
-- ===== RockingPorch$Told.first(I)I
abbrev mX8_first : zMt := (yX8_first, cX8_first, 1, some .int)
theorem dX8_first_0 : decode cX8_first 0 = .ok (.iload_n 0, 1) := by decide +kernel
theorem dX8_first_1 : decode cX8_first 1 = .ok (.bipush 32, 2) := by decide +kernel
theorem dX8_first_3 : decode cX8_first 3 = .ok (.idiv, 1) := by decide +kernel
theorem dX8_first_4 : decode cX8_first 4 = .ok (.ireturn, 1) := by decide +kernel
def f_X8_first  (a1 : Int32) (h : zHp) : Option (Int32 × zHp) := some ((a1 / (32 : Int32)), h)
set_option maxHeartbeats 4000000 in
set_option maxRecDepth 100000 in
theorem s_X8_first  (a1 : Int32) (h : zHp) : Fn wX mX8_first 0 rI [.int a1] h (f_X8_first a1 h) := by
  refine Fn.of rfl (Nat.le_of_ble_eq_true rfl) ?_
  unfold f_X8_first
  refine Sim.iload_n 0 dX8_first_0 rfl ?_
  refine Sim.bipush (v := (32 : Int32)) dX8_first_1 rfl ?_
  refine Sim.idivL dX8_first_3 (by decide) ?_
  exact Sim.iret dX8_first_4 rfl
theorem mv_X8_first : zMS mX8_first 1 := ⟨⟨zTb_in 1061 (by decide +kernel) rfl, zTb_in 142 (by decide +kernel) rfl, ⟨by decide +kernel, by decide +kernel⟩, by decide +kernel⟩, zTb_in 1060 (by decide +kernel) rfl⟩
-- ===== RockingPorch$Told.second(I)I
abbrev mX8_second : zMt := (yX8_second, cX8_second, 1, some .int)
theorem dX8_second_0 : decode cX8_second 0 = .ok (.iload_n 0, 1) := by decide +kernel
theorem dX8_second_1 : decode cX8_second 1 = .ok (.bipush 32, 2) := by decide +kernel
theorem dX8_second_3 : decode cX8_second 3 = .ok (.irem, 1) := by decide +kernel
theorem dX8_second_4 : decode cX8_second 4 = .ok (.ireturn, 1) := by decide +kernel
def f_X8_second  (a1 : Int32) (h : zHp) : Option (Int32 × zHp) := some ((a1 - a1 / (32 : Int32) * (32 : Int32)), h)
set_option maxHeartbeats 4000000 in
set_option maxRecDepth 100000 in
theorem s_X8_second  (a1 : Int32) (h : zHp) : Fn wX mX8_second 0 rI [.int a1] h (f_X8_second a1 h) := by
  refine Fn.of rfl (Nat.le_of_ble_eq_true rfl) ?_
  unfold f_X8_second
  refine Sim.iload_n 0 dX8_second_0 rfl ?_
  refine Sim.bipush (v := (32 : Int32)) dX8_second_1 rfl ?_
  refine Sim.iremL dX8_second_3 (by decide) ?_
  exact Sim.iret dX8_second_4 rfl
theorem mv_X8_second : zMS mX8_second 1 := ⟨⟨zTb_in 1065 (by decide +kernel) rfl, zTb_in 142 (by decide +kernel) rfl, ⟨by decide +kernel, by decide +kernel⟩, by decide +kernel⟩, zTb_in 1064 (by decide +kernel) rfl⟩
-- ===== RockingPorch$Puzzles.divisor(II)I
abbrev mX5_divisor : zMt := (yX5_divisor, cX5_divisor, 6, some .int)
theorem ml_X5_47 : Cond.methodLink RX5 47 Lib.Math.max.name ∈ zTb := zTb_in 1062 (by decide +kernel) rfl
theorem dX5_divisor_0 : decode cX5_divisor 0 = .ok (.iconst 1, 1) := by decide +kernel
theorem dX5_divisor_1 : decode cX5_divisor 1 = .ok (.iload_n 0, 1) := by decide +kernel
theorem dX5_divisor_2 : decode cX5_divisor 2 = .ok (.invokestatic 47, 3) := by decide +kernel
theorem dX5_divisor_5 : decode cX5_divisor 5 = .ok (.istore_n 2, 1) := by decide +kernel
theorem dX5_divisor_6 : decode cX5_divisor 6 = .ok (.iconst 0, 1) := by decide +kernel
theorem dX5_divisor_7 : decode cX5_divisor 7 = .ok (.iload_n 1, 1) := by decide +kernel
theorem dX5_divisor_8 : decode cX5_divisor 8 = .ok (.invokestatic 47, 3) := by decide +kernel
theorem dX5_divisor_11 : decode cX5_divisor 11 = .ok (.istore_n 3, 1) := by decide +kernel
theorem dX5_divisor_12 : decode cX5_divisor 12 = .ok (.iconst 0, 1) := by decide +kernel
theorem dX5_divisor_13 : decode cX5_divisor 13 = .ok (.istore 4, 2) := by decide +kernel
theorem dX5_divisor_15 : decode cX5_divisor 15 = .ok (.iload 4, 2) := by decide +kernel
theorem dX5_divisor_17 : decode cX5_divisor 17 = .ok (.bipush 64, 2) := by decide +kernel
theorem dX5_divisor_19 : decode cX5_divisor 19 = .ok (.if_icmp .ge 23, 3) := by decide +kernel
theorem dX5_divisor_22 : decode cX5_divisor 22 = .ok (.iload_n 3, 1) := by decide +kernel
theorem dX5_divisor_23 : decode cX5_divisor 23 = .ok (.ifCond .eq 19, 3) := by decide +kernel
theorem dX5_divisor_26 : decode cX5_divisor 26 = .ok (.iload_n 2, 1) := by decide +kernel
theorem dX5_divisor_27 : decode cX5_divisor 27 = .ok (.iload_n 3, 1) := by decide +kernel
theorem dX5_divisor_28 : decode cX5_divisor 28 = .ok (.irem, 1) := by decide +kernel
theorem dX5_divisor_29 : decode cX5_divisor 29 = .ok (.istore 5, 2) := by decide +kernel
theorem dX5_divisor_31 : decode cX5_divisor 31 = .ok (.iload_n 3, 1) := by decide +kernel
theorem dX5_divisor_32 : decode cX5_divisor 32 = .ok (.istore_n 2, 1) := by decide +kernel
theorem dX5_divisor_33 : decode cX5_divisor 33 = .ok (.iload 5, 2) := by decide +kernel
theorem dX5_divisor_35 : decode cX5_divisor 35 = .ok (.istore_n 3, 1) := by decide +kernel
theorem dX5_divisor_36 : decode cX5_divisor 36 = .ok (.iinc 4 1, 3) := by decide +kernel
theorem dX5_divisor_39 : decode cX5_divisor 39 = .ok (.goto (-24), 3) := by decide +kernel
theorem dX5_divisor_42 : decode cX5_divisor 42 = .ok (.iload_n 2, 1) := by decide +kernel
theorem dX5_divisor_43 : decode cX5_divisor 43 = .ok (.ireturn, 1) := by decide +kernel
def f_X5_divisor_15  (k15 : Int32 × Int32 × Int32 × zHp → Option (Int32 × zHp)) (v2 : Int32) (v3 : Int32) (v4 : Int32) (h : zHp) : Option (Int32 × zHp) := (if v4 < (64 : Int32) then (if v3 = 0 then some (v2, h) else zdz v3 (zlt (v2 - v2 / v3 * v3) fun x1 => k15 (v3, x1, (v4 + (1 : Int32)), h))) else some (v2, h))
set_option maxHeartbeats 4000000 in
set_option maxRecDepth 100000 in
theorem f_X5_divisor_15_s  (k15 : Int32 × Int32 × Int32 × zHp → Option (Int32 × zHp)) (H15 : ∀ v : Int32 × Int32 × Int32 × zHp, Sim wX mX5_divisor 1 rI 15 [(2, .int v.1), (3, .int v.2.1), (4, .int v.2.2.1)] [] v.2.2.2 (k15 v)) (v2 : Int32) (v3 : Int32) (v4 : Int32) (h : zHp) : Sim wX mX5_divisor 1 rI 15 [(2, .int v2), (3, .int v3), (4, .int v4)] [] h (f_X5_divisor_15 k15 v2 v3 v4 h) := by
  unfold f_X5_divisor_15
  refine Sim.iload 2 dX5_divisor_15 rfl ?_
  refine Sim.bipush (v := (64 : Int32)) dX5_divisor_17 rfl ?_
  refine Sim.icmp_ge 42 dX5_divisor_19 rfl ?_ ?_
  · refine Sim.iload_n 1 dX5_divisor_22 rfl ?_
    refine Sim.if_eq 42 dX5_divisor_23 rfl ?_ ?_
    · refine Sim.iload_n 0 dX5_divisor_42 rfl ?_
      exact Sim.iret dX5_divisor_43 rfl
    · refine Sim.iload_n 0 dX5_divisor_26 rfl ?_
      refine Sim.iload_n 1 dX5_divisor_27 rfl ?_
      refine Sim.irem dX5_divisor_28 ?_
      refine Sim.lti (fun x1 => ?_)
      refine Sim.istore (L' := [(5, .int x1), (2, .int v2), (3, .int v3), (4, .int v4)]) dX5_divisor_29 (Nat.le_of_ble_eq_true rfl) rfl ?_
      refine Sim.iload_n 2 dX5_divisor_31 rfl ?_
      refine Sim.istore_n (L' := [(2, .int v3), (5, .int x1), (3, .int v3), (4, .int v4)]) dX5_divisor_32 (Nat.le_of_ble_eq_true rfl) rfl ?_
      refine Sim.iload 1 dX5_divisor_33 rfl ?_
      refine Sim.istore_n (L' := [(3, .int x1), (2, .int v3), (5, .int x1), (4, .int v4)]) dX5_divisor_35 (Nat.le_of_ble_eq_true rfl) rfl ?_
      refine Sim.iinc (L' := [(4, .int (v4 + (1 : Int32))), (3, .int x1), (2, .int v3), (5, .int x1)]) 3 dX5_divisor_36 rfl rfl (Nat.le_of_ble_eq_true rfl) rfl ?_
      refine Sim.goto 15 dX5_divisor_39 rfl ?_
      refine Sim.locs [2, 1, 0] rfl ?_
      exact H15 (v3, x1, (v4 + (1 : Int32)), h)
  · refine Sim.iload_n 0 dX5_divisor_42 rfl ?_
    exact Sim.iret dX5_divisor_43 rfl
def f_X5_divisor_15_lp   (n : Nat) (v : Int32 × Int32 × Int32 × zHp) : Option (Int32 × zHp) := zlp (fun k15 v => f_X5_divisor_15 k15 v.1 v.2.1 v.2.2.1 v.2.2.2) n v
theorem f_X5_divisor_15_ls  (n : Nat) (v : Int32 × Int32 × Int32 × zHp) : Sim wX mX5_divisor 1 rI 15 [(2, .int v.1), (3, .int v.2.1), (4, .int v.2.2.1)] [] v.2.2.2 (f_X5_divisor_15_lp n v) :=
  Sim.lp (V := Int32 × Int32 × Int32 × zHp) (Lf := fun v => [(2, .int v.1), (3, .int v.2.1), (4, .int v.2.2.1)]) (sf := fun v => []) (hf := fun v => v.2.2.2) (fun k15 H15 v => f_X5_divisor_15_s k15 H15 v.1 v.2.1 v.2.2.1 v.2.2.2) n v
def f_X5_divisor  (a1 : Int32) (a2 : Int32) (h : zHp) : Option (Int32 × zHp) := zlt (if (1 : Int32) < a1 then a1 else (1 : Int32)) fun x1 => zlt (if (0 : Int32) < a2 then a2 else (0 : Int32)) fun x2 => f_X5_divisor_15_lp  zN (x1, x2, (0 : Int32), h)
set_option maxHeartbeats 4000000 in
set_option maxRecDepth 100000 in
theorem s_X5_divisor  (a1 : Int32) (a2 : Int32) (h : zHp) : Fn wX mX5_divisor 1 rI [.int a1, .int a2] h (f_X5_divisor a1 a2 h) := by
  refine Fn.of rfl (Nat.le_of_ble_eq_true rfl) ?_
  unfold f_X5_divisor
  refine Sim.iconst (v := (1 : Int32)) dX5_divisor_0 rfl ?_
  refine Sim.iload_n 0 dX5_divisor_1 rfl ?_
  refine Sim.mmax dX5_divisor_2 ml_X5_47 ms_max ms_Math mc_max (Nat.le_of_ble_eq_true rfl) (Nat.le_of_ble_eq_true rfl) ?_
  refine Sim.lti (fun x1 => ?_)
  refine Sim.istore_n (L' := [(2, .int x1), (0, .int a1), (1, .int a2)]) dX5_divisor_5 (Nat.le_of_ble_eq_true rfl) rfl ?_
  refine Sim.iconst (v := (0 : Int32)) dX5_divisor_6 rfl ?_
  refine Sim.iload_n 2 dX5_divisor_7 rfl ?_
  refine Sim.mmax dX5_divisor_8 ml_X5_47 ms_max ms_Math mc_max (Nat.le_of_ble_eq_true rfl) (Nat.le_of_ble_eq_true rfl) ?_
  refine Sim.lti (fun x2 => ?_)
  refine Sim.istore_n (L' := [(3, .int x2), (2, .int x1), (0, .int a1), (1, .int a2)]) dX5_divisor_11 (Nat.le_of_ble_eq_true rfl) rfl ?_
  refine Sim.iconst (v := (0 : Int32)) dX5_divisor_12 rfl ?_
  refine Sim.istore (L' := [(4, .int (0 : Int32)), (3, .int x2), (2, .int x1), (0, .int a1), (1, .int a2)]) dX5_divisor_13 (Nat.le_of_ble_eq_true rfl) rfl ?_
  refine Sim.locs [2, 1, 0] rfl ?_
  exact f_X5_divisor_15_ls  zN (x1, x2, (0 : Int32), h)
theorem mv_X5_divisor : zMS mX5_divisor 2 := ⟨⟨zTb_in 1068 (by decide +kernel) rfl, zTb_in 147 (by decide +kernel) rfl, ⟨by decide +kernel, by decide +kernel⟩, by decide +kernel⟩, zTb_in 1067 (by decide +kernel) rfl⟩
-- ===== RockingPorch$Puzzles.meeting(Z)I
abbrev mX5_meeting : zMt := (yX5_meeting, cX5_meeting, 8, some .int)
theorem fl_X5_24 : zF RX5 24 5 0 := ⟨RX5, TX5, 5, rfl, Nat.le_of_ble_eq_true rfl, zTb_in 497 (by decide +kernel) rfl, in_X5⟩
theorem fl_X5_28 : zF RX5 28 8 0 := ⟨RX8, TX8, 7, rfl, Nat.le_of_ble_eq_true rfl, zTb_in 325 (by decide +kernel) rfl, in_X8⟩
theorem fl_X5_34 : zF RX5 34 7 1 := ⟨RX7, TX7, 2, rfl, Nat.le_of_ble_eq_true rfl, zTb_in 318 (by decide +kernel) rfl, in_X7⟩
theorem ml_X5_40 : Cond.methodLink RX5 40 yX7_get ∈ zTb := zTb_in 1055 (by decide +kernel) rfl
theorem ml_X5_44 : Cond.methodLink RX5 44 yX8_first ∈ zTb := zTb_in 1059 (by decide +kernel) rfl
theorem ml_X5_53 : Cond.methodLink RX5 53 yX8_second ∈ zTb := zTb_in 1063 (by decide +kernel) rfl
theorem ml_X5_55 : Cond.methodLink RX5 55 yX5_divisor ∈ zTb := zTb_in 1066 (by decide +kernel) rfl
theorem dX5_meeting_0 : decode cX5_meeting 0 = .ok (.iconst 0, 1) := by decide +kernel
theorem dX5_meeting_1 : decode cX5_meeting 1 = .ok (.istore_n 2, 1) := by decide +kernel
theorem dX5_meeting_2 : decode cX5_meeting 2 = .ok (.iconst 1, 1) := by decide +kernel
theorem dX5_meeting_3 : decode cX5_meeting 3 = .ok (.istore_n 3, 1) := by decide +kernel
theorem dX5_meeting_4 : decode cX5_meeting 4 = .ok (.iconst 0, 1) := by decide +kernel
theorem dX5_meeting_5 : decode cX5_meeting 5 = .ok (.istore 4, 2) := by decide +kernel
theorem dX5_meeting_7 : decode cX5_meeting 7 = .ok (.iload 4, 2) := by decide +kernel
theorem dX5_meeting_9 : decode cX5_meeting 9 = .ok (.aload_n 0, 1) := by decide +kernel
theorem dX5_meeting_10 : decode cX5_meeting 10 = .ok (.getfield 24, 3) := by decide +kernel
theorem dX5_meeting_13 : decode cX5_meeting 13 = .ok (.getfield 28, 3) := by decide +kernel
theorem dX5_meeting_16 : decode cX5_meeting 16 = .ok (.getfield 34, 3) := by decide +kernel
theorem dX5_meeting_19 : decode cX5_meeting 19 = .ok (.if_icmp .ge 97, 3) := by decide +kernel
theorem dX5_meeting_22 : decode cX5_meeting 22 = .ok (.iconst 1, 1) := by decide +kernel
theorem dX5_meeting_23 : decode cX5_meeting 23 = .ok (.aload_n 0, 1) := by decide +kernel
theorem dX5_meeting_24 : decode cX5_meeting 24 = .ok (.getfield 24, 3) := by decide +kernel
theorem dX5_meeting_27 : decode cX5_meeting 27 = .ok (.getfield 28, 3) := by decide +kernel
theorem dX5_meeting_30 : decode cX5_meeting 30 = .ok (.iload 4, 2) := by decide +kernel
theorem dX5_meeting_32 : decode cX5_meeting 32 = .ok (.invokevirtual 40, 3) := by decide +kernel
theorem dX5_meeting_35 : decode cX5_meeting 35 = .ok (.invokestatic 44, 3) := by decide +kernel
theorem dX5_meeting_38 : decode cX5_meeting 38 = .ok (.invokestatic 47, 3) := by decide +kernel
theorem dX5_meeting_41 : decode cX5_meeting 41 = .ok (.istore 5, 2) := by decide +kernel
theorem dX5_meeting_43 : decode cX5_meeting 43 = .ok (.aload_n 0, 1) := by decide +kernel
theorem dX5_meeting_44 : decode cX5_meeting 44 = .ok (.getfield 24, 3) := by decide +kernel
theorem dX5_meeting_47 : decode cX5_meeting 47 = .ok (.getfield 28, 3) := by decide +kernel
theorem dX5_meeting_50 : decode cX5_meeting 50 = .ok (.iload 4, 2) := by decide +kernel
theorem dX5_meeting_52 : decode cX5_meeting 52 = .ok (.invokevirtual 40, 3) := by decide +kernel
theorem dX5_meeting_55 : decode cX5_meeting 55 = .ok (.invokestatic 53, 3) := by decide +kernel
theorem dX5_meeting_58 : decode cX5_meeting 58 = .ok (.istore 6, 2) := by decide +kernel
theorem dX5_meeting_60 : decode cX5_meeting 60 = .ok (.iconst 0, 1) := by decide +kernel
theorem dX5_meeting_61 : decode cX5_meeting 61 = .ok (.istore 7, 2) := by decide +kernel
theorem dX5_meeting_63 : decode cX5_meeting 63 = .ok (.iload 7, 2) := by decide +kernel
theorem dX5_meeting_65 : decode cX5_meeting 65 = .ok (.iload 5, 2) := by decide +kernel
theorem dX5_meeting_67 : decode cX5_meeting 67 = .ok (.if_icmp .ge 22, 3) := by decide +kernel
theorem dX5_meeting_70 : decode cX5_meeting 70 = .ok (.iload_n 2, 1) := by decide +kernel
theorem dX5_meeting_71 : decode cX5_meeting 71 = .ok (.iload 5, 2) := by decide +kernel
theorem dX5_meeting_73 : decode cX5_meeting 73 = .ok (.irem, 1) := by decide +kernel
theorem dX5_meeting_74 : decode cX5_meeting 74 = .ok (.iload 6, 2) := by decide +kernel
theorem dX5_meeting_76 : decode cX5_meeting 76 = .ok (.if_icmp .eq 13, 3) := by decide +kernel
theorem dX5_meeting_79 : decode cX5_meeting 79 = .ok (.iload_n 2, 1) := by decide +kernel
theorem dX5_meeting_80 : decode cX5_meeting 80 = .ok (.iload_n 3, 1) := by decide +kernel
theorem dX5_meeting_81 : decode cX5_meeting 81 = .ok (.iadd, 1) := by decide +kernel
theorem dX5_meeting_82 : decode cX5_meeting 82 = .ok (.istore_n 2, 1) := by decide +kernel
theorem dX5_meeting_83 : decode cX5_meeting 83 = .ok (.iinc 7 1, 3) := by decide +kernel
theorem dX5_meeting_86 : decode cX5_meeting 86 = .ok (.goto (-23), 3) := by decide +kernel
theorem dX5_meeting_89 : decode cX5_meeting 89 = .ok (.iload 7, 2) := by decide +kernel
theorem dX5_meeting_91 : decode cX5_meeting 91 = .ok (.iload 5, 2) := by decide +kernel
theorem dX5_meeting_93 : decode cX5_meeting 93 = .ok (.if_icmp .lt 5, 3) := by decide +kernel
theorem dX5_meeting_96 : decode cX5_meeting 96 = .ok (.iconst (-1), 1) := by decide +kernel
theorem dX5_meeting_97 : decode cX5_meeting 97 = .ok (.ireturn, 1) := by decide +kernel
theorem dX5_meeting_98 : decode cX5_meeting 98 = .ok (.iload_n 3, 1) := by decide +kernel
theorem dX5_meeting_99 : decode cX5_meeting 99 = .ok (.iload_n 3, 1) := by decide +kernel
theorem dX5_meeting_100 : decode cX5_meeting 100 = .ok (.iload 5, 2) := by decide +kernel
theorem dX5_meeting_102 : decode cX5_meeting 102 = .ok (.invokestatic 55, 3) := by decide +kernel
theorem dX5_meeting_105 : decode cX5_meeting 105 = .ok (.idiv, 1) := by decide +kernel
theorem dX5_meeting_106 : decode cX5_meeting 106 = .ok (.iload 5, 2) := by decide +kernel
theorem dX5_meeting_108 : decode cX5_meeting 108 = .ok (.imul, 1) := by decide +kernel
theorem dX5_meeting_109 : decode cX5_meeting 109 = .ok (.istore_n 3, 1) := by decide +kernel
theorem dX5_meeting_110 : decode cX5_meeting 110 = .ok (.iinc 4 1, 3) := by decide +kernel
theorem dX5_meeting_113 : decode cX5_meeting 113 = .ok (.goto (-106), 3) := by decide +kernel
theorem dX5_meeting_116 : decode cX5_meeting 116 = .ok (.iload_n 1, 1) := by decide +kernel
theorem dX5_meeting_117 : decode cX5_meeting 117 = .ok (.ifCond .eq 7, 3) := by decide +kernel
theorem dX5_meeting_120 : decode cX5_meeting 120 = .ok (.iload_n 3, 1) := by decide +kernel
theorem dX5_meeting_121 : decode cX5_meeting 121 = .ok (.goto 4, 3) := by decide +kernel
theorem dX5_meeting_124 : decode cX5_meeting 124 = .ok (.iload_n 2, 1) := by decide +kernel
theorem dX5_meeting_125 : decode cX5_meeting 125 = .ok (.ireturn, 1) := by decide +kernel
def f_X5_meeting_89  (k7 : Int32 × Int32 × Int32 × Int32 × zHp → Option (Int32 × zHp)) (v1 : Int32) (v2 : Int32) (v3 : Int32) (v4 : Int32) (v5 : Int32) (v7 : Int32) (h : zHp) : Option (Int32 × zHp) := (if v7 < v5 then (f_X5_divisor v3 v5 h).bind fun x1 => zdz x1.1 (zlt ((v3 / x1.1) * v5) fun x2 => k7 (v1, v2, x2, (v4 + (1 : Int32)), x1.2)) else some ((-1 : Int32), h))
set_option maxHeartbeats 4000000 in
set_option maxRecDepth 100000 in
theorem f_X5_meeting_89_s  (k7 : Int32 × Int32 × Int32 × Int32 × zHp → Option (Int32 × zHp)) (H7 : ∀ v : Int32 × Int32 × Int32 × Int32 × zHp, Sim wX mX5_meeting 2 rI 7 [(0, .ref 161), (1, .int v.1), (2, .int v.2.1), (3, .int v.2.2.1), (4, .int v.2.2.2.1)] [] v.2.2.2.2 (k7 v)) (v1 : Int32) (v2 : Int32) (v3 : Int32) (v4 : Int32) (v5 : Int32) (v7 : Int32) (h : zHp) : Sim wX mX5_meeting 2 rI 89 [(0, .ref 161), (1, .int v1), (2, .int v2), (3, .int v3), (4, .int v4), (5, .int v5), (7, .int v7)] [] h (f_X5_meeting_89 k7 v1 v2 v3 v4 v5 v7 h) := by
  unfold f_X5_meeting_89
  refine Sim.iload 6 dX5_meeting_89 rfl ?_
  refine Sim.iload 5 dX5_meeting_91 rfl ?_
  refine Sim.icmp_lt 98 dX5_meeting_93 rfl ?_ ?_
  · refine Sim.iload_n 3 dX5_meeting_98 rfl ?_
    refine Sim.iload_n 3 dX5_meeting_99 rfl ?_
    refine Sim.iload 5 dX5_meeting_100 rfl ?_
    refine Sim.callS2I (d1 := 1) (s_X5_divisor v3 v5 h) dX5_meeting_102 ml_X5_55 mv_X5_divisor (Nat.le_of_ble_eq_true rfl) (Nat.le_of_ble_eq_true rfl) (Nat.le_of_ble_eq_true rfl) (fun x1 => ?_)
    refine Sim.idiv dX5_meeting_105 ?_
    refine Sim.iload 5 dX5_meeting_106 rfl ?_
    refine Sim.imul dX5_meeting_108 ?_
    refine Sim.lti (fun x2 => ?_)
    refine Sim.istore_n (L' := [(3, .int x2), (0, .ref 161), (1, .int v1), (2, .int v2), (4, .int v4), (5, .int v5), (7, .int v7)]) dX5_meeting_109 (Nat.le_of_ble_eq_true rfl) rfl ?_
    refine Sim.iinc (L' := [(4, .int (v4 + (1 : Int32))), (3, .int x2), (0, .ref 161), (1, .int v1), (2, .int v2), (5, .int v5), (7, .int v7)]) 4 dX5_meeting_110 rfl rfl (Nat.le_of_ble_eq_true rfl) rfl ?_
    refine Sim.goto 7 dX5_meeting_113 rfl ?_
    refine Sim.locs [2, 3, 4, 1, 0] rfl ?_
    exact H7 (v1, v2, x2, (v4 + (1 : Int32)), x1.2)
  · refine Sim.iconst (v := (-1 : Int32)) dX5_meeting_96 rfl ?_
    exact Sim.iret dX5_meeting_97 rfl
def f_X5_meeting_63  (k7 : Int32 × Int32 × Int32 × Int32 × zHp → Option (Int32 × zHp)) (k63 : Int32 × Int32 × Int32 × Int32 × Int32 × Int32 × Int32 × zHp → Option (Int32 × zHp)) (v1 : Int32) (v2 : Int32) (v3 : Int32) (v4 : Int32) (v5 : Int32) (v6 : Int32) (v7 : Int32) (h : zHp) : Option (Int32 × zHp) := (if v7 < v5 then zdz v5 ((if (v2 - v2 / v5 * v5) = v6 then f_X5_meeting_89 k7 v1 v2 v3 v4 v5 v7 h else zlt (v2 + v3) fun x1 => k63 (v1, x1, v3, v4, v5, v6, (v7 + (1 : Int32)), h))) else f_X5_meeting_89 k7 v1 v2 v3 v4 v5 v7 h)
set_option maxHeartbeats 4000000 in
set_option maxRecDepth 100000 in
theorem f_X5_meeting_63_s  (k7 : Int32 × Int32 × Int32 × Int32 × zHp → Option (Int32 × zHp)) (H7 : ∀ v : Int32 × Int32 × Int32 × Int32 × zHp, Sim wX mX5_meeting 2 rI 7 [(0, .ref 161), (1, .int v.1), (2, .int v.2.1), (3, .int v.2.2.1), (4, .int v.2.2.2.1)] [] v.2.2.2.2 (k7 v)) (k63 : Int32 × Int32 × Int32 × Int32 × Int32 × Int32 × Int32 × zHp → Option (Int32 × zHp)) (H63 : ∀ v : Int32 × Int32 × Int32 × Int32 × Int32 × Int32 × Int32 × zHp, Sim wX mX5_meeting 2 rI 63 [(0, .ref 161), (1, .int v.1), (2, .int v.2.1), (3, .int v.2.2.1), (4, .int v.2.2.2.1), (5, .int v.2.2.2.2.1), (6, .int v.2.2.2.2.2.1), (7, .int v.2.2.2.2.2.2.1)] [] v.2.2.2.2.2.2.2 (k63 v)) (v1 : Int32) (v2 : Int32) (v3 : Int32) (v4 : Int32) (v5 : Int32) (v6 : Int32) (v7 : Int32) (h : zHp) : Sim wX mX5_meeting 2 rI 63 [(0, .ref 161), (1, .int v1), (2, .int v2), (3, .int v3), (4, .int v4), (5, .int v5), (6, .int v6), (7, .int v7)] [] h (f_X5_meeting_63 k7 k63 v1 v2 v3 v4 v5 v6 v7 h) := by
  unfold f_X5_meeting_63
  refine Sim.iload 7 dX5_meeting_63 rfl ?_
  refine Sim.iload 5 dX5_meeting_65 rfl ?_
  refine Sim.icmp_ge 89 dX5_meeting_67 rfl ?_ ?_
  · refine Sim.iload_n 2 dX5_meeting_70 rfl ?_
    refine Sim.iload 5 dX5_meeting_71 rfl ?_
    refine Sim.irem dX5_meeting_73 ?_
    refine Sim.iload 6 dX5_meeting_74 rfl ?_
    refine Sim.icmp_eq 89 dX5_meeting_76 rfl ?_ ?_
    · refine Sim.locs [0, 1, 2, 3, 4, 5, 7] rfl ?_
      exact f_X5_meeting_89_s k7 H7 v1 v2 v3 v4 v5 v7 h
    · refine Sim.iload_n 2 dX5_meeting_79 rfl ?_
      refine Sim.iload_n 3 dX5_meeting_80 rfl ?_
      refine Sim.iadd dX5_meeting_81 ?_
      refine Sim.lti (fun x1 => ?_)
      refine Sim.istore_n (L' := [(2, .int x1), (0, .ref 161), (1, .int v1), (3, .int v3), (4, .int v4), (5, .int v5), (6, .int v6), (7, .int v7)]) dX5_meeting_82 (Nat.le_of_ble_eq_true rfl) rfl ?_
      refine Sim.iinc (L' := [(7, .int (v7 + (1 : Int32))), (2, .int x1), (0, .ref 161), (1, .int v1), (3, .int v3), (4, .int v4), (5, .int v5), (6, .int v6)]) 7 dX5_meeting_83 rfl rfl (Nat.le_of_ble_eq_true rfl) rfl ?_
      refine Sim.goto 63 dX5_meeting_86 rfl ?_
      refine Sim.locs [2, 3, 1, 4, 5, 6, 7, 0] rfl ?_
      exact H63 (v1, x1, v3, v4, v5, v6, (v7 + (1 : Int32)), h)
  · refine Sim.locs [0, 1, 2, 3, 4, 5, 7] rfl ?_
    exact f_X5_meeting_89_s k7 H7 v1 v2 v3 v4 v5 v7 h
def f_X5_meeting_63_lp  (k7 : Int32 × Int32 × Int32 × Int32 × zHp → Option (Int32 × zHp)) (n : Nat) (v : Int32 × Int32 × Int32 × Int32 × Int32 × Int32 × Int32 × zHp) : Option (Int32 × zHp) := zlp (fun k63 v => f_X5_meeting_63 k7 k63 v.1 v.2.1 v.2.2.1 v.2.2.2.1 v.2.2.2.2.1 v.2.2.2.2.2.1 v.2.2.2.2.2.2.1 v.2.2.2.2.2.2.2) n v
theorem f_X5_meeting_63_ls  (k7 : Int32 × Int32 × Int32 × Int32 × zHp → Option (Int32 × zHp)) (H7 : ∀ v : Int32 × Int32 × Int32 × Int32 × zHp, Sim wX mX5_meeting 2 rI 7 [(0, .ref 161), (1, .int v.1), (2, .int v.2.1), (3, .int v.2.2.1), (4, .int v.2.2.2.1)] [] v.2.2.2.2 (k7 v)) (n : Nat) (v : Int32 × Int32 × Int32 × Int32 × Int32 × Int32 × Int32 × zHp) : Sim wX mX5_meeting 2 rI 63 [(0, .ref 161), (1, .int v.1), (2, .int v.2.1), (3, .int v.2.2.1), (4, .int v.2.2.2.1), (5, .int v.2.2.2.2.1), (6, .int v.2.2.2.2.2.1), (7, .int v.2.2.2.2.2.2.1)] [] v.2.2.2.2.2.2.2 (f_X5_meeting_63_lp k7 n v) :=
  Sim.lp (V := Int32 × Int32 × Int32 × Int32 × Int32 × Int32 × Int32 × zHp) (Lf := fun v => [(0, .ref 161), (1, .int v.1), (2, .int v.2.1), (3, .int v.2.2.1), (4, .int v.2.2.2.1), (5, .int v.2.2.2.2.1), (6, .int v.2.2.2.2.2.1), (7, .int v.2.2.2.2.2.2.1)]) (sf := fun v => []) (hf := fun v => v.2.2.2.2.2.2.2) (fun k63 H63 v => f_X5_meeting_63_s k7 H7 k63 H63 v.1 v.2.1 v.2.2.1 v.2.2.2.1 v.2.2.2.2.1 v.2.2.2.2.2.1 v.2.2.2.2.2.2.1 v.2.2.2.2.2.2.2) n v
def f_X5_meeting_7  (k7 : Int32 × Int32 × Int32 × Int32 × zHp → Option (Int32 × zHp)) (v1 : Int32) (v2 : Int32) (v3 : Int32) (v4 : Int32) (h : zHp) : Option (Int32 × zHp) := (if v4 < (h 27 1) then (f_X7_get 27 v4 h).bind fun x1 => (f_X8_first x1.1 x1.2).bind fun x2 => zlt (if (1 : Int32) < x2.1 then x2.1 else (1 : Int32)) fun x3 => (f_X7_get 27 v4 x2.2).bind fun x4 => (f_X8_second x4.1 x4.2).bind fun x5 => f_X5_meeting_63_lp k7 zN (v1, v2, v3, v4, x3, x5.1, (0 : Int32), x5.2) else (if v1 = 0 then some (v2, h) else some (v3, h)))
set_option maxHeartbeats 4000000 in
set_option maxRecDepth 100000 in
theorem f_X5_meeting_7_s  (k7 : Int32 × Int32 × Int32 × Int32 × zHp → Option (Int32 × zHp)) (H7 : ∀ v : Int32 × Int32 × Int32 × Int32 × zHp, Sim wX mX5_meeting 2 rI 7 [(0, .ref 161), (1, .int v.1), (2, .int v.2.1), (3, .int v.2.2.1), (4, .int v.2.2.2.1)] [] v.2.2.2.2 (k7 v)) (v1 : Int32) (v2 : Int32) (v3 : Int32) (v4 : Int32) (h : zHp) : Sim wX mX5_meeting 2 rI 7 [(0, .ref 161), (1, .int v1), (2, .int v2), (3, .int v3), (4, .int v4)] [] h (f_X5_meeting_7 k7 v1 v2 v3 v4 h) := by
  unfold f_X5_meeting_7
  refine Sim.iload 4 dX5_meeting_7 rfl ?_
  refine Sim.aload_n 0 dX5_meeting_9 rfl ?_
  refine Sim.getR (j := 26) fl_X5_24 dX5_meeting_10 xR_161_0 ?_
  refine Sim.getR (j := 27) fl_X5_28 dX5_meeting_13 (xR_X8_0 _ xL_X8_26) ?_
  refine Sim.getI fl_X5_34 dX5_meeting_16 (xI_X7_1 _ xL_X7_27) ?_
  refine Sim.icmp_ge 116 dX5_meeting_19 rfl ?_ ?_
  · refine Sim.iconst (v := (1 : Int32)) dX5_meeting_22 rfl ?_
    refine Sim.aload_n 0 dX5_meeting_23 rfl ?_
    refine Sim.getR (j := 26) fl_X5_24 dX5_meeting_24 xR_161_0 ?_
    refine Sim.getR (j := 27) fl_X5_28 dX5_meeting_27 (xR_X8_0 _ xL_X8_26) ?_
    refine Sim.iload 4 dX5_meeting_30 rfl ?_
    refine Sim.callV1I (d1 := 0) (s_X7_get 27 xL_X7_27 v4 h) dX5_meeting_32 ml_X5_40 mv_X7_get (xOC_X7 _ xL_X7_27) (Nat.le_of_ble_eq_true rfl) (Nat.le_of_ble_eq_true rfl) (Nat.le_of_ble_eq_true rfl) (fun x1 => ?_)
    refine Sim.callS1I (d1 := 0) (s_X8_first x1.1 x1.2) dX5_meeting_35 ml_X5_44 mv_X8_first (Nat.le_of_ble_eq_true rfl) (Nat.le_of_ble_eq_true rfl) (Nat.le_of_ble_eq_true rfl) (fun x2 => ?_)
    refine Sim.mmax dX5_meeting_38 ml_X5_47 ms_max ms_Math mc_max (Nat.le_of_ble_eq_true rfl) (Nat.le_of_ble_eq_true rfl) ?_
    refine Sim.lti (fun x3 => ?_)
    refine Sim.istore (L' := [(5, .int x3), (0, .ref 161), (1, .int v1), (2, .int v2), (3, .int v3), (4, .int v4)]) dX5_meeting_41 (Nat.le_of_ble_eq_true rfl) rfl ?_
    refine Sim.aload_n 1 dX5_meeting_43 rfl ?_
    refine Sim.getR (j := 26) fl_X5_24 dX5_meeting_44 xR_161_0 ?_
    refine Sim.getR (j := 27) fl_X5_28 dX5_meeting_47 (xR_X8_0 _ xL_X8_26) ?_
    refine Sim.iload 5 dX5_meeting_50 rfl ?_
    refine Sim.callV1I (d1 := 0) (s_X7_get 27 xL_X7_27 v4 x2.2) dX5_meeting_52 ml_X5_40 mv_X7_get (xOC_X7 _ xL_X7_27) (Nat.le_of_ble_eq_true rfl) (Nat.le_of_ble_eq_true rfl) (Nat.le_of_ble_eq_true rfl) (fun x4 => ?_)
    refine Sim.callS1I (d1 := 0) (s_X8_second x4.1 x4.2) dX5_meeting_55 ml_X5_53 mv_X8_second (Nat.le_of_ble_eq_true rfl) (Nat.le_of_ble_eq_true rfl) (Nat.le_of_ble_eq_true rfl) (fun x5 => ?_)
    refine Sim.istore (L' := [(6, .int x5.1), (5, .int x3), (0, .ref 161), (1, .int v1), (2, .int v2), (3, .int v3), (4, .int v4)]) dX5_meeting_58 (Nat.le_of_ble_eq_true rfl) rfl ?_
    refine Sim.iconst (v := (0 : Int32)) dX5_meeting_60 rfl ?_
    refine Sim.istore (L' := [(7, .int (0 : Int32)), (6, .int x5.1), (5, .int x3), (0, .ref 161), (1, .int v1), (2, .int v2), (3, .int v3), (4, .int v4)]) dX5_meeting_61 (Nat.le_of_ble_eq_true rfl) rfl ?_
    refine Sim.locs [3, 4, 5, 6, 7, 2, 1, 0] rfl ?_
    exact f_X5_meeting_63_ls k7 H7 zN (v1, v2, v3, v4, x3, x5.1, (0 : Int32), x5.2)
  · refine Sim.iload_n 1 dX5_meeting_116 rfl ?_
    refine Sim.if_eq 124 dX5_meeting_117 rfl ?_ ?_
    · refine Sim.iload_n 2 dX5_meeting_124 rfl ?_
      exact Sim.iret dX5_meeting_125 rfl
    · refine Sim.iload_n 3 dX5_meeting_120 rfl ?_
      refine Sim.goto 125 dX5_meeting_121 rfl ?_
      exact Sim.iret dX5_meeting_125 rfl
def f_X5_meeting_7_lp   (n : Nat) (v : Int32 × Int32 × Int32 × Int32 × zHp) : Option (Int32 × zHp) := zlp (fun k7 v => f_X5_meeting_7 k7 v.1 v.2.1 v.2.2.1 v.2.2.2.1 v.2.2.2.2) n v
theorem f_X5_meeting_7_ls  (n : Nat) (v : Int32 × Int32 × Int32 × Int32 × zHp) : Sim wX mX5_meeting 2 rI 7 [(0, .ref 161), (1, .int v.1), (2, .int v.2.1), (3, .int v.2.2.1), (4, .int v.2.2.2.1)] [] v.2.2.2.2 (f_X5_meeting_7_lp n v) :=
  Sim.lp (V := Int32 × Int32 × Int32 × Int32 × zHp) (Lf := fun v => [(0, .ref 161), (1, .int v.1), (2, .int v.2.1), (3, .int v.2.2.1), (4, .int v.2.2.2.1)]) (sf := fun v => []) (hf := fun v => v.2.2.2.2) (fun k7 H7 v => f_X5_meeting_7_s k7 H7 v.1 v.2.1 v.2.2.1 v.2.2.2.1 v.2.2.2.2) n v
def f_X5_meeting  (a1 : Int32) (h : zHp) : Option (Int32 × zHp) := f_X5_meeting_7_lp  zN (a1, (0 : Int32), (1 : Int32), (0 : Int32), h)
set_option maxHeartbeats 4000000 in
set_option maxRecDepth 100000 in
theorem s_X5_meeting  (a1 : Int32) (h : zHp) : Fn wX mX5_meeting 2 rI [.ref 161, .int a1] h (f_X5_meeting a1 h) := by
  refine Fn.of rfl (Nat.le_of_ble_eq_true rfl) ?_
  unfold f_X5_meeting
  refine Sim.iconst (v := (0 : Int32)) dX5_meeting_0 rfl ?_
  refine Sim.istore_n (L' := [(2, .int (0 : Int32)), (0, .ref 161), (1, .int a1)]) dX5_meeting_1 (Nat.le_of_ble_eq_true rfl) rfl ?_
  refine Sim.iconst (v := (1 : Int32)) dX5_meeting_2 rfl ?_
  refine Sim.istore_n (L' := [(3, .int (1 : Int32)), (2, .int (0 : Int32)), (0, .ref 161), (1, .int a1)]) dX5_meeting_3 (Nat.le_of_ble_eq_true rfl) rfl ?_
  refine Sim.iconst (v := (0 : Int32)) dX5_meeting_4 rfl ?_
  refine Sim.istore (L' := [(4, .int (0 : Int32)), (3, .int (1 : Int32)), (2, .int (0 : Int32)), (0, .ref 161), (1, .int a1)]) dX5_meeting_5 (Nat.le_of_ble_eq_true rfl) rfl ?_
  refine Sim.locs [3, 4, 2, 1, 0] rfl ?_
  exact f_X5_meeting_7_ls  zN (a1, (0 : Int32), (1 : Int32), (0 : Int32), h)
theorem mv_X5_meeting : zMV mX5_meeting 1 := ⟨⟨zTb_in 1054 (by decide +kernel) rfl, zTb_in 147 (by decide +kernel) rfl, ⟨by decide +kernel, by decide +kernel⟩, by decide +kernel⟩, zTb_in 1052 (by decide +kernel) rfl, zTb_in 1053 (by decide +kernel) rfl⟩
-- ===== RockingPorch$Puzzles.forbid()V
abbrev mX5_forbid : zMt := (yX5_forbid, cX5_forbid, 4, none)
theorem fl_X5_65 : zF RX5 65 8 1 := ⟨RX8, TX8, 7, rfl, Nat.le_of_ble_eq_true rfl, zTb_in 328 (by decide +kernel) rfl, in_X8⟩
theorem fl_X5_9 : zF RX5 9 5 1 := ⟨RX5, TX5, 5, rfl, Nat.le_of_ble_eq_true rfl, zTb_in 498 (by decide +kernel) rfl, in_X5⟩
theorem dX5_forbid_0 : decode cX5_forbid 0 = .ok (.iconst 0, 1) := by decide +kernel
theorem dX5_forbid_1 : decode cX5_forbid 1 = .ok (.istore_n 1, 1) := by decide +kernel
theorem dX5_forbid_2 : decode cX5_forbid 2 = .ok (.iload_n 1, 1) := by decide +kernel
theorem dX5_forbid_3 : decode cX5_forbid 3 = .ok (.bipush 7, 2) := by decide +kernel
theorem dX5_forbid_5 : decode cX5_forbid 5 = .ok (.if_icmp .ge 16, 3) := by decide +kernel
theorem dX5_forbid_8 : decode cX5_forbid 8 = .ok (.aload_n 0, 1) := by decide +kernel
theorem dX5_forbid_9 : decode cX5_forbid 9 = .ok (.getfield 9, 3) := by decide +kernel
theorem dX5_forbid_12 : decode cX5_forbid 12 = .ok (.iload_n 1, 1) := by decide +kernel
theorem dX5_forbid_13 : decode cX5_forbid 13 = .ok (.iconst 0, 1) := by decide +kernel
theorem dX5_forbid_14 : decode cX5_forbid 14 = .ok (.iastore, 1) := by decide +kernel
theorem dX5_forbid_15 : decode cX5_forbid 15 = .ok (.iinc 1 1, 3) := by decide +kernel
theorem dX5_forbid_18 : decode cX5_forbid 18 = .ok (.goto (-16), 3) := by decide +kernel
theorem dX5_forbid_21 : decode cX5_forbid 21 = .ok (.iconst 0, 1) := by decide +kernel
theorem dX5_forbid_22 : decode cX5_forbid 22 = .ok (.istore_n 1, 1) := by decide +kernel
theorem dX5_forbid_23 : decode cX5_forbid 23 = .ok (.iload_n 1, 1) := by decide +kernel
theorem dX5_forbid_24 : decode cX5_forbid 24 = .ok (.aload_n 0, 1) := by decide +kernel
theorem dX5_forbid_25 : decode cX5_forbid 25 = .ok (.getfield 24, 3) := by decide +kernel
theorem dX5_forbid_28 : decode cX5_forbid 28 = .ok (.getfield 65, 3) := by decide +kernel
theorem dX5_forbid_31 : decode cX5_forbid 31 = .ok (.getfield 34, 3) := by decide +kernel
theorem dX5_forbid_34 : decode cX5_forbid 34 = .ok (.if_icmp .ge 75, 3) := by decide +kernel
theorem dX5_forbid_37 : decode cX5_forbid 37 = .ok (.aload_n 0, 1) := by decide +kernel
theorem dX5_forbid_38 : decode cX5_forbid 38 = .ok (.getfield 24, 3) := by decide +kernel
theorem dX5_forbid_41 : decode cX5_forbid 41 = .ok (.getfield 65, 3) := by decide +kernel
theorem dX5_forbid_44 : decode cX5_forbid 44 = .ok (.iload_n 1, 1) := by decide +kernel
theorem dX5_forbid_45 : decode cX5_forbid 45 = .ok (.invokevirtual 40, 3) := by decide +kernel
theorem dX5_forbid_48 : decode cX5_forbid 48 = .ok (.invokestatic 44, 3) := by decide +kernel
theorem dX5_forbid_51 : decode cX5_forbid 51 = .ok (.istore_n 2, 1) := by decide +kernel
theorem dX5_forbid_52 : decode cX5_forbid 52 = .ok (.aload_n 0, 1) := by decide +kernel
theorem dX5_forbid_53 : decode cX5_forbid 53 = .ok (.getfield 24, 3) := by decide +kernel
theorem dX5_forbid_56 : decode cX5_forbid 56 = .ok (.getfield 65, 3) := by decide +kernel
theorem dX5_forbid_59 : decode cX5_forbid 59 = .ok (.iload_n 1, 1) := by decide +kernel
theorem dX5_forbid_60 : decode cX5_forbid 60 = .ok (.invokevirtual 40, 3) := by decide +kernel
theorem dX5_forbid_63 : decode cX5_forbid 63 = .ok (.invokestatic 53, 3) := by decide +kernel
theorem dX5_forbid_66 : decode cX5_forbid 66 = .ok (.istore_n 3, 1) := by decide +kernel
theorem dX5_forbid_67 : decode cX5_forbid 67 = .ok (.iload_n 2, 1) := by decide +kernel
theorem dX5_forbid_68 : decode cX5_forbid 68 = .ok (.bipush 7, 2) := by decide +kernel
theorem dX5_forbid_70 : decode cX5_forbid 70 = .ok (.if_icmp .ge 33, 3) := by decide +kernel
theorem dX5_forbid_73 : decode cX5_forbid 73 = .ok (.iload_n 3, 1) := by decide +kernel
theorem dX5_forbid_74 : decode cX5_forbid 74 = .ok (.bipush 7, 2) := by decide +kernel
theorem dX5_forbid_76 : decode cX5_forbid 76 = .ok (.if_icmp .ge 27, 3) := by decide +kernel
theorem dX5_forbid_79 : decode cX5_forbid 79 = .ok (.aload_n 0, 1) := by decide +kernel
theorem dX5_forbid_80 : decode cX5_forbid 80 = .ok (.getfield 9, 3) := by decide +kernel
theorem dX5_forbid_83 : decode cX5_forbid 83 = .ok (.iload_n 2, 1) := by decide +kernel
theorem dX5_forbid_84 : decode cX5_forbid 84 = .ok (.dup2, 1) := by decide +kernel
theorem dX5_forbid_85 : decode cX5_forbid 85 = .ok (.iaload, 1) := by decide +kernel
theorem dX5_forbid_86 : decode cX5_forbid 86 = .ok (.iconst 1, 1) := by decide +kernel
theorem dX5_forbid_87 : decode cX5_forbid 87 = .ok (.iload_n 3, 1) := by decide +kernel
theorem dX5_forbid_88 : decode cX5_forbid 88 = .ok (.ishl, 1) := by decide +kernel
theorem dX5_forbid_89 : decode cX5_forbid 89 = .ok (.ior, 1) := by decide +kernel
theorem dX5_forbid_90 : decode cX5_forbid 90 = .ok (.iastore, 1) := by decide +kernel
theorem dX5_forbid_91 : decode cX5_forbid 91 = .ok (.aload_n 0, 1) := by decide +kernel
theorem dX5_forbid_92 : decode cX5_forbid 92 = .ok (.getfield 9, 3) := by decide +kernel
theorem dX5_forbid_95 : decode cX5_forbid 95 = .ok (.iload_n 3, 1) := by decide +kernel
theorem dX5_forbid_96 : decode cX5_forbid 96 = .ok (.dup2, 1) := by decide +kernel
theorem dX5_forbid_97 : decode cX5_forbid 97 = .ok (.iaload, 1) := by decide +kernel
theorem dX5_forbid_98 : decode cX5_forbid 98 = .ok (.iconst 1, 1) := by decide +kernel
theorem dX5_forbid_99 : decode cX5_forbid 99 = .ok (.iload_n 2, 1) := by decide +kernel
theorem dX5_forbid_100 : decode cX5_forbid 100 = .ok (.ishl, 1) := by decide +kernel
theorem dX5_forbid_101 : decode cX5_forbid 101 = .ok (.ior, 1) := by decide +kernel
theorem dX5_forbid_102 : decode cX5_forbid 102 = .ok (.iastore, 1) := by decide +kernel
theorem dX5_forbid_103 : decode cX5_forbid 103 = .ok (.iinc 1 1, 3) := by decide +kernel
theorem dX5_forbid_106 : decode cX5_forbid 106 = .ok (.goto (-83), 3) := by decide +kernel
theorem dX5_forbid_109 : decode cX5_forbid 109 = .ok (.return_, 1) := by decide +kernel
def f_X5_forbid_23  (k23 : Int32 × zHp → Option (zHp)) (v1 : Int32) (h : zHp) : Option (zHp) := (if v1 < (h 29 1) then (f_X7_get 29 v1 h).bind fun x1 => (f_X8_first x1.1 x1.2).bind fun x2 => (f_X7_get 29 v1 x2.2).bind fun x3 => (f_X8_second x3.1 x3.2).bind fun x4 => (if x2.1 < (7 : Int32) then (if x4.1 < (7 : Int32) then zix x2.1 10 (zix x2.1 10 (zlt (zst x4.2 162 x2.1.toNatClampNeg ((x4.2 162 x2.1.toNatClampNeg) ||| ((1 : Int32) <<< (x4.1 &&& 31)))) fun h5 => zix x4.1 10 (zix x4.1 10 (zlt (zst h5 162 x4.1.toNatClampNeg ((h5 162 x4.1.toNatClampNeg) ||| ((1 : Int32) <<< (x2.1 &&& 31)))) fun h6 => k23 ((v1 + (1 : Int32)), h6))))) else k23 ((v1 + (1 : Int32)), x4.2)) else k23 ((v1 + (1 : Int32)), x4.2)) else some h)
set_option maxHeartbeats 4000000 in
set_option maxRecDepth 100000 in
theorem f_X5_forbid_23_s  (k23 : Int32 × zHp → Option (zHp)) (H23 : ∀ v : Int32 × zHp, Sim wX mX5_forbid 1 rV 23 [(0, .ref 161), (1, .int v.1)] [] v.2 (k23 v)) (v1 : Int32) (h : zHp) : Sim wX mX5_forbid 1 rV 23 [(0, .ref 161), (1, .int v1)] [] h (f_X5_forbid_23 k23 v1 h) := by
  unfold f_X5_forbid_23
  refine Sim.iload_n 1 dX5_forbid_23 rfl ?_
  refine Sim.aload_n 0 dX5_forbid_24 rfl ?_
  refine Sim.getR (j := 26) fl_X5_24 dX5_forbid_25 xR_161_0 ?_
  refine Sim.getR (j := 29) fl_X5_65 dX5_forbid_28 (xR_X8_1 _ xL_X8_26) ?_
  refine Sim.getI fl_X5_34 dX5_forbid_31 (xI_X7_1 _ xL_X7_29) ?_
  refine Sim.icmp_ge 109 dX5_forbid_34 rfl ?_ ?_
  · refine Sim.aload_n 0 dX5_forbid_37 rfl ?_
    refine Sim.getR (j := 26) fl_X5_24 dX5_forbid_38 xR_161_0 ?_
    refine Sim.getR (j := 29) fl_X5_65 dX5_forbid_41 (xR_X8_1 _ xL_X8_26) ?_
    refine Sim.iload_n 1 dX5_forbid_44 rfl ?_
    refine Sim.callV1I (d1 := 0) (s_X7_get 29 xL_X7_29 v1 h) dX5_forbid_45 ml_X5_40 mv_X7_get (xOC_X7 _ xL_X7_29) (Nat.le_of_ble_eq_true rfl) (Nat.le_of_ble_eq_true rfl) (Nat.le_of_ble_eq_true rfl) (fun x1 => ?_)
    refine Sim.callS1I (d1 := 0) (s_X8_first x1.1 x1.2) dX5_forbid_48 ml_X5_44 mv_X8_first (Nat.le_of_ble_eq_true rfl) (Nat.le_of_ble_eq_true rfl) (Nat.le_of_ble_eq_true rfl) (fun x2 => ?_)
    refine Sim.istore_n (L' := [(2, .int x2.1), (0, .ref 161), (1, .int v1)]) dX5_forbid_51 (Nat.le_of_ble_eq_true rfl) rfl ?_
    refine Sim.aload_n 1 dX5_forbid_52 rfl ?_
    refine Sim.getR (j := 26) fl_X5_24 dX5_forbid_53 xR_161_0 ?_
    refine Sim.getR (j := 29) fl_X5_65 dX5_forbid_56 (xR_X8_1 _ xL_X8_26) ?_
    refine Sim.iload_n 2 dX5_forbid_59 rfl ?_
    refine Sim.callV1I (d1 := 0) (s_X7_get 29 xL_X7_29 v1 x2.2) dX5_forbid_60 ml_X5_40 mv_X7_get (xOC_X7 _ xL_X7_29) (Nat.le_of_ble_eq_true rfl) (Nat.le_of_ble_eq_true rfl) (Nat.le_of_ble_eq_true rfl) (fun x3 => ?_)
    refine Sim.callS1I (d1 := 0) (s_X8_second x3.1 x3.2) dX5_forbid_63 ml_X5_53 mv_X8_second (Nat.le_of_ble_eq_true rfl) (Nat.le_of_ble_eq_true rfl) (Nat.le_of_ble_eq_true rfl) (fun x4 => ?_)
    refine Sim.istore_n (L' := [(3, .int x4.1), (2, .int x2.1), (0, .ref 161), (1, .int v1)]) dX5_forbid_66 (Nat.le_of_ble_eq_true rfl) rfl ?_
    refine Sim.iload_n 1 dX5_forbid_67 rfl ?_
    refine Sim.bipush (v := (7 : Int32)) dX5_forbid_68 rfl ?_
    refine Sim.icmp_ge 103 dX5_forbid_70 rfl ?_ ?_
    · refine Sim.iload_n 0 dX5_forbid_73 rfl ?_
      refine Sim.bipush (v := (7 : Int32)) dX5_forbid_74 rfl ?_
      refine Sim.icmp_ge 103 dX5_forbid_76 rfl ?_ ?_
      · refine Sim.aload_n 2 dX5_forbid_79 rfl ?_
        refine Sim.getR (j := 162) fl_X5_9 dX5_forbid_80 xR_161_1 ?_
        refine Sim.iload_n 1 dX5_forbid_83 rfl ?_
        refine Sim.dup2 dX5_forbid_84 rfl rfl ?_
        refine Sim.iald (n := 10) dX5_forbid_85 xA_162 ?_
        refine Sim.iconst (v := (1 : Int32)) dX5_forbid_86 rfl ?_
        refine Sim.iload_n 0 dX5_forbid_87 rfl ?_
        refine Sim.ishl dX5_forbid_88 ?_
        refine Sim.ior dX5_forbid_89 ?_
        refine Sim.iast (n := 10) dX5_forbid_90 xA_162 ?_
        refine Sim.lth (fun h5 => ?_)
        refine Sim.aload_n 2 dX5_forbid_91 rfl ?_
        refine Sim.getR (j := 162) fl_X5_9 dX5_forbid_92 xR_161_1 ?_
        refine Sim.iload_n 0 dX5_forbid_95 rfl ?_
        refine Sim.dup2 dX5_forbid_96 rfl rfl ?_
        refine Sim.iald (n := 10) dX5_forbid_97 xA_162 ?_
        refine Sim.iconst (v := (1 : Int32)) dX5_forbid_98 rfl ?_
        refine Sim.iload_n 1 dX5_forbid_99 rfl ?_
        refine Sim.ishl dX5_forbid_100 ?_
        refine Sim.ior dX5_forbid_101 ?_
        refine Sim.iast (n := 10) dX5_forbid_102 xA_162 ?_
        refine Sim.lth (fun h6 => ?_)
        refine Sim.iinc (L' := [(1, .int (v1 + (1 : Int32))), (3, .int x4.1), (2, .int x2.1), (0, .ref 161)]) 3 dX5_forbid_103 rfl rfl (Nat.le_of_ble_eq_true rfl) rfl ?_
        refine Sim.goto 23 dX5_forbid_106 rfl ?_
        refine Sim.locs [3, 0] rfl ?_
        exact H23 ((v1 + (1 : Int32)), h6)
      · refine Sim.iinc (L' := [(1, .int (v1 + (1 : Int32))), (3, .int x4.1), (2, .int x2.1), (0, .ref 161)]) 3 dX5_forbid_103 rfl rfl (Nat.le_of_ble_eq_true rfl) rfl ?_
        refine Sim.goto 23 dX5_forbid_106 rfl ?_
        refine Sim.locs [3, 0] rfl ?_
        exact H23 ((v1 + (1 : Int32)), x4.2)
    · refine Sim.iinc (L' := [(1, .int (v1 + (1 : Int32))), (3, .int x4.1), (2, .int x2.1), (0, .ref 161)]) 3 dX5_forbid_103 rfl rfl (Nat.le_of_ble_eq_true rfl) rfl ?_
      refine Sim.goto 23 dX5_forbid_106 rfl ?_
      refine Sim.locs [3, 0] rfl ?_
      exact H23 ((v1 + (1 : Int32)), x4.2)
  · exact Sim.vret dX5_forbid_109 rfl
def f_X5_forbid_23_lp   (n : Nat) (v : Int32 × zHp) : Option (zHp) := zlp (fun k23 v => f_X5_forbid_23 k23 v.1 v.2) n v
theorem f_X5_forbid_23_ls  (n : Nat) (v : Int32 × zHp) : Sim wX mX5_forbid 1 rV 23 [(0, .ref 161), (1, .int v.1)] [] v.2 (f_X5_forbid_23_lp n v) :=
  Sim.lp (V := Int32 × zHp) (Lf := fun v => [(0, .ref 161), (1, .int v.1)]) (sf := fun v => []) (hf := fun v => v.2) (fun k23 H23 v => f_X5_forbid_23_s k23 H23 v.1 v.2) n v
def f_X5_forbid_2  (k2 : Int32 × zHp → Option (zHp)) (v1 : Int32) (h : zHp) : Option (zHp) := (if v1 < (7 : Int32) then zix v1 10 (zlt (zst h 162 v1.toNatClampNeg (0 : Int32)) fun h1 => k2 ((v1 + (1 : Int32)), h1)) else f_X5_forbid_23_lp  zN ((0 : Int32), h))
set_option maxHeartbeats 4000000 in
set_option maxRecDepth 100000 in
theorem f_X5_forbid_2_s  (k2 : Int32 × zHp → Option (zHp)) (H2 : ∀ v : Int32 × zHp, Sim wX mX5_forbid 1 rV 2 [(0, .ref 161), (1, .int v.1)] [] v.2 (k2 v)) (v1 : Int32) (h : zHp) : Sim wX mX5_forbid 1 rV 2 [(0, .ref 161), (1, .int v1)] [] h (f_X5_forbid_2 k2 v1 h) := by
  unfold f_X5_forbid_2
  refine Sim.iload_n 1 dX5_forbid_2 rfl ?_
  refine Sim.bipush (v := (7 : Int32)) dX5_forbid_3 rfl ?_
  refine Sim.icmp_ge 21 dX5_forbid_5 rfl ?_ ?_
  · refine Sim.aload_n 0 dX5_forbid_8 rfl ?_
    refine Sim.getR (j := 162) fl_X5_9 dX5_forbid_9 xR_161_1 ?_
    refine Sim.iload_n 1 dX5_forbid_12 rfl ?_
    refine Sim.iconst (v := (0 : Int32)) dX5_forbid_13 rfl ?_
    refine Sim.iast (n := 10) dX5_forbid_14 xA_162 ?_
    refine Sim.lth (fun h1 => ?_)
    refine Sim.iinc (L' := [(1, .int (v1 + (1 : Int32))), (0, .ref 161)]) 1 dX5_forbid_15 rfl rfl (Nat.le_of_ble_eq_true rfl) rfl ?_
    refine Sim.goto 2 dX5_forbid_18 rfl ?_
    refine Sim.locs [1, 0] rfl ?_
    exact H2 ((v1 + (1 : Int32)), h1)
  · refine Sim.iconst (v := (0 : Int32)) dX5_forbid_21 rfl ?_
    refine Sim.istore_n (L' := [(1, .int (0 : Int32)), (0, .ref 161)]) dX5_forbid_22 (Nat.le_of_ble_eq_true rfl) rfl ?_
    refine Sim.locs [1, 0] rfl ?_
    exact f_X5_forbid_23_ls  zN ((0 : Int32), h)
def f_X5_forbid_2_lp   (n : Nat) (v : Int32 × zHp) : Option (zHp) := zlp (fun k2 v => f_X5_forbid_2 k2 v.1 v.2) n v
theorem f_X5_forbid_2_ls  (n : Nat) (v : Int32 × zHp) : Sim wX mX5_forbid 1 rV 2 [(0, .ref 161), (1, .int v.1)] [] v.2 (f_X5_forbid_2_lp n v) :=
  Sim.lp (V := Int32 × zHp) (Lf := fun v => [(0, .ref 161), (1, .int v.1)]) (sf := fun v => []) (hf := fun v => v.2) (fun k2 H2 v => f_X5_forbid_2_s k2 H2 v.1 v.2) n v
def f_X5_forbid   (h : zHp) : Option (zHp) := f_X5_forbid_2_lp  zN ((0 : Int32), h)
set_option maxHeartbeats 4000000 in
set_option maxRecDepth 100000 in
theorem s_X5_forbid   (h : zHp) : Fn wX mX5_forbid 1 rV [.ref 161] h (f_X5_forbid  h) := by
  refine Fn.of rfl (Nat.le_of_ble_eq_true rfl) ?_
  unfold f_X5_forbid
  refine Sim.iconst (v := (0 : Int32)) dX5_forbid_0 rfl ?_
  refine Sim.istore_n (L' := [(1, .int (0 : Int32)), (0, .ref 161)]) dX5_forbid_1 (Nat.le_of_ble_eq_true rfl) rfl ?_
  refine Sim.locs [1, 0] rfl ?_
  exact f_X5_forbid_2_ls  zN ((0 : Int32), h)
theorem mv_X5_forbid : zMV mX5_forbid 0 := ⟨⟨zTb_in 1084 (by decide +kernel) rfl, zTb_in 147 (by decide +kernel) rfl, ⟨by decide +kernel, by decide +kernel⟩, by decide +kernel⟩, zTb_in 1083 (by decide +kernel) rfl, zTb_in 30 (by decide +kernel) rfl⟩
-- ===== RockingPorch$Puzzles.seatNext(III)V
abbrev mX5_seatNext : zMt := (yX5_seatNext, cX5_seatNext, 6, none)
theorem fl_X5_18 : zF RX5 18 5 3 := ⟨RX5, TX5, 5, rfl, Nat.le_of_ble_eq_true rfl, zTb_in 500 (by decide +kernel) rfl, in_X5⟩
theorem dX5_seatNext_0 : decode cX5_seatNext 0 = .ok (.aload_n 0, 1) := by decide +kernel
theorem dX5_seatNext_1 : decode cX5_seatNext 1 = .ok (.getfield 18, 3) := by decide +kernel
theorem dX5_seatNext_4 : decode cX5_seatNext 4 = .ok (.iload_n 1, 1) := by decide +kernel
theorem dX5_seatNext_5 : decode cX5_seatNext 5 = .ok (.bipush 7, 2) := by decide +kernel
theorem dX5_seatNext_7 : decode cX5_seatNext 7 = .ok (.imul, 1) := by decide +kernel
theorem dX5_seatNext_8 : decode cX5_seatNext 8 = .ok (.iload_n 2, 1) := by decide +kernel
theorem dX5_seatNext_9 : decode cX5_seatNext 9 = .ok (.iadd, 1) := by decide +kernel
theorem dX5_seatNext_10 : decode cX5_seatNext 10 = .ok (.iaload, 1) := by decide +kernel
theorem dX5_seatNext_11 : decode cX5_seatNext 11 = .ok (.istore 4, 2) := by decide +kernel
theorem dX5_seatNext_13 : decode cX5_seatNext 13 = .ok (.iconst 0, 1) := by decide +kernel
theorem dX5_seatNext_14 : decode cX5_seatNext 14 = .ok (.istore 5, 2) := by decide +kernel
theorem dX5_seatNext_16 : decode cX5_seatNext 16 = .ok (.iload 5, 2) := by decide +kernel
theorem dX5_seatNext_18 : decode cX5_seatNext 18 = .ok (.iload_n 3, 1) := by decide +kernel
theorem dX5_seatNext_19 : decode cX5_seatNext 19 = .ok (.if_icmp .ge 59, 3) := by decide +kernel
theorem dX5_seatNext_22 : decode cX5_seatNext 22 = .ok (.iload 4, 2) := by decide +kernel
theorem dX5_seatNext_24 : decode cX5_seatNext 24 = .ok (.ifCond .le 54, 3) := by decide +kernel
theorem dX5_seatNext_27 : decode cX5_seatNext 27 = .ok (.iload_n 1, 1) := by decide +kernel
theorem dX5_seatNext_28 : decode cX5_seatNext 28 = .ok (.iconst 1, 1) := by decide +kernel
theorem dX5_seatNext_29 : decode cX5_seatNext 29 = .ok (.iload 5, 2) := by decide +kernel
theorem dX5_seatNext_31 : decode cX5_seatNext 31 = .ok (.ishl, 1) := by decide +kernel
theorem dX5_seatNext_32 : decode cX5_seatNext 32 = .ok (.iand, 1) := by decide +kernel
theorem dX5_seatNext_33 : decode cX5_seatNext 33 = .ok (.ifCond .ne 39, 3) := by decide +kernel
theorem dX5_seatNext_36 : decode cX5_seatNext 36 = .ok (.aload_n 0, 1) := by decide +kernel
theorem dX5_seatNext_37 : decode cX5_seatNext 37 = .ok (.getfield 9, 3) := by decide +kernel
theorem dX5_seatNext_40 : decode cX5_seatNext 40 = .ok (.iload_n 2, 1) := by decide +kernel
theorem dX5_seatNext_41 : decode cX5_seatNext 41 = .ok (.iaload, 1) := by decide +kernel
theorem dX5_seatNext_42 : decode cX5_seatNext 42 = .ok (.iconst 1, 1) := by decide +kernel
theorem dX5_seatNext_43 : decode cX5_seatNext 43 = .ok (.iload 5, 2) := by decide +kernel
theorem dX5_seatNext_45 : decode cX5_seatNext 45 = .ok (.ishl, 1) := by decide +kernel
theorem dX5_seatNext_46 : decode cX5_seatNext 46 = .ok (.iand, 1) := by decide +kernel
theorem dX5_seatNext_47 : decode cX5_seatNext 47 = .ok (.ifCond .ne 25, 3) := by decide +kernel
theorem dX5_seatNext_50 : decode cX5_seatNext 50 = .ok (.aload_n 0, 1) := by decide +kernel
theorem dX5_seatNext_51 : decode cX5_seatNext 51 = .ok (.getfield 18, 3) := by decide +kernel
theorem dX5_seatNext_54 : decode cX5_seatNext 54 = .ok (.iload_n 1, 1) := by decide +kernel
theorem dX5_seatNext_55 : decode cX5_seatNext 55 = .ok (.iconst 1, 1) := by decide +kernel
theorem dX5_seatNext_56 : decode cX5_seatNext 56 = .ok (.iload 5, 2) := by decide +kernel
theorem dX5_seatNext_58 : decode cX5_seatNext 58 = .ok (.ishl, 1) := by decide +kernel
theorem dX5_seatNext_59 : decode cX5_seatNext 59 = .ok (.ior, 1) := by decide +kernel
theorem dX5_seatNext_60 : decode cX5_seatNext 60 = .ok (.bipush 7, 2) := by decide +kernel
theorem dX5_seatNext_62 : decode cX5_seatNext 62 = .ok (.imul, 1) := by decide +kernel
theorem dX5_seatNext_63 : decode cX5_seatNext 63 = .ok (.iload 5, 2) := by decide +kernel
theorem dX5_seatNext_65 : decode cX5_seatNext 65 = .ok (.iadd, 1) := by decide +kernel
theorem dX5_seatNext_66 : decode cX5_seatNext 66 = .ok (.dup2, 1) := by decide +kernel
theorem dX5_seatNext_67 : decode cX5_seatNext 67 = .ok (.iaload, 1) := by decide +kernel
theorem dX5_seatNext_68 : decode cX5_seatNext 68 = .ok (.iload 4, 2) := by decide +kernel
theorem dX5_seatNext_70 : decode cX5_seatNext 70 = .ok (.iadd, 1) := by decide +kernel
theorem dX5_seatNext_71 : decode cX5_seatNext 71 = .ok (.iastore, 1) := by decide +kernel
theorem dX5_seatNext_72 : decode cX5_seatNext 72 = .ok (.iinc 5 1, 3) := by decide +kernel
theorem dX5_seatNext_75 : decode cX5_seatNext 75 = .ok (.goto (-59), 3) := by decide +kernel
theorem dX5_seatNext_78 : decode cX5_seatNext 78 = .ok (.return_, 1) := by decide +kernel
def f_X5_seatNext_16  (k16 : Int32 × Int32 × Int32 × Int32 × Int32 × zHp → Option (zHp)) (v1 : Int32) (v2 : Int32) (v3 : Int32) (v4 : Int32) (v5 : Int32) (h : zHp) : Option (zHp) := (if v5 < v3 then (if 0 < v4 then (if (v1 &&& ((1 : Int32) <<< (v5 &&& 31))) = 0 then zix v2 10 ((if ((h 162 v2.toNatClampNeg) &&& ((1 : Int32) <<< (v5 &&& 31))) = 0 then zix (((v1 ||| ((1 : Int32) <<< (v5 &&& 31))) * (7 : Int32)) + v5) 896 (zix (((v1 ||| ((1 : Int32) <<< (v5 &&& 31))) * (7 : Int32)) + v5) 896 (zlt (zst h 164 (((v1 ||| ((1 : Int32) <<< (v5 &&& 31))) * (7 : Int32)) + v5).toNatClampNeg ((h 164 (((v1 ||| ((1 : Int32) <<< (v5 &&& 31))) * (7 : Int32)) + v5).toNatClampNeg) + v4)) fun h1 => k16 (v1, v2, v3, v4, (v5 + (1 : Int32)), h1))) else k16 (v1, v2, v3, v4, (v5 + (1 : Int32)), h))) else k16 (v1, v2, v3, v4, (v5 + (1 : Int32)), h)) else some h) else some h)
set_option maxHeartbeats 4000000 in
set_option maxRecDepth 100000 in
theorem f_X5_seatNext_16_s  (k16 : Int32 × Int32 × Int32 × Int32 × Int32 × zHp → Option (zHp)) (H16 : ∀ v : Int32 × Int32 × Int32 × Int32 × Int32 × zHp, Sim wX mX5_seatNext 0 rV 16 [(0, .ref 161), (1, .int v.1), (2, .int v.2.1), (3, .int v.2.2.1), (4, .int v.2.2.2.1), (5, .int v.2.2.2.2.1)] [] v.2.2.2.2.2 (k16 v)) (v1 : Int32) (v2 : Int32) (v3 : Int32) (v4 : Int32) (v5 : Int32) (h : zHp) : Sim wX mX5_seatNext 0 rV 16 [(0, .ref 161), (1, .int v1), (2, .int v2), (3, .int v3), (4, .int v4), (5, .int v5)] [] h (f_X5_seatNext_16 k16 v1 v2 v3 v4 v5 h) := by
  unfold f_X5_seatNext_16
  refine Sim.iload 5 dX5_seatNext_16 rfl ?_
  refine Sim.iload_n 3 dX5_seatNext_18 rfl ?_
  refine Sim.icmp_ge 78 dX5_seatNext_19 rfl ?_ ?_
  · refine Sim.iload 4 dX5_seatNext_22 rfl ?_
    refine Sim.if_le 78 dX5_seatNext_24 rfl ?_ ?_
    · refine Sim.iload_n 1 dX5_seatNext_27 rfl ?_
      refine Sim.iconst (v := (1 : Int32)) dX5_seatNext_28 rfl ?_
      refine Sim.iload 5 dX5_seatNext_29 rfl ?_
      refine Sim.ishl dX5_seatNext_31 ?_
      refine Sim.iand dX5_seatNext_32 ?_
      refine Sim.if_ne 72 dX5_seatNext_33 rfl ?_ ?_
      · refine Sim.aload_n 0 dX5_seatNext_36 rfl ?_
        refine Sim.getR (j := 162) fl_X5_9 dX5_seatNext_37 xR_161_1 ?_
        refine Sim.iload_n 2 dX5_seatNext_40 rfl ?_
        refine Sim.iald (n := 10) dX5_seatNext_41 xA_162 ?_
        refine Sim.iconst (v := (1 : Int32)) dX5_seatNext_42 rfl ?_
        refine Sim.iload 5 dX5_seatNext_43 rfl ?_
        refine Sim.ishl dX5_seatNext_45 ?_
        refine Sim.iand dX5_seatNext_46 ?_
        refine Sim.if_ne 72 dX5_seatNext_47 rfl ?_ ?_
        · refine Sim.aload_n 0 dX5_seatNext_50 rfl ?_
          refine Sim.getR (j := 164) fl_X5_18 dX5_seatNext_51 xR_161_3 ?_
          refine Sim.iload_n 1 dX5_seatNext_54 rfl ?_
          refine Sim.iconst (v := (1 : Int32)) dX5_seatNext_55 rfl ?_
          refine Sim.iload 5 dX5_seatNext_56 rfl ?_
          refine Sim.ishl dX5_seatNext_58 ?_
          refine Sim.ior dX5_seatNext_59 ?_
          refine Sim.bipush (v := (7 : Int32)) dX5_seatNext_60 rfl ?_
          refine Sim.imul dX5_seatNext_62 ?_
          refine Sim.iload 5 dX5_seatNext_63 rfl ?_
          refine Sim.iadd dX5_seatNext_65 ?_
          refine Sim.dup2 dX5_seatNext_66 rfl rfl ?_
          refine Sim.iald (n := 896) dX5_seatNext_67 xA_164 ?_
          refine Sim.iload 4 dX5_seatNext_68 rfl ?_
          refine Sim.iadd dX5_seatNext_70 ?_
          refine Sim.iast (n := 896) dX5_seatNext_71 xA_164 ?_
          refine Sim.lth (fun h1 => ?_)
          refine Sim.iinc (L' := [(5, .int (v5 + (1 : Int32))), (0, .ref 161), (1, .int v1), (2, .int v2), (3, .int v3), (4, .int v4)]) 5 dX5_seatNext_72 rfl rfl (Nat.le_of_ble_eq_true rfl) rfl ?_
          refine Sim.goto 16 dX5_seatNext_75 rfl ?_
          refine Sim.locs [1, 2, 3, 4, 5, 0] rfl ?_
          exact H16 (v1, v2, v3, v4, (v5 + (1 : Int32)), h1)
        · refine Sim.iinc (L' := [(5, .int (v5 + (1 : Int32))), (0, .ref 161), (1, .int v1), (2, .int v2), (3, .int v3), (4, .int v4)]) 5 dX5_seatNext_72 rfl rfl (Nat.le_of_ble_eq_true rfl) rfl ?_
          refine Sim.goto 16 dX5_seatNext_75 rfl ?_
          refine Sim.locs [1, 2, 3, 4, 5, 0] rfl ?_
          exact H16 (v1, v2, v3, v4, (v5 + (1 : Int32)), h)
      · refine Sim.iinc (L' := [(5, .int (v5 + (1 : Int32))), (0, .ref 161), (1, .int v1), (2, .int v2), (3, .int v3), (4, .int v4)]) 5 dX5_seatNext_72 rfl rfl (Nat.le_of_ble_eq_true rfl) rfl ?_
        refine Sim.goto 16 dX5_seatNext_75 rfl ?_
        refine Sim.locs [1, 2, 3, 4, 5, 0] rfl ?_
        exact H16 (v1, v2, v3, v4, (v5 + (1 : Int32)), h)
    · exact Sim.vret dX5_seatNext_78 rfl
  · exact Sim.vret dX5_seatNext_78 rfl
def f_X5_seatNext_16_lp   (n : Nat) (v : Int32 × Int32 × Int32 × Int32 × Int32 × zHp) : Option (zHp) := zlp (fun k16 v => f_X5_seatNext_16 k16 v.1 v.2.1 v.2.2.1 v.2.2.2.1 v.2.2.2.2.1 v.2.2.2.2.2) n v
theorem f_X5_seatNext_16_ls  (n : Nat) (v : Int32 × Int32 × Int32 × Int32 × Int32 × zHp) : Sim wX mX5_seatNext 0 rV 16 [(0, .ref 161), (1, .int v.1), (2, .int v.2.1), (3, .int v.2.2.1), (4, .int v.2.2.2.1), (5, .int v.2.2.2.2.1)] [] v.2.2.2.2.2 (f_X5_seatNext_16_lp n v) :=
  Sim.lp (V := Int32 × Int32 × Int32 × Int32 × Int32 × zHp) (Lf := fun v => [(0, .ref 161), (1, .int v.1), (2, .int v.2.1), (3, .int v.2.2.1), (4, .int v.2.2.2.1), (5, .int v.2.2.2.2.1)]) (sf := fun v => []) (hf := fun v => v.2.2.2.2.2) (fun k16 H16 v => f_X5_seatNext_16_s k16 H16 v.1 v.2.1 v.2.2.1 v.2.2.2.1 v.2.2.2.2.1 v.2.2.2.2.2) n v
def f_X5_seatNext  (a1 : Int32) (a2 : Int32) (a3 : Int32) (h : zHp) : Option (zHp) := zix ((a1 * (7 : Int32)) + a2) 896 (zlt (h 164 ((a1 * (7 : Int32)) + a2).toNatClampNeg) fun x1 => f_X5_seatNext_16_lp  zN (a1, a2, a3, x1, (0 : Int32), h))
set_option maxHeartbeats 4000000 in
set_option maxRecDepth 100000 in
theorem s_X5_seatNext  (a1 : Int32) (a2 : Int32) (a3 : Int32) (h : zHp) : Fn wX mX5_seatNext 0 rV [.ref 161, .int a1, .int a2, .int a3] h (f_X5_seatNext a1 a2 a3 h) := by
  refine Fn.of rfl (Nat.le_of_ble_eq_true rfl) ?_
  unfold f_X5_seatNext
  refine Sim.aload_n 0 dX5_seatNext_0 rfl ?_
  refine Sim.getR (j := 164) fl_X5_18 dX5_seatNext_1 xR_161_3 ?_
  refine Sim.iload_n 1 dX5_seatNext_4 rfl ?_
  refine Sim.bipush (v := (7 : Int32)) dX5_seatNext_5 rfl ?_
  refine Sim.imul dX5_seatNext_7 ?_
  refine Sim.iload_n 2 dX5_seatNext_8 rfl ?_
  refine Sim.iadd dX5_seatNext_9 ?_
  refine Sim.iald (n := 896) dX5_seatNext_10 xA_164 ?_
  refine Sim.lti (fun x1 => ?_)
  refine Sim.istore (L' := [(4, .int x1), (0, .ref 161), (1, .int a1), (2, .int a2), (3, .int a3)]) dX5_seatNext_11 (Nat.le_of_ble_eq_true rfl) rfl ?_
  refine Sim.iconst (v := (0 : Int32)) dX5_seatNext_13 rfl ?_
  refine Sim.istore (L' := [(5, .int (0 : Int32)), (4, .int x1), (0, .ref 161), (1, .int a1), (2, .int a2), (3, .int a3)]) dX5_seatNext_14 (Nat.le_of_ble_eq_true rfl) rfl ?_
  refine Sim.locs [2, 3, 4, 5, 1, 0] rfl ?_
  exact f_X5_seatNext_16_ls  zN (a1, a2, a3, x1, (0 : Int32), h)
theorem mv_X5_seatNext : zMV mX5_seatNext 3 := ⟨⟨zTb_in 1088 (by decide +kernel) rfl, zTb_in 147 (by decide +kernel) rfl, ⟨by decide +kernel, by decide +kernel⟩, by decide +kernel⟩, zTb_in 1087 (by decide +kernel) rfl, zTb_in 31 (by decide +kernel) rfl⟩
-- ===== RockingPorch$Puzzles.orders(IZ)I
abbrev mX5_orders : zMt := (yX5_orders, cX5_orders, 7, some .int)
theorem ml_X5_58 : Cond.methodLink RX5 58 yX5_forbid ∈ zTb := zTb_in 1081 (by decide +kernel) rfl
theorem ml_X5_61 : Cond.methodLink RX5 61 yX5_seatNext ∈ zTb := zTb_in 1085 (by decide +kernel) rfl
theorem dX5_orders_0 : decode cX5_orders 0 = .ok (.iconst 1, 1) := by decide +kernel
theorem dX5_orders_1 : decode cX5_orders 1 = .ok (.iload_n 1, 1) := by decide +kernel
theorem dX5_orders_2 : decode cX5_orders 2 = .ok (.ishl, 1) := by decide +kernel
theorem dX5_orders_3 : decode cX5_orders 3 = .ok (.iconst 1, 1) := by decide +kernel
theorem dX5_orders_4 : decode cX5_orders 4 = .ok (.isub, 1) := by decide +kernel
theorem dX5_orders_5 : decode cX5_orders 5 = .ok (.istore_n 3, 1) := by decide +kernel
theorem dX5_orders_6 : decode cX5_orders 6 = .ok (.aload_n 0, 1) := by decide +kernel
theorem dX5_orders_7 : decode cX5_orders 7 = .ok (.invokevirtual 58, 3) := by decide +kernel
theorem dX5_orders_10 : decode cX5_orders 10 = .ok (.iconst 0, 1) := by decide +kernel
theorem dX5_orders_11 : decode cX5_orders 11 = .ok (.istore 4, 2) := by decide +kernel
theorem dX5_orders_13 : decode cX5_orders 13 = .ok (.iload 4, 2) := by decide +kernel
theorem dX5_orders_15 : decode cX5_orders 15 = .ok (.iload_n 3, 1) := by decide +kernel
theorem dX5_orders_16 : decode cX5_orders 16 = .ok (.iconst 1, 1) := by decide +kernel
theorem dX5_orders_17 : decode cX5_orders 17 = .ok (.iadd, 1) := by decide +kernel
theorem dX5_orders_18 : decode cX5_orders 18 = .ok (.bipush 7, 2) := by decide +kernel
theorem dX5_orders_20 : decode cX5_orders 20 = .ok (.imul, 1) := by decide +kernel
theorem dX5_orders_21 : decode cX5_orders 21 = .ok (.if_icmp .ge 27, 3) := by decide +kernel
theorem dX5_orders_24 : decode cX5_orders 24 = .ok (.iload 4, 2) := by decide +kernel
theorem dX5_orders_26 : decode cX5_orders 26 = .ok (.aload_n 0, 1) := by decide +kernel
theorem dX5_orders_27 : decode cX5_orders 27 = .ok (.getfield 18, 3) := by decide +kernel
theorem dX5_orders_30 : decode cX5_orders 30 = .ok (.arraylength, 1) := by decide +kernel
theorem dX5_orders_31 : decode cX5_orders 31 = .ok (.if_icmp .ge 17, 3) := by decide +kernel
theorem dX5_orders_34 : decode cX5_orders 34 = .ok (.aload_n 0, 1) := by decide +kernel
theorem dX5_orders_35 : decode cX5_orders 35 = .ok (.getfield 18, 3) := by decide +kernel
theorem dX5_orders_38 : decode cX5_orders 38 = .ok (.iload 4, 2) := by decide +kernel
theorem dX5_orders_40 : decode cX5_orders 40 = .ok (.iconst 0, 1) := by decide +kernel
theorem dX5_orders_41 : decode cX5_orders 41 = .ok (.iastore, 1) := by decide +kernel
theorem dX5_orders_42 : decode cX5_orders 42 = .ok (.iinc 4 1, 3) := by decide +kernel
theorem dX5_orders_45 : decode cX5_orders 45 = .ok (.goto (-32), 3) := by decide +kernel
theorem dX5_orders_48 : decode cX5_orders 48 = .ok (.iconst 0, 1) := by decide +kernel
theorem dX5_orders_49 : decode cX5_orders 49 = .ok (.istore 4, 2) := by decide +kernel
theorem dX5_orders_51 : decode cX5_orders 51 = .ok (.iload 4, 2) := by decide +kernel
theorem dX5_orders_53 : decode cX5_orders 53 = .ok (.iload_n 2, 1) := by decide +kernel
theorem dX5_orders_54 : decode cX5_orders 54 = .ok (.ifCond .eq 7, 3) := by decide +kernel
theorem dX5_orders_57 : decode cX5_orders 57 = .ok (.iconst 1, 1) := by decide +kernel
theorem dX5_orders_58 : decode cX5_orders 58 = .ok (.goto 4, 3) := by decide +kernel
theorem dX5_orders_61 : decode cX5_orders 61 = .ok (.iload_n 1, 1) := by decide +kernel
theorem dX5_orders_62 : decode cX5_orders 62 = .ok (.if_icmp .ge 25, 3) := by decide +kernel
theorem dX5_orders_65 : decode cX5_orders 65 = .ok (.aload_n 0, 1) := by decide +kernel
theorem dX5_orders_66 : decode cX5_orders 66 = .ok (.getfield 18, 3) := by decide +kernel
theorem dX5_orders_69 : decode cX5_orders 69 = .ok (.iconst 1, 1) := by decide +kernel
theorem dX5_orders_70 : decode cX5_orders 70 = .ok (.iload 4, 2) := by decide +kernel
theorem dX5_orders_72 : decode cX5_orders 72 = .ok (.ishl, 1) := by decide +kernel
theorem dX5_orders_73 : decode cX5_orders 73 = .ok (.bipush 7, 2) := by decide +kernel
theorem dX5_orders_75 : decode cX5_orders 75 = .ok (.imul, 1) := by decide +kernel
theorem dX5_orders_76 : decode cX5_orders 76 = .ok (.iload 4, 2) := by decide +kernel
theorem dX5_orders_78 : decode cX5_orders 78 = .ok (.iadd, 1) := by decide +kernel
theorem dX5_orders_79 : decode cX5_orders 79 = .ok (.iconst 1, 1) := by decide +kernel
theorem dX5_orders_80 : decode cX5_orders 80 = .ok (.iastore, 1) := by decide +kernel
theorem dX5_orders_81 : decode cX5_orders 81 = .ok (.iinc 4 1, 3) := by decide +kernel
theorem dX5_orders_84 : decode cX5_orders 84 = .ok (.goto (-33), 3) := by decide +kernel
theorem dX5_orders_87 : decode cX5_orders 87 = .ok (.iconst 1, 1) := by decide +kernel
theorem dX5_orders_88 : decode cX5_orders 88 = .ok (.istore 4, 2) := by decide +kernel
theorem dX5_orders_90 : decode cX5_orders 90 = .ok (.iload 4, 2) := by decide +kernel
theorem dX5_orders_92 : decode cX5_orders 92 = .ok (.iload_n 3, 1) := by decide +kernel
theorem dX5_orders_93 : decode cX5_orders 93 = .ok (.if_icmp .ge 33, 3) := by decide +kernel
theorem dX5_orders_96 : decode cX5_orders 96 = .ok (.iconst 0, 1) := by decide +kernel
theorem dX5_orders_97 : decode cX5_orders 97 = .ok (.istore 5, 2) := by decide +kernel
theorem dX5_orders_99 : decode cX5_orders 99 = .ok (.iload 5, 2) := by decide +kernel
theorem dX5_orders_101 : decode cX5_orders 101 = .ok (.iload_n 1, 1) := by decide +kernel
theorem dX5_orders_102 : decode cX5_orders 102 = .ok (.if_icmp .ge 18, 3) := by decide +kernel
theorem dX5_orders_105 : decode cX5_orders 105 = .ok (.aload_n 0, 1) := by decide +kernel
theorem dX5_orders_106 : decode cX5_orders 106 = .ok (.iload 4, 2) := by decide +kernel
theorem dX5_orders_108 : decode cX5_orders 108 = .ok (.iload 5, 2) := by decide +kernel
theorem dX5_orders_110 : decode cX5_orders 110 = .ok (.iload_n 1, 1) := by decide +kernel
theorem dX5_orders_111 : decode cX5_orders 111 = .ok (.invokevirtual 61, 3) := by decide +kernel
theorem dX5_orders_114 : decode cX5_orders 114 = .ok (.iinc 5 1, 3) := by decide +kernel
theorem dX5_orders_117 : decode cX5_orders 117 = .ok (.goto (-18), 3) := by decide +kernel
theorem dX5_orders_120 : decode cX5_orders 120 = .ok (.iinc 4 1, 3) := by decide +kernel
theorem dX5_orders_123 : decode cX5_orders 123 = .ok (.goto (-33), 3) := by decide +kernel
theorem dX5_orders_126 : decode cX5_orders 126 = .ok (.iconst 0, 1) := by decide +kernel
theorem dX5_orders_127 : decode cX5_orders 127 = .ok (.istore 4, 2) := by decide +kernel
theorem dX5_orders_129 : decode cX5_orders 129 = .ok (.iconst 0, 1) := by decide +kernel
theorem dX5_orders_130 : decode cX5_orders 130 = .ok (.istore 5, 2) := by decide +kernel
theorem dX5_orders_132 : decode cX5_orders 132 = .ok (.iload 5, 2) := by decide +kernel
theorem dX5_orders_134 : decode cX5_orders 134 = .ok (.iload_n 1, 1) := by decide +kernel
theorem dX5_orders_135 : decode cX5_orders 135 = .ok (.if_icmp .ge 58, 3) := by decide +kernel
theorem dX5_orders_138 : decode cX5_orders 138 = .ok (.iload_n 2, 1) := by decide +kernel
theorem dX5_orders_139 : decode cX5_orders 139 = .ok (.ifCond .eq 15, 3) := by decide +kernel
theorem dX5_orders_142 : decode cX5_orders 142 = .ok (.aload_n 0, 1) := by decide +kernel
theorem dX5_orders_143 : decode cX5_orders 143 = .ok (.getfield 9, 3) := by decide +kernel
theorem dX5_orders_146 : decode cX5_orders 146 = .ok (.iload 5, 2) := by decide +kernel
theorem dX5_orders_148 : decode cX5_orders 148 = .ok (.iaload, 1) := by decide +kernel
theorem dX5_orders_149 : decode cX5_orders 149 = .ok (.iconst 1, 1) := by decide +kernel
theorem dX5_orders_150 : decode cX5_orders 150 = .ok (.iand, 1) := by decide +kernel
theorem dX5_orders_151 : decode cX5_orders 151 = .ok (.ifCond .ne 7, 3) := by decide +kernel
theorem dX5_orders_154 : decode cX5_orders 154 = .ok (.iconst 1, 1) := by decide +kernel
theorem dX5_orders_155 : decode cX5_orders 155 = .ok (.goto 4, 3) := by decide +kernel
theorem dX5_orders_158 : decode cX5_orders 158 = .ok (.iconst 0, 1) := by decide +kernel
theorem dX5_orders_159 : decode cX5_orders 159 = .ok (.istore 6, 2) := by decide +kernel
theorem dX5_orders_161 : decode cX5_orders 161 = .ok (.iload 4, 2) := by decide +kernel
theorem dX5_orders_163 : decode cX5_orders 163 = .ok (.iload 6, 2) := by decide +kernel
theorem dX5_orders_165 : decode cX5_orders 165 = .ok (.ifCond .eq 18, 3) := by decide +kernel
theorem dX5_orders_168 : decode cX5_orders 168 = .ok (.aload_n 0, 1) := by decide +kernel
theorem dX5_orders_169 : decode cX5_orders 169 = .ok (.getfield 18, 3) := by decide +kernel
theorem dX5_orders_172 : decode cX5_orders 172 = .ok (.iload_n 3, 1) := by decide +kernel
theorem dX5_orders_173 : decode cX5_orders 173 = .ok (.bipush 7, 2) := by decide +kernel
theorem dX5_orders_175 : decode cX5_orders 175 = .ok (.imul, 1) := by decide +kernel
theorem dX5_orders_176 : decode cX5_orders 176 = .ok (.iload 5, 2) := by decide +kernel
theorem dX5_orders_178 : decode cX5_orders 178 = .ok (.iadd, 1) := by decide +kernel
theorem dX5_orders_179 : decode cX5_orders 179 = .ok (.iaload, 1) := by decide +kernel
theorem dX5_orders_180 : decode cX5_orders 180 = .ok (.goto 4, 3) := by decide +kernel
theorem dX5_orders_183 : decode cX5_orders 183 = .ok (.iconst 0, 1) := by decide +kernel
theorem dX5_orders_184 : decode cX5_orders 184 = .ok (.iadd, 1) := by decide +kernel
theorem dX5_orders_185 : decode cX5_orders 185 = .ok (.istore 4, 2) := by decide +kernel
theorem dX5_orders_187 : decode cX5_orders 187 = .ok (.iinc 5 1, 3) := by decide +kernel
theorem dX5_orders_190 : decode cX5_orders 190 = .ok (.goto (-58), 3) := by decide +kernel
theorem dX5_orders_193 : decode cX5_orders 193 = .ok (.iload_n 2, 1) := by decide +kernel
theorem dX5_orders_194 : decode cX5_orders 194 = .ok (.ifCond .eq 10, 3) := by decide +kernel
theorem dX5_orders_197 : decode cX5_orders 197 = .ok (.iload_n 1, 1) := by decide +kernel
theorem dX5_orders_198 : decode cX5_orders 198 = .ok (.iload 4, 2) := by decide +kernel
theorem dX5_orders_200 : decode cX5_orders 200 = .ok (.imul, 1) := by decide +kernel
theorem dX5_orders_201 : decode cX5_orders 201 = .ok (.goto 5, 3) := by decide +kernel
theorem dX5_orders_204 : decode cX5_orders 204 = .ok (.iload 4, 2) := by decide +kernel
theorem dX5_orders_206 : decode cX5_orders 206 = .ok (.ireturn, 1) := by decide +kernel
def f_X5_orders_159  (k132 : Int32 × Int32 × Int32 × Int32 × Int32 × zHp → Option (Int32 × zHp)) (v1 : Int32) (v2 : Int32) (v3 : Int32) (v4 : Int32) (v5 : Int32) (s0 : Int32) (h : zHp) : Option (Int32 × zHp) := (if s0 = 0 then zlt (v4 + (0 : Int32)) fun x1 => k132 (v1, v2, v3, x1, (v5 + (1 : Int32)), h) else zix ((v3 * (7 : Int32)) + v5) 896 (zlt (v4 + (h 164 ((v3 * (7 : Int32)) + v5).toNatClampNeg)) fun x2 => k132 (v1, v2, v3, x2, (v5 + (1 : Int32)), h)))
set_option maxHeartbeats 4000000 in
set_option maxRecDepth 100000 in
theorem f_X5_orders_159_s  (k132 : Int32 × Int32 × Int32 × Int32 × Int32 × zHp → Option (Int32 × zHp)) (H132 : ∀ v : Int32 × Int32 × Int32 × Int32 × Int32 × zHp, Sim wX mX5_orders 2 rI 132 [(0, .ref 161), (1, .int v.1), (2, .int v.2.1), (3, .int v.2.2.1), (4, .int v.2.2.2.1), (5, .int v.2.2.2.2.1)] [] v.2.2.2.2.2 (k132 v)) (v1 : Int32) (v2 : Int32) (v3 : Int32) (v4 : Int32) (v5 : Int32) (s0 : Int32) (h : zHp) : Sim wX mX5_orders 2 rI 159 [(0, .ref 161), (1, .int v1), (2, .int v2), (3, .int v3), (4, .int v4), (5, .int v5)] [.int s0] h (f_X5_orders_159 k132 v1 v2 v3 v4 v5 s0 h) := by
  unfold f_X5_orders_159
  refine Sim.istore (L' := [(6, .int s0), (0, .ref 161), (1, .int v1), (2, .int v2), (3, .int v3), (4, .int v4), (5, .int v5)]) dX5_orders_159 (Nat.le_of_ble_eq_true rfl) rfl ?_
  refine Sim.iload 5 dX5_orders_161 rfl ?_
  refine Sim.iload 0 dX5_orders_163 rfl ?_
  refine Sim.if_eq 183 dX5_orders_165 rfl ?_ ?_
  · refine Sim.iconst (v := (0 : Int32)) dX5_orders_183 rfl ?_
    refine Sim.iadd dX5_orders_184 ?_
    refine Sim.lti (fun x1 => ?_)
    refine Sim.istore (L' := [(4, .int x1), (6, .int s0), (0, .ref 161), (1, .int v1), (2, .int v2), (3, .int v3), (5, .int v5)]) dX5_orders_185 (Nat.le_of_ble_eq_true rfl) rfl ?_
    refine Sim.iinc (L' := [(5, .int (v5 + (1 : Int32))), (4, .int x1), (6, .int s0), (0, .ref 161), (1, .int v1), (2, .int v2), (3, .int v3)]) 6 dX5_orders_187 rfl rfl (Nat.le_of_ble_eq_true rfl) rfl ?_
    refine Sim.goto 132 dX5_orders_190 rfl ?_
    refine Sim.locs [3, 4, 5, 6, 1, 0] rfl ?_
    exact H132 (v1, v2, v3, x1, (v5 + (1 : Int32)), h)
  · refine Sim.aload_n 1 dX5_orders_168 rfl ?_
    refine Sim.getR (j := 164) fl_X5_18 dX5_orders_169 xR_161_3 ?_
    refine Sim.iload_n 4 dX5_orders_172 rfl ?_
    refine Sim.bipush (v := (7 : Int32)) dX5_orders_173 rfl ?_
    refine Sim.imul dX5_orders_175 ?_
    refine Sim.iload 6 dX5_orders_176 rfl ?_
    refine Sim.iadd dX5_orders_178 ?_
    refine Sim.iald (n := 896) dX5_orders_179 xA_164 ?_
    refine Sim.goto 184 dX5_orders_180 rfl ?_
    refine Sim.iadd dX5_orders_184 ?_
    refine Sim.lti (fun x2 => ?_)
    refine Sim.istore (L' := [(4, .int x2), (6, .int s0), (0, .ref 161), (1, .int v1), (2, .int v2), (3, .int v3), (5, .int v5)]) dX5_orders_185 (Nat.le_of_ble_eq_true rfl) rfl ?_
    refine Sim.iinc (L' := [(5, .int (v5 + (1 : Int32))), (4, .int x2), (6, .int s0), (0, .ref 161), (1, .int v1), (2, .int v2), (3, .int v3)]) 6 dX5_orders_187 rfl rfl (Nat.le_of_ble_eq_true rfl) rfl ?_
    refine Sim.goto 132 dX5_orders_190 rfl ?_
    refine Sim.locs [3, 4, 5, 6, 1, 0] rfl ?_
    exact H132 (v1, v2, v3, x2, (v5 + (1 : Int32)), h)
def f_X5_orders_132  (k132 : Int32 × Int32 × Int32 × Int32 × Int32 × zHp → Option (Int32 × zHp)) (v1 : Int32) (v2 : Int32) (v3 : Int32) (v4 : Int32) (v5 : Int32) (h : zHp) : Option (Int32 × zHp) := (if v5 < v1 then (if v2 = 0 then f_X5_orders_159 k132 v1 v2 v3 v4 v5 (1 : Int32) h else zix v5 10 ((if ((h 162 v5.toNatClampNeg) &&& (1 : Int32)) = 0 then f_X5_orders_159 k132 v1 v2 v3 v4 v5 (1 : Int32) h else f_X5_orders_159 k132 v1 v2 v3 v4 v5 (0 : Int32) h))) else (if v2 = 0 then some (v4, h) else some ((v1 * v4), h)))
set_option maxHeartbeats 4000000 in
set_option maxRecDepth 100000 in
theorem f_X5_orders_132_s  (k132 : Int32 × Int32 × Int32 × Int32 × Int32 × zHp → Option (Int32 × zHp)) (H132 : ∀ v : Int32 × Int32 × Int32 × Int32 × Int32 × zHp, Sim wX mX5_orders 2 rI 132 [(0, .ref 161), (1, .int v.1), (2, .int v.2.1), (3, .int v.2.2.1), (4, .int v.2.2.2.1), (5, .int v.2.2.2.2.1)] [] v.2.2.2.2.2 (k132 v)) (v1 : Int32) (v2 : Int32) (v3 : Int32) (v4 : Int32) (v5 : Int32) (h : zHp) : Sim wX mX5_orders 2 rI 132 [(0, .ref 161), (1, .int v1), (2, .int v2), (3, .int v3), (4, .int v4), (5, .int v5)] [] h (f_X5_orders_132 k132 v1 v2 v3 v4 v5 h) := by
  unfold f_X5_orders_132
  refine Sim.iload 5 dX5_orders_132 rfl ?_
  refine Sim.iload_n 1 dX5_orders_134 rfl ?_
  refine Sim.icmp_ge 193 dX5_orders_135 rfl ?_ ?_
  · refine Sim.iload_n 2 dX5_orders_138 rfl ?_
    refine Sim.if_eq 154 dX5_orders_139 rfl ?_ ?_
    · refine Sim.iconst (v := (1 : Int32)) dX5_orders_154 rfl ?_
      refine Sim.goto 159 dX5_orders_155 rfl ?_
      exact f_X5_orders_159_s k132 H132 v1 v2 v3 v4 v5 (1 : Int32) h
    · refine Sim.aload_n 0 dX5_orders_142 rfl ?_
      refine Sim.getR (j := 162) fl_X5_9 dX5_orders_143 xR_161_1 ?_
      refine Sim.iload 5 dX5_orders_146 rfl ?_
      refine Sim.iald (n := 10) dX5_orders_148 xA_162 ?_
      refine Sim.iconst (v := (1 : Int32)) dX5_orders_149 rfl ?_
      refine Sim.iand dX5_orders_150 ?_
      refine Sim.if_ne 158 dX5_orders_151 rfl ?_ ?_
      · refine Sim.iconst (v := (1 : Int32)) dX5_orders_154 rfl ?_
        refine Sim.goto 159 dX5_orders_155 rfl ?_
        exact f_X5_orders_159_s k132 H132 v1 v2 v3 v4 v5 (1 : Int32) h
      · refine Sim.iconst (v := (0 : Int32)) dX5_orders_158 rfl ?_
        exact f_X5_orders_159_s k132 H132 v1 v2 v3 v4 v5 (0 : Int32) h
  · refine Sim.iload_n 2 dX5_orders_193 rfl ?_
    refine Sim.if_eq 204 dX5_orders_194 rfl ?_ ?_
    · refine Sim.iload 4 dX5_orders_204 rfl ?_
      exact Sim.iret dX5_orders_206 rfl
    · refine Sim.iload_n 1 dX5_orders_197 rfl ?_
      refine Sim.iload 4 dX5_orders_198 rfl ?_
      refine Sim.imul dX5_orders_200 ?_
      refine Sim.goto 206 dX5_orders_201 rfl ?_
      exact Sim.iret dX5_orders_206 rfl
def f_X5_orders_132_lp   (n : Nat) (v : Int32 × Int32 × Int32 × Int32 × Int32 × zHp) : Option (Int32 × zHp) := zlp (fun k132 v => f_X5_orders_132 k132 v.1 v.2.1 v.2.2.1 v.2.2.2.1 v.2.2.2.2.1 v.2.2.2.2.2) n v
theorem f_X5_orders_132_ls  (n : Nat) (v : Int32 × Int32 × Int32 × Int32 × Int32 × zHp) : Sim wX mX5_orders 2 rI 132 [(0, .ref 161), (1, .int v.1), (2, .int v.2.1), (3, .int v.2.2.1), (4, .int v.2.2.2.1), (5, .int v.2.2.2.2.1)] [] v.2.2.2.2.2 (f_X5_orders_132_lp n v) :=
  Sim.lp (V := Int32 × Int32 × Int32 × Int32 × Int32 × zHp) (Lf := fun v => [(0, .ref 161), (1, .int v.1), (2, .int v.2.1), (3, .int v.2.2.1), (4, .int v.2.2.2.1), (5, .int v.2.2.2.2.1)]) (sf := fun v => []) (hf := fun v => v.2.2.2.2.2) (fun k132 H132 v => f_X5_orders_132_s k132 H132 v.1 v.2.1 v.2.2.1 v.2.2.2.1 v.2.2.2.2.1 v.2.2.2.2.2) n v
def f_X5_orders_99  (k90 : Int32 × Int32 × Int32 × Int32 × zHp → Option (Int32 × zHp)) (k99 : Int32 × Int32 × Int32 × Int32 × Int32 × zHp → Option (Int32 × zHp)) (v1 : Int32) (v2 : Int32) (v3 : Int32) (v4 : Int32) (v5 : Int32) (h : zHp) : Option (Int32 × zHp) := (if v5 < v1 then (f_X5_seatNext v4 v5 v1 h).bind fun x1 => k99 (v1, v2, v3, v4, (v5 + (1 : Int32)), x1) else k90 (v1, v2, v3, (v4 + (1 : Int32)), h))
set_option maxHeartbeats 4000000 in
set_option maxRecDepth 100000 in
theorem f_X5_orders_99_s  (k90 : Int32 × Int32 × Int32 × Int32 × zHp → Option (Int32 × zHp)) (H90 : ∀ v : Int32 × Int32 × Int32 × Int32 × zHp, Sim wX mX5_orders 2 rI 90 [(0, .ref 161), (1, .int v.1), (2, .int v.2.1), (3, .int v.2.2.1), (4, .int v.2.2.2.1)] [] v.2.2.2.2 (k90 v)) (k99 : Int32 × Int32 × Int32 × Int32 × Int32 × zHp → Option (Int32 × zHp)) (H99 : ∀ v : Int32 × Int32 × Int32 × Int32 × Int32 × zHp, Sim wX mX5_orders 2 rI 99 [(0, .ref 161), (1, .int v.1), (2, .int v.2.1), (3, .int v.2.2.1), (4, .int v.2.2.2.1), (5, .int v.2.2.2.2.1)] [] v.2.2.2.2.2 (k99 v)) (v1 : Int32) (v2 : Int32) (v3 : Int32) (v4 : Int32) (v5 : Int32) (h : zHp) : Sim wX mX5_orders 2 rI 99 [(0, .ref 161), (1, .int v1), (2, .int v2), (3, .int v3), (4, .int v4), (5, .int v5)] [] h (f_X5_orders_99 k90 k99 v1 v2 v3 v4 v5 h) := by
  unfold f_X5_orders_99
  refine Sim.iload 5 dX5_orders_99 rfl ?_
  refine Sim.iload_n 1 dX5_orders_101 rfl ?_
  refine Sim.icmp_ge 120 dX5_orders_102 rfl ?_ ?_
  · refine Sim.aload_n 0 dX5_orders_105 rfl ?_
    refine Sim.iload 4 dX5_orders_106 rfl ?_
    refine Sim.iload 5 dX5_orders_108 rfl ?_
    refine Sim.iload_n 1 dX5_orders_110 rfl ?_
    refine Sim.callV3U (d1 := 0) (s_X5_seatNext v4 v5 v1 h) dX5_orders_111 ml_X5_61 mv_X5_seatNext xO_X5 (Nat.le_of_ble_eq_true rfl) (Nat.le_of_ble_eq_true rfl) (Nat.le_of_ble_eq_true rfl) (fun x1 => ?_)
    refine Sim.iinc (L' := [(5, .int (v5 + (1 : Int32))), (0, .ref 161), (1, .int v1), (2, .int v2), (3, .int v3), (4, .int v4)]) 5 dX5_orders_114 rfl rfl (Nat.le_of_ble_eq_true rfl) rfl ?_
    refine Sim.goto 99 dX5_orders_117 rfl ?_
    refine Sim.locs [1, 2, 3, 4, 5, 0] rfl ?_
    exact H99 (v1, v2, v3, v4, (v5 + (1 : Int32)), x1)
  · refine Sim.iinc (L' := [(4, .int (v4 + (1 : Int32))), (0, .ref 161), (1, .int v1), (2, .int v2), (3, .int v3), (5, .int v5)]) 4 dX5_orders_120 rfl rfl (Nat.le_of_ble_eq_true rfl) rfl ?_
    refine Sim.goto 90 dX5_orders_123 rfl ?_
    refine Sim.locs [1, 2, 3, 4, 0] rfl ?_
    exact H90 (v1, v2, v3, (v4 + (1 : Int32)), h)
def f_X5_orders_99_lp  (k90 : Int32 × Int32 × Int32 × Int32 × zHp → Option (Int32 × zHp)) (n : Nat) (v : Int32 × Int32 × Int32 × Int32 × Int32 × zHp) : Option (Int32 × zHp) := zlp (fun k99 v => f_X5_orders_99 k90 k99 v.1 v.2.1 v.2.2.1 v.2.2.2.1 v.2.2.2.2.1 v.2.2.2.2.2) n v
theorem f_X5_orders_99_ls  (k90 : Int32 × Int32 × Int32 × Int32 × zHp → Option (Int32 × zHp)) (H90 : ∀ v : Int32 × Int32 × Int32 × Int32 × zHp, Sim wX mX5_orders 2 rI 90 [(0, .ref 161), (1, .int v.1), (2, .int v.2.1), (3, .int v.2.2.1), (4, .int v.2.2.2.1)] [] v.2.2.2.2 (k90 v)) (n : Nat) (v : Int32 × Int32 × Int32 × Int32 × Int32 × zHp) : Sim wX mX5_orders 2 rI 99 [(0, .ref 161), (1, .int v.1), (2, .int v.2.1), (3, .int v.2.2.1), (4, .int v.2.2.2.1), (5, .int v.2.2.2.2.1)] [] v.2.2.2.2.2 (f_X5_orders_99_lp k90 n v) :=
  Sim.lp (V := Int32 × Int32 × Int32 × Int32 × Int32 × zHp) (Lf := fun v => [(0, .ref 161), (1, .int v.1), (2, .int v.2.1), (3, .int v.2.2.1), (4, .int v.2.2.2.1), (5, .int v.2.2.2.2.1)]) (sf := fun v => []) (hf := fun v => v.2.2.2.2.2) (fun k99 H99 v => f_X5_orders_99_s k90 H90 k99 H99 v.1 v.2.1 v.2.2.1 v.2.2.2.1 v.2.2.2.2.1 v.2.2.2.2.2) n v
def f_X5_orders_90  (k90 : Int32 × Int32 × Int32 × Int32 × zHp → Option (Int32 × zHp)) (v1 : Int32) (v2 : Int32) (v3 : Int32) (v4 : Int32) (h : zHp) : Option (Int32 × zHp) := (if v4 < v3 then f_X5_orders_99_lp k90 zN (v1, v2, v3, v4, (0 : Int32), h) else f_X5_orders_132_lp  zN (v1, v2, v3, (0 : Int32), (0 : Int32), h))
set_option maxHeartbeats 4000000 in
set_option maxRecDepth 100000 in
theorem f_X5_orders_90_s  (k90 : Int32 × Int32 × Int32 × Int32 × zHp → Option (Int32 × zHp)) (H90 : ∀ v : Int32 × Int32 × Int32 × Int32 × zHp, Sim wX mX5_orders 2 rI 90 [(0, .ref 161), (1, .int v.1), (2, .int v.2.1), (3, .int v.2.2.1), (4, .int v.2.2.2.1)] [] v.2.2.2.2 (k90 v)) (v1 : Int32) (v2 : Int32) (v3 : Int32) (v4 : Int32) (h : zHp) : Sim wX mX5_orders 2 rI 90 [(0, .ref 161), (1, .int v1), (2, .int v2), (3, .int v3), (4, .int v4)] [] h (f_X5_orders_90 k90 v1 v2 v3 v4 h) := by
  unfold f_X5_orders_90
  refine Sim.iload 4 dX5_orders_90 rfl ?_
  refine Sim.iload_n 3 dX5_orders_92 rfl ?_
  refine Sim.icmp_ge 126 dX5_orders_93 rfl ?_ ?_
  · refine Sim.iconst (v := (0 : Int32)) dX5_orders_96 rfl ?_
    refine Sim.istore (L' := [(5, .int (0 : Int32)), (0, .ref 161), (1, .int v1), (2, .int v2), (3, .int v3), (4, .int v4)]) dX5_orders_97 (Nat.le_of_ble_eq_true rfl) rfl ?_
    refine Sim.locs [1, 2, 3, 4, 5, 0] rfl ?_
    exact f_X5_orders_99_ls k90 H90 zN (v1, v2, v3, v4, (0 : Int32), h)
  · refine Sim.iconst (v := (0 : Int32)) dX5_orders_126 rfl ?_
    refine Sim.istore (L' := [(4, .int (0 : Int32)), (0, .ref 161), (1, .int v1), (2, .int v2), (3, .int v3)]) dX5_orders_127 (Nat.le_of_ble_eq_true rfl) rfl ?_
    refine Sim.iconst (v := (0 : Int32)) dX5_orders_129 rfl ?_
    refine Sim.istore (L' := [(5, .int (0 : Int32)), (4, .int (0 : Int32)), (0, .ref 161), (1, .int v1), (2, .int v2), (3, .int v3)]) dX5_orders_130 (Nat.le_of_ble_eq_true rfl) rfl ?_
    refine Sim.locs [2, 3, 4, 5, 1, 0] rfl ?_
    exact f_X5_orders_132_ls  zN (v1, v2, v3, (0 : Int32), (0 : Int32), h)
def f_X5_orders_90_lp   (n : Nat) (v : Int32 × Int32 × Int32 × Int32 × zHp) : Option (Int32 × zHp) := zlp (fun k90 v => f_X5_orders_90 k90 v.1 v.2.1 v.2.2.1 v.2.2.2.1 v.2.2.2.2) n v
theorem f_X5_orders_90_ls  (n : Nat) (v : Int32 × Int32 × Int32 × Int32 × zHp) : Sim wX mX5_orders 2 rI 90 [(0, .ref 161), (1, .int v.1), (2, .int v.2.1), (3, .int v.2.2.1), (4, .int v.2.2.2.1)] [] v.2.2.2.2 (f_X5_orders_90_lp n v) :=
  Sim.lp (V := Int32 × Int32 × Int32 × Int32 × zHp) (Lf := fun v => [(0, .ref 161), (1, .int v.1), (2, .int v.2.1), (3, .int v.2.2.1), (4, .int v.2.2.2.1)]) (sf := fun v => []) (hf := fun v => v.2.2.2.2) (fun k90 H90 v => f_X5_orders_90_s k90 H90 v.1 v.2.1 v.2.2.1 v.2.2.2.1 v.2.2.2.2) n v
def f_X5_orders_62  (k51 : Int32 × Int32 × Int32 × Int32 × zHp → Option (Int32 × zHp)) (v1 : Int32) (v2 : Int32) (v3 : Int32) (v4 : Int32) (s0 : Int32) (s1 : Int32) (h : zHp) : Option (Int32 × zHp) := (if s1 < s0 then zix ((((1 : Int32) <<< (v4 &&& 31)) * (7 : Int32)) + v4) 896 (zlt (zst h 164 ((((1 : Int32) <<< (v4 &&& 31)) * (7 : Int32)) + v4).toNatClampNeg (1 : Int32)) fun h1 => k51 (v1, v2, v3, (v4 + (1 : Int32)), h1)) else f_X5_orders_90_lp  zN (v1, v2, v3, (1 : Int32), h))
set_option maxHeartbeats 4000000 in
set_option maxRecDepth 100000 in
theorem f_X5_orders_62_s  (k51 : Int32 × Int32 × Int32 × Int32 × zHp → Option (Int32 × zHp)) (H51 : ∀ v : Int32 × Int32 × Int32 × Int32 × zHp, Sim wX mX5_orders 2 rI 51 [(0, .ref 161), (1, .int v.1), (2, .int v.2.1), (3, .int v.2.2.1), (4, .int v.2.2.2.1)] [] v.2.2.2.2 (k51 v)) (v1 : Int32) (v2 : Int32) (v3 : Int32) (v4 : Int32) (s0 : Int32) (s1 : Int32) (h : zHp) : Sim wX mX5_orders 2 rI 62 [(0, .ref 161), (1, .int v1), (2, .int v2), (3, .int v3), (4, .int v4)] [.int s0, .int s1] h (f_X5_orders_62 k51 v1 v2 v3 v4 s0 s1 h) := by
  unfold f_X5_orders_62
  refine Sim.icmp_ge 87 dX5_orders_62 rfl ?_ ?_
  · refine Sim.aload_n 0 dX5_orders_65 rfl ?_
    refine Sim.getR (j := 164) fl_X5_18 dX5_orders_66 xR_161_3 ?_
    refine Sim.iconst (v := (1 : Int32)) dX5_orders_69 rfl ?_
    refine Sim.iload 4 dX5_orders_70 rfl ?_
    refine Sim.ishl dX5_orders_72 ?_
    refine Sim.bipush (v := (7 : Int32)) dX5_orders_73 rfl ?_
    refine Sim.imul dX5_orders_75 ?_
    refine Sim.iload 4 dX5_orders_76 rfl ?_
    refine Sim.iadd dX5_orders_78 ?_
    refine Sim.iconst (v := (1 : Int32)) dX5_orders_79 rfl ?_
    refine Sim.iast (n := 896) dX5_orders_80 xA_164 ?_
    refine Sim.lth (fun h1 => ?_)
    refine Sim.iinc (L' := [(4, .int (v4 + (1 : Int32))), (0, .ref 161), (1, .int v1), (2, .int v2), (3, .int v3)]) 4 dX5_orders_81 rfl rfl (Nat.le_of_ble_eq_true rfl) rfl ?_
    refine Sim.goto 51 dX5_orders_84 rfl ?_
    refine Sim.locs [1, 2, 3, 4, 0] rfl ?_
    exact H51 (v1, v2, v3, (v4 + (1 : Int32)), h1)
  · refine Sim.iconst (v := (1 : Int32)) dX5_orders_87 rfl ?_
    refine Sim.istore (L' := [(4, .int (1 : Int32)), (0, .ref 161), (1, .int v1), (2, .int v2), (3, .int v3)]) dX5_orders_88 (Nat.le_of_ble_eq_true rfl) rfl ?_
    refine Sim.locs [1, 2, 3, 4, 0] rfl ?_
    exact f_X5_orders_90_ls  zN (v1, v2, v3, (1 : Int32), h)
def f_X5_orders_51  (k51 : Int32 × Int32 × Int32 × Int32 × zHp → Option (Int32 × zHp)) (v1 : Int32) (v2 : Int32) (v3 : Int32) (v4 : Int32) (h : zHp) : Option (Int32 × zHp) := (if v2 = 0 then f_X5_orders_62 k51 v1 v2 v3 v4 v1 v4 h else f_X5_orders_62 k51 v1 v2 v3 v4 (1 : Int32) v4 h)
set_option maxHeartbeats 4000000 in
set_option maxRecDepth 100000 in
theorem f_X5_orders_51_s  (k51 : Int32 × Int32 × Int32 × Int32 × zHp → Option (Int32 × zHp)) (H51 : ∀ v : Int32 × Int32 × Int32 × Int32 × zHp, Sim wX mX5_orders 2 rI 51 [(0, .ref 161), (1, .int v.1), (2, .int v.2.1), (3, .int v.2.2.1), (4, .int v.2.2.2.1)] [] v.2.2.2.2 (k51 v)) (v1 : Int32) (v2 : Int32) (v3 : Int32) (v4 : Int32) (h : zHp) : Sim wX mX5_orders 2 rI 51 [(0, .ref 161), (1, .int v1), (2, .int v2), (3, .int v3), (4, .int v4)] [] h (f_X5_orders_51 k51 v1 v2 v3 v4 h) := by
  unfold f_X5_orders_51
  refine Sim.iload 4 dX5_orders_51 rfl ?_
  refine Sim.iload_n 2 dX5_orders_53 rfl ?_
  refine Sim.if_eq 61 dX5_orders_54 rfl ?_ ?_
  · refine Sim.iload_n 1 dX5_orders_61 rfl ?_
    exact f_X5_orders_62_s k51 H51 v1 v2 v3 v4 v1 v4 h
  · refine Sim.iconst (v := (1 : Int32)) dX5_orders_57 rfl ?_
    refine Sim.goto 62 dX5_orders_58 rfl ?_
    exact f_X5_orders_62_s k51 H51 v1 v2 v3 v4 (1 : Int32) v4 h
def f_X5_orders_51_lp   (n : Nat) (v : Int32 × Int32 × Int32 × Int32 × zHp) : Option (Int32 × zHp) := zlp (fun k51 v => f_X5_orders_51 k51 v.1 v.2.1 v.2.2.1 v.2.2.2.1 v.2.2.2.2) n v
theorem f_X5_orders_51_ls  (n : Nat) (v : Int32 × Int32 × Int32 × Int32 × zHp) : Sim wX mX5_orders 2 rI 51 [(0, .ref 161), (1, .int v.1), (2, .int v.2.1), (3, .int v.2.2.1), (4, .int v.2.2.2.1)] [] v.2.2.2.2 (f_X5_orders_51_lp n v) :=
  Sim.lp (V := Int32 × Int32 × Int32 × Int32 × zHp) (Lf := fun v => [(0, .ref 161), (1, .int v.1), (2, .int v.2.1), (3, .int v.2.2.1), (4, .int v.2.2.2.1)]) (sf := fun v => []) (hf := fun v => v.2.2.2.2) (fun k51 H51 v => f_X5_orders_51_s k51 H51 v.1 v.2.1 v.2.2.1 v.2.2.2.1 v.2.2.2.2) n v
def f_X5_orders_13  (k13 : Int32 × Int32 × Int32 × Int32 × zHp → Option (Int32 × zHp)) (v1 : Int32) (v2 : Int32) (v3 : Int32) (v4 : Int32) (h : zHp) : Option (Int32 × zHp) := (if v4 < ((v3 + (1 : Int32)) * (7 : Int32)) then (if v4 < (Int32.ofNat 896) then zix v4 896 (zlt (zst h 164 v4.toNatClampNeg (0 : Int32)) fun h1 => k13 (v1, v2, v3, (v4 + (1 : Int32)), h1)) else f_X5_orders_51_lp  zN (v1, v2, v3, (0 : Int32), h)) else f_X5_orders_51_lp  zN (v1, v2, v3, (0 : Int32), h))
set_option maxHeartbeats 4000000 in
set_option maxRecDepth 100000 in
theorem f_X5_orders_13_s  (k13 : Int32 × Int32 × Int32 × Int32 × zHp → Option (Int32 × zHp)) (H13 : ∀ v : Int32 × Int32 × Int32 × Int32 × zHp, Sim wX mX5_orders 2 rI 13 [(0, .ref 161), (1, .int v.1), (2, .int v.2.1), (3, .int v.2.2.1), (4, .int v.2.2.2.1)] [] v.2.2.2.2 (k13 v)) (v1 : Int32) (v2 : Int32) (v3 : Int32) (v4 : Int32) (h : zHp) : Sim wX mX5_orders 2 rI 13 [(0, .ref 161), (1, .int v1), (2, .int v2), (3, .int v3), (4, .int v4)] [] h (f_X5_orders_13 k13 v1 v2 v3 v4 h) := by
  unfold f_X5_orders_13
  refine Sim.iload 4 dX5_orders_13 rfl ?_
  refine Sim.iload_n 3 dX5_orders_15 rfl ?_
  refine Sim.iconst (v := (1 : Int32)) dX5_orders_16 rfl ?_
  refine Sim.iadd dX5_orders_17 ?_
  refine Sim.bipush (v := (7 : Int32)) dX5_orders_18 rfl ?_
  refine Sim.imul dX5_orders_20 ?_
  refine Sim.icmp_ge 48 dX5_orders_21 rfl ?_ ?_
  · refine Sim.iload 4 dX5_orders_24 rfl ?_
    refine Sim.aload_n 0 dX5_orders_26 rfl ?_
    refine Sim.getR (j := 164) fl_X5_18 dX5_orders_27 xR_161_3 ?_
    refine Sim.alen (n := 896) dX5_orders_30 xA_164 ?_
    refine Sim.icmp_ge 48 dX5_orders_31 rfl ?_ ?_
    · refine Sim.aload_n 0 dX5_orders_34 rfl ?_
      refine Sim.getR (j := 164) fl_X5_18 dX5_orders_35 xR_161_3 ?_
      refine Sim.iload 4 dX5_orders_38 rfl ?_
      refine Sim.iconst (v := (0 : Int32)) dX5_orders_40 rfl ?_
      refine Sim.iast (n := 896) dX5_orders_41 xA_164 ?_
      refine Sim.lth (fun h1 => ?_)
      refine Sim.iinc (L' := [(4, .int (v4 + (1 : Int32))), (0, .ref 161), (1, .int v1), (2, .int v2), (3, .int v3)]) 4 dX5_orders_42 rfl rfl (Nat.le_of_ble_eq_true rfl) rfl ?_
      refine Sim.goto 13 dX5_orders_45 rfl ?_
      refine Sim.locs [1, 2, 3, 4, 0] rfl ?_
      exact H13 (v1, v2, v3, (v4 + (1 : Int32)), h1)
    · refine Sim.iconst (v := (0 : Int32)) dX5_orders_48 rfl ?_
      refine Sim.istore (L' := [(4, .int (0 : Int32)), (0, .ref 161), (1, .int v1), (2, .int v2), (3, .int v3)]) dX5_orders_49 (Nat.le_of_ble_eq_true rfl) rfl ?_
      refine Sim.locs [1, 2, 3, 4, 0] rfl ?_
      exact f_X5_orders_51_ls  zN (v1, v2, v3, (0 : Int32), h)
  · refine Sim.iconst (v := (0 : Int32)) dX5_orders_48 rfl ?_
    refine Sim.istore (L' := [(4, .int (0 : Int32)), (0, .ref 161), (1, .int v1), (2, .int v2), (3, .int v3)]) dX5_orders_49 (Nat.le_of_ble_eq_true rfl) rfl ?_
    refine Sim.locs [1, 2, 3, 4, 0] rfl ?_
    exact f_X5_orders_51_ls  zN (v1, v2, v3, (0 : Int32), h)
def f_X5_orders_13_lp   (n : Nat) (v : Int32 × Int32 × Int32 × Int32 × zHp) : Option (Int32 × zHp) := zlp (fun k13 v => f_X5_orders_13 k13 v.1 v.2.1 v.2.2.1 v.2.2.2.1 v.2.2.2.2) n v
theorem f_X5_orders_13_ls  (n : Nat) (v : Int32 × Int32 × Int32 × Int32 × zHp) : Sim wX mX5_orders 2 rI 13 [(0, .ref 161), (1, .int v.1), (2, .int v.2.1), (3, .int v.2.2.1), (4, .int v.2.2.2.1)] [] v.2.2.2.2 (f_X5_orders_13_lp n v) :=
  Sim.lp (V := Int32 × Int32 × Int32 × Int32 × zHp) (Lf := fun v => [(0, .ref 161), (1, .int v.1), (2, .int v.2.1), (3, .int v.2.2.1), (4, .int v.2.2.2.1)]) (sf := fun v => []) (hf := fun v => v.2.2.2.2) (fun k13 H13 v => f_X5_orders_13_s k13 H13 v.1 v.2.1 v.2.2.1 v.2.2.2.1 v.2.2.2.2) n v
def f_X5_orders  (a1 : Int32) (a2 : Int32) (h : zHp) : Option (Int32 × zHp) := zlt (((1 : Int32) <<< (a1 &&& 31)) - (1 : Int32)) fun x1 => (f_X5_forbid h).bind fun x2 => f_X5_orders_13_lp  zN (a1, a2, x1, (0 : Int32), x2)
set_option maxHeartbeats 4000000 in
set_option maxRecDepth 100000 in
theorem s_X5_orders  (a1 : Int32) (a2 : Int32) (h : zHp) : Fn wX mX5_orders 2 rI [.ref 161, .int a1, .int a2] h (f_X5_orders a1 a2 h) := by
  refine Fn.of rfl (Nat.le_of_ble_eq_true rfl) ?_
  unfold f_X5_orders
  refine Sim.iconst (v := (1 : Int32)) dX5_orders_0 rfl ?_
  refine Sim.iload_n 1 dX5_orders_1 rfl ?_
  refine Sim.ishl dX5_orders_2 ?_
  refine Sim.iconst (v := (1 : Int32)) dX5_orders_3 rfl ?_
  refine Sim.isub dX5_orders_4 ?_
  refine Sim.lti (fun x1 => ?_)
  refine Sim.istore_n (L' := [(3, .int x1), (0, .ref 161), (1, .int a1), (2, .int a2)]) dX5_orders_5 (Nat.le_of_ble_eq_true rfl) rfl ?_
  refine Sim.aload_n 1 dX5_orders_6 rfl ?_
  refine Sim.callV0U (d1 := 1) (s_X5_forbid h) dX5_orders_7 ml_X5_58 mv_X5_forbid xO_X5 (Nat.le_of_ble_eq_true rfl) (Nat.le_of_ble_eq_true rfl) (Nat.le_of_ble_eq_true rfl) (fun x2 => ?_)
  refine Sim.iconst (v := (0 : Int32)) dX5_orders_10 rfl ?_
  refine Sim.istore (L' := [(4, .int (0 : Int32)), (3, .int x1), (0, .ref 161), (1, .int a1), (2, .int a2)]) dX5_orders_11 (Nat.le_of_ble_eq_true rfl) rfl ?_
  refine Sim.locs [2, 3, 4, 1, 0] rfl ?_
  exact f_X5_orders_13_ls  zN (a1, a2, x1, (0 : Int32), x2)
theorem mv_X5_orders : zMV mX5_orders 2 := ⟨⟨zTb_in 1080 (by decide +kernel) rfl, zTb_in 147 (by decide +kernel) rfl, ⟨by decide +kernel, by decide +kernel⟩, by decide +kernel⟩, zTb_in 1078 (by decide +kernel) rfl, zTb_in 1079 (by decide +kernel) rfl⟩
-- ===== RockingPorch$Puzzles.x(I)I
abbrev mX5_x : zMt := (yX5_x, cX5_x, 2, some .int)
theorem fl_X5_68 : zF RX5 68 8 2 := ⟨RX8, TX8, 7, rfl, Nat.le_of_ble_eq_true rfl, zTb_in 331 (by decide +kernel) rfl, in_X8⟩
theorem dX5_x_0 : decode cX5_x 0 = .ok (.aload_n 0, 1) := by decide +kernel
theorem dX5_x_1 : decode cX5_x 1 = .ok (.getfield 24, 3) := by decide +kernel
theorem dX5_x_4 : decode cX5_x 4 = .ok (.getfield 68, 3) := by decide +kernel
theorem dX5_x_7 : decode cX5_x 7 = .ok (.iload_n 1, 1) := by decide +kernel
theorem dX5_x_8 : decode cX5_x 8 = .ok (.invokevirtual 40, 3) := by decide +kernel
theorem dX5_x_11 : decode cX5_x 11 = .ok (.invokestatic 44, 3) := by decide +kernel
theorem dX5_x_14 : decode cX5_x 14 = .ok (.ireturn, 1) := by decide +kernel
def f_X5_x  (a1 : Int32) (h : zHp) : Option (Int32 × zHp) := (f_X7_get 31 a1 h).bind fun x1 => (f_X8_first x1.1 x1.2).bind fun x2 => some (x2.1, x2.2)
set_option maxHeartbeats 4000000 in
set_option maxRecDepth 100000 in
theorem s_X5_x  (a1 : Int32) (h : zHp) : Fn wX mX5_x 1 rI [.ref 161, .int a1] h (f_X5_x a1 h) := by
  refine Fn.of rfl (Nat.le_of_ble_eq_true rfl) ?_
  unfold f_X5_x
  refine Sim.aload_n 0 dX5_x_0 rfl ?_
  refine Sim.getR (j := 26) fl_X5_24 dX5_x_1 xR_161_0 ?_
  refine Sim.getR (j := 31) fl_X5_68 dX5_x_4 (xR_X8_2 _ xL_X8_26) ?_
  refine Sim.iload_n 1 dX5_x_7 rfl ?_
  refine Sim.callV1I (d1 := 0) (s_X7_get 31 xL_X7_31 a1 h) dX5_x_8 ml_X5_40 mv_X7_get (xOC_X7 _ xL_X7_31) (Nat.le_of_ble_eq_true rfl) (Nat.le_of_ble_eq_true rfl) (Nat.le_of_ble_eq_true rfl) (fun x1 => ?_)
  refine Sim.callS1I (d1 := 0) (s_X8_first x1.1 x1.2) dX5_x_11 ml_X5_44 mv_X8_first (Nat.le_of_ble_eq_true rfl) (Nat.le_of_ble_eq_true rfl) (Nat.le_of_ble_eq_true rfl) (fun x2 => ?_)
  exact Sim.iret dX5_x_14 rfl
theorem mv_X5_x : zMV mX5_x 1 := ⟨⟨zTb_in 1110 (by decide +kernel) rfl, zTb_in 147 (by decide +kernel) rfl, ⟨by decide +kernel, by decide +kernel⟩, by decide +kernel⟩, zTb_in 1109 (by decide +kernel) rfl, zTb_in 32 (by decide +kernel) rfl⟩
-- ===== RockingPorch$Puzzles.y(I)I
abbrev mX5_y : zMt := (yX5_y, cX5_y, 2, some .int)
theorem dX5_y_0 : decode cX5_y 0 = .ok (.aload_n 0, 1) := by decide +kernel
theorem dX5_y_1 : decode cX5_y 1 = .ok (.getfield 24, 3) := by decide +kernel
theorem dX5_y_4 : decode cX5_y 4 = .ok (.getfield 68, 3) := by decide +kernel
theorem dX5_y_7 : decode cX5_y 7 = .ok (.iload_n 1, 1) := by decide +kernel
theorem dX5_y_8 : decode cX5_y 8 = .ok (.invokevirtual 40, 3) := by decide +kernel
theorem dX5_y_11 : decode cX5_y 11 = .ok (.invokestatic 53, 3) := by decide +kernel
theorem dX5_y_14 : decode cX5_y 14 = .ok (.ireturn, 1) := by decide +kernel
def f_X5_y  (a1 : Int32) (h : zHp) : Option (Int32 × zHp) := (f_X7_get 31 a1 h).bind fun x1 => (f_X8_second x1.1 x1.2).bind fun x2 => some (x2.1, x2.2)
set_option maxHeartbeats 4000000 in
set_option maxRecDepth 100000 in
theorem s_X5_y  (a1 : Int32) (h : zHp) : Fn wX mX5_y 1 rI [.ref 161, .int a1] h (f_X5_y a1 h) := by
  refine Fn.of rfl (Nat.le_of_ble_eq_true rfl) ?_
  unfold f_X5_y
  refine Sim.aload_n 0 dX5_y_0 rfl ?_
  refine Sim.getR (j := 26) fl_X5_24 dX5_y_1 xR_161_0 ?_
  refine Sim.getR (j := 31) fl_X5_68 dX5_y_4 (xR_X8_2 _ xL_X8_26) ?_
  refine Sim.iload_n 1 dX5_y_7 rfl ?_
  refine Sim.callV1I (d1 := 0) (s_X7_get 31 xL_X7_31 a1 h) dX5_y_8 ml_X5_40 mv_X7_get (xOC_X7 _ xL_X7_31) (Nat.le_of_ble_eq_true rfl) (Nat.le_of_ble_eq_true rfl) (Nat.le_of_ble_eq_true rfl) (fun x1 => ?_)
  refine Sim.callS1I (d1 := 0) (s_X8_second x1.1 x1.2) dX5_y_11 ml_X5_53 mv_X8_second (Nat.le_of_ble_eq_true rfl) (Nat.le_of_ble_eq_true rfl) (Nat.le_of_ble_eq_true rfl) (fun x2 => ?_)
  exact Sim.iret dX5_y_14 rfl
theorem mv_X5_y : zMV mX5_y 1 := ⟨⟨zTb_in 1114 (by decide +kernel) rfl, zTb_in 147 (by decide +kernel) rfl, ⟨by decide +kernel, by decide +kernel⟩, by decide +kernel⟩, zTb_in 1113 (by decide +kernel) rfl, zTb_in 33 (by decide +kernel) rfl⟩
-- ===== RockingPorch$Puzzles.mostOnLine()I
abbrev mX5_mostOnLine : zMt := (yX5_mostOnLine, cX5_mostOnLine, 7, some .int)
theorem ml_X5_71 : Cond.methodLink RX5 71 Lib.Math.min.name ∈ zTb := zTb_in 1106 (by decide +kernel) rfl
theorem ml_X5_74 : Cond.methodLink RX5 74 yX5_x ∈ zTb := zTb_in 1107 (by decide +kernel) rfl
theorem ml_X5_77 : Cond.methodLink RX5 77 yX5_y ∈ zTb := zTb_in 1111 (by decide +kernel) rfl
theorem dX5_mostOnLine_0 : decode cX5_mostOnLine 0 = .ok (.aload_n 0, 1) := by decide +kernel
theorem dX5_mostOnLine_1 : decode cX5_mostOnLine 1 = .ok (.getfield 24, 3) := by decide +kernel
theorem dX5_mostOnLine_4 : decode cX5_mostOnLine 4 = .ok (.getfield 68, 3) := by decide +kernel
theorem dX5_mostOnLine_7 : decode cX5_mostOnLine 7 = .ok (.getfield 34, 3) := by decide +kernel
theorem dX5_mostOnLine_10 : decode cX5_mostOnLine 10 = .ok (.istore_n 1, 1) := by decide +kernel
theorem dX5_mostOnLine_11 : decode cX5_mostOnLine 11 = .ok (.iload_n 1, 1) := by decide +kernel
theorem dX5_mostOnLine_12 : decode cX5_mostOnLine 12 = .ok (.iconst 1, 1) := by decide +kernel
theorem dX5_mostOnLine_13 : decode cX5_mostOnLine 13 = .ok (.invokestatic 71, 3) := by decide +kernel
theorem dX5_mostOnLine_16 : decode cX5_mostOnLine 16 = .ok (.istore_n 2, 1) := by decide +kernel
theorem dX5_mostOnLine_17 : decode cX5_mostOnLine 17 = .ok (.iconst 0, 1) := by decide +kernel
theorem dX5_mostOnLine_18 : decode cX5_mostOnLine 18 = .ok (.istore_n 3, 1) := by decide +kernel
theorem dX5_mostOnLine_19 : decode cX5_mostOnLine 19 = .ok (.iload_n 3, 1) := by decide +kernel
theorem dX5_mostOnLine_20 : decode cX5_mostOnLine 20 = .ok (.iload_n 1, 1) := by decide +kernel
theorem dX5_mostOnLine_21 : decode cX5_mostOnLine 21 = .ok (.if_icmp .ge 114, 3) := by decide +kernel
theorem dX5_mostOnLine_24 : decode cX5_mostOnLine 24 = .ok (.iload_n 3, 1) := by decide +kernel
theorem dX5_mostOnLine_25 : decode cX5_mostOnLine 25 = .ok (.iconst 1, 1) := by decide +kernel
theorem dX5_mostOnLine_26 : decode cX5_mostOnLine 26 = .ok (.iadd, 1) := by decide +kernel
theorem dX5_mostOnLine_27 : decode cX5_mostOnLine 27 = .ok (.istore 4, 2) := by decide +kernel
theorem dX5_mostOnLine_29 : decode cX5_mostOnLine 29 = .ok (.iload 4, 2) := by decide +kernel
theorem dX5_mostOnLine_31 : decode cX5_mostOnLine 31 = .ok (.iload_n 1, 1) := by decide +kernel
theorem dX5_mostOnLine_32 : decode cX5_mostOnLine 32 = .ok (.if_icmp .ge 97, 3) := by decide +kernel
theorem dX5_mostOnLine_35 : decode cX5_mostOnLine 35 = .ok (.iconst 0, 1) := by decide +kernel
theorem dX5_mostOnLine_36 : decode cX5_mostOnLine 36 = .ok (.istore 5, 2) := by decide +kernel
theorem dX5_mostOnLine_38 : decode cX5_mostOnLine 38 = .ok (.iconst 0, 1) := by decide +kernel
theorem dX5_mostOnLine_39 : decode cX5_mostOnLine 39 = .ok (.istore 6, 2) := by decide +kernel
theorem dX5_mostOnLine_41 : decode cX5_mostOnLine 41 = .ok (.iload 6, 2) := by decide +kernel
theorem dX5_mostOnLine_43 : decode cX5_mostOnLine 43 = .ok (.iload_n 1, 1) := by decide +kernel
theorem dX5_mostOnLine_44 : decode cX5_mostOnLine 44 = .ok (.if_icmp .ge 72, 3) := by decide +kernel
theorem dX5_mostOnLine_47 : decode cX5_mostOnLine 47 = .ok (.iload 5, 2) := by decide +kernel
theorem dX5_mostOnLine_49 : decode cX5_mostOnLine 49 = .ok (.aload_n 0, 1) := by decide +kernel
theorem dX5_mostOnLine_50 : decode cX5_mostOnLine 50 = .ok (.iload 4, 2) := by decide +kernel
theorem dX5_mostOnLine_52 : decode cX5_mostOnLine 52 = .ok (.invokevirtual 74, 3) := by decide +kernel
theorem dX5_mostOnLine_55 : decode cX5_mostOnLine 55 = .ok (.aload_n 0, 1) := by decide +kernel
theorem dX5_mostOnLine_56 : decode cX5_mostOnLine 56 = .ok (.iload_n 3, 1) := by decide +kernel
theorem dX5_mostOnLine_57 : decode cX5_mostOnLine 57 = .ok (.invokevirtual 74, 3) := by decide +kernel
theorem dX5_mostOnLine_60 : decode cX5_mostOnLine 60 = .ok (.isub, 1) := by decide +kernel
theorem dX5_mostOnLine_61 : decode cX5_mostOnLine 61 = .ok (.aload_n 0, 1) := by decide +kernel
theorem dX5_mostOnLine_62 : decode cX5_mostOnLine 62 = .ok (.iload 6, 2) := by decide +kernel
theorem dX5_mostOnLine_64 : decode cX5_mostOnLine 64 = .ok (.invokevirtual 77, 3) := by decide +kernel
theorem dX5_mostOnLine_67 : decode cX5_mostOnLine 67 = .ok (.aload_n 0, 1) := by decide +kernel
theorem dX5_mostOnLine_68 : decode cX5_mostOnLine 68 = .ok (.iload_n 3, 1) := by decide +kernel
theorem dX5_mostOnLine_69 : decode cX5_mostOnLine 69 = .ok (.invokevirtual 77, 3) := by decide +kernel
theorem dX5_mostOnLine_72 : decode cX5_mostOnLine 72 = .ok (.isub, 1) := by decide +kernel
theorem dX5_mostOnLine_73 : decode cX5_mostOnLine 73 = .ok (.imul, 1) := by decide +kernel
theorem dX5_mostOnLine_74 : decode cX5_mostOnLine 74 = .ok (.aload_n 0, 1) := by decide +kernel
theorem dX5_mostOnLine_75 : decode cX5_mostOnLine 75 = .ok (.iload 6, 2) := by decide +kernel
theorem dX5_mostOnLine_77 : decode cX5_mostOnLine 77 = .ok (.invokevirtual 74, 3) := by decide +kernel
theorem dX5_mostOnLine_80 : decode cX5_mostOnLine 80 = .ok (.aload_n 0, 1) := by decide +kernel
theorem dX5_mostOnLine_81 : decode cX5_mostOnLine 81 = .ok (.iload_n 3, 1) := by decide +kernel
theorem dX5_mostOnLine_82 : decode cX5_mostOnLine 82 = .ok (.invokevirtual 74, 3) := by decide +kernel
theorem dX5_mostOnLine_85 : decode cX5_mostOnLine 85 = .ok (.isub, 1) := by decide +kernel
theorem dX5_mostOnLine_86 : decode cX5_mostOnLine 86 = .ok (.aload_n 0, 1) := by decide +kernel
theorem dX5_mostOnLine_87 : decode cX5_mostOnLine 87 = .ok (.iload 4, 2) := by decide +kernel
theorem dX5_mostOnLine_89 : decode cX5_mostOnLine 89 = .ok (.invokevirtual 77, 3) := by decide +kernel
theorem dX5_mostOnLine_92 : decode cX5_mostOnLine 92 = .ok (.aload_n 0, 1) := by decide +kernel
theorem dX5_mostOnLine_93 : decode cX5_mostOnLine 93 = .ok (.iload_n 3, 1) := by decide +kernel
theorem dX5_mostOnLine_94 : decode cX5_mostOnLine 94 = .ok (.invokevirtual 77, 3) := by decide +kernel
theorem dX5_mostOnLine_97 : decode cX5_mostOnLine 97 = .ok (.isub, 1) := by decide +kernel
theorem dX5_mostOnLine_98 : decode cX5_mostOnLine 98 = .ok (.imul, 1) := by decide +kernel
theorem dX5_mostOnLine_99 : decode cX5_mostOnLine 99 = .ok (.if_icmp .ne 7, 3) := by decide +kernel
theorem dX5_mostOnLine_102 : decode cX5_mostOnLine 102 = .ok (.iconst 1, 1) := by decide +kernel
theorem dX5_mostOnLine_103 : decode cX5_mostOnLine 103 = .ok (.goto 4, 3) := by decide +kernel
theorem dX5_mostOnLine_106 : decode cX5_mostOnLine 106 = .ok (.iconst 0, 1) := by decide +kernel
theorem dX5_mostOnLine_107 : decode cX5_mostOnLine 107 = .ok (.iadd, 1) := by decide +kernel
theorem dX5_mostOnLine_108 : decode cX5_mostOnLine 108 = .ok (.istore 5, 2) := by decide +kernel
theorem dX5_mostOnLine_110 : decode cX5_mostOnLine 110 = .ok (.iinc 6 1, 3) := by decide +kernel
theorem dX5_mostOnLine_113 : decode cX5_mostOnLine 113 = .ok (.goto (-72), 3) := by decide +kernel
theorem dX5_mostOnLine_116 : decode cX5_mostOnLine 116 = .ok (.iload_n 2, 1) := by decide +kernel
theorem dX5_mostOnLine_117 : decode cX5_mostOnLine 117 = .ok (.iload 5, 2) := by decide +kernel
theorem dX5_mostOnLine_119 : decode cX5_mostOnLine 119 = .ok (.invokestatic 47, 3) := by decide +kernel
theorem dX5_mostOnLine_122 : decode cX5_mostOnLine 122 = .ok (.istore_n 2, 1) := by decide +kernel
theorem dX5_mostOnLine_123 : decode cX5_mostOnLine 123 = .ok (.iinc 4 1, 3) := by decide +kernel
theorem dX5_mostOnLine_126 : decode cX5_mostOnLine 126 = .ok (.goto (-97), 3) := by decide +kernel
theorem dX5_mostOnLine_129 : decode cX5_mostOnLine 129 = .ok (.iinc 3 1, 3) := by decide +kernel
theorem dX5_mostOnLine_132 : decode cX5_mostOnLine 132 = .ok (.goto (-113), 3) := by decide +kernel
theorem dX5_mostOnLine_135 : decode cX5_mostOnLine 135 = .ok (.iload_n 2, 1) := by decide +kernel
theorem dX5_mostOnLine_136 : decode cX5_mostOnLine 136 = .ok (.ireturn, 1) := by decide +kernel
def f_X5_mostOnLine_41  (k19 : Int32 × Int32 × Int32 × zHp → Option (Int32 × zHp)) (k29 : Int32 × Int32 × Int32 × Int32 × zHp → Option (Int32 × zHp)) (k41 : Int32 × Int32 × Int32 × Int32 × Int32 × Int32 × zHp → Option (Int32 × zHp)) (v1 : Int32) (v2 : Int32) (v3 : Int32) (v4 : Int32) (v5 : Int32) (v6 : Int32) (h : zHp) : Option (Int32 × zHp) := (if v6 < v1 then (f_X5_x v4 h).bind fun x1 => (f_X5_x v3 x1.2).bind fun x2 => (f_X5_y v6 x2.2).bind fun x3 => (f_X5_y v3 x3.2).bind fun x4 => (f_X5_x v6 x4.2).bind fun x5 => (f_X5_x v3 x5.2).bind fun x6 => (f_X5_y v4 x6.2).bind fun x7 => (f_X5_y v3 x7.2).bind fun x8 => (if ((x1.1 - x2.1) * (x3.1 - x4.1)) = ((x5.1 - x6.1) * (x7.1 - x8.1)) then zlt (v5 + (1 : Int32)) fun x9 => k41 (v1, v2, v3, v4, x9, (v6 + (1 : Int32)), x8.2) else zlt (v5 + (0 : Int32)) fun x10 => k41 (v1, v2, v3, v4, x10, (v6 + (1 : Int32)), x8.2)) else zlt (if v2 < v5 then v5 else v2) fun x11 => k29 (v1, x11, v3, (v4 + (1 : Int32)), h))
set_option maxHeartbeats 4000000 in
set_option maxRecDepth 100000 in
theorem f_X5_mostOnLine_41_s  (k19 : Int32 × Int32 × Int32 × zHp → Option (Int32 × zHp)) (H19 : ∀ v : Int32 × Int32 × Int32 × zHp, Sim wX mX5_mostOnLine 2 rI 19 [(0, .ref 161), (1, .int v.1), (2, .int v.2.1), (3, .int v.2.2.1)] [] v.2.2.2 (k19 v)) (k29 : Int32 × Int32 × Int32 × Int32 × zHp → Option (Int32 × zHp)) (H29 : ∀ v : Int32 × Int32 × Int32 × Int32 × zHp, Sim wX mX5_mostOnLine 2 rI 29 [(0, .ref 161), (1, .int v.1), (2, .int v.2.1), (3, .int v.2.2.1), (4, .int v.2.2.2.1)] [] v.2.2.2.2 (k29 v)) (k41 : Int32 × Int32 × Int32 × Int32 × Int32 × Int32 × zHp → Option (Int32 × zHp)) (H41 : ∀ v : Int32 × Int32 × Int32 × Int32 × Int32 × Int32 × zHp, Sim wX mX5_mostOnLine 2 rI 41 [(0, .ref 161), (1, .int v.1), (2, .int v.2.1), (3, .int v.2.2.1), (4, .int v.2.2.2.1), (5, .int v.2.2.2.2.1), (6, .int v.2.2.2.2.2.1)] [] v.2.2.2.2.2.2 (k41 v)) (v1 : Int32) (v2 : Int32) (v3 : Int32) (v4 : Int32) (v5 : Int32) (v6 : Int32) (h : zHp) : Sim wX mX5_mostOnLine 2 rI 41 [(0, .ref 161), (1, .int v1), (2, .int v2), (3, .int v3), (4, .int v4), (5, .int v5), (6, .int v6)] [] h (f_X5_mostOnLine_41 k19 k29 k41 v1 v2 v3 v4 v5 v6 h) := by
  unfold f_X5_mostOnLine_41
  refine Sim.iload 6 dX5_mostOnLine_41 rfl ?_
  refine Sim.iload_n 1 dX5_mostOnLine_43 rfl ?_
  refine Sim.icmp_ge 116 dX5_mostOnLine_44 rfl ?_ ?_
  · refine Sim.iload 5 dX5_mostOnLine_47 rfl ?_
    refine Sim.aload_n 0 dX5_mostOnLine_49 rfl ?_
    refine Sim.iload 4 dX5_mostOnLine_50 rfl ?_
    refine Sim.callV1I (d1 := 1) (s_X5_x v4 h) dX5_mostOnLine_52 ml_X5_74 mv_X5_x xO_X5 (Nat.le_of_ble_eq_true rfl) (Nat.le_of_ble_eq_true rfl) (Nat.le_of_ble_eq_true rfl) (fun x1 => ?_)
    refine Sim.aload_n 0 dX5_mostOnLine_55 rfl ?_
    refine Sim.iload_n 3 dX5_mostOnLine_56 rfl ?_
    refine Sim.callV1I (d1 := 1) (s_X5_x v3 x1.2) dX5_mostOnLine_57 ml_X5_74 mv_X5_x xO_X5 (Nat.le_of_ble_eq_true rfl) (Nat.le_of_ble_eq_true rfl) (Nat.le_of_ble_eq_true rfl) (fun x2 => ?_)
    refine Sim.isub dX5_mostOnLine_60 ?_
    refine Sim.aload_n 0 dX5_mostOnLine_61 rfl ?_
    refine Sim.iload 6 dX5_mostOnLine_62 rfl ?_
    refine Sim.callV1I (d1 := 1) (s_X5_y v6 x2.2) dX5_mostOnLine_64 ml_X5_77 mv_X5_y xO_X5 (Nat.le_of_ble_eq_true rfl) (Nat.le_of_ble_eq_true rfl) (Nat.le_of_ble_eq_true rfl) (fun x3 => ?_)
    refine Sim.aload_n 0 dX5_mostOnLine_67 rfl ?_
    refine Sim.iload_n 3 dX5_mostOnLine_68 rfl ?_
    refine Sim.callV1I (d1 := 1) (s_X5_y v3 x3.2) dX5_mostOnLine_69 ml_X5_77 mv_X5_y xO_X5 (Nat.le_of_ble_eq_true rfl) (Nat.le_of_ble_eq_true rfl) (Nat.le_of_ble_eq_true rfl) (fun x4 => ?_)
    refine Sim.isub dX5_mostOnLine_72 ?_
    refine Sim.imul dX5_mostOnLine_73 ?_
    refine Sim.aload_n 0 dX5_mostOnLine_74 rfl ?_
    refine Sim.iload 6 dX5_mostOnLine_75 rfl ?_
    refine Sim.callV1I (d1 := 1) (s_X5_x v6 x4.2) dX5_mostOnLine_77 ml_X5_74 mv_X5_x xO_X5 (Nat.le_of_ble_eq_true rfl) (Nat.le_of_ble_eq_true rfl) (Nat.le_of_ble_eq_true rfl) (fun x5 => ?_)
    refine Sim.aload_n 0 dX5_mostOnLine_80 rfl ?_
    refine Sim.iload_n 3 dX5_mostOnLine_81 rfl ?_
    refine Sim.callV1I (d1 := 1) (s_X5_x v3 x5.2) dX5_mostOnLine_82 ml_X5_74 mv_X5_x xO_X5 (Nat.le_of_ble_eq_true rfl) (Nat.le_of_ble_eq_true rfl) (Nat.le_of_ble_eq_true rfl) (fun x6 => ?_)
    refine Sim.isub dX5_mostOnLine_85 ?_
    refine Sim.aload_n 0 dX5_mostOnLine_86 rfl ?_
    refine Sim.iload 4 dX5_mostOnLine_87 rfl ?_
    refine Sim.callV1I (d1 := 1) (s_X5_y v4 x6.2) dX5_mostOnLine_89 ml_X5_77 mv_X5_y xO_X5 (Nat.le_of_ble_eq_true rfl) (Nat.le_of_ble_eq_true rfl) (Nat.le_of_ble_eq_true rfl) (fun x7 => ?_)
    refine Sim.aload_n 0 dX5_mostOnLine_92 rfl ?_
    refine Sim.iload_n 3 dX5_mostOnLine_93 rfl ?_
    refine Sim.callV1I (d1 := 1) (s_X5_y v3 x7.2) dX5_mostOnLine_94 ml_X5_77 mv_X5_y xO_X5 (Nat.le_of_ble_eq_true rfl) (Nat.le_of_ble_eq_true rfl) (Nat.le_of_ble_eq_true rfl) (fun x8 => ?_)
    refine Sim.isub dX5_mostOnLine_97 ?_
    refine Sim.imul dX5_mostOnLine_98 ?_
    refine Sim.icmp_ne 106 dX5_mostOnLine_99 rfl ?_ ?_
    · refine Sim.iconst (v := (1 : Int32)) dX5_mostOnLine_102 rfl ?_
      refine Sim.goto 107 dX5_mostOnLine_103 rfl ?_
      refine Sim.iadd dX5_mostOnLine_107 ?_
      refine Sim.lti (fun x9 => ?_)
      refine Sim.istore (L' := [(5, .int x9), (0, .ref 161), (1, .int v1), (2, .int v2), (3, .int v3), (4, .int v4), (6, .int v6)]) dX5_mostOnLine_108 (Nat.le_of_ble_eq_true rfl) rfl ?_
      refine Sim.iinc (L' := [(6, .int (v6 + (1 : Int32))), (5, .int x9), (0, .ref 161), (1, .int v1), (2, .int v2), (3, .int v3), (4, .int v4)]) 6 dX5_mostOnLine_110 rfl rfl (Nat.le_of_ble_eq_true rfl) rfl ?_
      refine Sim.goto 41 dX5_mostOnLine_113 rfl ?_
      refine Sim.locs [2, 3, 4, 5, 6, 1, 0] rfl ?_
      exact H41 (v1, v2, v3, v4, x9, (v6 + (1 : Int32)), x8.2)
    · refine Sim.iconst (v := (0 : Int32)) dX5_mostOnLine_106 rfl ?_
      refine Sim.iadd dX5_mostOnLine_107 ?_
      refine Sim.lti (fun x10 => ?_)
      refine Sim.istore (L' := [(5, .int x10), (0, .ref 161), (1, .int v1), (2, .int v2), (3, .int v3), (4, .int v4), (6, .int v6)]) dX5_mostOnLine_108 (Nat.le_of_ble_eq_true rfl) rfl ?_
      refine Sim.iinc (L' := [(6, .int (v6 + (1 : Int32))), (5, .int x10), (0, .ref 161), (1, .int v1), (2, .int v2), (3, .int v3), (4, .int v4)]) 6 dX5_mostOnLine_110 rfl rfl (Nat.le_of_ble_eq_true rfl) rfl ?_
      refine Sim.goto 41 dX5_mostOnLine_113 rfl ?_
      refine Sim.locs [2, 3, 4, 5, 6, 1, 0] rfl ?_
      exact H41 (v1, v2, v3, v4, x10, (v6 + (1 : Int32)), x8.2)
  · refine Sim.iload_n 2 dX5_mostOnLine_116 rfl ?_
    refine Sim.iload 5 dX5_mostOnLine_117 rfl ?_
    refine Sim.mmax dX5_mostOnLine_119 ml_X5_47 ms_max ms_Math mc_max (Nat.le_of_ble_eq_true rfl) (Nat.le_of_ble_eq_true rfl) ?_
    refine Sim.lti (fun x11 => ?_)
    refine Sim.istore_n (L' := [(2, .int x11), (0, .ref 161), (1, .int v1), (3, .int v3), (4, .int v4), (5, .int v5), (6, .int v6)]) dX5_mostOnLine_122 (Nat.le_of_ble_eq_true rfl) rfl ?_
    refine Sim.iinc (L' := [(4, .int (v4 + (1 : Int32))), (2, .int x11), (0, .ref 161), (1, .int v1), (3, .int v3), (5, .int v5), (6, .int v6)]) 4 dX5_mostOnLine_123 rfl rfl (Nat.le_of_ble_eq_true rfl) rfl ?_
    refine Sim.goto 29 dX5_mostOnLine_126 rfl ?_
    refine Sim.locs [2, 3, 1, 4, 0] rfl ?_
    exact H29 (v1, x11, v3, (v4 + (1 : Int32)), h)
def f_X5_mostOnLine_41_lp  (k19 : Int32 × Int32 × Int32 × zHp → Option (Int32 × zHp)) (k29 : Int32 × Int32 × Int32 × Int32 × zHp → Option (Int32 × zHp)) (n : Nat) (v : Int32 × Int32 × Int32 × Int32 × Int32 × Int32 × zHp) : Option (Int32 × zHp) := zlp (fun k41 v => f_X5_mostOnLine_41 k19 k29 k41 v.1 v.2.1 v.2.2.1 v.2.2.2.1 v.2.2.2.2.1 v.2.2.2.2.2.1 v.2.2.2.2.2.2) n v
theorem f_X5_mostOnLine_41_ls  (k19 : Int32 × Int32 × Int32 × zHp → Option (Int32 × zHp)) (H19 : ∀ v : Int32 × Int32 × Int32 × zHp, Sim wX mX5_mostOnLine 2 rI 19 [(0, .ref 161), (1, .int v.1), (2, .int v.2.1), (3, .int v.2.2.1)] [] v.2.2.2 (k19 v)) (k29 : Int32 × Int32 × Int32 × Int32 × zHp → Option (Int32 × zHp)) (H29 : ∀ v : Int32 × Int32 × Int32 × Int32 × zHp, Sim wX mX5_mostOnLine 2 rI 29 [(0, .ref 161), (1, .int v.1), (2, .int v.2.1), (3, .int v.2.2.1), (4, .int v.2.2.2.1)] [] v.2.2.2.2 (k29 v)) (n : Nat) (v : Int32 × Int32 × Int32 × Int32 × Int32 × Int32 × zHp) : Sim wX mX5_mostOnLine 2 rI 41 [(0, .ref 161), (1, .int v.1), (2, .int v.2.1), (3, .int v.2.2.1), (4, .int v.2.2.2.1), (5, .int v.2.2.2.2.1), (6, .int v.2.2.2.2.2.1)] [] v.2.2.2.2.2.2 (f_X5_mostOnLine_41_lp k19 k29 n v) :=
  Sim.lp (V := Int32 × Int32 × Int32 × Int32 × Int32 × Int32 × zHp) (Lf := fun v => [(0, .ref 161), (1, .int v.1), (2, .int v.2.1), (3, .int v.2.2.1), (4, .int v.2.2.2.1), (5, .int v.2.2.2.2.1), (6, .int v.2.2.2.2.2.1)]) (sf := fun v => []) (hf := fun v => v.2.2.2.2.2.2) (fun k41 H41 v => f_X5_mostOnLine_41_s k19 H19 k29 H29 k41 H41 v.1 v.2.1 v.2.2.1 v.2.2.2.1 v.2.2.2.2.1 v.2.2.2.2.2.1 v.2.2.2.2.2.2) n v
def f_X5_mostOnLine_29  (k19 : Int32 × Int32 × Int32 × zHp → Option (Int32 × zHp)) (k29 : Int32 × Int32 × Int32 × Int32 × zHp → Option (Int32 × zHp)) (v1 : Int32) (v2 : Int32) (v3 : Int32) (v4 : Int32) (h : zHp) : Option (Int32 × zHp) := (if v4 < v1 then f_X5_mostOnLine_41_lp k19 k29 zN (v1, v2, v3, v4, (0 : Int32), (0 : Int32), h) else k19 (v1, v2, (v3 + (1 : Int32)), h))
set_option maxHeartbeats 4000000 in
set_option maxRecDepth 100000 in
theorem f_X5_mostOnLine_29_s  (k19 : Int32 × Int32 × Int32 × zHp → Option (Int32 × zHp)) (H19 : ∀ v : Int32 × Int32 × Int32 × zHp, Sim wX mX5_mostOnLine 2 rI 19 [(0, .ref 161), (1, .int v.1), (2, .int v.2.1), (3, .int v.2.2.1)] [] v.2.2.2 (k19 v)) (k29 : Int32 × Int32 × Int32 × Int32 × zHp → Option (Int32 × zHp)) (H29 : ∀ v : Int32 × Int32 × Int32 × Int32 × zHp, Sim wX mX5_mostOnLine 2 rI 29 [(0, .ref 161), (1, .int v.1), (2, .int v.2.1), (3, .int v.2.2.1), (4, .int v.2.2.2.1)] [] v.2.2.2.2 (k29 v)) (v1 : Int32) (v2 : Int32) (v3 : Int32) (v4 : Int32) (h : zHp) : Sim wX mX5_mostOnLine 2 rI 29 [(0, .ref 161), (1, .int v1), (2, .int v2), (3, .int v3), (4, .int v4)] [] h (f_X5_mostOnLine_29 k19 k29 v1 v2 v3 v4 h) := by
  unfold f_X5_mostOnLine_29
  refine Sim.iload 4 dX5_mostOnLine_29 rfl ?_
  refine Sim.iload_n 1 dX5_mostOnLine_31 rfl ?_
  refine Sim.icmp_ge 129 dX5_mostOnLine_32 rfl ?_ ?_
  · refine Sim.iconst (v := (0 : Int32)) dX5_mostOnLine_35 rfl ?_
    refine Sim.istore (L' := [(5, .int (0 : Int32)), (0, .ref 161), (1, .int v1), (2, .int v2), (3, .int v3), (4, .int v4)]) dX5_mostOnLine_36 (Nat.le_of_ble_eq_true rfl) rfl ?_
    refine Sim.iconst (v := (0 : Int32)) dX5_mostOnLine_38 rfl ?_
    refine Sim.istore (L' := [(6, .int (0 : Int32)), (5, .int (0 : Int32)), (0, .ref 161), (1, .int v1), (2, .int v2), (3, .int v3), (4, .int v4)]) dX5_mostOnLine_39 (Nat.le_of_ble_eq_true rfl) rfl ?_
    refine Sim.locs [2, 3, 4, 5, 6, 1, 0] rfl ?_
    exact f_X5_mostOnLine_41_ls k19 H19 k29 H29 zN (v1, v2, v3, v4, (0 : Int32), (0 : Int32), h)
  · refine Sim.iinc (L' := [(3, .int (v3 + (1 : Int32))), (0, .ref 161), (1, .int v1), (2, .int v2), (4, .int v4)]) 3 dX5_mostOnLine_129 rfl rfl (Nat.le_of_ble_eq_true rfl) rfl ?_
    refine Sim.goto 19 dX5_mostOnLine_132 rfl ?_
    refine Sim.locs [1, 2, 3, 0] rfl ?_
    exact H19 (v1, v2, (v3 + (1 : Int32)), h)
def f_X5_mostOnLine_29_lp  (k19 : Int32 × Int32 × Int32 × zHp → Option (Int32 × zHp)) (n : Nat) (v : Int32 × Int32 × Int32 × Int32 × zHp) : Option (Int32 × zHp) := zlp (fun k29 v => f_X5_mostOnLine_29 k19 k29 v.1 v.2.1 v.2.2.1 v.2.2.2.1 v.2.2.2.2) n v
theorem f_X5_mostOnLine_29_ls  (k19 : Int32 × Int32 × Int32 × zHp → Option (Int32 × zHp)) (H19 : ∀ v : Int32 × Int32 × Int32 × zHp, Sim wX mX5_mostOnLine 2 rI 19 [(0, .ref 161), (1, .int v.1), (2, .int v.2.1), (3, .int v.2.2.1)] [] v.2.2.2 (k19 v)) (n : Nat) (v : Int32 × Int32 × Int32 × Int32 × zHp) : Sim wX mX5_mostOnLine 2 rI 29 [(0, .ref 161), (1, .int v.1), (2, .int v.2.1), (3, .int v.2.2.1), (4, .int v.2.2.2.1)] [] v.2.2.2.2 (f_X5_mostOnLine_29_lp k19 n v) :=
  Sim.lp (V := Int32 × Int32 × Int32 × Int32 × zHp) (Lf := fun v => [(0, .ref 161), (1, .int v.1), (2, .int v.2.1), (3, .int v.2.2.1), (4, .int v.2.2.2.1)]) (sf := fun v => []) (hf := fun v => v.2.2.2.2) (fun k29 H29 v => f_X5_mostOnLine_29_s k19 H19 k29 H29 v.1 v.2.1 v.2.2.1 v.2.2.2.1 v.2.2.2.2) n v
def f_X5_mostOnLine_19  (k19 : Int32 × Int32 × Int32 × zHp → Option (Int32 × zHp)) (v1 : Int32) (v2 : Int32) (v3 : Int32) (h : zHp) : Option (Int32 × zHp) := (if v3 < v1 then zlt (v3 + (1 : Int32)) fun x1 => f_X5_mostOnLine_29_lp k19 zN (v1, v2, v3, x1, h) else some (v2, h))
set_option maxHeartbeats 4000000 in
set_option maxRecDepth 100000 in
theorem f_X5_mostOnLine_19_s  (k19 : Int32 × Int32 × Int32 × zHp → Option (Int32 × zHp)) (H19 : ∀ v : Int32 × Int32 × Int32 × zHp, Sim wX mX5_mostOnLine 2 rI 19 [(0, .ref 161), (1, .int v.1), (2, .int v.2.1), (3, .int v.2.2.1)] [] v.2.2.2 (k19 v)) (v1 : Int32) (v2 : Int32) (v3 : Int32) (h : zHp) : Sim wX mX5_mostOnLine 2 rI 19 [(0, .ref 161), (1, .int v1), (2, .int v2), (3, .int v3)] [] h (f_X5_mostOnLine_19 k19 v1 v2 v3 h) := by
  unfold f_X5_mostOnLine_19
  refine Sim.iload_n 3 dX5_mostOnLine_19 rfl ?_
  refine Sim.iload_n 1 dX5_mostOnLine_20 rfl ?_
  refine Sim.icmp_ge 135 dX5_mostOnLine_21 rfl ?_ ?_
  · refine Sim.iload_n 3 dX5_mostOnLine_24 rfl ?_
    refine Sim.iconst (v := (1 : Int32)) dX5_mostOnLine_25 rfl ?_
    refine Sim.iadd dX5_mostOnLine_26 ?_
    refine Sim.lti (fun x1 => ?_)
    refine Sim.istore (L' := [(4, .int x1), (0, .ref 161), (1, .int v1), (2, .int v2), (3, .int v3)]) dX5_mostOnLine_27 (Nat.le_of_ble_eq_true rfl) rfl ?_
    refine Sim.locs [1, 2, 3, 4, 0] rfl ?_
    exact f_X5_mostOnLine_29_ls k19 H19 zN (v1, v2, v3, x1, h)
  · refine Sim.iload_n 2 dX5_mostOnLine_135 rfl ?_
    exact Sim.iret dX5_mostOnLine_136 rfl
def f_X5_mostOnLine_19_lp   (n : Nat) (v : Int32 × Int32 × Int32 × zHp) : Option (Int32 × zHp) := zlp (fun k19 v => f_X5_mostOnLine_19 k19 v.1 v.2.1 v.2.2.1 v.2.2.2) n v
theorem f_X5_mostOnLine_19_ls  (n : Nat) (v : Int32 × Int32 × Int32 × zHp) : Sim wX mX5_mostOnLine 2 rI 19 [(0, .ref 161), (1, .int v.1), (2, .int v.2.1), (3, .int v.2.2.1)] [] v.2.2.2 (f_X5_mostOnLine_19_lp n v) :=
  Sim.lp (V := Int32 × Int32 × Int32 × zHp) (Lf := fun v => [(0, .ref 161), (1, .int v.1), (2, .int v.2.1), (3, .int v.2.2.1)]) (sf := fun v => []) (hf := fun v => v.2.2.2) (fun k19 H19 v => f_X5_mostOnLine_19_s k19 H19 v.1 v.2.1 v.2.2.1 v.2.2.2) n v
def f_X5_mostOnLine   (h : zHp) : Option (Int32 × zHp) := zlt (h 31 1) fun x1 => zlt (if (1 : Int32) < x1 then (1 : Int32) else x1) fun x2 => f_X5_mostOnLine_19_lp  zN (x1, x2, (0 : Int32), h)
set_option maxHeartbeats 4000000 in
set_option maxRecDepth 100000 in
theorem s_X5_mostOnLine   (h : zHp) : Fn wX mX5_mostOnLine 2 rI [.ref 161] h (f_X5_mostOnLine  h) := by
  refine Fn.of rfl (Nat.le_of_ble_eq_true rfl) ?_
  unfold f_X5_mostOnLine
  refine Sim.aload_n 0 dX5_mostOnLine_0 rfl ?_
  refine Sim.getR (j := 26) fl_X5_24 dX5_mostOnLine_1 xR_161_0 ?_
  refine Sim.getR (j := 31) fl_X5_68 dX5_mostOnLine_4 (xR_X8_2 _ xL_X8_26) ?_
  refine Sim.getI fl_X5_34 dX5_mostOnLine_7 (xI_X7_1 _ xL_X7_31) ?_
  refine Sim.lti (fun x1 => ?_)
  refine Sim.istore_n (L' := [(1, .int x1), (0, .ref 161)]) dX5_mostOnLine_10 (Nat.le_of_ble_eq_true rfl) rfl ?_
  refine Sim.iload_n 0 dX5_mostOnLine_11 rfl ?_
  refine Sim.iconst (v := (1 : Int32)) dX5_mostOnLine_12 rfl ?_
  refine Sim.mmin dX5_mostOnLine_13 ml_X5_71 ms_min ms_Math mc_min (Nat.le_of_ble_eq_true rfl) (Nat.le_of_ble_eq_true rfl) ?_
  refine Sim.lti (fun x2 => ?_)
  refine Sim.istore_n (L' := [(2, .int x2), (1, .int x1), (0, .ref 161)]) dX5_mostOnLine_16 (Nat.le_of_ble_eq_true rfl) rfl ?_
  refine Sim.iconst (v := (0 : Int32)) dX5_mostOnLine_17 rfl ?_
  refine Sim.istore_n (L' := [(3, .int (0 : Int32)), (2, .int x2), (1, .int x1), (0, .ref 161)]) dX5_mostOnLine_18 (Nat.le_of_ble_eq_true rfl) rfl ?_
  refine Sim.locs [3, 2, 1, 0] rfl ?_
  exact f_X5_mostOnLine_19_ls  zN (x1, x2, (0 : Int32), h)
theorem mv_X5_mostOnLine : zMV mX5_mostOnLine 0 := ⟨⟨zTb_in 1105 (by decide +kernel) rfl, zTb_in 147 (by decide +kernel) rfl, ⟨by decide +kernel, by decide +kernel⟩, by decide +kernel⟩, zTb_in 1103 (by decide +kernel) rfl, zTb_in 1104 (by decide +kernel) rfl⟩
-- ===== RockingPorch$Puzzles.distance(Z)I
abbrev mX5_distance : zMt := (yX5_distance, cX5_distance, 8, some .int)
theorem dX5_distance_0 : decode cX5_distance 0 = .ok (.iconst (-1), 1) := by decide +kernel
theorem dX5_distance_1 : decode cX5_distance 1 = .ok (.istore_n 2, 1) := by decide +kernel
theorem dX5_distance_2 : decode cX5_distance 2 = .ok (.iconst 0, 1) := by decide +kernel
theorem dX5_distance_3 : decode cX5_distance 3 = .ok (.istore_n 3, 1) := by decide +kernel
theorem dX5_distance_4 : decode cX5_distance 4 = .ok (.iload_n 3, 1) := by decide +kernel
theorem dX5_distance_5 : decode cX5_distance 5 = .ok (.aload_n 0, 1) := by decide +kernel
theorem dX5_distance_6 : decode cX5_distance 6 = .ok (.getfield 24, 3) := by decide +kernel
theorem dX5_distance_9 : decode cX5_distance 9 = .ok (.getfield 68, 3) := by decide +kernel
theorem dX5_distance_12 : decode cX5_distance 12 = .ok (.getfield 34, 3) := by decide +kernel
theorem dX5_distance_15 : decode cX5_distance 15 = .ok (.if_icmp .ge 103, 3) := by decide +kernel
theorem dX5_distance_18 : decode cX5_distance 18 = .ok (.iload_n 3, 1) := by decide +kernel
theorem dX5_distance_19 : decode cX5_distance 19 = .ok (.iconst 1, 1) := by decide +kernel
theorem dX5_distance_20 : decode cX5_distance 20 = .ok (.iadd, 1) := by decide +kernel
theorem dX5_distance_21 : decode cX5_distance 21 = .ok (.istore 4, 2) := by decide +kernel
theorem dX5_distance_23 : decode cX5_distance 23 = .ok (.iload 4, 2) := by decide +kernel
theorem dX5_distance_25 : decode cX5_distance 25 = .ok (.aload_n 0, 1) := by decide +kernel
theorem dX5_distance_26 : decode cX5_distance 26 = .ok (.getfield 24, 3) := by decide +kernel
theorem dX5_distance_29 : decode cX5_distance 29 = .ok (.getfield 68, 3) := by decide +kernel
theorem dX5_distance_32 : decode cX5_distance 32 = .ok (.getfield 34, 3) := by decide +kernel
theorem dX5_distance_35 : decode cX5_distance 35 = .ok (.if_icmp .ge 77, 3) := by decide +kernel
theorem dX5_distance_38 : decode cX5_distance 38 = .ok (.aload_n 0, 1) := by decide +kernel
theorem dX5_distance_39 : decode cX5_distance 39 = .ok (.iload 4, 2) := by decide +kernel
theorem dX5_distance_41 : decode cX5_distance 41 = .ok (.invokevirtual 74, 3) := by decide +kernel
theorem dX5_distance_44 : decode cX5_distance 44 = .ok (.aload_n 0, 1) := by decide +kernel
theorem dX5_distance_45 : decode cX5_distance 45 = .ok (.iload_n 3, 1) := by decide +kernel
theorem dX5_distance_46 : decode cX5_distance 46 = .ok (.invokevirtual 74, 3) := by decide +kernel
theorem dX5_distance_49 : decode cX5_distance 49 = .ok (.isub, 1) := by decide +kernel
theorem dX5_distance_50 : decode cX5_distance 50 = .ok (.istore 5, 2) := by decide +kernel
theorem dX5_distance_52 : decode cX5_distance 52 = .ok (.aload_n 0, 1) := by decide +kernel
theorem dX5_distance_53 : decode cX5_distance 53 = .ok (.iload 4, 2) := by decide +kernel
theorem dX5_distance_55 : decode cX5_distance 55 = .ok (.invokevirtual 77, 3) := by decide +kernel
theorem dX5_distance_58 : decode cX5_distance 58 = .ok (.aload_n 0, 1) := by decide +kernel
theorem dX5_distance_59 : decode cX5_distance 59 = .ok (.iload_n 3, 1) := by decide +kernel
theorem dX5_distance_60 : decode cX5_distance 60 = .ok (.invokevirtual 77, 3) := by decide +kernel
theorem dX5_distance_63 : decode cX5_distance 63 = .ok (.isub, 1) := by decide +kernel
theorem dX5_distance_64 : decode cX5_distance 64 = .ok (.istore 6, 2) := by decide +kernel
theorem dX5_distance_66 : decode cX5_distance 66 = .ok (.iload 5, 2) := by decide +kernel
theorem dX5_distance_68 : decode cX5_distance 68 = .ok (.iload 5, 2) := by decide +kernel
theorem dX5_distance_70 : decode cX5_distance 70 = .ok (.imul, 1) := by decide +kernel
theorem dX5_distance_71 : decode cX5_distance 71 = .ok (.iload 6, 2) := by decide +kernel
theorem dX5_distance_73 : decode cX5_distance 73 = .ok (.iload 6, 2) := by decide +kernel
theorem dX5_distance_75 : decode cX5_distance 75 = .ok (.imul, 1) := by decide +kernel
theorem dX5_distance_76 : decode cX5_distance 76 = .ok (.iadd, 1) := by decide +kernel
theorem dX5_distance_77 : decode cX5_distance 77 = .ok (.istore 7, 2) := by decide +kernel
theorem dX5_distance_79 : decode cX5_distance 79 = .ok (.iload_n 2, 1) := by decide +kernel
theorem dX5_distance_80 : decode cX5_distance 80 = .ok (.iconst (-1), 1) := by decide +kernel
theorem dX5_distance_81 : decode cX5_distance 81 = .ok (.if_icmp .eq 22, 3) := by decide +kernel
theorem dX5_distance_84 : decode cX5_distance 84 = .ok (.iload_n 1, 1) := by decide +kernel
theorem dX5_distance_85 : decode cX5_distance 85 = .ok (.ifCond .eq 12, 3) := by decide +kernel
theorem dX5_distance_88 : decode cX5_distance 88 = .ok (.iload 7, 2) := by decide +kernel
theorem dX5_distance_90 : decode cX5_distance 90 = .ok (.iload_n 2, 1) := by decide +kernel
theorem dX5_distance_91 : decode cX5_distance 91 = .ok (.if_icmp .le 15, 3) := by decide +kernel
theorem dX5_distance_94 : decode cX5_distance 94 = .ok (.goto 9, 3) := by decide +kernel
theorem dX5_distance_97 : decode cX5_distance 97 = .ok (.iload 7, 2) := by decide +kernel
theorem dX5_distance_99 : decode cX5_distance 99 = .ok (.iload_n 2, 1) := by decide +kernel
theorem dX5_distance_100 : decode cX5_distance 100 = .ok (.if_icmp .ge 6, 3) := by decide +kernel
theorem dX5_distance_103 : decode cX5_distance 103 = .ok (.iload 7, 2) := by decide +kernel
theorem dX5_distance_105 : decode cX5_distance 105 = .ok (.istore_n 2, 1) := by decide +kernel
theorem dX5_distance_106 : decode cX5_distance 106 = .ok (.iinc 4 1, 3) := by decide +kernel
theorem dX5_distance_109 : decode cX5_distance 109 = .ok (.goto (-86), 3) := by decide +kernel
theorem dX5_distance_112 : decode cX5_distance 112 = .ok (.iinc 3 1, 3) := by decide +kernel
theorem dX5_distance_115 : decode cX5_distance 115 = .ok (.goto (-111), 3) := by decide +kernel
theorem dX5_distance_118 : decode cX5_distance 118 = .ok (.iload_n 2, 1) := by decide +kernel
theorem dX5_distance_119 : decode cX5_distance 119 = .ok (.ireturn, 1) := by decide +kernel
def f_X5_distance_23  (k4 : Int32 × Int32 × Int32 × zHp → Option (Int32 × zHp)) (k23 : Int32 × Int32 × Int32 × Int32 × zHp → Option (Int32 × zHp)) (v1 : Int32) (v2 : Int32) (v3 : Int32) (v4 : Int32) (h : zHp) : Option (Int32 × zHp) := (if v4 < (h 31 1) then (f_X5_x v4 h).bind fun x1 => (f_X5_x v3 x1.2).bind fun x2 => zlt (x1.1 - x2.1) fun x3 => (f_X5_y v4 x2.2).bind fun x4 => (f_X5_y v3 x4.2).bind fun x5 => zlt (x4.1 - x5.1) fun x6 => zlt ((x3 * x3) + (x6 * x6)) fun x7 => (if v2 = (-1 : Int32) then k23 (v1, x7, v3, (v4 + (1 : Int32)), x5.2) else (if v1 = 0 then (if x7 < v2 then k23 (v1, x7, v3, (v4 + (1 : Int32)), x5.2) else k23 (v1, v2, v3, (v4 + (1 : Int32)), x5.2)) else (if v2 < x7 then k23 (v1, x7, v3, (v4 + (1 : Int32)), x5.2) else k23 (v1, v2, v3, (v4 + (1 : Int32)), x5.2)))) else k4 (v1, v2, (v3 + (1 : Int32)), h))
set_option maxHeartbeats 4000000 in
set_option maxRecDepth 100000 in
theorem f_X5_distance_23_s  (k4 : Int32 × Int32 × Int32 × zHp → Option (Int32 × zHp)) (H4 : ∀ v : Int32 × Int32 × Int32 × zHp, Sim wX mX5_distance 2 rI 4 [(0, .ref 161), (1, .int v.1), (2, .int v.2.1), (3, .int v.2.2.1)] [] v.2.2.2 (k4 v)) (k23 : Int32 × Int32 × Int32 × Int32 × zHp → Option (Int32 × zHp)) (H23 : ∀ v : Int32 × Int32 × Int32 × Int32 × zHp, Sim wX mX5_distance 2 rI 23 [(0, .ref 161), (1, .int v.1), (2, .int v.2.1), (3, .int v.2.2.1), (4, .int v.2.2.2.1)] [] v.2.2.2.2 (k23 v)) (v1 : Int32) (v2 : Int32) (v3 : Int32) (v4 : Int32) (h : zHp) : Sim wX mX5_distance 2 rI 23 [(0, .ref 161), (1, .int v1), (2, .int v2), (3, .int v3), (4, .int v4)] [] h (f_X5_distance_23 k4 k23 v1 v2 v3 v4 h) := by
  unfold f_X5_distance_23
  refine Sim.iload 4 dX5_distance_23 rfl ?_
  refine Sim.aload_n 0 dX5_distance_25 rfl ?_
  refine Sim.getR (j := 26) fl_X5_24 dX5_distance_26 xR_161_0 ?_
  refine Sim.getR (j := 31) fl_X5_68 dX5_distance_29 (xR_X8_2 _ xL_X8_26) ?_
  refine Sim.getI fl_X5_34 dX5_distance_32 (xI_X7_1 _ xL_X7_31) ?_
  refine Sim.icmp_ge 112 dX5_distance_35 rfl ?_ ?_
  · refine Sim.aload_n 0 dX5_distance_38 rfl ?_
    refine Sim.iload 4 dX5_distance_39 rfl ?_
    refine Sim.callV1I (d1 := 1) (s_X5_x v4 h) dX5_distance_41 ml_X5_74 mv_X5_x xO_X5 (Nat.le_of_ble_eq_true rfl) (Nat.le_of_ble_eq_true rfl) (Nat.le_of_ble_eq_true rfl) (fun x1 => ?_)
    refine Sim.aload_n 0 dX5_distance_44 rfl ?_
    refine Sim.iload_n 3 dX5_distance_45 rfl ?_
    refine Sim.callV1I (d1 := 1) (s_X5_x v3 x1.2) dX5_distance_46 ml_X5_74 mv_X5_x xO_X5 (Nat.le_of_ble_eq_true rfl) (Nat.le_of_ble_eq_true rfl) (Nat.le_of_ble_eq_true rfl) (fun x2 => ?_)
    refine Sim.isub dX5_distance_49 ?_
    refine Sim.lti (fun x3 => ?_)
    refine Sim.istore (L' := [(5, .int x3), (0, .ref 161), (1, .int v1), (2, .int v2), (3, .int v3), (4, .int v4)]) dX5_distance_50 (Nat.le_of_ble_eq_true rfl) rfl ?_
    refine Sim.aload_n 1 dX5_distance_52 rfl ?_
    refine Sim.iload 5 dX5_distance_53 rfl ?_
    refine Sim.callV1I (d1 := 1) (s_X5_y v4 x2.2) dX5_distance_55 ml_X5_77 mv_X5_y xO_X5 (Nat.le_of_ble_eq_true rfl) (Nat.le_of_ble_eq_true rfl) (Nat.le_of_ble_eq_true rfl) (fun x4 => ?_)
    refine Sim.aload_n 1 dX5_distance_58 rfl ?_
    refine Sim.iload_n 4 dX5_distance_59 rfl ?_
    refine Sim.callV1I (d1 := 1) (s_X5_y v3 x4.2) dX5_distance_60 ml_X5_77 mv_X5_y xO_X5 (Nat.le_of_ble_eq_true rfl) (Nat.le_of_ble_eq_true rfl) (Nat.le_of_ble_eq_true rfl) (fun x5 => ?_)
    refine Sim.isub dX5_distance_63 ?_
    refine Sim.lti (fun x6 => ?_)
    refine Sim.istore (L' := [(6, .int x6), (5, .int x3), (0, .ref 161), (1, .int v1), (2, .int v2), (3, .int v3), (4, .int v4)]) dX5_distance_64 (Nat.le_of_ble_eq_true rfl) rfl ?_
    refine Sim.iload 1 dX5_distance_66 rfl ?_
    refine Sim.iload 1 dX5_distance_68 rfl ?_
    refine Sim.imul dX5_distance_70 ?_
    refine Sim.iload 0 dX5_distance_71 rfl ?_
    refine Sim.iload 0 dX5_distance_73 rfl ?_
    refine Sim.imul dX5_distance_75 ?_
    refine Sim.iadd dX5_distance_76 ?_
    refine Sim.lti (fun x7 => ?_)
    refine Sim.istore (L' := [(7, .int x7), (6, .int x6), (5, .int x3), (0, .ref 161), (1, .int v1), (2, .int v2), (3, .int v3), (4, .int v4)]) dX5_distance_77 (Nat.le_of_ble_eq_true rfl) rfl ?_
    refine Sim.iload_n 5 dX5_distance_79 rfl ?_
    refine Sim.iconst (v := (-1 : Int32)) dX5_distance_80 rfl ?_
    refine Sim.icmp_eq 103 dX5_distance_81 rfl ?_ ?_
    · refine Sim.iload 0 dX5_distance_103 rfl ?_
      refine Sim.istore_n (L' := [(2, .int x7), (7, .int x7), (6, .int x6), (5, .int x3), (0, .ref 161), (1, .int v1), (3, .int v3), (4, .int v4)]) dX5_distance_105 (Nat.le_of_ble_eq_true rfl) rfl ?_
      refine Sim.iinc (L' := [(4, .int (v4 + (1 : Int32))), (2, .int x7), (7, .int x7), (6, .int x6), (5, .int x3), (0, .ref 161), (1, .int v1), (3, .int v3)]) 7 dX5_distance_106 rfl rfl (Nat.le_of_ble_eq_true rfl) rfl ?_
      refine Sim.goto 23 dX5_distance_109 rfl ?_
      refine Sim.locs [5, 6, 1, 7, 0] rfl ?_
      exact H23 (v1, x7, v3, (v4 + (1 : Int32)), x5.2)
    · refine Sim.iload_n 4 dX5_distance_84 rfl ?_
      refine Sim.if_eq 97 dX5_distance_85 rfl ?_ ?_
      · refine Sim.iload 0 dX5_distance_97 rfl ?_
        refine Sim.iload_n 5 dX5_distance_99 rfl ?_
        refine Sim.icmp_ge 106 dX5_distance_100 rfl ?_ ?_
        · refine Sim.iload 0 dX5_distance_103 rfl ?_
          refine Sim.istore_n (L' := [(2, .int x7), (7, .int x7), (6, .int x6), (5, .int x3), (0, .ref 161), (1, .int v1), (3, .int v3), (4, .int v4)]) dX5_distance_105 (Nat.le_of_ble_eq_true rfl) rfl ?_
          refine Sim.iinc (L' := [(4, .int (v4 + (1 : Int32))), (2, .int x7), (7, .int x7), (6, .int x6), (5, .int x3), (0, .ref 161), (1, .int v1), (3, .int v3)]) 7 dX5_distance_106 rfl rfl (Nat.le_of_ble_eq_true rfl) rfl ?_
          refine Sim.goto 23 dX5_distance_109 rfl ?_
          refine Sim.locs [5, 6, 1, 7, 0] rfl ?_
          exact H23 (v1, x7, v3, (v4 + (1 : Int32)), x5.2)
        · refine Sim.iinc (L' := [(4, .int (v4 + (1 : Int32))), (7, .int x7), (6, .int x6), (5, .int x3), (0, .ref 161), (1, .int v1), (2, .int v2), (3, .int v3)]) 7 dX5_distance_106 rfl rfl (Nat.le_of_ble_eq_true rfl) rfl ?_
          refine Sim.goto 23 dX5_distance_109 rfl ?_
          refine Sim.locs [4, 5, 6, 7, 0] rfl ?_
          exact H23 (v1, v2, v3, (v4 + (1 : Int32)), x5.2)
      · refine Sim.iload 0 dX5_distance_88 rfl ?_
        refine Sim.iload_n 5 dX5_distance_90 rfl ?_
        refine Sim.icmp_le 106 dX5_distance_91 rfl ?_ ?_
        · refine Sim.goto 103 dX5_distance_94 rfl ?_
          refine Sim.iload 0 dX5_distance_103 rfl ?_
          refine Sim.istore_n (L' := [(2, .int x7), (7, .int x7), (6, .int x6), (5, .int x3), (0, .ref 161), (1, .int v1), (3, .int v3), (4, .int v4)]) dX5_distance_105 (Nat.le_of_ble_eq_true rfl) rfl ?_
          refine Sim.iinc (L' := [(4, .int (v4 + (1 : Int32))), (2, .int x7), (7, .int x7), (6, .int x6), (5, .int x3), (0, .ref 161), (1, .int v1), (3, .int v3)]) 7 dX5_distance_106 rfl rfl (Nat.le_of_ble_eq_true rfl) rfl ?_
          refine Sim.goto 23 dX5_distance_109 rfl ?_
          refine Sim.locs [5, 6, 1, 7, 0] rfl ?_
          exact H23 (v1, x7, v3, (v4 + (1 : Int32)), x5.2)
        · refine Sim.iinc (L' := [(4, .int (v4 + (1 : Int32))), (7, .int x7), (6, .int x6), (5, .int x3), (0, .ref 161), (1, .int v1), (2, .int v2), (3, .int v3)]) 7 dX5_distance_106 rfl rfl (Nat.le_of_ble_eq_true rfl) rfl ?_
          refine Sim.goto 23 dX5_distance_109 rfl ?_
          refine Sim.locs [4, 5, 6, 7, 0] rfl ?_
          exact H23 (v1, v2, v3, (v4 + (1 : Int32)), x5.2)
  · refine Sim.iinc (L' := [(3, .int (v3 + (1 : Int32))), (0, .ref 161), (1, .int v1), (2, .int v2), (4, .int v4)]) 3 dX5_distance_112 rfl rfl (Nat.le_of_ble_eq_true rfl) rfl ?_
    refine Sim.goto 4 dX5_distance_115 rfl ?_
    refine Sim.locs [1, 2, 3, 0] rfl ?_
    exact H4 (v1, v2, (v3 + (1 : Int32)), h)
def f_X5_distance_23_lp  (k4 : Int32 × Int32 × Int32 × zHp → Option (Int32 × zHp)) (n : Nat) (v : Int32 × Int32 × Int32 × Int32 × zHp) : Option (Int32 × zHp) := zlp (fun k23 v => f_X5_distance_23 k4 k23 v.1 v.2.1 v.2.2.1 v.2.2.2.1 v.2.2.2.2) n v
theorem f_X5_distance_23_ls  (k4 : Int32 × Int32 × Int32 × zHp → Option (Int32 × zHp)) (H4 : ∀ v : Int32 × Int32 × Int32 × zHp, Sim wX mX5_distance 2 rI 4 [(0, .ref 161), (1, .int v.1), (2, .int v.2.1), (3, .int v.2.2.1)] [] v.2.2.2 (k4 v)) (n : Nat) (v : Int32 × Int32 × Int32 × Int32 × zHp) : Sim wX mX5_distance 2 rI 23 [(0, .ref 161), (1, .int v.1), (2, .int v.2.1), (3, .int v.2.2.1), (4, .int v.2.2.2.1)] [] v.2.2.2.2 (f_X5_distance_23_lp k4 n v) :=
  Sim.lp (V := Int32 × Int32 × Int32 × Int32 × zHp) (Lf := fun v => [(0, .ref 161), (1, .int v.1), (2, .int v.2.1), (3, .int v.2.2.1), (4, .int v.2.2.2.1)]) (sf := fun v => []) (hf := fun v => v.2.2.2.2) (fun k23 H23 v => f_X5_distance_23_s k4 H4 k23 H23 v.1 v.2.1 v.2.2.1 v.2.2.2.1 v.2.2.2.2) n v
def f_X5_distance_4  (k4 : Int32 × Int32 × Int32 × zHp → Option (Int32 × zHp)) (v1 : Int32) (v2 : Int32) (v3 : Int32) (h : zHp) : Option (Int32 × zHp) := (if v3 < (h 31 1) then zlt (v3 + (1 : Int32)) fun x1 => f_X5_distance_23_lp k4 zN (v1, v2, v3, x1, h) else some (v2, h))
set_option maxHeartbeats 4000000 in
set_option maxRecDepth 100000 in
theorem f_X5_distance_4_s  (k4 : Int32 × Int32 × Int32 × zHp → Option (Int32 × zHp)) (H4 : ∀ v : Int32 × Int32 × Int32 × zHp, Sim wX mX5_distance 2 rI 4 [(0, .ref 161), (1, .int v.1), (2, .int v.2.1), (3, .int v.2.2.1)] [] v.2.2.2 (k4 v)) (v1 : Int32) (v2 : Int32) (v3 : Int32) (h : zHp) : Sim wX mX5_distance 2 rI 4 [(0, .ref 161), (1, .int v1), (2, .int v2), (3, .int v3)] [] h (f_X5_distance_4 k4 v1 v2 v3 h) := by
  unfold f_X5_distance_4
  refine Sim.iload_n 3 dX5_distance_4 rfl ?_
  refine Sim.aload_n 0 dX5_distance_5 rfl ?_
  refine Sim.getR (j := 26) fl_X5_24 dX5_distance_6 xR_161_0 ?_
  refine Sim.getR (j := 31) fl_X5_68 dX5_distance_9 (xR_X8_2 _ xL_X8_26) ?_
  refine Sim.getI fl_X5_34 dX5_distance_12 (xI_X7_1 _ xL_X7_31) ?_
  refine Sim.icmp_ge 118 dX5_distance_15 rfl ?_ ?_
  · refine Sim.iload_n 3 dX5_distance_18 rfl ?_
    refine Sim.iconst (v := (1 : Int32)) dX5_distance_19 rfl ?_
    refine Sim.iadd dX5_distance_20 ?_
    refine Sim.lti (fun x1 => ?_)
    refine Sim.istore (L' := [(4, .int x1), (0, .ref 161), (1, .int v1), (2, .int v2), (3, .int v3)]) dX5_distance_21 (Nat.le_of_ble_eq_true rfl) rfl ?_
    refine Sim.locs [1, 2, 3, 4, 0] rfl ?_
    exact f_X5_distance_23_ls k4 H4 zN (v1, v2, v3, x1, h)
  · refine Sim.iload_n 2 dX5_distance_118 rfl ?_
    exact Sim.iret dX5_distance_119 rfl
def f_X5_distance_4_lp   (n : Nat) (v : Int32 × Int32 × Int32 × zHp) : Option (Int32 × zHp) := zlp (fun k4 v => f_X5_distance_4 k4 v.1 v.2.1 v.2.2.1 v.2.2.2) n v
theorem f_X5_distance_4_ls  (n : Nat) (v : Int32 × Int32 × Int32 × zHp) : Sim wX mX5_distance 2 rI 4 [(0, .ref 161), (1, .int v.1), (2, .int v.2.1), (3, .int v.2.2.1)] [] v.2.2.2 (f_X5_distance_4_lp n v) :=
  Sim.lp (V := Int32 × Int32 × Int32 × zHp) (Lf := fun v => [(0, .ref 161), (1, .int v.1), (2, .int v.2.1), (3, .int v.2.2.1)]) (sf := fun v => []) (hf := fun v => v.2.2.2) (fun k4 H4 v => f_X5_distance_4_s k4 H4 v.1 v.2.1 v.2.2.1 v.2.2.2) n v
def f_X5_distance  (a1 : Int32) (h : zHp) : Option (Int32 × zHp) := f_X5_distance_4_lp  zN (a1, (-1 : Int32), (0 : Int32), h)
set_option maxHeartbeats 4000000 in
set_option maxRecDepth 100000 in
theorem s_X5_distance  (a1 : Int32) (h : zHp) : Fn wX mX5_distance 2 rI [.ref 161, .int a1] h (f_X5_distance a1 h) := by
  refine Fn.of rfl (Nat.le_of_ble_eq_true rfl) ?_
  unfold f_X5_distance
  refine Sim.iconst (v := (-1 : Int32)) dX5_distance_0 rfl ?_
  refine Sim.istore_n (L' := [(2, .int (-1 : Int32)), (0, .ref 161), (1, .int a1)]) dX5_distance_1 (Nat.le_of_ble_eq_true rfl) rfl ?_
  refine Sim.iconst (v := (0 : Int32)) dX5_distance_2 rfl ?_
  refine Sim.istore_n (L' := [(3, .int (0 : Int32)), (2, .int (-1 : Int32)), (0, .ref 161), (1, .int a1)]) dX5_distance_3 (Nat.le_of_ble_eq_true rfl) rfl ?_
  refine Sim.locs [2, 3, 1, 0] rfl ?_
  exact f_X5_distance_4_ls  zN (a1, (-1 : Int32), (0 : Int32), h)
theorem mv_X5_distance : zMV mX5_distance 1 := ⟨⟨zTb_in 1118 (by decide +kernel) rfl, zTb_in 147 (by decide +kernel) rfl, ⟨by decide +kernel, by decide +kernel⟩, by decide +kernel⟩, zTb_in 1116 (by decide +kernel) rfl, zTb_in 1117 (by decide +kernel) rfl⟩
-- ===== RockingPorch$Puzzles.freeFrom(II)I
abbrev mX5_freeFrom : zMt := (yX5_freeFrom, cX5_freeFrom, 4, some .int)
theorem fl_X5_83 : zF RX5 83 8 6 := ⟨RX8, TX8, 7, rfl, Nat.le_of_ble_eq_true rfl, zTb_in 343 (by decide +kernel) rfl, in_X8⟩
theorem dX5_freeFrom_0 : decode cX5_freeFrom 0 = .ok (.iconst 0, 1) := by decide +kernel
theorem dX5_freeFrom_1 : decode cX5_freeFrom 1 = .ok (.istore_n 3, 1) := by decide +kernel
theorem dX5_freeFrom_2 : decode cX5_freeFrom 2 = .ok (.iload_n 1, 1) := by decide +kernel
theorem dX5_freeFrom_3 : decode cX5_freeFrom 3 = .ok (.iload_n 3, 1) := by decide +kernel
theorem dX5_freeFrom_4 : decode cX5_freeFrom 4 = .ok (.iadd, 1) := by decide +kernel
theorem dX5_freeFrom_5 : decode cX5_freeFrom 5 = .ok (.bipush 6, 2) := by decide +kernel
theorem dX5_freeFrom_7 : decode cX5_freeFrom 7 = .ok (.if_icmp .ge 28, 3) := by decide +kernel
theorem dX5_freeFrom_10 : decode cX5_freeFrom 10 = .ok (.aload_n 0, 1) := by decide +kernel
theorem dX5_freeFrom_11 : decode cX5_freeFrom 11 = .ok (.getfield 24, 3) := by decide +kernel
theorem dX5_freeFrom_14 : decode cX5_freeFrom 14 = .ok (.getfield 83, 3) := by decide +kernel
theorem dX5_freeFrom_17 : decode cX5_freeFrom 17 = .ok (.iload_n 2, 1) := by decide +kernel
theorem dX5_freeFrom_18 : decode cX5_freeFrom 18 = .ok (.bipush 6, 2) := by decide +kernel
theorem dX5_freeFrom_20 : decode cX5_freeFrom 20 = .ok (.imul, 1) := by decide +kernel
theorem dX5_freeFrom_21 : decode cX5_freeFrom 21 = .ok (.iload_n 1, 1) := by decide +kernel
theorem dX5_freeFrom_22 : decode cX5_freeFrom 22 = .ok (.iadd, 1) := by decide +kernel
theorem dX5_freeFrom_23 : decode cX5_freeFrom 23 = .ok (.iload_n 3, 1) := by decide +kernel
theorem dX5_freeFrom_24 : decode cX5_freeFrom 24 = .ok (.iadd, 1) := by decide +kernel
theorem dX5_freeFrom_25 : decode cX5_freeFrom 25 = .ok (.iaload, 1) := by decide +kernel
theorem dX5_freeFrom_26 : decode cX5_freeFrom 26 = .ok (.ifCond .ne 9, 3) := by decide +kernel
theorem dX5_freeFrom_29 : decode cX5_freeFrom 29 = .ok (.iinc 3 1, 3) := by decide +kernel
theorem dX5_freeFrom_32 : decode cX5_freeFrom 32 = .ok (.goto (-30), 3) := by decide +kernel
theorem dX5_freeFrom_35 : decode cX5_freeFrom 35 = .ok (.iload_n 3, 1) := by decide +kernel
theorem dX5_freeFrom_36 : decode cX5_freeFrom 36 = .ok (.ireturn, 1) := by decide +kernel
def f_X5_freeFrom_2  (k2 : Int32 × Int32 × Int32 × zHp → Option (Int32 × zHp)) (v1 : Int32) (v2 : Int32) (v3 : Int32) (h : zHp) : Option (Int32 × zHp) := (if (v1 + v3) < (6 : Int32) then zix (((v2 * (6 : Int32)) + v1) + v3) 36 ((if (h 39 (((v2 * (6 : Int32)) + v1) + v3).toNatClampNeg) = 0 then k2 (v1, v2, (v3 + (1 : Int32)), h) else some (v3, h))) else some (v3, h))
set_option maxHeartbeats 4000000 in
set_option maxRecDepth 100000 in
theorem f_X5_freeFrom_2_s  (k2 : Int32 × Int32 × Int32 × zHp → Option (Int32 × zHp)) (H2 : ∀ v : Int32 × Int32 × Int32 × zHp, Sim wX mX5_freeFrom 0 rI 2 [(0, .ref 161), (1, .int v.1), (2, .int v.2.1), (3, .int v.2.2.1)] [] v.2.2.2 (k2 v)) (v1 : Int32) (v2 : Int32) (v3 : Int32) (h : zHp) : Sim wX mX5_freeFrom 0 rI 2 [(0, .ref 161), (1, .int v1), (2, .int v2), (3, .int v3)] [] h (f_X5_freeFrom_2 k2 v1 v2 v3 h) := by
  unfold f_X5_freeFrom_2
  refine Sim.iload_n 1 dX5_freeFrom_2 rfl ?_
  refine Sim.iload_n 3 dX5_freeFrom_3 rfl ?_
  refine Sim.iadd dX5_freeFrom_4 ?_
  refine Sim.bipush (v := (6 : Int32)) dX5_freeFrom_5 rfl ?_
  refine Sim.icmp_ge 35 dX5_freeFrom_7 rfl ?_ ?_
  · refine Sim.aload_n 0 dX5_freeFrom_10 rfl ?_
    refine Sim.getR (j := 26) fl_X5_24 dX5_freeFrom_11 xR_161_0 ?_
    refine Sim.getR (j := 39) fl_X5_83 dX5_freeFrom_14 (xR_X8_6 _ xL_X8_26) ?_
    refine Sim.iload_n 2 dX5_freeFrom_17 rfl ?_
    refine Sim.bipush (v := (6 : Int32)) dX5_freeFrom_18 rfl ?_
    refine Sim.imul dX5_freeFrom_20 ?_
    refine Sim.iload_n 1 dX5_freeFrom_21 rfl ?_
    refine Sim.iadd dX5_freeFrom_22 ?_
    refine Sim.iload_n 3 dX5_freeFrom_23 rfl ?_
    refine Sim.iadd dX5_freeFrom_24 ?_
    refine Sim.iald (n := 36) dX5_freeFrom_25 xA_39 ?_
    refine Sim.if_ne 35 dX5_freeFrom_26 rfl ?_ ?_
    · refine Sim.iinc (L' := [(3, .int (v3 + (1 : Int32))), (0, .ref 161), (1, .int v1), (2, .int v2)]) 3 dX5_freeFrom_29 rfl rfl (Nat.le_of_ble_eq_true rfl) rfl ?_
      refine Sim.goto 2 dX5_freeFrom_32 rfl ?_
      refine Sim.locs [1, 2, 3, 0] rfl ?_
      exact H2 (v1, v2, (v3 + (1 : Int32)), h)
    · refine Sim.iload_n 3 dX5_freeFrom_35 rfl ?_
      exact Sim.iret dX5_freeFrom_36 rfl
  · refine Sim.iload_n 3 dX5_freeFrom_35 rfl ?_
    exact Sim.iret dX5_freeFrom_36 rfl
def f_X5_freeFrom_2_lp   (n : Nat) (v : Int32 × Int32 × Int32 × zHp) : Option (Int32 × zHp) := zlp (fun k2 v => f_X5_freeFrom_2 k2 v.1 v.2.1 v.2.2.1 v.2.2.2) n v
theorem f_X5_freeFrom_2_ls  (n : Nat) (v : Int32 × Int32 × Int32 × zHp) : Sim wX mX5_freeFrom 0 rI 2 [(0, .ref 161), (1, .int v.1), (2, .int v.2.1), (3, .int v.2.2.1)] [] v.2.2.2 (f_X5_freeFrom_2_lp n v) :=
  Sim.lp (V := Int32 × Int32 × Int32 × zHp) (Lf := fun v => [(0, .ref 161), (1, .int v.1), (2, .int v.2.1), (3, .int v.2.2.1)]) (sf := fun v => []) (hf := fun v => v.2.2.2) (fun k2 H2 v => f_X5_freeFrom_2_s k2 H2 v.1 v.2.1 v.2.2.1 v.2.2.2) n v
def f_X5_freeFrom  (a1 : Int32) (a2 : Int32) (h : zHp) : Option (Int32 × zHp) := f_X5_freeFrom_2_lp  zN (a1, a2, (0 : Int32), h)
set_option maxHeartbeats 4000000 in
set_option maxRecDepth 100000 in
theorem s_X5_freeFrom  (a1 : Int32) (a2 : Int32) (h : zHp) : Fn wX mX5_freeFrom 0 rI [.ref 161, .int a1, .int a2] h (f_X5_freeFrom a1 a2 h) := by
  refine Fn.of rfl (Nat.le_of_ble_eq_true rfl) ?_
  unfold f_X5_freeFrom
  refine Sim.iconst (v := (0 : Int32)) dX5_freeFrom_0 rfl ?_
  refine Sim.istore_n (L' := [(3, .int (0 : Int32)), (0, .ref 161), (1, .int a1), (2, .int a2)]) dX5_freeFrom_1 (Nat.le_of_ble_eq_true rfl) rfl ?_
  refine Sim.locs [1, 2, 3, 0] rfl ?_
  exact f_X5_freeFrom_2_ls  zN (a1, a2, (0 : Int32), h)
theorem mv_X5_freeFrom : zMV mX5_freeFrom 2 := ⟨⟨zTb_in 1134 (by decide +kernel) rfl, zTb_in 147 (by decide +kernel) rfl, ⟨by decide +kernel, by decide +kernel⟩, by decide +kernel⟩, zTb_in 1133 (by decide +kernel) rfl, zTb_in 34 (by decide +kernel) rfl⟩
-- ===== RockingPorch$Puzzles.rugs(Z)I
abbrev mX5_rugs : zMt := (yX5_rugs, cX5_rugs, 9, some .int)
theorem ml_X5_80 : Cond.methodLink RX5 80 yX5_freeFrom ∈ zTb := zTb_in 1131 (by decide +kernel) rfl
theorem dX5_rugs_0 : decode cX5_rugs 0 = .ok (.iconst 0, 1) := by decide +kernel
theorem dX5_rugs_1 : decode cX5_rugs 1 = .ok (.istore_n 2, 1) := by decide +kernel
theorem dX5_rugs_2 : decode cX5_rugs 2 = .ok (.iconst 0, 1) := by decide +kernel
theorem dX5_rugs_3 : decode cX5_rugs 3 = .ok (.istore_n 3, 1) := by decide +kernel
theorem dX5_rugs_4 : decode cX5_rugs 4 = .ok (.iconst 0, 1) := by decide +kernel
theorem dX5_rugs_5 : decode cX5_rugs 5 = .ok (.istore 4, 2) := by decide +kernel
theorem dX5_rugs_7 : decode cX5_rugs 7 = .ok (.iload 4, 2) := by decide +kernel
theorem dX5_rugs_9 : decode cX5_rugs 9 = .ok (.bipush 36, 2) := by decide +kernel
theorem dX5_rugs_11 : decode cX5_rugs 11 = .ok (.if_icmp .ge 87, 3) := by decide +kernel
theorem dX5_rugs_14 : decode cX5_rugs 14 = .ok (.iload 4, 2) := by decide +kernel
theorem dX5_rugs_16 : decode cX5_rugs 16 = .ok (.bipush 6, 2) := by decide +kernel
theorem dX5_rugs_18 : decode cX5_rugs 18 = .ok (.irem, 1) := by decide +kernel
theorem dX5_rugs_19 : decode cX5_rugs 19 = .ok (.istore 5, 2) := by decide +kernel
theorem dX5_rugs_21 : decode cX5_rugs 21 = .ok (.bipush 6, 2) := by decide +kernel
theorem dX5_rugs_23 : decode cX5_rugs 23 = .ok (.iload 5, 2) := by decide +kernel
theorem dX5_rugs_25 : decode cX5_rugs 25 = .ok (.isub, 1) := by decide +kernel
theorem dX5_rugs_26 : decode cX5_rugs 26 = .ok (.istore 6, 2) := by decide +kernel
theorem dX5_rugs_28 : decode cX5_rugs 28 = .ok (.iload 4, 2) := by decide +kernel
theorem dX5_rugs_30 : decode cX5_rugs 30 = .ok (.bipush 6, 2) := by decide +kernel
theorem dX5_rugs_32 : decode cX5_rugs 32 = .ok (.idiv, 1) := by decide +kernel
theorem dX5_rugs_33 : decode cX5_rugs 33 = .ok (.istore 7, 2) := by decide +kernel
theorem dX5_rugs_35 : decode cX5_rugs 35 = .ok (.iload 7, 2) := by decide +kernel
theorem dX5_rugs_37 : decode cX5_rugs 37 = .ok (.istore 8, 2) := by decide +kernel
theorem dX5_rugs_39 : decode cX5_rugs 39 = .ok (.iload 8, 2) := by decide +kernel
theorem dX5_rugs_41 : decode cX5_rugs 41 = .ok (.bipush 6, 2) := by decide +kernel
theorem dX5_rugs_43 : decode cX5_rugs 43 = .ok (.if_icmp .ge 49, 3) := by decide +kernel
theorem dX5_rugs_46 : decode cX5_rugs 46 = .ok (.iload 6, 2) := by decide +kernel
theorem dX5_rugs_48 : decode cX5_rugs 48 = .ok (.ifCond .le 44, 3) := by decide +kernel
theorem dX5_rugs_51 : decode cX5_rugs 51 = .ok (.iload 6, 2) := by decide +kernel
theorem dX5_rugs_53 : decode cX5_rugs 53 = .ok (.aload_n 0, 1) := by decide +kernel
theorem dX5_rugs_54 : decode cX5_rugs 54 = .ok (.iload 5, 2) := by decide +kernel
theorem dX5_rugs_56 : decode cX5_rugs 56 = .ok (.iload 8, 2) := by decide +kernel
theorem dX5_rugs_58 : decode cX5_rugs 58 = .ok (.invokevirtual 80, 3) := by decide +kernel
theorem dX5_rugs_61 : decode cX5_rugs 61 = .ok (.invokestatic 71, 3) := by decide +kernel
theorem dX5_rugs_64 : decode cX5_rugs 64 = .ok (.istore 6, 2) := by decide +kernel
theorem dX5_rugs_66 : decode cX5_rugs 66 = .ok (.iload_n 2, 1) := by decide +kernel
theorem dX5_rugs_67 : decode cX5_rugs 67 = .ok (.iload 6, 2) := by decide +kernel
theorem dX5_rugs_69 : decode cX5_rugs 69 = .ok (.iadd, 1) := by decide +kernel
theorem dX5_rugs_70 : decode cX5_rugs 70 = .ok (.istore_n 2, 1) := by decide +kernel
theorem dX5_rugs_71 : decode cX5_rugs 71 = .ok (.iload_n 3, 1) := by decide +kernel
theorem dX5_rugs_72 : decode cX5_rugs 72 = .ok (.iload 6, 2) := by decide +kernel
theorem dX5_rugs_74 : decode cX5_rugs 74 = .ok (.iload 8, 2) := by decide +kernel
theorem dX5_rugs_76 : decode cX5_rugs 76 = .ok (.iload 7, 2) := by decide +kernel
theorem dX5_rugs_78 : decode cX5_rugs 78 = .ok (.isub, 1) := by decide +kernel
theorem dX5_rugs_79 : decode cX5_rugs 79 = .ok (.iconst 1, 1) := by decide +kernel
theorem dX5_rugs_80 : decode cX5_rugs 80 = .ok (.iadd, 1) := by decide +kernel
theorem dX5_rugs_81 : decode cX5_rugs 81 = .ok (.imul, 1) := by decide +kernel
theorem dX5_rugs_82 : decode cX5_rugs 82 = .ok (.invokestatic 47, 3) := by decide +kernel
theorem dX5_rugs_85 : decode cX5_rugs 85 = .ok (.istore_n 3, 1) := by decide +kernel
theorem dX5_rugs_86 : decode cX5_rugs 86 = .ok (.iinc 8 1, 3) := by decide +kernel
theorem dX5_rugs_89 : decode cX5_rugs 89 = .ok (.goto (-50), 3) := by decide +kernel
theorem dX5_rugs_92 : decode cX5_rugs 92 = .ok (.iinc 4 1, 3) := by decide +kernel
theorem dX5_rugs_95 : decode cX5_rugs 95 = .ok (.goto (-88), 3) := by decide +kernel
theorem dX5_rugs_98 : decode cX5_rugs 98 = .ok (.iload_n 1, 1) := by decide +kernel
theorem dX5_rugs_99 : decode cX5_rugs 99 = .ok (.ifCond .eq 7, 3) := by decide +kernel
theorem dX5_rugs_102 : decode cX5_rugs 102 = .ok (.iload_n 3, 1) := by decide +kernel
theorem dX5_rugs_103 : decode cX5_rugs 103 = .ok (.goto 4, 3) := by decide +kernel
theorem dX5_rugs_106 : decode cX5_rugs 106 = .ok (.iload_n 2, 1) := by decide +kernel
theorem dX5_rugs_107 : decode cX5_rugs 107 = .ok (.ireturn, 1) := by decide +kernel
def f_X5_rugs_39  (k7 : Int32 × Int32 × Int32 × Int32 × zHp → Option (Int32 × zHp)) (k39 : Int32 × Int32 × Int32 × Int32 × Int32 × Int32 × Int32 × Int32 × zHp → Option (Int32 × zHp)) (v1 : Int32) (v2 : Int32) (v3 : Int32) (v4 : Int32) (v5 : Int32) (v6 : Int32) (v7 : Int32) (v8 : Int32) (h : zHp) : Option (Int32 × zHp) := (if v8 < (6 : Int32) then (if 0 < v6 then (f_X5_freeFrom v5 v8 h).bind fun x1 => zlt (if x1.1 < v6 then x1.1 else v6) fun x2 => zlt (v2 + x2) fun x3 => zlt (if v3 < (x2 * ((v8 - v7) + (1 : Int32))) then (x2 * ((v8 - v7) + (1 : Int32))) else v3) fun x4 => k39 (v1, x3, x4, v4, v5, x2, v7, (v8 + (1 : Int32)), x1.2) else k7 (v1, v2, v3, (v4 + (1 : Int32)), h)) else k7 (v1, v2, v3, (v4 + (1 : Int32)), h))
set_option maxHeartbeats 4000000 in
set_option maxRecDepth 100000 in
theorem f_X5_rugs_39_s  (k7 : Int32 × Int32 × Int32 × Int32 × zHp → Option (Int32 × zHp)) (H7 : ∀ v : Int32 × Int32 × Int32 × Int32 × zHp, Sim wX mX5_rugs 1 rI 7 [(0, .ref 161), (1, .int v.1), (2, .int v.2.1), (3, .int v.2.2.1), (4, .int v.2.2.2.1)] [] v.2.2.2.2 (k7 v)) (k39 : Int32 × Int32 × Int32 × Int32 × Int32 × Int32 × Int32 × Int32 × zHp → Option (Int32 × zHp)) (H39 : ∀ v : Int32 × Int32 × Int32 × Int32 × Int32 × Int32 × Int32 × Int32 × zHp, Sim wX mX5_rugs 1 rI 39 [(0, .ref 161), (1, .int v.1), (2, .int v.2.1), (3, .int v.2.2.1), (4, .int v.2.2.2.1), (5, .int v.2.2.2.2.1), (6, .int v.2.2.2.2.2.1), (7, .int v.2.2.2.2.2.2.1), (8, .int v.2.2.2.2.2.2.2.1)] [] v.2.2.2.2.2.2.2.2 (k39 v)) (v1 : Int32) (v2 : Int32) (v3 : Int32) (v4 : Int32) (v5 : Int32) (v6 : Int32) (v7 : Int32) (v8 : Int32) (h : zHp) : Sim wX mX5_rugs 1 rI 39 [(0, .ref 161), (1, .int v1), (2, .int v2), (3, .int v3), (4, .int v4), (5, .int v5), (6, .int v6), (7, .int v7), (8, .int v8)] [] h (f_X5_rugs_39 k7 k39 v1 v2 v3 v4 v5 v6 v7 v8 h) := by
  unfold f_X5_rugs_39
  refine Sim.iload 8 dX5_rugs_39 rfl ?_
  refine Sim.bipush (v := (6 : Int32)) dX5_rugs_41 rfl ?_
  refine Sim.icmp_ge 92 dX5_rugs_43 rfl ?_ ?_
  · refine Sim.iload 6 dX5_rugs_46 rfl ?_
    refine Sim.if_le 92 dX5_rugs_48 rfl ?_ ?_
    · refine Sim.iload 6 dX5_rugs_51 rfl ?_
      refine Sim.aload_n 0 dX5_rugs_53 rfl ?_
      refine Sim.iload 5 dX5_rugs_54 rfl ?_
      refine Sim.iload 8 dX5_rugs_56 rfl ?_
      refine Sim.callV2I (d1 := 0) (s_X5_freeFrom v5 v8 h) dX5_rugs_58 ml_X5_80 mv_X5_freeFrom xO_X5 (Nat.le_of_ble_eq_true rfl) (Nat.le_of_ble_eq_true rfl) (Nat.le_of_ble_eq_true rfl) (fun x1 => ?_)
      refine Sim.mmin dX5_rugs_61 ml_X5_71 ms_min ms_Math mc_min (Nat.le_of_ble_eq_true rfl) (Nat.le_of_ble_eq_true rfl) ?_
      refine Sim.lti (fun x2 => ?_)
      refine Sim.istore (L' := [(6, .int x2), (0, .ref 161), (1, .int v1), (2, .int v2), (3, .int v3), (4, .int v4), (5, .int v5), (7, .int v7), (8, .int v8)]) dX5_rugs_64 (Nat.le_of_ble_eq_true rfl) rfl ?_
      refine Sim.iload_n 3 dX5_rugs_66 rfl ?_
      refine Sim.iload 0 dX5_rugs_67 rfl ?_
      refine Sim.iadd dX5_rugs_69 ?_
      refine Sim.lti (fun x3 => ?_)
      refine Sim.istore_n (L' := [(2, .int x3), (6, .int x2), (0, .ref 161), (1, .int v1), (3, .int v3), (4, .int v4), (5, .int v5), (7, .int v7), (8, .int v8)]) dX5_rugs_70 (Nat.le_of_ble_eq_true rfl) rfl ?_
      refine Sim.iload_n 4 dX5_rugs_71 rfl ?_
      refine Sim.iload 1 dX5_rugs_72 rfl ?_
      refine Sim.iload 8 dX5_rugs_74 rfl ?_
      refine Sim.iload 7 dX5_rugs_76 rfl ?_
      refine Sim.isub dX5_rugs_78 ?_
      refine Sim.iconst (v := (1 : Int32)) dX5_rugs_79 rfl ?_
      refine Sim.iadd dX5_rugs_80 ?_
      refine Sim.imul dX5_rugs_81 ?_
      refine Sim.mmax dX5_rugs_82 ml_X5_47 ms_max ms_Math mc_max (Nat.le_of_ble_eq_true rfl) (Nat.le_of_ble_eq_true rfl) ?_
      refine Sim.lti (fun x4 => ?_)
      refine Sim.istore_n (L' := [(3, .int x4), (2, .int x3), (6, .int x2), (0, .ref 161), (1, .int v1), (4, .int v4), (5, .int v5), (7, .int v7), (8, .int v8)]) dX5_rugs_85 (Nat.le_of_ble_eq_true rfl) rfl ?_
      refine Sim.iinc (L' := [(8, .int (v8 + (1 : Int32))), (3, .int x4), (2, .int x3), (6, .int x2), (0, .ref 161), (1, .int v1), (4, .int v4), (5, .int v5), (7, .int v7)]) 8 dX5_rugs_86 rfl rfl (Nat.le_of_ble_eq_true rfl) rfl ?_
      refine Sim.goto 39 dX5_rugs_89 rfl ?_
      refine Sim.locs [4, 5, 2, 1, 6, 7, 3, 8, 0] rfl ?_
      exact H39 (v1, x3, x4, v4, v5, x2, v7, (v8 + (1 : Int32)), x1.2)
    · refine Sim.iinc (L' := [(4, .int (v4 + (1 : Int32))), (0, .ref 161), (1, .int v1), (2, .int v2), (3, .int v3), (5, .int v5), (6, .int v6), (7, .int v7), (8, .int v8)]) 4 dX5_rugs_92 rfl rfl (Nat.le_of_ble_eq_true rfl) rfl ?_
      refine Sim.goto 7 dX5_rugs_95 rfl ?_
      refine Sim.locs [1, 2, 3, 4, 0] rfl ?_
      exact H7 (v1, v2, v3, (v4 + (1 : Int32)), h)
  · refine Sim.iinc (L' := [(4, .int (v4 + (1 : Int32))), (0, .ref 161), (1, .int v1), (2, .int v2), (3, .int v3), (5, .int v5), (6, .int v6), (7, .int v7), (8, .int v8)]) 4 dX5_rugs_92 rfl rfl (Nat.le_of_ble_eq_true rfl) rfl ?_
    refine Sim.goto 7 dX5_rugs_95 rfl ?_
    refine Sim.locs [1, 2, 3, 4, 0] rfl ?_
    exact H7 (v1, v2, v3, (v4 + (1 : Int32)), h)
def f_X5_rugs_39_lp  (k7 : Int32 × Int32 × Int32 × Int32 × zHp → Option (Int32 × zHp)) (n : Nat) (v : Int32 × Int32 × Int32 × Int32 × Int32 × Int32 × Int32 × Int32 × zHp) : Option (Int32 × zHp) := zlp (fun k39 v => f_X5_rugs_39 k7 k39 v.1 v.2.1 v.2.2.1 v.2.2.2.1 v.2.2.2.2.1 v.2.2.2.2.2.1 v.2.2.2.2.2.2.1 v.2.2.2.2.2.2.2.1 v.2.2.2.2.2.2.2.2) n v
theorem f_X5_rugs_39_ls  (k7 : Int32 × Int32 × Int32 × Int32 × zHp → Option (Int32 × zHp)) (H7 : ∀ v : Int32 × Int32 × Int32 × Int32 × zHp, Sim wX mX5_rugs 1 rI 7 [(0, .ref 161), (1, .int v.1), (2, .int v.2.1), (3, .int v.2.2.1), (4, .int v.2.2.2.1)] [] v.2.2.2.2 (k7 v)) (n : Nat) (v : Int32 × Int32 × Int32 × Int32 × Int32 × Int32 × Int32 × Int32 × zHp) : Sim wX mX5_rugs 1 rI 39 [(0, .ref 161), (1, .int v.1), (2, .int v.2.1), (3, .int v.2.2.1), (4, .int v.2.2.2.1), (5, .int v.2.2.2.2.1), (6, .int v.2.2.2.2.2.1), (7, .int v.2.2.2.2.2.2.1), (8, .int v.2.2.2.2.2.2.2.1)] [] v.2.2.2.2.2.2.2.2 (f_X5_rugs_39_lp k7 n v) :=
  Sim.lp (V := Int32 × Int32 × Int32 × Int32 × Int32 × Int32 × Int32 × Int32 × zHp) (Lf := fun v => [(0, .ref 161), (1, .int v.1), (2, .int v.2.1), (3, .int v.2.2.1), (4, .int v.2.2.2.1), (5, .int v.2.2.2.2.1), (6, .int v.2.2.2.2.2.1), (7, .int v.2.2.2.2.2.2.1), (8, .int v.2.2.2.2.2.2.2.1)]) (sf := fun v => []) (hf := fun v => v.2.2.2.2.2.2.2.2) (fun k39 H39 v => f_X5_rugs_39_s k7 H7 k39 H39 v.1 v.2.1 v.2.2.1 v.2.2.2.1 v.2.2.2.2.1 v.2.2.2.2.2.1 v.2.2.2.2.2.2.1 v.2.2.2.2.2.2.2.1 v.2.2.2.2.2.2.2.2) n v
def f_X5_rugs_7  (k7 : Int32 × Int32 × Int32 × Int32 × zHp → Option (Int32 × zHp)) (v1 : Int32) (v2 : Int32) (v3 : Int32) (v4 : Int32) (h : zHp) : Option (Int32 × zHp) := (if v4 < (36 : Int32) then zlt (v4 - v4 / (6 : Int32) * (6 : Int32)) fun x1 => zlt ((6 : Int32) - x1) fun x2 => zlt (v4 / (6 : Int32)) fun x3 => f_X5_rugs_39_lp k7 zN (v1, v2, v3, v4, x1, x2, x3, x3, h) else (if v1 = 0 then some (v2, h) else some (v3, h)))
set_option maxHeartbeats 4000000 in
set_option maxRecDepth 100000 in
theorem f_X5_rugs_7_s  (k7 : Int32 × Int32 × Int32 × Int32 × zHp → Option (Int32 × zHp)) (H7 : ∀ v : Int32 × Int32 × Int32 × Int32 × zHp, Sim wX mX5_rugs 1 rI 7 [(0, .ref 161), (1, .int v.1), (2, .int v.2.1), (3, .int v.2.2.1), (4, .int v.2.2.2.1)] [] v.2.2.2.2 (k7 v)) (v1 : Int32) (v2 : Int32) (v3 : Int32) (v4 : Int32) (h : zHp) : Sim wX mX5_rugs 1 rI 7 [(0, .ref 161), (1, .int v1), (2, .int v2), (3, .int v3), (4, .int v4)] [] h (f_X5_rugs_7 k7 v1 v2 v3 v4 h) := by
  unfold f_X5_rugs_7
  refine Sim.iload 4 dX5_rugs_7 rfl ?_
  refine Sim.bipush (v := (36 : Int32)) dX5_rugs_9 rfl ?_
  refine Sim.icmp_ge 98 dX5_rugs_11 rfl ?_ ?_
  · refine Sim.iload 4 dX5_rugs_14 rfl ?_
    refine Sim.bipush (v := (6 : Int32)) dX5_rugs_16 rfl ?_
    refine Sim.iremL dX5_rugs_18 (by decide) ?_
    refine Sim.lti (fun x1 => ?_)
    refine Sim.istore (L' := [(5, .int x1), (0, .ref 161), (1, .int v1), (2, .int v2), (3, .int v3), (4, .int v4)]) dX5_rugs_19 (Nat.le_of_ble_eq_true rfl) rfl ?_
    refine Sim.bipush (v := (6 : Int32)) dX5_rugs_21 rfl ?_
    refine Sim.iload 0 dX5_rugs_23 rfl ?_
    refine Sim.isub dX5_rugs_25 ?_
    refine Sim.lti (fun x2 => ?_)
    refine Sim.istore (L' := [(6, .int x2), (5, .int x1), (0, .ref 161), (1, .int v1), (2, .int v2), (3, .int v3), (4, .int v4)]) dX5_rugs_26 (Nat.le_of_ble_eq_true rfl) rfl ?_
    refine Sim.iload 6 dX5_rugs_28 rfl ?_
    refine Sim.bipush (v := (6 : Int32)) dX5_rugs_30 rfl ?_
    refine Sim.idivL dX5_rugs_32 (by decide) ?_
    refine Sim.lti (fun x3 => ?_)
    refine Sim.istore (L' := [(7, .int x3), (6, .int x2), (5, .int x1), (0, .ref 161), (1, .int v1), (2, .int v2), (3, .int v3), (4, .int v4)]) dX5_rugs_33 (Nat.le_of_ble_eq_true rfl) rfl ?_
    refine Sim.iload 0 dX5_rugs_35 rfl ?_
    refine Sim.istore (L' := [(8, .int x3), (7, .int x3), (6, .int x2), (5, .int x1), (0, .ref 161), (1, .int v1), (2, .int v2), (3, .int v3), (4, .int v4)]) dX5_rugs_37 (Nat.le_of_ble_eq_true rfl) rfl ?_
    refine Sim.locs [4, 5, 6, 7, 8, 3, 2, 1, 0] rfl ?_
    exact f_X5_rugs_39_ls k7 H7 zN (v1, v2, v3, v4, x1, x2, x3, x3, h)
  · refine Sim.iload_n 1 dX5_rugs_98 rfl ?_
    refine Sim.if_eq 106 dX5_rugs_99 rfl ?_ ?_
    · refine Sim.iload_n 2 dX5_rugs_106 rfl ?_
      exact Sim.iret dX5_rugs_107 rfl
    · refine Sim.iload_n 3 dX5_rugs_102 rfl ?_
      refine Sim.goto 107 dX5_rugs_103 rfl ?_
      exact Sim.iret dX5_rugs_107 rfl
def f_X5_rugs_7_lp   (n : Nat) (v : Int32 × Int32 × Int32 × Int32 × zHp) : Option (Int32 × zHp) := zlp (fun k7 v => f_X5_rugs_7 k7 v.1 v.2.1 v.2.2.1 v.2.2.2.1 v.2.2.2.2) n v
theorem f_X5_rugs_7_ls  (n : Nat) (v : Int32 × Int32 × Int32 × Int32 × zHp) : Sim wX mX5_rugs 1 rI 7 [(0, .ref 161), (1, .int v.1), (2, .int v.2.1), (3, .int v.2.2.1), (4, .int v.2.2.2.1)] [] v.2.2.2.2 (f_X5_rugs_7_lp n v) :=
  Sim.lp (V := Int32 × Int32 × Int32 × Int32 × zHp) (Lf := fun v => [(0, .ref 161), (1, .int v.1), (2, .int v.2.1), (3, .int v.2.2.1), (4, .int v.2.2.2.1)]) (sf := fun v => []) (hf := fun v => v.2.2.2.2) (fun k7 H7 v => f_X5_rugs_7_s k7 H7 v.1 v.2.1 v.2.2.1 v.2.2.2.1 v.2.2.2.2) n v
def f_X5_rugs  (a1 : Int32) (h : zHp) : Option (Int32 × zHp) := f_X5_rugs_7_lp  zN (a1, (0 : Int32), (0 : Int32), (0 : Int32), h)
set_option maxHeartbeats 4000000 in
set_option maxRecDepth 100000 in
theorem s_X5_rugs  (a1 : Int32) (h : zHp) : Fn wX mX5_rugs 1 rI [.ref 161, .int a1] h (f_X5_rugs a1 h) := by
  refine Fn.of rfl (Nat.le_of_ble_eq_true rfl) ?_
  unfold f_X5_rugs
  refine Sim.iconst (v := (0 : Int32)) dX5_rugs_0 rfl ?_
  refine Sim.istore_n (L' := [(2, .int (0 : Int32)), (0, .ref 161), (1, .int a1)]) dX5_rugs_1 (Nat.le_of_ble_eq_true rfl) rfl ?_
  refine Sim.iconst (v := (0 : Int32)) dX5_rugs_2 rfl ?_
  refine Sim.istore_n (L' := [(3, .int (0 : Int32)), (2, .int (0 : Int32)), (0, .ref 161), (1, .int a1)]) dX5_rugs_3 (Nat.le_of_ble_eq_true rfl) rfl ?_
  refine Sim.iconst (v := (0 : Int32)) dX5_rugs_4 rfl ?_
  refine Sim.istore (L' := [(4, .int (0 : Int32)), (3, .int (0 : Int32)), (2, .int (0 : Int32)), (0, .ref 161), (1, .int a1)]) dX5_rugs_5 (Nat.le_of_ble_eq_true rfl) rfl ?_
  refine Sim.locs [3, 4, 2, 1, 0] rfl ?_
  exact f_X5_rugs_7_ls  zN (a1, (0 : Int32), (0 : Int32), (0 : Int32), h)
theorem mv_X5_rugs : zMV mX5_rugs 1 := ⟨⟨zTb_in 1130 (by decide +kernel) rfl, zTb_in 147 (by decide +kernel) rfl, ⟨by decide +kernel, by decide +kernel⟩, by decide +kernel⟩, zTb_in 1128 (by decide +kernel) rfl, zTb_in 1129 (by decide +kernel) rfl⟩
-- ===== RockingPorch$Puzzles.readOrder(I)I
abbrev mX5_readOrder : zMt := (yX5_readOrder, cX5_readOrder, 7, some .int)
theorem dX5_readOrder_0 : decode cX5_readOrder 0 = .ok (.bipush 10, 2) := by decide +kernel
theorem dX5_readOrder_2 : decode cX5_readOrder 2 = .ok (.istore_n 2, 1) := by decide +kernel
theorem dX5_readOrder_3 : decode cX5_readOrder 3 = .ok (.iconst 1, 1) := by decide +kernel
theorem dX5_readOrder_4 : decode cX5_readOrder 4 = .ok (.istore_n 3, 1) := by decide +kernel
theorem dX5_readOrder_5 : decode cX5_readOrder 5 = .ok (.iload_n 3, 1) := by decide +kernel
theorem dX5_readOrder_6 : decode cX5_readOrder 6 = .ok (.bipush 8, 2) := by decide +kernel
theorem dX5_readOrder_8 : decode cX5_readOrder 8 = .ok (.if_icmp .ge 22, 3) := by decide +kernel
theorem dX5_readOrder_11 : decode cX5_readOrder 11 = .ok (.iload_n 1, 1) := by decide +kernel
theorem dX5_readOrder_12 : decode cX5_readOrder 12 = .ok (.iload_n 2, 1) := by decide +kernel
theorem dX5_readOrder_13 : decode cX5_readOrder 13 = .ok (.idiv, 1) := by decide +kernel
theorem dX5_readOrder_14 : decode cX5_readOrder 14 = .ok (.bipush 10, 2) := by decide +kernel
theorem dX5_readOrder_16 : decode cX5_readOrder 16 = .ok (.if_icmp .lt 14, 3) := by decide +kernel
theorem dX5_readOrder_19 : decode cX5_readOrder 19 = .ok (.iload_n 2, 1) := by decide +kernel
theorem dX5_readOrder_20 : decode cX5_readOrder 20 = .ok (.bipush 10, 2) := by decide +kernel
theorem dX5_readOrder_22 : decode cX5_readOrder 22 = .ok (.imul, 1) := by decide +kernel
theorem dX5_readOrder_23 : decode cX5_readOrder 23 = .ok (.istore_n 2, 1) := by decide +kernel
theorem dX5_readOrder_24 : decode cX5_readOrder 24 = .ok (.iinc 3 1, 3) := by decide +kernel
theorem dX5_readOrder_27 : decode cX5_readOrder 27 = .ok (.goto (-22), 3) := by decide +kernel
theorem dX5_readOrder_30 : decode cX5_readOrder 30 = .ok (.iload_n 1, 1) := by decide +kernel
theorem dX5_readOrder_31 : decode cX5_readOrder 31 = .ok (.iload_n 2, 1) := by decide +kernel
theorem dX5_readOrder_32 : decode cX5_readOrder 32 = .ok (.idiv, 1) := by decide +kernel
theorem dX5_readOrder_33 : decode cX5_readOrder 33 = .ok (.iconst 1, 1) := by decide +kernel
theorem dX5_readOrder_34 : decode cX5_readOrder 34 = .ok (.if_icmp .eq 5, 3) := by decide +kernel
theorem dX5_readOrder_37 : decode cX5_readOrder 37 = .ok (.iconst 0, 1) := by decide +kernel
theorem dX5_readOrder_38 : decode cX5_readOrder 38 = .ok (.ireturn, 1) := by decide +kernel
theorem dX5_readOrder_39 : decode cX5_readOrder 39 = .ok (.iload_n 1, 1) := by decide +kernel
theorem dX5_readOrder_40 : decode cX5_readOrder 40 = .ok (.iload_n 2, 1) := by decide +kernel
theorem dX5_readOrder_41 : decode cX5_readOrder 41 = .ok (.isub, 1) := by decide +kernel
theorem dX5_readOrder_42 : decode cX5_readOrder 42 = .ok (.istore 4, 2) := by decide +kernel
theorem dX5_readOrder_44 : decode cX5_readOrder 44 = .ok (.iconst 0, 1) := by decide +kernel
theorem dX5_readOrder_45 : decode cX5_readOrder 45 = .ok (.istore 5, 2) := by decide +kernel
theorem dX5_readOrder_47 : decode cX5_readOrder 47 = .ok (.iload_n 3, 1) := by decide +kernel
theorem dX5_readOrder_48 : decode cX5_readOrder 48 = .ok (.iconst 1, 1) := by decide +kernel
theorem dX5_readOrder_49 : decode cX5_readOrder 49 = .ok (.isub, 1) := by decide +kernel
theorem dX5_readOrder_50 : decode cX5_readOrder 50 = .ok (.istore 6, 2) := by decide +kernel
theorem dX5_readOrder_52 : decode cX5_readOrder 52 = .ok (.iload 6, 2) := by decide +kernel
theorem dX5_readOrder_54 : decode cX5_readOrder 54 = .ok (.ifCond .lt 42, 3) := by decide +kernel
theorem dX5_readOrder_57 : decode cX5_readOrder 57 = .ok (.aload_n 0, 1) := by decide +kernel
theorem dX5_readOrder_58 : decode cX5_readOrder 58 = .ok (.getfield 9, 3) := by decide +kernel
theorem dX5_readOrder_61 : decode cX5_readOrder 61 = .ok (.iload 6, 2) := by decide +kernel
theorem dX5_readOrder_63 : decode cX5_readOrder 63 = .ok (.iload 4, 2) := by decide +kernel
theorem dX5_readOrder_65 : decode cX5_readOrder 65 = .ok (.bipush 10, 2) := by decide +kernel
theorem dX5_readOrder_67 : decode cX5_readOrder 67 = .ok (.irem, 1) := by decide +kernel
theorem dX5_readOrder_68 : decode cX5_readOrder 68 = .ok (.iastore, 1) := by decide +kernel
theorem dX5_readOrder_69 : decode cX5_readOrder 69 = .ok (.iload 5, 2) := by decide +kernel
theorem dX5_readOrder_71 : decode cX5_readOrder 71 = .ok (.iconst 1, 1) := by decide +kernel
theorem dX5_readOrder_72 : decode cX5_readOrder 72 = .ok (.aload_n 0, 1) := by decide +kernel
theorem dX5_readOrder_73 : decode cX5_readOrder 73 = .ok (.getfield 9, 3) := by decide +kernel
theorem dX5_readOrder_76 : decode cX5_readOrder 76 = .ok (.iload 6, 2) := by decide +kernel
theorem dX5_readOrder_78 : decode cX5_readOrder 78 = .ok (.iaload, 1) := by decide +kernel
theorem dX5_readOrder_79 : decode cX5_readOrder 79 = .ok (.ishl, 1) := by decide +kernel
theorem dX5_readOrder_80 : decode cX5_readOrder 80 = .ok (.ior, 1) := by decide +kernel
theorem dX5_readOrder_81 : decode cX5_readOrder 81 = .ok (.istore 5, 2) := by decide +kernel
theorem dX5_readOrder_83 : decode cX5_readOrder 83 = .ok (.iload 4, 2) := by decide +kernel
theorem dX5_readOrder_85 : decode cX5_readOrder 85 = .ok (.bipush 10, 2) := by decide +kernel
theorem dX5_readOrder_87 : decode cX5_readOrder 87 = .ok (.idiv, 1) := by decide +kernel
theorem dX5_readOrder_88 : decode cX5_readOrder 88 = .ok (.istore 4, 2) := by decide +kernel
theorem dX5_readOrder_90 : decode cX5_readOrder 90 = .ok (.iinc 6 (-1), 3) := by decide +kernel
theorem dX5_readOrder_93 : decode cX5_readOrder 93 = .ok (.goto (-41), 3) := by decide +kernel
theorem dX5_readOrder_96 : decode cX5_readOrder 96 = .ok (.iload 5, 2) := by decide +kernel
theorem dX5_readOrder_98 : decode cX5_readOrder 98 = .ok (.iconst 1, 1) := by decide +kernel
theorem dX5_readOrder_99 : decode cX5_readOrder 99 = .ok (.iload_n 3, 1) := by decide +kernel
theorem dX5_readOrder_100 : decode cX5_readOrder 100 = .ok (.ishl, 1) := by decide +kernel
theorem dX5_readOrder_101 : decode cX5_readOrder 101 = .ok (.iconst 1, 1) := by decide +kernel
theorem dX5_readOrder_102 : decode cX5_readOrder 102 = .ok (.isub, 1) := by decide +kernel
theorem dX5_readOrder_103 : decode cX5_readOrder 103 = .ok (.if_icmp .ne 7, 3) := by decide +kernel
theorem dX5_readOrder_106 : decode cX5_readOrder 106 = .ok (.iload_n 3, 1) := by decide +kernel
theorem dX5_readOrder_107 : decode cX5_readOrder 107 = .ok (.goto 4, 3) := by decide +kernel
theorem dX5_readOrder_110 : decode cX5_readOrder 110 = .ok (.iconst 0, 1) := by decide +kernel
theorem dX5_readOrder_111 : decode cX5_readOrder 111 = .ok (.ireturn, 1) := by decide +kernel
def f_X5_readOrder_52  (k52 : Int32 × Int32 × Int32 × Int32 × zHp → Option (Int32 × zHp)) (v3 : Int32) (v4 : Int32) (v5 : Int32) (v6 : Int32) (h : zHp) : Option (Int32 × zHp) := (if v6 < 0 then (if v5 = (((1 : Int32) <<< (v3 &&& 31)) - (1 : Int32)) then some (v3, h) else some ((0 : Int32), h)) else zix v6 10 (zlt (zst h 162 v6.toNatClampNeg (v4 - v4 / (10 : Int32) * (10 : Int32))) fun h1 => zix v6 10 (zlt (v5 ||| ((1 : Int32) <<< ((h1 162 v6.toNatClampNeg) &&& 31))) fun x2 => zlt (v4 / (10 : Int32)) fun x3 => k52 (v3, x3, x2, (v6 + (-1 : Int32)), h1))))
set_option maxHeartbeats 4000000 in
set_option maxRecDepth 100000 in
theorem f_X5_readOrder_52_s  (k52 : Int32 × Int32 × Int32 × Int32 × zHp → Option (Int32 × zHp)) (H52 : ∀ v : Int32 × Int32 × Int32 × Int32 × zHp, Sim wX mX5_readOrder 0 rI 52 [(0, .ref 161), (3, .int v.1), (4, .int v.2.1), (5, .int v.2.2.1), (6, .int v.2.2.2.1)] [] v.2.2.2.2 (k52 v)) (v3 : Int32) (v4 : Int32) (v5 : Int32) (v6 : Int32) (h : zHp) : Sim wX mX5_readOrder 0 rI 52 [(0, .ref 161), (3, .int v3), (4, .int v4), (5, .int v5), (6, .int v6)] [] h (f_X5_readOrder_52 k52 v3 v4 v5 v6 h) := by
  unfold f_X5_readOrder_52
  refine Sim.iload 4 dX5_readOrder_52 rfl ?_
  refine Sim.if_lt 96 dX5_readOrder_54 rfl ?_ ?_
  · refine Sim.iload 3 dX5_readOrder_96 rfl ?_
    refine Sim.iconst (v := (1 : Int32)) dX5_readOrder_98 rfl ?_
    refine Sim.iload_n 1 dX5_readOrder_99 rfl ?_
    refine Sim.ishl dX5_readOrder_100 ?_
    refine Sim.iconst (v := (1 : Int32)) dX5_readOrder_101 rfl ?_
    refine Sim.isub dX5_readOrder_102 ?_
    refine Sim.icmp_ne 110 dX5_readOrder_103 rfl ?_ ?_
    · refine Sim.iload_n 1 dX5_readOrder_106 rfl ?_
      refine Sim.goto 111 dX5_readOrder_107 rfl ?_
      exact Sim.iret dX5_readOrder_111 rfl
    · refine Sim.iconst (v := (0 : Int32)) dX5_readOrder_110 rfl ?_
      exact Sim.iret dX5_readOrder_111 rfl
  · refine Sim.aload_n 0 dX5_readOrder_57 rfl ?_
    refine Sim.getR (j := 162) fl_X5_9 dX5_readOrder_58 xR_161_1 ?_
    refine Sim.iload 4 dX5_readOrder_61 rfl ?_
    refine Sim.iload 2 dX5_readOrder_63 rfl ?_
    refine Sim.bipush (v := (10 : Int32)) dX5_readOrder_65 rfl ?_
    refine Sim.iremL dX5_readOrder_67 (by decide) ?_
    refine Sim.iast (n := 10) dX5_readOrder_68 xA_162 ?_
    refine Sim.lth (fun h1 => ?_)
    refine Sim.iload 3 dX5_readOrder_69 rfl ?_
    refine Sim.iconst (v := (1 : Int32)) dX5_readOrder_71 rfl ?_
    refine Sim.aload_n 0 dX5_readOrder_72 rfl ?_
    refine Sim.getR (j := 162) fl_X5_9 dX5_readOrder_73 xR_161_1 ?_
    refine Sim.iload 4 dX5_readOrder_76 rfl ?_
    refine Sim.iald (n := 10) dX5_readOrder_78 xA_162 ?_
    refine Sim.ishl dX5_readOrder_79 ?_
    refine Sim.ior dX5_readOrder_80 ?_
    refine Sim.lti (fun x2 => ?_)
    refine Sim.istore (L' := [(5, .int x2), (0, .ref 161), (3, .int v3), (4, .int v4), (6, .int v6)]) dX5_readOrder_81 (Nat.le_of_ble_eq_true rfl) rfl ?_
    refine Sim.iload 3 dX5_readOrder_83 rfl ?_
    refine Sim.bipush (v := (10 : Int32)) dX5_readOrder_85 rfl ?_
    refine Sim.idivL dX5_readOrder_87 (by decide) ?_
    refine Sim.lti (fun x3 => ?_)
    refine Sim.istore (L' := [(4, .int x3), (5, .int x2), (0, .ref 161), (3, .int v3), (6, .int v6)]) dX5_readOrder_88 (Nat.le_of_ble_eq_true rfl) rfl ?_
    refine Sim.iinc (L' := [(6, .int (v6 + (-1 : Int32))), (4, .int x3), (5, .int x2), (0, .ref 161), (3, .int v3)]) 4 dX5_readOrder_90 rfl rfl (Nat.le_of_ble_eq_true rfl) rfl ?_
    refine Sim.goto 52 dX5_readOrder_93 rfl ?_
    refine Sim.locs [3, 4, 1, 2, 0] rfl ?_
    exact H52 (v3, x3, x2, (v6 + (-1 : Int32)), h1)
def f_X5_readOrder_52_lp   (n : Nat) (v : Int32 × Int32 × Int32 × Int32 × zHp) : Option (Int32 × zHp) := zlp (fun k52 v => f_X5_readOrder_52 k52 v.1 v.2.1 v.2.2.1 v.2.2.2.1 v.2.2.2.2) n v
theorem f_X5_readOrder_52_ls  (n : Nat) (v : Int32 × Int32 × Int32 × Int32 × zHp) : Sim wX mX5_readOrder 0 rI 52 [(0, .ref 161), (3, .int v.1), (4, .int v.2.1), (5, .int v.2.2.1), (6, .int v.2.2.2.1)] [] v.2.2.2.2 (f_X5_readOrder_52_lp n v) :=
  Sim.lp (V := Int32 × Int32 × Int32 × Int32 × zHp) (Lf := fun v => [(0, .ref 161), (3, .int v.1), (4, .int v.2.1), (5, .int v.2.2.1), (6, .int v.2.2.2.1)]) (sf := fun v => []) (hf := fun v => v.2.2.2.2) (fun k52 H52 v => f_X5_readOrder_52_s k52 H52 v.1 v.2.1 v.2.2.1 v.2.2.2.1 v.2.2.2.2) n v
def f_X5_readOrder_30   (v1 : Int32) (v2 : Int32) (v3 : Int32) (h : zHp) : Option (Int32 × zHp) := zdz v2 ((if (v1 / v2) = (1 : Int32) then zlt (v1 - v2) fun x1 => zlt (v3 - (1 : Int32)) fun x2 => f_X5_readOrder_52_lp  zN (v3, x1, (0 : Int32), x2, h) else some ((0 : Int32), h)))
set_option maxHeartbeats 4000000 in
set_option maxRecDepth 100000 in
theorem f_X5_readOrder_30_s  (v1 : Int32) (v2 : Int32) (v3 : Int32) (h : zHp) : Sim wX mX5_readOrder 0 rI 30 [(0, .ref 161), (1, .int v1), (2, .int v2), (3, .int v3)] [] h (f_X5_readOrder_30 v1 v2 v3 h) := by
  unfold f_X5_readOrder_30
  refine Sim.iload_n 1 dX5_readOrder_30 rfl ?_
  refine Sim.iload_n 2 dX5_readOrder_31 rfl ?_
  refine Sim.idiv dX5_readOrder_32 ?_
  refine Sim.iconst (v := (1 : Int32)) dX5_readOrder_33 rfl ?_
  refine Sim.icmp_eq 39 dX5_readOrder_34 rfl ?_ ?_
  · refine Sim.iload_n 1 dX5_readOrder_39 rfl ?_
    refine Sim.iload_n 2 dX5_readOrder_40 rfl ?_
    refine Sim.isub dX5_readOrder_41 ?_
    refine Sim.lti (fun x1 => ?_)
    refine Sim.istore (L' := [(4, .int x1), (0, .ref 161), (1, .int v1), (2, .int v2), (3, .int v3)]) dX5_readOrder_42 (Nat.le_of_ble_eq_true rfl) rfl ?_
    refine Sim.iconst (v := (0 : Int32)) dX5_readOrder_44 rfl ?_
    refine Sim.istore (L' := [(5, .int (0 : Int32)), (4, .int x1), (0, .ref 161), (1, .int v1), (2, .int v2), (3, .int v3)]) dX5_readOrder_45 (Nat.le_of_ble_eq_true rfl) rfl ?_
    refine Sim.iload_n 5 dX5_readOrder_47 rfl ?_
    refine Sim.iconst (v := (1 : Int32)) dX5_readOrder_48 rfl ?_
    refine Sim.isub dX5_readOrder_49 ?_
    refine Sim.lti (fun x2 => ?_)
    refine Sim.istore (L' := [(6, .int x2), (5, .int (0 : Int32)), (4, .int x1), (0, .ref 161), (1, .int v1), (2, .int v2), (3, .int v3)]) dX5_readOrder_50 (Nat.le_of_ble_eq_true rfl) rfl ?_
    refine Sim.locs [3, 6, 2, 1, 0] rfl ?_
    exact f_X5_readOrder_52_ls  zN (v3, x1, (0 : Int32), x2, h)
  · refine Sim.iconst (v := (0 : Int32)) dX5_readOrder_37 rfl ?_
    exact Sim.iret dX5_readOrder_38 rfl
def f_X5_readOrder_5  (k5 : Int32 × Int32 × Int32 × zHp → Option (Int32 × zHp)) (v1 : Int32) (v2 : Int32) (v3 : Int32) (h : zHp) : Option (Int32 × zHp) := (if v3 < (8 : Int32) then zdz v2 ((if (v1 / v2) < (10 : Int32) then f_X5_readOrder_30 v1 v2 v3 h else zlt (v2 * (10 : Int32)) fun x1 => k5 (v1, x1, (v3 + (1 : Int32)), h))) else f_X5_readOrder_30 v1 v2 v3 h)
set_option maxHeartbeats 4000000 in
set_option maxRecDepth 100000 in
theorem f_X5_readOrder_5_s  (k5 : Int32 × Int32 × Int32 × zHp → Option (Int32 × zHp)) (H5 : ∀ v : Int32 × Int32 × Int32 × zHp, Sim wX mX5_readOrder 0 rI 5 [(0, .ref 161), (1, .int v.1), (2, .int v.2.1), (3, .int v.2.2.1)] [] v.2.2.2 (k5 v)) (v1 : Int32) (v2 : Int32) (v3 : Int32) (h : zHp) : Sim wX mX5_readOrder 0 rI 5 [(0, .ref 161), (1, .int v1), (2, .int v2), (3, .int v3)] [] h (f_X5_readOrder_5 k5 v1 v2 v3 h) := by
  unfold f_X5_readOrder_5
  refine Sim.iload_n 3 dX5_readOrder_5 rfl ?_
  refine Sim.bipush (v := (8 : Int32)) dX5_readOrder_6 rfl ?_
  refine Sim.icmp_ge 30 dX5_readOrder_8 rfl ?_ ?_
  · refine Sim.iload_n 1 dX5_readOrder_11 rfl ?_
    refine Sim.iload_n 2 dX5_readOrder_12 rfl ?_
    refine Sim.idiv dX5_readOrder_13 ?_
    refine Sim.bipush (v := (10 : Int32)) dX5_readOrder_14 rfl ?_
    refine Sim.icmp_lt 30 dX5_readOrder_16 rfl ?_ ?_
    · exact f_X5_readOrder_30_s v1 v2 v3 h
    · refine Sim.iload_n 2 dX5_readOrder_19 rfl ?_
      refine Sim.bipush (v := (10 : Int32)) dX5_readOrder_20 rfl ?_
      refine Sim.imul dX5_readOrder_22 ?_
      refine Sim.lti (fun x1 => ?_)
      refine Sim.istore_n (L' := [(2, .int x1), (0, .ref 161), (1, .int v1), (3, .int v3)]) dX5_readOrder_23 (Nat.le_of_ble_eq_true rfl) rfl ?_
      refine Sim.iinc (L' := [(3, .int (v3 + (1 : Int32))), (2, .int x1), (0, .ref 161), (1, .int v1)]) 3 dX5_readOrder_24 rfl rfl (Nat.le_of_ble_eq_true rfl) rfl ?_
      refine Sim.goto 5 dX5_readOrder_27 rfl ?_
      refine Sim.locs [2, 3, 1, 0] rfl ?_
      exact H5 (v1, x1, (v3 + (1 : Int32)), h)
  · exact f_X5_readOrder_30_s v1 v2 v3 h
def f_X5_readOrder_5_lp   (n : Nat) (v : Int32 × Int32 × Int32 × zHp) : Option (Int32 × zHp) := zlp (fun k5 v => f_X5_readOrder_5 k5 v.1 v.2.1 v.2.2.1 v.2.2.2) n v
theorem f_X5_readOrder_5_ls  (n : Nat) (v : Int32 × Int32 × Int32 × zHp) : Sim wX mX5_readOrder 0 rI 5 [(0, .ref 161), (1, .int v.1), (2, .int v.2.1), (3, .int v.2.2.1)] [] v.2.2.2 (f_X5_readOrder_5_lp n v) :=
  Sim.lp (V := Int32 × Int32 × Int32 × zHp) (Lf := fun v => [(0, .ref 161), (1, .int v.1), (2, .int v.2.1), (3, .int v.2.2.1)]) (sf := fun v => []) (hf := fun v => v.2.2.2) (fun k5 H5 v => f_X5_readOrder_5_s k5 H5 v.1 v.2.1 v.2.2.1 v.2.2.2) n v
def f_X5_readOrder  (a1 : Int32) (h : zHp) : Option (Int32 × zHp) := f_X5_readOrder_5_lp  zN (a1, (10 : Int32), (1 : Int32), h)
set_option maxHeartbeats 4000000 in
set_option maxRecDepth 100000 in
theorem s_X5_readOrder  (a1 : Int32) (h : zHp) : Fn wX mX5_readOrder 0 rI [.ref 161, .int a1] h (f_X5_readOrder a1 h) := by
  refine Fn.of rfl (Nat.le_of_ble_eq_true rfl) ?_
  unfold f_X5_readOrder
  refine Sim.bipush (v := (10 : Int32)) dX5_readOrder_0 rfl ?_
  refine Sim.istore_n (L' := [(2, .int (10 : Int32)), (0, .ref 161), (1, .int a1)]) dX5_readOrder_2 (Nat.le_of_ble_eq_true rfl) rfl ?_
  refine Sim.iconst (v := (1 : Int32)) dX5_readOrder_3 rfl ?_
  refine Sim.istore_n (L' := [(3, .int (1 : Int32)), (2, .int (10 : Int32)), (0, .ref 161), (1, .int a1)]) dX5_readOrder_4 (Nat.le_of_ble_eq_true rfl) rfl ?_
  refine Sim.locs [2, 3, 1, 0] rfl ?_
  exact f_X5_readOrder_5_ls  zN (a1, (10 : Int32), (1 : Int32), h)
theorem mv_X5_readOrder : zMV mX5_readOrder 1 := ⟨⟨zTb_in 1142 (by decide +kernel) rfl, zTb_in 147 (by decide +kernel) rfl, ⟨by decide +kernel, by decide +kernel⟩, by decide +kernel⟩, zTb_in 1140 (by decide +kernel) rfl, zTb_in 1141 (by decide +kernel) rfl⟩
-- ===== RockingPorch$Puzzles.letsOut(I)I
abbrev mX5_letsOut : zMt := (yX5_letsOut, cX5_letsOut, 5, some .int)
theorem fl_X5_15 : zF RX5 15 5 2 := ⟨RX5, TX5, 5, rfl, Nat.le_of_ble_eq_true rfl, zTb_in 499 (by decide +kernel) rfl, in_X5⟩
theorem dX5_letsOut_0 : decode cX5_letsOut 0 = .ok (.iconst 0, 1) := by decide +kernel
theorem dX5_letsOut_1 : decode cX5_letsOut 1 = .ok (.istore_n 2, 1) := by decide +kernel
theorem dX5_letsOut_2 : decode cX5_letsOut 2 = .ok (.iconst 0, 1) := by decide +kernel
theorem dX5_letsOut_3 : decode cX5_letsOut 3 = .ok (.istore_n 3, 1) := by decide +kernel
theorem dX5_letsOut_4 : decode cX5_letsOut 4 = .ok (.iconst 0, 1) := by decide +kernel
theorem dX5_letsOut_5 : decode cX5_letsOut 5 = .ok (.istore 4, 2) := by decide +kernel
theorem dX5_letsOut_7 : decode cX5_letsOut 7 = .ok (.iload 4, 2) := by decide +kernel
theorem dX5_letsOut_9 : decode cX5_letsOut 9 = .ok (.iload_n 1, 1) := by decide +kernel
theorem dX5_letsOut_10 : decode cX5_letsOut 10 = .ok (.if_icmp .ge 76, 3) := by decide +kernel
theorem dX5_letsOut_13 : decode cX5_letsOut 13 = .ok (.iload 4, 2) := by decide +kernel
theorem dX5_letsOut_15 : decode cX5_letsOut 15 = .ok (.bipush 10, 2) := by decide +kernel
theorem dX5_letsOut_17 : decode cX5_letsOut 17 = .ok (.if_icmp .ge 69, 3) := by decide +kernel
theorem dX5_letsOut_20 : decode cX5_letsOut 20 = .ok (.iload_n 2, 1) := by decide +kernel
theorem dX5_letsOut_21 : decode cX5_letsOut 21 = .ok (.aload_n 0, 1) := by decide +kernel
theorem dX5_letsOut_22 : decode cX5_letsOut 22 = .ok (.getfield 9, 3) := by decide +kernel
theorem dX5_letsOut_25 : decode cX5_letsOut 25 = .ok (.iload 4, 2) := by decide +kernel
theorem dX5_letsOut_27 : decode cX5_letsOut 27 = .ok (.iaload, 1) := by decide +kernel
theorem dX5_letsOut_28 : decode cX5_letsOut 28 = .ok (.if_icmp .gt 25, 3) := by decide +kernel
theorem dX5_letsOut_31 : decode cX5_letsOut 31 = .ok (.iload_n 3, 1) := by decide +kernel
theorem dX5_letsOut_32 : decode cX5_letsOut 32 = .ok (.bipush 10, 2) := by decide +kernel
theorem dX5_letsOut_34 : decode cX5_letsOut 34 = .ok (.if_icmp .ge 19, 3) := by decide +kernel
theorem dX5_letsOut_37 : decode cX5_letsOut 37 = .ok (.aload_n 0, 1) := by decide +kernel
theorem dX5_letsOut_38 : decode cX5_letsOut 38 = .ok (.getfield 15, 3) := by decide +kernel
theorem dX5_letsOut_41 : decode cX5_letsOut 41 = .ok (.iload_n 3, 1) := by decide +kernel
theorem dX5_letsOut_42 : decode cX5_letsOut 42 = .ok (.iload_n 2, 1) := by decide +kernel
theorem dX5_letsOut_43 : decode cX5_letsOut 43 = .ok (.iastore, 1) := by decide +kernel
theorem dX5_letsOut_44 : decode cX5_letsOut 44 = .ok (.iinc 3 1, 3) := by decide +kernel
theorem dX5_letsOut_47 : decode cX5_letsOut 47 = .ok (.iinc 2 1, 3) := by decide +kernel
theorem dX5_letsOut_50 : decode cX5_letsOut 50 = .ok (.goto (-30), 3) := by decide +kernel
theorem dX5_letsOut_53 : decode cX5_letsOut 53 = .ok (.iload_n 3, 1) := by decide +kernel
theorem dX5_letsOut_54 : decode cX5_letsOut 54 = .ok (.ifCond .eq 21, 3) := by decide +kernel
theorem dX5_letsOut_57 : decode cX5_letsOut 57 = .ok (.aload_n 0, 1) := by decide +kernel
theorem dX5_letsOut_58 : decode cX5_letsOut 58 = .ok (.getfield 15, 3) := by decide +kernel
theorem dX5_letsOut_61 : decode cX5_letsOut 61 = .ok (.iload_n 3, 1) := by decide +kernel
theorem dX5_letsOut_62 : decode cX5_letsOut 62 = .ok (.iconst 1, 1) := by decide +kernel
theorem dX5_letsOut_63 : decode cX5_letsOut 63 = .ok (.isub, 1) := by decide +kernel
theorem dX5_letsOut_64 : decode cX5_letsOut 64 = .ok (.iaload, 1) := by decide +kernel
theorem dX5_letsOut_65 : decode cX5_letsOut 65 = .ok (.aload_n 0, 1) := by decide +kernel
theorem dX5_letsOut_66 : decode cX5_letsOut 66 = .ok (.getfield 9, 3) := by decide +kernel
theorem dX5_letsOut_69 : decode cX5_letsOut 69 = .ok (.iload 4, 2) := by decide +kernel
theorem dX5_letsOut_71 : decode cX5_letsOut 71 = .ok (.iaload, 1) := by decide +kernel
theorem dX5_letsOut_72 : decode cX5_letsOut 72 = .ok (.if_icmp .eq 5, 3) := by decide +kernel
theorem dX5_letsOut_75 : decode cX5_letsOut 75 = .ok (.iconst 0, 1) := by decide +kernel
theorem dX5_letsOut_76 : decode cX5_letsOut 76 = .ok (.ireturn, 1) := by decide +kernel
theorem dX5_letsOut_77 : decode cX5_letsOut 77 = .ok (.iinc 3 (-1), 3) := by decide +kernel
theorem dX5_letsOut_80 : decode cX5_letsOut 80 = .ok (.iinc 4 1, 3) := by decide +kernel
theorem dX5_letsOut_83 : decode cX5_letsOut 83 = .ok (.goto (-76), 3) := by decide +kernel
theorem dX5_letsOut_86 : decode cX5_letsOut 86 = .ok (.iconst 1, 1) := by decide +kernel
theorem dX5_letsOut_87 : decode cX5_letsOut 87 = .ok (.ireturn, 1) := by decide +kernel
def f_X5_letsOut_53  (k7 : Int32 × Int32 × Int32 × Int32 × zHp → Option (Int32 × zHp)) (v1 : Int32) (v2 : Int32) (v3 : Int32) (v4 : Int32) (h : zHp) : Option (Int32 × zHp) := (if v3 = 0 then some ((0 : Int32), h) else zix (v3 - (1 : Int32)) 10 (zix v4 10 ((if (h 163 (v3 - (1 : Int32)).toNatClampNeg) = (h 162 v4.toNatClampNeg) then k7 (v1, v2, (v3 + (-1 : Int32)), (v4 + (1 : Int32)), h) else some ((0 : Int32), h)))))
set_option maxHeartbeats 4000000 in
set_option maxRecDepth 100000 in
theorem f_X5_letsOut_53_s  (k7 : Int32 × Int32 × Int32 × Int32 × zHp → Option (Int32 × zHp)) (H7 : ∀ v : Int32 × Int32 × Int32 × Int32 × zHp, Sim wX mX5_letsOut 0 rI 7 [(0, .ref 161), (1, .int v.1), (2, .int v.2.1), (3, .int v.2.2.1), (4, .int v.2.2.2.1)] [] v.2.2.2.2 (k7 v)) (v1 : Int32) (v2 : Int32) (v3 : Int32) (v4 : Int32) (h : zHp) : Sim wX mX5_letsOut 0 rI 53 [(0, .ref 161), (1, .int v1), (2, .int v2), (3, .int v3), (4, .int v4)] [] h (f_X5_letsOut_53 k7 v1 v2 v3 v4 h) := by
  unfold f_X5_letsOut_53
  refine Sim.iload_n 3 dX5_letsOut_53 rfl ?_
  refine Sim.if_eq 75 dX5_letsOut_54 rfl ?_ ?_
  · refine Sim.iconst (v := (0 : Int32)) dX5_letsOut_75 rfl ?_
    exact Sim.iret dX5_letsOut_76 rfl
  · refine Sim.aload_n 0 dX5_letsOut_57 rfl ?_
    refine Sim.getR (j := 163) fl_X5_15 dX5_letsOut_58 xR_161_2 ?_
    refine Sim.iload_n 3 dX5_letsOut_61 rfl ?_
    refine Sim.iconst (v := (1 : Int32)) dX5_letsOut_62 rfl ?_
    refine Sim.isub dX5_letsOut_63 ?_
    refine Sim.iald (n := 10) dX5_letsOut_64 xA_163 ?_
    refine Sim.aload_n 0 dX5_letsOut_65 rfl ?_
    refine Sim.getR (j := 162) fl_X5_9 dX5_letsOut_66 xR_161_1 ?_
    refine Sim.iload 4 dX5_letsOut_69 rfl ?_
    refine Sim.iald (n := 10) dX5_letsOut_71 xA_162 ?_
    refine Sim.icmp_eq 77 dX5_letsOut_72 rfl ?_ ?_
    · refine Sim.iinc (L' := [(3, .int (v3 + (-1 : Int32))), (0, .ref 161), (1, .int v1), (2, .int v2), (4, .int v4)]) 3 dX5_letsOut_77 rfl rfl (Nat.le_of_ble_eq_true rfl) rfl ?_
      refine Sim.iinc (L' := [(4, .int (v4 + (1 : Int32))), (3, .int (v3 + (-1 : Int32))), (0, .ref 161), (1, .int v1), (2, .int v2)]) 4 dX5_letsOut_80 rfl rfl (Nat.le_of_ble_eq_true rfl) rfl ?_
      refine Sim.goto 7 dX5_letsOut_83 rfl ?_
      refine Sim.locs [2, 3, 4, 1, 0] rfl ?_
      exact H7 (v1, v2, (v3 + (-1 : Int32)), (v4 + (1 : Int32)), h)
    · refine Sim.iconst (v := (0 : Int32)) dX5_letsOut_75 rfl ?_
      exact Sim.iret dX5_letsOut_76 rfl
def f_X5_letsOut_20  (k7 : Int32 × Int32 × Int32 × Int32 × zHp → Option (Int32 × zHp)) (k20 : Int32 × Int32 × Int32 × Int32 × zHp → Option (Int32 × zHp)) (v1 : Int32) (v2 : Int32) (v3 : Int32) (v4 : Int32) (h : zHp) : Option (Int32 × zHp) := zix v4 10 ((if (h 162 v4.toNatClampNeg) < v2 then f_X5_letsOut_53 k7 v1 v2 v3 v4 h else (if v3 < (10 : Int32) then zix v3 10 (zlt (zst h 163 v3.toNatClampNeg v2) fun h1 => k20 (v1, (v2 + (1 : Int32)), (v3 + (1 : Int32)), v4, h1)) else f_X5_letsOut_53 k7 v1 v2 v3 v4 h)))
set_option maxHeartbeats 4000000 in
set_option maxRecDepth 100000 in
theorem f_X5_letsOut_20_s  (k7 : Int32 × Int32 × Int32 × Int32 × zHp → Option (Int32 × zHp)) (H7 : ∀ v : Int32 × Int32 × Int32 × Int32 × zHp, Sim wX mX5_letsOut 0 rI 7 [(0, .ref 161), (1, .int v.1), (2, .int v.2.1), (3, .int v.2.2.1), (4, .int v.2.2.2.1)] [] v.2.2.2.2 (k7 v)) (k20 : Int32 × Int32 × Int32 × Int32 × zHp → Option (Int32 × zHp)) (H20 : ∀ v : Int32 × Int32 × Int32 × Int32 × zHp, Sim wX mX5_letsOut 0 rI 20 [(0, .ref 161), (1, .int v.1), (2, .int v.2.1), (3, .int v.2.2.1), (4, .int v.2.2.2.1)] [] v.2.2.2.2 (k20 v)) (v1 : Int32) (v2 : Int32) (v3 : Int32) (v4 : Int32) (h : zHp) : Sim wX mX5_letsOut 0 rI 20 [(0, .ref 161), (1, .int v1), (2, .int v2), (3, .int v3), (4, .int v4)] [] h (f_X5_letsOut_20 k7 k20 v1 v2 v3 v4 h) := by
  unfold f_X5_letsOut_20
  refine Sim.iload_n 2 dX5_letsOut_20 rfl ?_
  refine Sim.aload_n 0 dX5_letsOut_21 rfl ?_
  refine Sim.getR (j := 162) fl_X5_9 dX5_letsOut_22 xR_161_1 ?_
  refine Sim.iload 4 dX5_letsOut_25 rfl ?_
  refine Sim.iald (n := 10) dX5_letsOut_27 xA_162 ?_
  refine Sim.icmp_gt 53 dX5_letsOut_28 rfl ?_ ?_
  · exact f_X5_letsOut_53_s k7 H7 v1 v2 v3 v4 h
  · refine Sim.iload_n 3 dX5_letsOut_31 rfl ?_
    refine Sim.bipush (v := (10 : Int32)) dX5_letsOut_32 rfl ?_
    refine Sim.icmp_ge 53 dX5_letsOut_34 rfl ?_ ?_
    · refine Sim.aload_n 0 dX5_letsOut_37 rfl ?_
      refine Sim.getR (j := 163) fl_X5_15 dX5_letsOut_38 xR_161_2 ?_
      refine Sim.iload_n 3 dX5_letsOut_41 rfl ?_
      refine Sim.iload_n 2 dX5_letsOut_42 rfl ?_
      refine Sim.iast (n := 10) dX5_letsOut_43 xA_163 ?_
      refine Sim.lth (fun h1 => ?_)
      refine Sim.iinc (L' := [(3, .int (v3 + (1 : Int32))), (0, .ref 161), (1, .int v1), (2, .int v2), (4, .int v4)]) 3 dX5_letsOut_44 rfl rfl (Nat.le_of_ble_eq_true rfl) rfl ?_
      refine Sim.iinc (L' := [(2, .int (v2 + (1 : Int32))), (3, .int (v3 + (1 : Int32))), (0, .ref 161), (1, .int v1), (4, .int v4)]) 3 dX5_letsOut_47 rfl rfl (Nat.le_of_ble_eq_true rfl) rfl ?_
      refine Sim.goto 20 dX5_letsOut_50 rfl ?_
      refine Sim.locs [2, 3, 0, 1, 4] rfl ?_
      exact H20 (v1, (v2 + (1 : Int32)), (v3 + (1 : Int32)), v4, h1)
    · exact f_X5_letsOut_53_s k7 H7 v1 v2 v3 v4 h
def f_X5_letsOut_20_lp  (k7 : Int32 × Int32 × Int32 × Int32 × zHp → Option (Int32 × zHp)) (n : Nat) (v : Int32 × Int32 × Int32 × Int32 × zHp) : Option (Int32 × zHp) := zlp (fun k20 v => f_X5_letsOut_20 k7 k20 v.1 v.2.1 v.2.2.1 v.2.2.2.1 v.2.2.2.2) n v
theorem f_X5_letsOut_20_ls  (k7 : Int32 × Int32 × Int32 × Int32 × zHp → Option (Int32 × zHp)) (H7 : ∀ v : Int32 × Int32 × Int32 × Int32 × zHp, Sim wX mX5_letsOut 0 rI 7 [(0, .ref 161), (1, .int v.1), (2, .int v.2.1), (3, .int v.2.2.1), (4, .int v.2.2.2.1)] [] v.2.2.2.2 (k7 v)) (n : Nat) (v : Int32 × Int32 × Int32 × Int32 × zHp) : Sim wX mX5_letsOut 0 rI 20 [(0, .ref 161), (1, .int v.1), (2, .int v.2.1), (3, .int v.2.2.1), (4, .int v.2.2.2.1)] [] v.2.2.2.2 (f_X5_letsOut_20_lp k7 n v) :=
  Sim.lp (V := Int32 × Int32 × Int32 × Int32 × zHp) (Lf := fun v => [(0, .ref 161), (1, .int v.1), (2, .int v.2.1), (3, .int v.2.2.1), (4, .int v.2.2.2.1)]) (sf := fun v => []) (hf := fun v => v.2.2.2.2) (fun k20 H20 v => f_X5_letsOut_20_s k7 H7 k20 H20 v.1 v.2.1 v.2.2.1 v.2.2.2.1 v.2.2.2.2) n v
def f_X5_letsOut_7  (k7 : Int32 × Int32 × Int32 × Int32 × zHp → Option (Int32 × zHp)) (v1 : Int32) (v2 : Int32) (v3 : Int32) (v4 : Int32) (h : zHp) : Option (Int32 × zHp) := (if v4 < v1 then (if v4 < (10 : Int32) then f_X5_letsOut_20_lp k7 zN (v1, v2, v3, v4, h) else some ((1 : Int32), h)) else some ((1 : Int32), h))
set_option maxHeartbeats 4000000 in
set_option maxRecDepth 100000 in
theorem f_X5_letsOut_7_s  (k7 : Int32 × Int32 × Int32 × Int32 × zHp → Option (Int32 × zHp)) (H7 : ∀ v : Int32 × Int32 × Int32 × Int32 × zHp, Sim wX mX5_letsOut 0 rI 7 [(0, .ref 161), (1, .int v.1), (2, .int v.2.1), (3, .int v.2.2.1), (4, .int v.2.2.2.1)] [] v.2.2.2.2 (k7 v)) (v1 : Int32) (v2 : Int32) (v3 : Int32) (v4 : Int32) (h : zHp) : Sim wX mX5_letsOut 0 rI 7 [(0, .ref 161), (1, .int v1), (2, .int v2), (3, .int v3), (4, .int v4)] [] h (f_X5_letsOut_7 k7 v1 v2 v3 v4 h) := by
  unfold f_X5_letsOut_7
  refine Sim.iload 4 dX5_letsOut_7 rfl ?_
  refine Sim.iload_n 1 dX5_letsOut_9 rfl ?_
  refine Sim.icmp_ge 86 dX5_letsOut_10 rfl ?_ ?_
  · refine Sim.iload 4 dX5_letsOut_13 rfl ?_
    refine Sim.bipush (v := (10 : Int32)) dX5_letsOut_15 rfl ?_
    refine Sim.icmp_ge 86 dX5_letsOut_17 rfl ?_ ?_
    · exact f_X5_letsOut_20_ls k7 H7 zN (v1, v2, v3, v4, h)
    · refine Sim.iconst (v := (1 : Int32)) dX5_letsOut_86 rfl ?_
      exact Sim.iret dX5_letsOut_87 rfl
  · refine Sim.iconst (v := (1 : Int32)) dX5_letsOut_86 rfl ?_
    exact Sim.iret dX5_letsOut_87 rfl
def f_X5_letsOut_7_lp   (n : Nat) (v : Int32 × Int32 × Int32 × Int32 × zHp) : Option (Int32 × zHp) := zlp (fun k7 v => f_X5_letsOut_7 k7 v.1 v.2.1 v.2.2.1 v.2.2.2.1 v.2.2.2.2) n v
theorem f_X5_letsOut_7_ls  (n : Nat) (v : Int32 × Int32 × Int32 × Int32 × zHp) : Sim wX mX5_letsOut 0 rI 7 [(0, .ref 161), (1, .int v.1), (2, .int v.2.1), (3, .int v.2.2.1), (4, .int v.2.2.2.1)] [] v.2.2.2.2 (f_X5_letsOut_7_lp n v) :=
  Sim.lp (V := Int32 × Int32 × Int32 × Int32 × zHp) (Lf := fun v => [(0, .ref 161), (1, .int v.1), (2, .int v.2.1), (3, .int v.2.2.1), (4, .int v.2.2.2.1)]) (sf := fun v => []) (hf := fun v => v.2.2.2.2) (fun k7 H7 v => f_X5_letsOut_7_s k7 H7 v.1 v.2.1 v.2.2.1 v.2.2.2.1 v.2.2.2.2) n v
def f_X5_letsOut  (a1 : Int32) (h : zHp) : Option (Int32 × zHp) := f_X5_letsOut_7_lp  zN (a1, (0 : Int32), (0 : Int32), (0 : Int32), h)
set_option maxHeartbeats 4000000 in
set_option maxRecDepth 100000 in
theorem s_X5_letsOut  (a1 : Int32) (h : zHp) : Fn wX mX5_letsOut 0 rI [.ref 161, .int a1] h (f_X5_letsOut a1 h) := by
  refine Fn.of rfl (Nat.le_of_ble_eq_true rfl) ?_
  unfold f_X5_letsOut
  refine Sim.iconst (v := (0 : Int32)) dX5_letsOut_0 rfl ?_
  refine Sim.istore_n (L' := [(2, .int (0 : Int32)), (0, .ref 161), (1, .int a1)]) dX5_letsOut_1 (Nat.le_of_ble_eq_true rfl) rfl ?_
  refine Sim.iconst (v := (0 : Int32)) dX5_letsOut_2 rfl ?_
  refine Sim.istore_n (L' := [(3, .int (0 : Int32)), (2, .int (0 : Int32)), (0, .ref 161), (1, .int a1)]) dX5_letsOut_3 (Nat.le_of_ble_eq_true rfl) rfl ?_
  refine Sim.iconst (v := (0 : Int32)) dX5_letsOut_4 rfl ?_
  refine Sim.istore (L' := [(4, .int (0 : Int32)), (3, .int (0 : Int32)), (2, .int (0 : Int32)), (0, .ref 161), (1, .int a1)]) dX5_letsOut_5 (Nat.le_of_ble_eq_true rfl) rfl ?_
  refine Sim.locs [3, 4, 2, 1, 0] rfl ?_
  exact f_X5_letsOut_7_ls  zN (a1, (0 : Int32), (0 : Int32), (0 : Int32), h)
theorem mv_X5_letsOut : zMV mX5_letsOut 1 := ⟨⟨zTb_in 1146 (by decide +kernel) rfl, zTb_in 147 (by decide +kernel) rfl, ⟨by decide +kernel, by decide +kernel⟩, by decide +kernel⟩, zTb_in 1144 (by decide +kernel) rfl, zTb_in 1145 (by decide +kernel) rfl⟩
-- ===== RockingPorch$Puzzles.tracks(I)I
abbrev mX5_tracks : zMt := (yX5_tracks, cX5_tracks, 5, some .int)
theorem dX5_tracks_0 : decode cX5_tracks 0 = .ok (.iconst 0, 1) := by decide +kernel
theorem dX5_tracks_1 : decode cX5_tracks 1 = .ok (.istore_n 2, 1) := by decide +kernel
theorem dX5_tracks_2 : decode cX5_tracks 2 = .ok (.iconst 0, 1) := by decide +kernel
theorem dX5_tracks_3 : decode cX5_tracks 3 = .ok (.istore_n 3, 1) := by decide +kernel
theorem dX5_tracks_4 : decode cX5_tracks 4 = .ok (.iload_n 3, 1) := by decide +kernel
theorem dX5_tracks_5 : decode cX5_tracks 5 = .ok (.iload_n 1, 1) := by decide +kernel
theorem dX5_tracks_6 : decode cX5_tracks 6 = .ok (.if_icmp .ge 88, 3) := by decide +kernel
theorem dX5_tracks_9 : decode cX5_tracks 9 = .ok (.iload_n 3, 1) := by decide +kernel
theorem dX5_tracks_10 : decode cX5_tracks 10 = .ok (.bipush 10, 2) := by decide +kernel
theorem dX5_tracks_12 : decode cX5_tracks 12 = .ok (.if_icmp .ge 82, 3) := by decide +kernel
theorem dX5_tracks_15 : decode cX5_tracks 15 = .ok (.aload_n 0, 1) := by decide +kernel
theorem dX5_tracks_16 : decode cX5_tracks 16 = .ok (.getfield 15, 3) := by decide +kernel
theorem dX5_tracks_19 : decode cX5_tracks 19 = .ok (.iload_n 3, 1) := by decide +kernel
theorem dX5_tracks_20 : decode cX5_tracks 20 = .ok (.iconst 1, 1) := by decide +kernel
theorem dX5_tracks_21 : decode cX5_tracks 21 = .ok (.iastore, 1) := by decide +kernel
theorem dX5_tracks_22 : decode cX5_tracks 22 = .ok (.iconst 0, 1) := by decide +kernel
theorem dX5_tracks_23 : decode cX5_tracks 23 = .ok (.istore 4, 2) := by decide +kernel
theorem dX5_tracks_25 : decode cX5_tracks 25 = .ok (.iload 4, 2) := by decide +kernel
theorem dX5_tracks_27 : decode cX5_tracks 27 = .ok (.iload_n 3, 1) := by decide +kernel
theorem dX5_tracks_28 : decode cX5_tracks 28 = .ok (.if_icmp .ge 49, 3) := by decide +kernel
theorem dX5_tracks_31 : decode cX5_tracks 31 = .ok (.aload_n 0, 1) := by decide +kernel
theorem dX5_tracks_32 : decode cX5_tracks 32 = .ok (.getfield 9, 3) := by decide +kernel
theorem dX5_tracks_35 : decode cX5_tracks 35 = .ok (.iload 4, 2) := by decide +kernel
theorem dX5_tracks_37 : decode cX5_tracks 37 = .ok (.iaload, 1) := by decide +kernel
theorem dX5_tracks_38 : decode cX5_tracks 38 = .ok (.aload_n 0, 1) := by decide +kernel
theorem dX5_tracks_39 : decode cX5_tracks 39 = .ok (.getfield 9, 3) := by decide +kernel
theorem dX5_tracks_42 : decode cX5_tracks 42 = .ok (.iload_n 3, 1) := by decide +kernel
theorem dX5_tracks_43 : decode cX5_tracks 43 = .ok (.iaload, 1) := by decide +kernel
theorem dX5_tracks_44 : decode cX5_tracks 44 = .ok (.if_icmp .le 27, 3) := by decide +kernel
theorem dX5_tracks_47 : decode cX5_tracks 47 = .ok (.aload_n 0, 1) := by decide +kernel
theorem dX5_tracks_48 : decode cX5_tracks 48 = .ok (.getfield 15, 3) := by decide +kernel
theorem dX5_tracks_51 : decode cX5_tracks 51 = .ok (.iload_n 3, 1) := by decide +kernel
theorem dX5_tracks_52 : decode cX5_tracks 52 = .ok (.aload_n 0, 1) := by decide +kernel
theorem dX5_tracks_53 : decode cX5_tracks 53 = .ok (.getfield 15, 3) := by decide +kernel
theorem dX5_tracks_56 : decode cX5_tracks 56 = .ok (.iload_n 3, 1) := by decide +kernel
theorem dX5_tracks_57 : decode cX5_tracks 57 = .ok (.iaload, 1) := by decide +kernel
theorem dX5_tracks_58 : decode cX5_tracks 58 = .ok (.aload_n 0, 1) := by decide +kernel
theorem dX5_tracks_59 : decode cX5_tracks 59 = .ok (.getfield 15, 3) := by decide +kernel
theorem dX5_tracks_62 : decode cX5_tracks 62 = .ok (.iload 4, 2) := by decide +kernel
theorem dX5_tracks_64 : decode cX5_tracks 64 = .ok (.iaload, 1) := by decide +kernel
theorem dX5_tracks_65 : decode cX5_tracks 65 = .ok (.iconst 1, 1) := by decide +kernel
theorem dX5_tracks_66 : decode cX5_tracks 66 = .ok (.iadd, 1) := by decide +kernel
theorem dX5_tracks_67 : decode cX5_tracks 67 = .ok (.invokestatic 47, 3) := by decide +kernel
theorem dX5_tracks_70 : decode cX5_tracks 70 = .ok (.iastore, 1) := by decide +kernel
theorem dX5_tracks_71 : decode cX5_tracks 71 = .ok (.iinc 4 1, 3) := by decide +kernel
theorem dX5_tracks_74 : decode cX5_tracks 74 = .ok (.goto (-49), 3) := by decide +kernel
theorem dX5_tracks_77 : decode cX5_tracks 77 = .ok (.iload_n 2, 1) := by decide +kernel
theorem dX5_tracks_78 : decode cX5_tracks 78 = .ok (.aload_n 0, 1) := by decide +kernel
theorem dX5_tracks_79 : decode cX5_tracks 79 = .ok (.getfield 15, 3) := by decide +kernel
theorem dX5_tracks_82 : decode cX5_tracks 82 = .ok (.iload_n 3, 1) := by decide +kernel
theorem dX5_tracks_83 : decode cX5_tracks 83 = .ok (.iaload, 1) := by decide +kernel
theorem dX5_tracks_84 : decode cX5_tracks 84 = .ok (.invokestatic 47, 3) := by decide +kernel
theorem dX5_tracks_87 : decode cX5_tracks 87 = .ok (.istore_n 2, 1) := by decide +kernel
theorem dX5_tracks_88 : decode cX5_tracks 88 = .ok (.iinc 3 1, 3) := by decide +kernel
theorem dX5_tracks_91 : decode cX5_tracks 91 = .ok (.goto (-87), 3) := by decide +kernel
theorem dX5_tracks_94 : decode cX5_tracks 94 = .ok (.iload_n 2, 1) := by decide +kernel
theorem dX5_tracks_95 : decode cX5_tracks 95 = .ok (.ireturn, 1) := by decide +kernel
def f_X5_tracks_25  (k4 : Int32 × Int32 × Int32 × zHp → Option (Int32 × zHp)) (k25 : Int32 × Int32 × Int32 × Int32 × zHp → Option (Int32 × zHp)) (v1 : Int32) (v2 : Int32) (v3 : Int32) (v4 : Int32) (h : zHp) : Option (Int32 × zHp) := (if v4 < v3 then zix v4 10 (zix v3 10 ((if (h 162 v3.toNatClampNeg) < (h 162 v4.toNatClampNeg) then zix v3 10 (zix v4 10 (zix v3 10 (zlt (zst h 163 v3.toNatClampNeg (if (h 163 v3.toNatClampNeg) < ((h 163 v4.toNatClampNeg) + (1 : Int32)) then ((h 163 v4.toNatClampNeg) + (1 : Int32)) else (h 163 v3.toNatClampNeg))) fun h1 => k25 (v1, v2, v3, (v4 + (1 : Int32)), h1)))) else k25 (v1, v2, v3, (v4 + (1 : Int32)), h)))) else zix v3 10 (zlt (if v2 < (h 163 v3.toNatClampNeg) then (h 163 v3.toNatClampNeg) else v2) fun x2 => k4 (v1, x2, (v3 + (1 : Int32)), h)))
set_option maxHeartbeats 4000000 in
set_option maxRecDepth 100000 in
theorem f_X5_tracks_25_s  (k4 : Int32 × Int32 × Int32 × zHp → Option (Int32 × zHp)) (H4 : ∀ v : Int32 × Int32 × Int32 × zHp, Sim wX mX5_tracks 1 rI 4 [(0, .ref 161), (1, .int v.1), (2, .int v.2.1), (3, .int v.2.2.1)] [] v.2.2.2 (k4 v)) (k25 : Int32 × Int32 × Int32 × Int32 × zHp → Option (Int32 × zHp)) (H25 : ∀ v : Int32 × Int32 × Int32 × Int32 × zHp, Sim wX mX5_tracks 1 rI 25 [(0, .ref 161), (1, .int v.1), (2, .int v.2.1), (3, .int v.2.2.1), (4, .int v.2.2.2.1)] [] v.2.2.2.2 (k25 v)) (v1 : Int32) (v2 : Int32) (v3 : Int32) (v4 : Int32) (h : zHp) : Sim wX mX5_tracks 1 rI 25 [(0, .ref 161), (1, .int v1), (2, .int v2), (3, .int v3), (4, .int v4)] [] h (f_X5_tracks_25 k4 k25 v1 v2 v3 v4 h) := by
  unfold f_X5_tracks_25
  refine Sim.iload 4 dX5_tracks_25 rfl ?_
  refine Sim.iload_n 3 dX5_tracks_27 rfl ?_
  refine Sim.icmp_ge 77 dX5_tracks_28 rfl ?_ ?_
  · refine Sim.aload_n 0 dX5_tracks_31 rfl ?_
    refine Sim.getR (j := 162) fl_X5_9 dX5_tracks_32 xR_161_1 ?_
    refine Sim.iload 4 dX5_tracks_35 rfl ?_
    refine Sim.iald (n := 10) dX5_tracks_37 xA_162 ?_
    refine Sim.aload_n 0 dX5_tracks_38 rfl ?_
    refine Sim.getR (j := 162) fl_X5_9 dX5_tracks_39 xR_161_1 ?_
    refine Sim.iload_n 3 dX5_tracks_42 rfl ?_
    refine Sim.iald (n := 10) dX5_tracks_43 xA_162 ?_
    refine Sim.icmp_le 71 dX5_tracks_44 rfl ?_ ?_
    · refine Sim.aload_n 0 dX5_tracks_47 rfl ?_
      refine Sim.getR (j := 163) fl_X5_15 dX5_tracks_48 xR_161_2 ?_
      refine Sim.iload_n 3 dX5_tracks_51 rfl ?_
      refine Sim.aload_n 0 dX5_tracks_52 rfl ?_
      refine Sim.getR (j := 163) fl_X5_15 dX5_tracks_53 xR_161_2 ?_
      refine Sim.iload_n 3 dX5_tracks_56 rfl ?_
      refine Sim.iald (n := 10) dX5_tracks_57 xA_163 ?_
      refine Sim.aload_n 0 dX5_tracks_58 rfl ?_
      refine Sim.getR (j := 163) fl_X5_15 dX5_tracks_59 xR_161_2 ?_
      refine Sim.iload 4 dX5_tracks_62 rfl ?_
      refine Sim.iald (n := 10) dX5_tracks_64 xA_163 ?_
      refine Sim.iconst (v := (1 : Int32)) dX5_tracks_65 rfl ?_
      refine Sim.iadd dX5_tracks_66 ?_
      refine Sim.mmax dX5_tracks_67 ml_X5_47 ms_max ms_Math mc_max (Nat.le_of_ble_eq_true rfl) (Nat.le_of_ble_eq_true rfl) ?_
      refine Sim.iast (n := 10) dX5_tracks_70 xA_163 ?_
      refine Sim.lth (fun h1 => ?_)
      refine Sim.iinc (L' := [(4, .int (v4 + (1 : Int32))), (0, .ref 161), (1, .int v1), (2, .int v2), (3, .int v3)]) 4 dX5_tracks_71 rfl rfl (Nat.le_of_ble_eq_true rfl) rfl ?_
      refine Sim.goto 25 dX5_tracks_74 rfl ?_
      refine Sim.locs [1, 2, 3, 4, 0] rfl ?_
      exact H25 (v1, v2, v3, (v4 + (1 : Int32)), h1)
    · refine Sim.iinc (L' := [(4, .int (v4 + (1 : Int32))), (0, .ref 161), (1, .int v1), (2, .int v2), (3, .int v3)]) 4 dX5_tracks_71 rfl rfl (Nat.le_of_ble_eq_true rfl) rfl ?_
      refine Sim.goto 25 dX5_tracks_74 rfl ?_
      refine Sim.locs [1, 2, 3, 4, 0] rfl ?_
      exact H25 (v1, v2, v3, (v4 + (1 : Int32)), h)
  · refine Sim.iload_n 2 dX5_tracks_77 rfl ?_
    refine Sim.aload_n 0 dX5_tracks_78 rfl ?_
    refine Sim.getR (j := 163) fl_X5_15 dX5_tracks_79 xR_161_2 ?_
    refine Sim.iload_n 3 dX5_tracks_82 rfl ?_
    refine Sim.iald (n := 10) dX5_tracks_83 xA_163 ?_
    refine Sim.mmax dX5_tracks_84 ml_X5_47 ms_max ms_Math mc_max (Nat.le_of_ble_eq_true rfl) (Nat.le_of_ble_eq_true rfl) ?_
    refine Sim.lti (fun x2 => ?_)
    refine Sim.istore_n (L' := [(2, .int x2), (0, .ref 161), (1, .int v1), (3, .int v3), (4, .int v4)]) dX5_tracks_87 (Nat.le_of_ble_eq_true rfl) rfl ?_
    refine Sim.iinc (L' := [(3, .int (v3 + (1 : Int32))), (2, .int x2), (0, .ref 161), (1, .int v1), (4, .int v4)]) 3 dX5_tracks_88 rfl rfl (Nat.le_of_ble_eq_true rfl) rfl ?_
    refine Sim.goto 4 dX5_tracks_91 rfl ?_
    refine Sim.locs [2, 3, 1, 0] rfl ?_
    exact H4 (v1, x2, (v3 + (1 : Int32)), h)
def f_X5_tracks_25_lp  (k4 : Int32 × Int32 × Int32 × zHp → Option (Int32 × zHp)) (n : Nat) (v : Int32 × Int32 × Int32 × Int32 × zHp) : Option (Int32 × zHp) := zlp (fun k25 v => f_X5_tracks_25 k4 k25 v.1 v.2.1 v.2.2.1 v.2.2.2.1 v.2.2.2.2) n v
theorem f_X5_tracks_25_ls  (k4 : Int32 × Int32 × Int32 × zHp → Option (Int32 × zHp)) (H4 : ∀ v : Int32 × Int32 × Int32 × zHp, Sim wX mX5_tracks 1 rI 4 [(0, .ref 161), (1, .int v.1), (2, .int v.2.1), (3, .int v.2.2.1)] [] v.2.2.2 (k4 v)) (n : Nat) (v : Int32 × Int32 × Int32 × Int32 × zHp) : Sim wX mX5_tracks 1 rI 25 [(0, .ref 161), (1, .int v.1), (2, .int v.2.1), (3, .int v.2.2.1), (4, .int v.2.2.2.1)] [] v.2.2.2.2 (f_X5_tracks_25_lp k4 n v) :=
  Sim.lp (V := Int32 × Int32 × Int32 × Int32 × zHp) (Lf := fun v => [(0, .ref 161), (1, .int v.1), (2, .int v.2.1), (3, .int v.2.2.1), (4, .int v.2.2.2.1)]) (sf := fun v => []) (hf := fun v => v.2.2.2.2) (fun k25 H25 v => f_X5_tracks_25_s k4 H4 k25 H25 v.1 v.2.1 v.2.2.1 v.2.2.2.1 v.2.2.2.2) n v
def f_X5_tracks_4  (k4 : Int32 × Int32 × Int32 × zHp → Option (Int32 × zHp)) (v1 : Int32) (v2 : Int32) (v3 : Int32) (h : zHp) : Option (Int32 × zHp) := (if v3 < v1 then (if v3 < (10 : Int32) then zix v3 10 (zlt (zst h 163 v3.toNatClampNeg (1 : Int32)) fun h1 => f_X5_tracks_25_lp k4 zN (v1, v2, v3, (0 : Int32), h1)) else some (v2, h)) else some (v2, h))
set_option maxHeartbeats 4000000 in
set_option maxRecDepth 100000 in
theorem f_X5_tracks_4_s  (k4 : Int32 × Int32 × Int32 × zHp → Option (Int32 × zHp)) (H4 : ∀ v : Int32 × Int32 × Int32 × zHp, Sim wX mX5_tracks 1 rI 4 [(0, .ref 161), (1, .int v.1), (2, .int v.2.1), (3, .int v.2.2.1)] [] v.2.2.2 (k4 v)) (v1 : Int32) (v2 : Int32) (v3 : Int32) (h : zHp) : Sim wX mX5_tracks 1 rI 4 [(0, .ref 161), (1, .int v1), (2, .int v2), (3, .int v3)] [] h (f_X5_tracks_4 k4 v1 v2 v3 h) := by
  unfold f_X5_tracks_4
  refine Sim.iload_n 3 dX5_tracks_4 rfl ?_
  refine Sim.iload_n 1 dX5_tracks_5 rfl ?_
  refine Sim.icmp_ge 94 dX5_tracks_6 rfl ?_ ?_
  · refine Sim.iload_n 3 dX5_tracks_9 rfl ?_
    refine Sim.bipush (v := (10 : Int32)) dX5_tracks_10 rfl ?_
    refine Sim.icmp_ge 94 dX5_tracks_12 rfl ?_ ?_
    · refine Sim.aload_n 0 dX5_tracks_15 rfl ?_
      refine Sim.getR (j := 163) fl_X5_15 dX5_tracks_16 xR_161_2 ?_
      refine Sim.iload_n 3 dX5_tracks_19 rfl ?_
      refine Sim.iconst (v := (1 : Int32)) dX5_tracks_20 rfl ?_
      refine Sim.iast (n := 10) dX5_tracks_21 xA_163 ?_
      refine Sim.lth (fun h1 => ?_)
      refine Sim.iconst (v := (0 : Int32)) dX5_tracks_22 rfl ?_
      refine Sim.istore (L' := [(4, .int (0 : Int32)), (0, .ref 161), (1, .int v1), (2, .int v2), (3, .int v3)]) dX5_tracks_23 (Nat.le_of_ble_eq_true rfl) rfl ?_
      refine Sim.locs [1, 2, 3, 4, 0] rfl ?_
      exact f_X5_tracks_25_ls k4 H4 zN (v1, v2, v3, (0 : Int32), h1)
    · refine Sim.iload_n 2 dX5_tracks_94 rfl ?_
      exact Sim.iret dX5_tracks_95 rfl
  · refine Sim.iload_n 2 dX5_tracks_94 rfl ?_
    exact Sim.iret dX5_tracks_95 rfl
def f_X5_tracks_4_lp   (n : Nat) (v : Int32 × Int32 × Int32 × zHp) : Option (Int32 × zHp) := zlp (fun k4 v => f_X5_tracks_4 k4 v.1 v.2.1 v.2.2.1 v.2.2.2) n v
theorem f_X5_tracks_4_ls  (n : Nat) (v : Int32 × Int32 × Int32 × zHp) : Sim wX mX5_tracks 1 rI 4 [(0, .ref 161), (1, .int v.1), (2, .int v.2.1), (3, .int v.2.2.1)] [] v.2.2.2 (f_X5_tracks_4_lp n v) :=
  Sim.lp (V := Int32 × Int32 × Int32 × zHp) (Lf := fun v => [(0, .ref 161), (1, .int v.1), (2, .int v.2.1), (3, .int v.2.2.1)]) (sf := fun v => []) (hf := fun v => v.2.2.2) (fun k4 H4 v => f_X5_tracks_4_s k4 H4 v.1 v.2.1 v.2.2.1 v.2.2.2) n v
def f_X5_tracks  (a1 : Int32) (h : zHp) : Option (Int32 × zHp) := f_X5_tracks_4_lp  zN (a1, (0 : Int32), (0 : Int32), h)
set_option maxHeartbeats 4000000 in
set_option maxRecDepth 100000 in
theorem s_X5_tracks  (a1 : Int32) (h : zHp) : Fn wX mX5_tracks 1 rI [.ref 161, .int a1] h (f_X5_tracks a1 h) := by
  refine Fn.of rfl (Nat.le_of_ble_eq_true rfl) ?_
  unfold f_X5_tracks
  refine Sim.iconst (v := (0 : Int32)) dX5_tracks_0 rfl ?_
  refine Sim.istore_n (L' := [(2, .int (0 : Int32)), (0, .ref 161), (1, .int a1)]) dX5_tracks_1 (Nat.le_of_ble_eq_true rfl) rfl ?_
  refine Sim.iconst (v := (0 : Int32)) dX5_tracks_2 rfl ?_
  refine Sim.istore_n (L' := [(3, .int (0 : Int32)), (2, .int (0 : Int32)), (0, .ref 161), (1, .int a1)]) dX5_tracks_3 (Nat.le_of_ble_eq_true rfl) rfl ?_
  refine Sim.locs [2, 3, 1, 0] rfl ?_
  exact f_X5_tracks_4_ls  zN (a1, (0 : Int32), (0 : Int32), h)
theorem mv_X5_tracks : zMV mX5_tracks 1 := ⟨⟨zTb_in 1150 (by decide +kernel) rfl, zTb_in 147 (by decide +kernel) rfl, ⟨by decide +kernel, by decide +kernel⟩, by decide +kernel⟩, zTb_in 1148 (by decide +kernel) rfl, zTb_in 1149 (by decide +kernel) rfl⟩
-- ===== RockingPorch$Puzzles.firstFit(I)I
abbrev mX5_firstFit : zMt := (yX5_firstFit, cX5_firstFit, 6, some .int)
theorem fl_X5_86 : zF RX5 86 8 3 := ⟨RX8, TX8, 7, rfl, Nat.le_of_ble_eq_true rfl, zTb_in 334 (by decide +kernel) rfl, in_X8⟩
theorem dX5_firstFit_0 : decode cX5_firstFit 0 = .ok (.iconst 0, 1) := by decide +kernel
theorem dX5_firstFit_1 : decode cX5_firstFit 1 = .ok (.istore_n 2, 1) := by decide +kernel
theorem dX5_firstFit_2 : decode cX5_firstFit 2 = .ok (.iconst 0, 1) := by decide +kernel
theorem dX5_firstFit_3 : decode cX5_firstFit 3 = .ok (.istore_n 3, 1) := by decide +kernel
theorem dX5_firstFit_4 : decode cX5_firstFit 4 = .ok (.iload_n 3, 1) := by decide +kernel
theorem dX5_firstFit_5 : decode cX5_firstFit 5 = .ok (.aload_n 0, 1) := by decide +kernel
theorem dX5_firstFit_6 : decode cX5_firstFit 6 = .ok (.getfield 24, 3) := by decide +kernel
theorem dX5_firstFit_9 : decode cX5_firstFit 9 = .ok (.getfield 86, 3) := by decide +kernel
theorem dX5_firstFit_12 : decode cX5_firstFit 12 = .ok (.getfield 34, 3) := by decide +kernel
theorem dX5_firstFit_15 : decode cX5_firstFit 15 = .ok (.if_icmp .ge 92, 3) := by decide +kernel
theorem dX5_firstFit_18 : decode cX5_firstFit 18 = .ok (.aload_n 0, 1) := by decide +kernel
theorem dX5_firstFit_19 : decode cX5_firstFit 19 = .ok (.getfield 24, 3) := by decide +kernel
theorem dX5_firstFit_22 : decode cX5_firstFit 22 = .ok (.getfield 86, 3) := by decide +kernel
theorem dX5_firstFit_25 : decode cX5_firstFit 25 = .ok (.iload_n 3, 1) := by decide +kernel
theorem dX5_firstFit_26 : decode cX5_firstFit 26 = .ok (.invokevirtual 40, 3) := by decide +kernel
theorem dX5_firstFit_29 : decode cX5_firstFit 29 = .ok (.istore 4, 2) := by decide +kernel
theorem dX5_firstFit_31 : decode cX5_firstFit 31 = .ok (.iconst 0, 1) := by decide +kernel
theorem dX5_firstFit_32 : decode cX5_firstFit 32 = .ok (.istore 5, 2) := by decide +kernel
theorem dX5_firstFit_34 : decode cX5_firstFit 34 = .ok (.iload 5, 2) := by decide +kernel
theorem dX5_firstFit_36 : decode cX5_firstFit 36 = .ok (.iload_n 2, 1) := by decide +kernel
theorem dX5_firstFit_37 : decode cX5_firstFit 37 = .ok (.if_icmp .ge 23, 3) := by decide +kernel
theorem dX5_firstFit_40 : decode cX5_firstFit 40 = .ok (.aload_n 0, 1) := by decide +kernel
theorem dX5_firstFit_41 : decode cX5_firstFit 41 = .ok (.getfield 9, 3) := by decide +kernel
theorem dX5_firstFit_44 : decode cX5_firstFit 44 = .ok (.iload 5, 2) := by decide +kernel
theorem dX5_firstFit_46 : decode cX5_firstFit 46 = .ok (.iaload, 1) := by decide +kernel
theorem dX5_firstFit_47 : decode cX5_firstFit 47 = .ok (.iload 4, 2) := by decide +kernel
theorem dX5_firstFit_49 : decode cX5_firstFit 49 = .ok (.iadd, 1) := by decide +kernel
theorem dX5_firstFit_50 : decode cX5_firstFit 50 = .ok (.iload_n 1, 1) := by decide +kernel
theorem dX5_firstFit_51 : decode cX5_firstFit 51 = .ok (.if_icmp .le 9, 3) := by decide +kernel
theorem dX5_firstFit_54 : decode cX5_firstFit 54 = .ok (.iinc 5 1, 3) := by decide +kernel
theorem dX5_firstFit_57 : decode cX5_firstFit 57 = .ok (.goto (-23), 3) := by decide +kernel
theorem dX5_firstFit_60 : decode cX5_firstFit 60 = .ok (.iload 5, 2) := by decide +kernel
theorem dX5_firstFit_62 : decode cX5_firstFit 62 = .ok (.iload_n 2, 1) := by decide +kernel
theorem dX5_firstFit_63 : decode cX5_firstFit 63 = .ok (.if_icmp .ne 19, 3) := by decide +kernel
theorem dX5_firstFit_66 : decode cX5_firstFit 66 = .ok (.iload_n 2, 1) := by decide +kernel
theorem dX5_firstFit_67 : decode cX5_firstFit 67 = .ok (.bipush 10, 2) := by decide +kernel
theorem dX5_firstFit_69 : decode cX5_firstFit 69 = .ok (.if_icmp .ge 13, 3) := by decide +kernel
theorem dX5_firstFit_72 : decode cX5_firstFit 72 = .ok (.aload_n 0, 1) := by decide +kernel
theorem dX5_firstFit_73 : decode cX5_firstFit 73 = .ok (.getfield 9, 3) := by decide +kernel
theorem dX5_firstFit_76 : decode cX5_firstFit 76 = .ok (.iload_n 2, 1) := by decide +kernel
theorem dX5_firstFit_77 : decode cX5_firstFit 77 = .ok (.iconst 0, 1) := by decide +kernel
theorem dX5_firstFit_78 : decode cX5_firstFit 78 = .ok (.iastore, 1) := by decide +kernel
theorem dX5_firstFit_79 : decode cX5_firstFit 79 = .ok (.iinc 2 1, 3) := by decide +kernel
theorem dX5_firstFit_82 : decode cX5_firstFit 82 = .ok (.iload 5, 2) := by decide +kernel
theorem dX5_firstFit_84 : decode cX5_firstFit 84 = .ok (.bipush 10, 2) := by decide +kernel
theorem dX5_firstFit_86 : decode cX5_firstFit 86 = .ok (.if_icmp .ge 15, 3) := by decide +kernel
theorem dX5_firstFit_89 : decode cX5_firstFit 89 = .ok (.aload_n 0, 1) := by decide +kernel
theorem dX5_firstFit_90 : decode cX5_firstFit 90 = .ok (.getfield 9, 3) := by decide +kernel
theorem dX5_firstFit_93 : decode cX5_firstFit 93 = .ok (.iload 5, 2) := by decide +kernel
theorem dX5_firstFit_95 : decode cX5_firstFit 95 = .ok (.dup2, 1) := by decide +kernel
theorem dX5_firstFit_96 : decode cX5_firstFit 96 = .ok (.iaload, 1) := by decide +kernel
theorem dX5_firstFit_97 : decode cX5_firstFit 97 = .ok (.iload 4, 2) := by decide +kernel
theorem dX5_firstFit_99 : decode cX5_firstFit 99 = .ok (.iadd, 1) := by decide +kernel
theorem dX5_firstFit_100 : decode cX5_firstFit 100 = .ok (.iastore, 1) := by decide +kernel
theorem dX5_firstFit_101 : decode cX5_firstFit 101 = .ok (.iinc 3 1, 3) := by decide +kernel
theorem dX5_firstFit_104 : decode cX5_firstFit 104 = .ok (.goto (-100), 3) := by decide +kernel
theorem dX5_firstFit_107 : decode cX5_firstFit 107 = .ok (.iload_n 2, 1) := by decide +kernel
theorem dX5_firstFit_108 : decode cX5_firstFit 108 = .ok (.ireturn, 1) := by decide +kernel
def f_X5_firstFit_82  (k4 : Int32 × Int32 × Int32 × zHp → Option (Int32 × zHp)) (v1 : Int32) (v2 : Int32) (v3 : Int32) (v4 : Int32) (v5 : Int32) (h : zHp) : Option (Int32 × zHp) := (if v5 < (10 : Int32) then zix v5 10 (zix v5 10 (zlt (zst h 162 v5.toNatClampNeg ((h 162 v5.toNatClampNeg) + v4)) fun h1 => k4 (v1, v2, (v3 + (1 : Int32)), h1))) else k4 (v1, v2, (v3 + (1 : Int32)), h))
set_option maxHeartbeats 4000000 in
set_option maxRecDepth 100000 in
theorem f_X5_firstFit_82_s  (k4 : Int32 × Int32 × Int32 × zHp → Option (Int32 × zHp)) (H4 : ∀ v : Int32 × Int32 × Int32 × zHp, Sim wX mX5_firstFit 1 rI 4 [(0, .ref 161), (1, .int v.1), (2, .int v.2.1), (3, .int v.2.2.1)] [] v.2.2.2 (k4 v)) (v1 : Int32) (v2 : Int32) (v3 : Int32) (v4 : Int32) (v5 : Int32) (h : zHp) : Sim wX mX5_firstFit 1 rI 82 [(0, .ref 161), (1, .int v1), (2, .int v2), (3, .int v3), (4, .int v4), (5, .int v5)] [] h (f_X5_firstFit_82 k4 v1 v2 v3 v4 v5 h) := by
  unfold f_X5_firstFit_82
  refine Sim.iload 5 dX5_firstFit_82 rfl ?_
  refine Sim.bipush (v := (10 : Int32)) dX5_firstFit_84 rfl ?_
  refine Sim.icmp_ge 101 dX5_firstFit_86 rfl ?_ ?_
  · refine Sim.aload_n 0 dX5_firstFit_89 rfl ?_
    refine Sim.getR (j := 162) fl_X5_9 dX5_firstFit_90 xR_161_1 ?_
    refine Sim.iload 5 dX5_firstFit_93 rfl ?_
    refine Sim.dup2 dX5_firstFit_95 rfl rfl ?_
    refine Sim.iald (n := 10) dX5_firstFit_96 xA_162 ?_
    refine Sim.iload 4 dX5_firstFit_97 rfl ?_
    refine Sim.iadd dX5_firstFit_99 ?_
    refine Sim.iast (n := 10) dX5_firstFit_100 xA_162 ?_
    refine Sim.lth (fun h1 => ?_)
    refine Sim.iinc (L' := [(3, .int (v3 + (1 : Int32))), (0, .ref 161), (1, .int v1), (2, .int v2), (4, .int v4), (5, .int v5)]) 3 dX5_firstFit_101 rfl rfl (Nat.le_of_ble_eq_true rfl) rfl ?_
    refine Sim.goto 4 dX5_firstFit_104 rfl ?_
    refine Sim.locs [1, 2, 3, 0] rfl ?_
    exact H4 (v1, v2, (v3 + (1 : Int32)), h1)
  · refine Sim.iinc (L' := [(3, .int (v3 + (1 : Int32))), (0, .ref 161), (1, .int v1), (2, .int v2), (4, .int v4), (5, .int v5)]) 3 dX5_firstFit_101 rfl rfl (Nat.le_of_ble_eq_true rfl) rfl ?_
    refine Sim.goto 4 dX5_firstFit_104 rfl ?_
    refine Sim.locs [1, 2, 3, 0] rfl ?_
    exact H4 (v1, v2, (v3 + (1 : Int32)), h)
def f_X5_firstFit_60  (k4 : Int32 × Int32 × Int32 × zHp → Option (Int32 × zHp)) (v1 : Int32) (v2 : Int32) (v3 : Int32) (v4 : Int32) (v5 : Int32) (h : zHp) : Option (Int32 × zHp) := (if v5 = v2 then (if v2 < (10 : Int32) then zix v2 10 (zlt (zst h 162 v2.toNatClampNeg (0 : Int32)) fun h1 => f_X5_firstFit_82 k4 v1 (v2 + (1 : Int32)) v3 v4 v5 h1) else f_X5_firstFit_82 k4 v1 v2 v3 v4 v5 h) else f_X5_firstFit_82 k4 v1 v2 v3 v4 v5 h)
set_option maxHeartbeats 4000000 in
set_option maxRecDepth 100000 in
theorem f_X5_firstFit_60_s  (k4 : Int32 × Int32 × Int32 × zHp → Option (Int32 × zHp)) (H4 : ∀ v : Int32 × Int32 × Int32 × zHp, Sim wX mX5_firstFit 1 rI 4 [(0, .ref 161), (1, .int v.1), (2, .int v.2.1), (3, .int v.2.2.1)] [] v.2.2.2 (k4 v)) (v1 : Int32) (v2 : Int32) (v3 : Int32) (v4 : Int32) (v5 : Int32) (h : zHp) : Sim wX mX5_firstFit 1 rI 60 [(0, .ref 161), (1, .int v1), (2, .int v2), (3, .int v3), (4, .int v4), (5, .int v5)] [] h (f_X5_firstFit_60 k4 v1 v2 v3 v4 v5 h) := by
  unfold f_X5_firstFit_60
  refine Sim.iload 5 dX5_firstFit_60 rfl ?_
  refine Sim.iload_n 2 dX5_firstFit_62 rfl ?_
  refine Sim.icmp_ne 82 dX5_firstFit_63 rfl ?_ ?_
  · refine Sim.iload_n 2 dX5_firstFit_66 rfl ?_
    refine Sim.bipush (v := (10 : Int32)) dX5_firstFit_67 rfl ?_
    refine Sim.icmp_ge 82 dX5_firstFit_69 rfl ?_ ?_
    · refine Sim.aload_n 0 dX5_firstFit_72 rfl ?_
      refine Sim.getR (j := 162) fl_X5_9 dX5_firstFit_73 xR_161_1 ?_
      refine Sim.iload_n 2 dX5_firstFit_76 rfl ?_
      refine Sim.iconst (v := (0 : Int32)) dX5_firstFit_77 rfl ?_
      refine Sim.iast (n := 10) dX5_firstFit_78 xA_162 ?_
      refine Sim.lth (fun h1 => ?_)
      refine Sim.iinc (L' := [(2, .int (v2 + (1 : Int32))), (0, .ref 161), (1, .int v1), (3, .int v3), (4, .int v4), (5, .int v5)]) 2 dX5_firstFit_79 rfl rfl (Nat.le_of_ble_eq_true rfl) rfl ?_
      refine Sim.locs [1, 2, 0, 3, 4, 5] rfl ?_
      exact f_X5_firstFit_82_s k4 H4 v1 (v2 + (1 : Int32)) v3 v4 v5 h1
    · exact f_X5_firstFit_82_s k4 H4 v1 v2 v3 v4 v5 h
  · exact f_X5_firstFit_82_s k4 H4 v1 v2 v3 v4 v5 h
def f_X5_firstFit_34  (k4 : Int32 × Int32 × Int32 × zHp → Option (Int32 × zHp)) (k34 : Int32 × Int32 × Int32 × Int32 × Int32 × zHp → Option (Int32 × zHp)) (v1 : Int32) (v2 : Int32) (v3 : Int32) (v4 : Int32) (v5 : Int32) (h : zHp) : Option (Int32 × zHp) := (if v5 < v2 then zix v5 10 ((if v1 < ((h 162 v5.toNatClampNeg) + v4) then k34 (v1, v2, v3, v4, (v5 + (1 : Int32)), h) else f_X5_firstFit_60 k4 v1 v2 v3 v4 v5 h)) else f_X5_firstFit_60 k4 v1 v2 v3 v4 v5 h)
set_option maxHeartbeats 4000000 in
set_option maxRecDepth 100000 in
theorem f_X5_firstFit_34_s  (k4 : Int32 × Int32 × Int32 × zHp → Option (Int32 × zHp)) (H4 : ∀ v : Int32 × Int32 × Int32 × zHp, Sim wX mX5_firstFit 1 rI 4 [(0, .ref 161), (1, .int v.1), (2, .int v.2.1), (3, .int v.2.2.1)] [] v.2.2.2 (k4 v)) (k34 : Int32 × Int32 × Int32 × Int32 × Int32 × zHp → Option (Int32 × zHp)) (H34 : ∀ v : Int32 × Int32 × Int32 × Int32 × Int32 × zHp, Sim wX mX5_firstFit 1 rI 34 [(0, .ref 161), (1, .int v.1), (2, .int v.2.1), (3, .int v.2.2.1), (4, .int v.2.2.2.1), (5, .int v.2.2.2.2.1)] [] v.2.2.2.2.2 (k34 v)) (v1 : Int32) (v2 : Int32) (v3 : Int32) (v4 : Int32) (v5 : Int32) (h : zHp) : Sim wX mX5_firstFit 1 rI 34 [(0, .ref 161), (1, .int v1), (2, .int v2), (3, .int v3), (4, .int v4), (5, .int v5)] [] h (f_X5_firstFit_34 k4 k34 v1 v2 v3 v4 v5 h) := by
  unfold f_X5_firstFit_34
  refine Sim.iload 5 dX5_firstFit_34 rfl ?_
  refine Sim.iload_n 2 dX5_firstFit_36 rfl ?_
  refine Sim.icmp_ge 60 dX5_firstFit_37 rfl ?_ ?_
  · refine Sim.aload_n 0 dX5_firstFit_40 rfl ?_
    refine Sim.getR (j := 162) fl_X5_9 dX5_firstFit_41 xR_161_1 ?_
    refine Sim.iload 5 dX5_firstFit_44 rfl ?_
    refine Sim.iald (n := 10) dX5_firstFit_46 xA_162 ?_
    refine Sim.iload 4 dX5_firstFit_47 rfl ?_
    refine Sim.iadd dX5_firstFit_49 ?_
    refine Sim.iload_n 1 dX5_firstFit_50 rfl ?_
    refine Sim.icmp_le 60 dX5_firstFit_51 rfl ?_ ?_
    · refine Sim.iinc (L' := [(5, .int (v5 + (1 : Int32))), (0, .ref 161), (1, .int v1), (2, .int v2), (3, .int v3), (4, .int v4)]) 5 dX5_firstFit_54 rfl rfl (Nat.le_of_ble_eq_true rfl) rfl ?_
      refine Sim.goto 34 dX5_firstFit_57 rfl ?_
      refine Sim.locs [1, 2, 3, 4, 5, 0] rfl ?_
      exact H34 (v1, v2, v3, v4, (v5 + (1 : Int32)), h)
    · exact f_X5_firstFit_60_s k4 H4 v1 v2 v3 v4 v5 h
  · exact f_X5_firstFit_60_s k4 H4 v1 v2 v3 v4 v5 h
def f_X5_firstFit_34_lp  (k4 : Int32 × Int32 × Int32 × zHp → Option (Int32 × zHp)) (n : Nat) (v : Int32 × Int32 × Int32 × Int32 × Int32 × zHp) : Option (Int32 × zHp) := zlp (fun k34 v => f_X5_firstFit_34 k4 k34 v.1 v.2.1 v.2.2.1 v.2.2.2.1 v.2.2.2.2.1 v.2.2.2.2.2) n v
theorem f_X5_firstFit_34_ls  (k4 : Int32 × Int32 × Int32 × zHp → Option (Int32 × zHp)) (H4 : ∀ v : Int32 × Int32 × Int32 × zHp, Sim wX mX5_firstFit 1 rI 4 [(0, .ref 161), (1, .int v.1), (2, .int v.2.1), (3, .int v.2.2.1)] [] v.2.2.2 (k4 v)) (n : Nat) (v : Int32 × Int32 × Int32 × Int32 × Int32 × zHp) : Sim wX mX5_firstFit 1 rI 34 [(0, .ref 161), (1, .int v.1), (2, .int v.2.1), (3, .int v.2.2.1), (4, .int v.2.2.2.1), (5, .int v.2.2.2.2.1)] [] v.2.2.2.2.2 (f_X5_firstFit_34_lp k4 n v) :=
  Sim.lp (V := Int32 × Int32 × Int32 × Int32 × Int32 × zHp) (Lf := fun v => [(0, .ref 161), (1, .int v.1), (2, .int v.2.1), (3, .int v.2.2.1), (4, .int v.2.2.2.1), (5, .int v.2.2.2.2.1)]) (sf := fun v => []) (hf := fun v => v.2.2.2.2.2) (fun k34 H34 v => f_X5_firstFit_34_s k4 H4 k34 H34 v.1 v.2.1 v.2.2.1 v.2.2.2.1 v.2.2.2.2.1 v.2.2.2.2.2) n v
def f_X5_firstFit_4  (k4 : Int32 × Int32 × Int32 × zHp → Option (Int32 × zHp)) (v1 : Int32) (v2 : Int32) (v3 : Int32) (h : zHp) : Option (Int32 × zHp) := (if v3 < (h 33 1) then (f_X7_get 33 v3 h).bind fun x1 => f_X5_firstFit_34_lp k4 zN (v1, v2, v3, x1.1, (0 : Int32), x1.2) else some (v2, h))
set_option maxHeartbeats 4000000 in
set_option maxRecDepth 100000 in
theorem f_X5_firstFit_4_s  (k4 : Int32 × Int32 × Int32 × zHp → Option (Int32 × zHp)) (H4 : ∀ v : Int32 × Int32 × Int32 × zHp, Sim wX mX5_firstFit 1 rI 4 [(0, .ref 161), (1, .int v.1), (2, .int v.2.1), (3, .int v.2.2.1)] [] v.2.2.2 (k4 v)) (v1 : Int32) (v2 : Int32) (v3 : Int32) (h : zHp) : Sim wX mX5_firstFit 1 rI 4 [(0, .ref 161), (1, .int v1), (2, .int v2), (3, .int v3)] [] h (f_X5_firstFit_4 k4 v1 v2 v3 h) := by
  unfold f_X5_firstFit_4
  refine Sim.iload_n 3 dX5_firstFit_4 rfl ?_
  refine Sim.aload_n 0 dX5_firstFit_5 rfl ?_
  refine Sim.getR (j := 26) fl_X5_24 dX5_firstFit_6 xR_161_0 ?_
  refine Sim.getR (j := 33) fl_X5_86 dX5_firstFit_9 (xR_X8_3 _ xL_X8_26) ?_
  refine Sim.getI fl_X5_34 dX5_firstFit_12 (xI_X7_1 _ xL_X7_33) ?_
  refine Sim.icmp_ge 107 dX5_firstFit_15 rfl ?_ ?_
  · refine Sim.aload_n 0 dX5_firstFit_18 rfl ?_
    refine Sim.getR (j := 26) fl_X5_24 dX5_firstFit_19 xR_161_0 ?_
    refine Sim.getR (j := 33) fl_X5_86 dX5_firstFit_22 (xR_X8_3 _ xL_X8_26) ?_
    refine Sim.iload_n 3 dX5_firstFit_25 rfl ?_
    refine Sim.callV1I (d1 := 0) (s_X7_get 33 xL_X7_33 v3 h) dX5_firstFit_26 ml_X5_40 mv_X7_get (xOC_X7 _ xL_X7_33) (Nat.le_of_ble_eq_true rfl) (Nat.le_of_ble_eq_true rfl) (Nat.le_of_ble_eq_true rfl) (fun x1 => ?_)
    refine Sim.istore (L' := [(4, .int x1.1), (0, .ref 161), (1, .int v1), (2, .int v2), (3, .int v3)]) dX5_firstFit_29 (Nat.le_of_ble_eq_true rfl) rfl ?_
    refine Sim.iconst (v := (0 : Int32)) dX5_firstFit_31 rfl ?_
    refine Sim.istore (L' := [(5, .int (0 : Int32)), (4, .int x1.1), (0, .ref 161), (1, .int v1), (2, .int v2), (3, .int v3)]) dX5_firstFit_32 (Nat.le_of_ble_eq_true rfl) rfl ?_
    refine Sim.locs [2, 3, 4, 5, 1, 0] rfl ?_
    exact f_X5_firstFit_34_ls k4 H4 zN (v1, v2, v3, x1.1, (0 : Int32), x1.2)
  · refine Sim.iload_n 2 dX5_firstFit_107 rfl ?_
    exact Sim.iret dX5_firstFit_108 rfl
def f_X5_firstFit_4_lp   (n : Nat) (v : Int32 × Int32 × Int32 × zHp) : Option (Int32 × zHp) := zlp (fun k4 v => f_X5_firstFit_4 k4 v.1 v.2.1 v.2.2.1 v.2.2.2) n v
theorem f_X5_firstFit_4_ls  (n : Nat) (v : Int32 × Int32 × Int32 × zHp) : Sim wX mX5_firstFit 1 rI 4 [(0, .ref 161), (1, .int v.1), (2, .int v.2.1), (3, .int v.2.2.1)] [] v.2.2.2 (f_X5_firstFit_4_lp n v) :=
  Sim.lp (V := Int32 × Int32 × Int32 × zHp) (Lf := fun v => [(0, .ref 161), (1, .int v.1), (2, .int v.2.1), (3, .int v.2.2.1)]) (sf := fun v => []) (hf := fun v => v.2.2.2) (fun k4 H4 v => f_X5_firstFit_4_s k4 H4 v.1 v.2.1 v.2.2.1 v.2.2.2) n v
def f_X5_firstFit  (a1 : Int32) (h : zHp) : Option (Int32 × zHp) := f_X5_firstFit_4_lp  zN (a1, (0 : Int32), (0 : Int32), h)
set_option maxHeartbeats 4000000 in
set_option maxRecDepth 100000 in
theorem s_X5_firstFit  (a1 : Int32) (h : zHp) : Fn wX mX5_firstFit 1 rI [.ref 161, .int a1] h (f_X5_firstFit a1 h) := by
  refine Fn.of rfl (Nat.le_of_ble_eq_true rfl) ?_
  unfold f_X5_firstFit
  refine Sim.iconst (v := (0 : Int32)) dX5_firstFit_0 rfl ?_
  refine Sim.istore_n (L' := [(2, .int (0 : Int32)), (0, .ref 161), (1, .int a1)]) dX5_firstFit_1 (Nat.le_of_ble_eq_true rfl) rfl ?_
  refine Sim.iconst (v := (0 : Int32)) dX5_firstFit_2 rfl ?_
  refine Sim.istore_n (L' := [(3, .int (0 : Int32)), (2, .int (0 : Int32)), (0, .ref 161), (1, .int a1)]) dX5_firstFit_3 (Nat.le_of_ble_eq_true rfl) rfl ?_
  refine Sim.locs [2, 3, 1, 0] rfl ?_
  exact f_X5_firstFit_4_ls  zN (a1, (0 : Int32), (0 : Int32), h)
theorem mv_X5_firstFit : zMV mX5_firstFit 1 := ⟨⟨zTb_in 1167 (by decide +kernel) rfl, zTb_in 147 (by decide +kernel) rfl, ⟨by decide +kernel, by decide +kernel⟩, by decide +kernel⟩, zTb_in 1165 (by decide +kernel) rfl, zTb_in 1166 (by decide +kernel) rfl⟩
-- ===== RockingPorch$Puzzles.packed(III)I
abbrev mX5_packed : zMt := (yX5_packed, cX5_packed, 4, some .int)
theorem dX5_packed_0 : decode cX5_packed 0 = .ok (.iload_n 0, 1) := by decide +kernel
theorem dX5_packed_1 : decode cX5_packed 1 = .ok (.bipush 100, 2) := by decide +kernel
theorem dX5_packed_3 : decode cX5_packed 3 = .ok (.if_icmp .lt 17, 3) := by decide +kernel
theorem dX5_packed_6 : decode cX5_packed 6 = .ok (.iload_n 0, 1) := by decide +kernel
theorem dX5_packed_7 : decode cX5_packed 7 = .ok (.bipush 100, 2) := by decide +kernel
theorem dX5_packed_9 : decode cX5_packed 9 = .ok (.irem, 1) := by decide +kernel
theorem dX5_packed_10 : decode cX5_packed 10 = .ok (.iload_n 1, 1) := by decide +kernel
theorem dX5_packed_11 : decode cX5_packed 11 = .ok (.iadd, 1) := by decide +kernel
theorem dX5_packed_12 : decode cX5_packed 12 = .ok (.iload_n 2, 1) := by decide +kernel
theorem dX5_packed_13 : decode cX5_packed 13 = .ok (.if_icmp .gt 7, 3) := by decide +kernel
theorem dX5_packed_16 : decode cX5_packed 16 = .ok (.iconst 1, 1) := by decide +kernel
theorem dX5_packed_17 : decode cX5_packed 17 = .ok (.goto 4, 3) := by decide +kernel
theorem dX5_packed_20 : decode cX5_packed 20 = .ok (.iconst 0, 1) := by decide +kernel
theorem dX5_packed_21 : decode cX5_packed 21 = .ok (.istore_n 3, 1) := by decide +kernel
theorem dX5_packed_22 : decode cX5_packed 22 = .ok (.iload_n 3, 1) := by decide +kernel
theorem dX5_packed_23 : decode cX5_packed 23 = .ok (.ifCond .eq 9, 3) := by decide +kernel
theorem dX5_packed_26 : decode cX5_packed 26 = .ok (.iload_n 0, 1) := by decide +kernel
theorem dX5_packed_27 : decode cX5_packed 27 = .ok (.iload_n 1, 1) := by decide +kernel
theorem dX5_packed_28 : decode cX5_packed 28 = .ok (.iadd, 1) := by decide +kernel
theorem dX5_packed_29 : decode cX5_packed 29 = .ok (.goto 14, 3) := by decide +kernel
theorem dX5_packed_32 : decode cX5_packed 32 = .ok (.iload_n 0, 1) := by decide +kernel
theorem dX5_packed_33 : decode cX5_packed 33 = .ok (.bipush 100, 2) := by decide +kernel
theorem dX5_packed_35 : decode cX5_packed 35 = .ok (.idiv, 1) := by decide +kernel
theorem dX5_packed_36 : decode cX5_packed 36 = .ok (.iconst 1, 1) := by decide +kernel
theorem dX5_packed_37 : decode cX5_packed 37 = .ok (.iadd, 1) := by decide +kernel
theorem dX5_packed_38 : decode cX5_packed 38 = .ok (.bipush 100, 2) := by decide +kernel
theorem dX5_packed_40 : decode cX5_packed 40 = .ok (.imul, 1) := by decide +kernel
theorem dX5_packed_41 : decode cX5_packed 41 = .ok (.iload_n 1, 1) := by decide +kernel
theorem dX5_packed_42 : decode cX5_packed 42 = .ok (.iadd, 1) := by decide +kernel
theorem dX5_packed_43 : decode cX5_packed 43 = .ok (.ireturn, 1) := by decide +kernel
def f_X5_packed_21   (v0 : Int32) (v1 : Int32) (s0 : Int32) (h : zHp) : Option (Int32 × zHp) := (if s0 = 0 then some (((((v0 / (100 : Int32)) + (1 : Int32)) * (100 : Int32)) + v1), h) else some ((v0 + v1), h))
set_option maxHeartbeats 4000000 in
set_option maxRecDepth 100000 in
theorem f_X5_packed_21_s  (v0 : Int32) (v1 : Int32) (s0 : Int32) (h : zHp) : Sim wX mX5_packed 0 rI 21 [(0, .int v0), (1, .int v1)] [.int s0] h (f_X5_packed_21 v0 v1 s0 h) := by
  unfold f_X5_packed_21
  refine Sim.istore_n (L' := [(3, .int s0), (0, .int v0), (1, .int v1)]) dX5_packed_21 (Nat.le_of_ble_eq_true rfl) rfl ?_
  refine Sim.iload_n 0 dX5_packed_22 rfl ?_
  refine Sim.if_eq 32 dX5_packed_23 rfl ?_ ?_
  · refine Sim.iload_n 1 dX5_packed_32 rfl ?_
    refine Sim.bipush (v := (100 : Int32)) dX5_packed_33 rfl ?_
    refine Sim.idivL dX5_packed_35 (by decide) ?_
    refine Sim.iconst (v := (1 : Int32)) dX5_packed_36 rfl ?_
    refine Sim.iadd dX5_packed_37 ?_
    refine Sim.bipush (v := (100 : Int32)) dX5_packed_38 rfl ?_
    refine Sim.imul dX5_packed_40 ?_
    refine Sim.iload_n 2 dX5_packed_41 rfl ?_
    refine Sim.iadd dX5_packed_42 ?_
    exact Sim.iret dX5_packed_43 rfl
  · refine Sim.iload_n 1 dX5_packed_26 rfl ?_
    refine Sim.iload_n 2 dX5_packed_27 rfl ?_
    refine Sim.iadd dX5_packed_28 ?_
    refine Sim.goto 43 dX5_packed_29 rfl ?_
    exact Sim.iret dX5_packed_43 rfl
def f_X5_packed  (a1 : Int32) (a2 : Int32) (a3 : Int32) (h : zHp) : Option (Int32 × zHp) := (if a1 < (100 : Int32) then f_X5_packed_21 a1 a2 (0 : Int32) h else (if a3 < ((a1 - a1 / (100 : Int32) * (100 : Int32)) + a2) then f_X5_packed_21 a1 a2 (0 : Int32) h else f_X5_packed_21 a1 a2 (1 : Int32) h))
set_option maxHeartbeats 4000000 in
set_option maxRecDepth 100000 in
theorem s_X5_packed  (a1 : Int32) (a2 : Int32) (a3 : Int32) (h : zHp) : Fn wX mX5_packed 0 rI [.int a1, .int a2, .int a3] h (f_X5_packed a1 a2 a3 h) := by
  refine Fn.of rfl (Nat.le_of_ble_eq_true rfl) ?_
  unfold f_X5_packed
  refine Sim.iload_n 0 dX5_packed_0 rfl ?_
  refine Sim.bipush (v := (100 : Int32)) dX5_packed_1 rfl ?_
  refine Sim.icmp_lt 20 dX5_packed_3 rfl ?_ ?_
  · refine Sim.iconst (v := (0 : Int32)) dX5_packed_20 rfl ?_
    refine Sim.locs [0, 1] rfl ?_
    exact f_X5_packed_21_s a1 a2 (0 : Int32) h
  · refine Sim.iload_n 0 dX5_packed_6 rfl ?_
    refine Sim.bipush (v := (100 : Int32)) dX5_packed_7 rfl ?_
    refine Sim.iremL dX5_packed_9 (by decide) ?_
    refine Sim.iload_n 1 dX5_packed_10 rfl ?_
    refine Sim.iadd dX5_packed_11 ?_
    refine Sim.iload_n 2 dX5_packed_12 rfl ?_
    refine Sim.icmp_gt 20 dX5_packed_13 rfl ?_ ?_
    · refine Sim.iconst (v := (0 : Int32)) dX5_packed_20 rfl ?_
      refine Sim.locs [0, 1] rfl ?_
      exact f_X5_packed_21_s a1 a2 (0 : Int32) h
    · refine Sim.iconst (v := (1 : Int32)) dX5_packed_16 rfl ?_
      refine Sim.goto 21 dX5_packed_17 rfl ?_
      refine Sim.locs [0, 1] rfl ?_
      exact f_X5_packed_21_s a1 a2 (1 : Int32) h
theorem mv_X5_packed : zMS mX5_packed 3 := ⟨⟨zTb_in 1174 (by decide +kernel) rfl, zTb_in 147 (by decide +kernel) rfl, ⟨by decide +kernel, by decide +kernel⟩, by decide +kernel⟩, zTb_in 1173 (by decide +kernel) rfl⟩
-- ===== RockingPorch$Puzzles.fewestTrunks(I)I
abbrev mX5_fewestTrunks : zMt := (yX5_fewestTrunks, cX5_fewestTrunks, 6, some .int)
theorem fl_X5_21 : zF RX5 21 5 4 := ⟨RX5, TX5, 5, rfl, Nat.le_of_ble_eq_true rfl, zTb_in 501 (by decide +kernel) rfl, in_X5⟩
theorem ml_X5_89 : Cond.methodLink RX5 89 yX5_packed ∈ zTb := zTb_in 1172 (by decide +kernel) rfl
theorem dX5_fewestTrunks_0 : decode cX5_fewestTrunks 0 = .ok (.iconst 1, 1) := by decide +kernel
theorem dX5_fewestTrunks_1 : decode cX5_fewestTrunks 1 = .ok (.aload_n 0, 1) := by decide +kernel
theorem dX5_fewestTrunks_2 : decode cX5_fewestTrunks 2 = .ok (.getfield 24, 3) := by decide +kernel
theorem dX5_fewestTrunks_5 : decode cX5_fewestTrunks 5 = .ok (.getfield 86, 3) := by decide +kernel
theorem dX5_fewestTrunks_8 : decode cX5_fewestTrunks 8 = .ok (.getfield 34, 3) := by decide +kernel
theorem dX5_fewestTrunks_11 : decode cX5_fewestTrunks 11 = .ok (.ishl, 1) := by decide +kernel
theorem dX5_fewestTrunks_12 : decode cX5_fewestTrunks 12 = .ok (.iconst 1, 1) := by decide +kernel
theorem dX5_fewestTrunks_13 : decode cX5_fewestTrunks 13 = .ok (.isub, 1) := by decide +kernel
theorem dX5_fewestTrunks_14 : decode cX5_fewestTrunks 14 = .ok (.istore_n 2, 1) := by decide +kernel
theorem dX5_fewestTrunks_15 : decode cX5_fewestTrunks 15 = .ok (.aload_n 0, 1) := by decide +kernel
theorem dX5_fewestTrunks_16 : decode cX5_fewestTrunks 16 = .ok (.getfield 21, 3) := by decide +kernel
theorem dX5_fewestTrunks_19 : decode cX5_fewestTrunks 19 = .ok (.iconst 0, 1) := by decide +kernel
theorem dX5_fewestTrunks_20 : decode cX5_fewestTrunks 20 = .ok (.iconst 0, 1) := by decide +kernel
theorem dX5_fewestTrunks_21 : decode cX5_fewestTrunks 21 = .ok (.iastore, 1) := by decide +kernel
theorem dX5_fewestTrunks_22 : decode cX5_fewestTrunks 22 = .ok (.iconst 1, 1) := by decide +kernel
theorem dX5_fewestTrunks_23 : decode cX5_fewestTrunks 23 = .ok (.istore_n 3, 1) := by decide +kernel
theorem dX5_fewestTrunks_24 : decode cX5_fewestTrunks 24 = .ok (.iload_n 3, 1) := by decide +kernel
theorem dX5_fewestTrunks_25 : decode cX5_fewestTrunks 25 = .ok (.iload_n 2, 1) := by decide +kernel
theorem dX5_fewestTrunks_26 : decode cX5_fewestTrunks 26 = .ok (.if_icmp .gt 106, 3) := by decide +kernel
theorem dX5_fewestTrunks_29 : decode cX5_fewestTrunks 29 = .ok (.iload_n 3, 1) := by decide +kernel
theorem dX5_fewestTrunks_30 : decode cX5_fewestTrunks 30 = .ok (.aload_n 0, 1) := by decide +kernel
theorem dX5_fewestTrunks_31 : decode cX5_fewestTrunks 31 = .ok (.getfield 21, 3) := by decide +kernel
theorem dX5_fewestTrunks_34 : decode cX5_fewestTrunks 34 = .ok (.arraylength, 1) := by decide +kernel
theorem dX5_fewestTrunks_35 : decode cX5_fewestTrunks 35 = .ok (.if_icmp .ge 97, 3) := by decide +kernel
theorem dX5_fewestTrunks_38 : decode cX5_fewestTrunks 38 = .ok (.aload_n 0, 1) := by decide +kernel
theorem dX5_fewestTrunks_39 : decode cX5_fewestTrunks 39 = .ok (.getfield 21, 3) := by decide +kernel
theorem dX5_fewestTrunks_42 : decode cX5_fewestTrunks 42 = .ok (.iload_n 3, 1) := by decide +kernel
theorem dX5_fewestTrunks_43 : decode cX5_fewestTrunks 43 = .ok (.sipush 1000, 3) := by decide +kernel
theorem dX5_fewestTrunks_46 : decode cX5_fewestTrunks 46 = .ok (.iastore, 1) := by decide +kernel
theorem dX5_fewestTrunks_47 : decode cX5_fewestTrunks 47 = .ok (.iconst 0, 1) := by decide +kernel
theorem dX5_fewestTrunks_48 : decode cX5_fewestTrunks 48 = .ok (.istore 4, 2) := by decide +kernel
theorem dX5_fewestTrunks_50 : decode cX5_fewestTrunks 50 = .ok (.iload 4, 2) := by decide +kernel
theorem dX5_fewestTrunks_52 : decode cX5_fewestTrunks 52 = .ok (.aload_n 0, 1) := by decide +kernel
theorem dX5_fewestTrunks_53 : decode cX5_fewestTrunks 53 = .ok (.getfield 24, 3) := by decide +kernel
theorem dX5_fewestTrunks_56 : decode cX5_fewestTrunks 56 = .ok (.getfield 86, 3) := by decide +kernel
theorem dX5_fewestTrunks_59 : decode cX5_fewestTrunks 59 = .ok (.getfield 34, 3) := by decide +kernel
theorem dX5_fewestTrunks_62 : decode cX5_fewestTrunks 62 = .ok (.if_icmp .ge 64, 3) := by decide +kernel
theorem dX5_fewestTrunks_65 : decode cX5_fewestTrunks 65 = .ok (.iload_n 3, 1) := by decide +kernel
theorem dX5_fewestTrunks_66 : decode cX5_fewestTrunks 66 = .ok (.iconst 1, 1) := by decide +kernel
theorem dX5_fewestTrunks_67 : decode cX5_fewestTrunks 67 = .ok (.iload 4, 2) := by decide +kernel
theorem dX5_fewestTrunks_69 : decode cX5_fewestTrunks 69 = .ok (.ishl, 1) := by decide +kernel
theorem dX5_fewestTrunks_70 : decode cX5_fewestTrunks 70 = .ok (.iand, 1) := by decide +kernel
theorem dX5_fewestTrunks_71 : decode cX5_fewestTrunks 71 = .ok (.ifCond .eq 49, 3) := by decide +kernel
theorem dX5_fewestTrunks_74 : decode cX5_fewestTrunks 74 = .ok (.aload_n 0, 1) := by decide +kernel
theorem dX5_fewestTrunks_75 : decode cX5_fewestTrunks 75 = .ok (.getfield 21, 3) := by decide +kernel
theorem dX5_fewestTrunks_78 : decode cX5_fewestTrunks 78 = .ok (.iload_n 3, 1) := by decide +kernel
theorem dX5_fewestTrunks_79 : decode cX5_fewestTrunks 79 = .ok (.iconst 1, 1) := by decide +kernel
theorem dX5_fewestTrunks_80 : decode cX5_fewestTrunks 80 = .ok (.iload 4, 2) := by decide +kernel
theorem dX5_fewestTrunks_82 : decode cX5_fewestTrunks 82 = .ok (.ishl, 1) := by decide +kernel
theorem dX5_fewestTrunks_83 : decode cX5_fewestTrunks 83 = .ok (.ixor, 1) := by decide +kernel
theorem dX5_fewestTrunks_84 : decode cX5_fewestTrunks 84 = .ok (.iaload, 1) := by decide +kernel
theorem dX5_fewestTrunks_85 : decode cX5_fewestTrunks 85 = .ok (.aload_n 0, 1) := by decide +kernel
theorem dX5_fewestTrunks_86 : decode cX5_fewestTrunks 86 = .ok (.getfield 24, 3) := by decide +kernel
theorem dX5_fewestTrunks_89 : decode cX5_fewestTrunks 89 = .ok (.getfield 86, 3) := by decide +kernel
theorem dX5_fewestTrunks_92 : decode cX5_fewestTrunks 92 = .ok (.iload 4, 2) := by decide +kernel
theorem dX5_fewestTrunks_94 : decode cX5_fewestTrunks 94 = .ok (.invokevirtual 40, 3) := by decide +kernel
theorem dX5_fewestTrunks_97 : decode cX5_fewestTrunks 97 = .ok (.iload_n 1, 1) := by decide +kernel
theorem dX5_fewestTrunks_98 : decode cX5_fewestTrunks 98 = .ok (.invokestatic 89, 3) := by decide +kernel
theorem dX5_fewestTrunks_101 : decode cX5_fewestTrunks 101 = .ok (.istore 5, 2) := by decide +kernel
theorem dX5_fewestTrunks_103 : decode cX5_fewestTrunks 103 = .ok (.aload_n 0, 1) := by decide +kernel
theorem dX5_fewestTrunks_104 : decode cX5_fewestTrunks 104 = .ok (.getfield 21, 3) := by decide +kernel
theorem dX5_fewestTrunks_107 : decode cX5_fewestTrunks 107 = .ok (.iload_n 3, 1) := by decide +kernel
theorem dX5_fewestTrunks_108 : decode cX5_fewestTrunks 108 = .ok (.aload_n 0, 1) := by decide +kernel
theorem dX5_fewestTrunks_109 : decode cX5_fewestTrunks 109 = .ok (.getfield 21, 3) := by decide +kernel
theorem dX5_fewestTrunks_112 : decode cX5_fewestTrunks 112 = .ok (.iload_n 3, 1) := by decide +kernel
theorem dX5_fewestTrunks_113 : decode cX5_fewestTrunks 113 = .ok (.iaload, 1) := by decide +kernel
theorem dX5_fewestTrunks_114 : decode cX5_fewestTrunks 114 = .ok (.iload 5, 2) := by decide +kernel
theorem dX5_fewestTrunks_116 : decode cX5_fewestTrunks 116 = .ok (.invokestatic 71, 3) := by decide +kernel
theorem dX5_fewestTrunks_119 : decode cX5_fewestTrunks 119 = .ok (.iastore, 1) := by decide +kernel
theorem dX5_fewestTrunks_120 : decode cX5_fewestTrunks 120 = .ok (.iinc 4 1, 3) := by decide +kernel
theorem dX5_fewestTrunks_123 : decode cX5_fewestTrunks 123 = .ok (.goto (-73), 3) := by decide +kernel
theorem dX5_fewestTrunks_126 : decode cX5_fewestTrunks 126 = .ok (.iinc 3 1, 3) := by decide +kernel
theorem dX5_fewestTrunks_129 : decode cX5_fewestTrunks 129 = .ok (.goto (-105), 3) := by decide +kernel
theorem dX5_fewestTrunks_132 : decode cX5_fewestTrunks 132 = .ok (.iload_n 2, 1) := by decide +kernel
theorem dX5_fewestTrunks_133 : decode cX5_fewestTrunks 133 = .ok (.aload_n 0, 1) := by decide +kernel
theorem dX5_fewestTrunks_134 : decode cX5_fewestTrunks 134 = .ok (.getfield 21, 3) := by decide +kernel
theorem dX5_fewestTrunks_137 : decode cX5_fewestTrunks 137 = .ok (.arraylength, 1) := by decide +kernel
theorem dX5_fewestTrunks_138 : decode cX5_fewestTrunks 138 = .ok (.if_icmp .ge 15, 3) := by decide +kernel
theorem dX5_fewestTrunks_141 : decode cX5_fewestTrunks 141 = .ok (.aload_n 0, 1) := by decide +kernel
theorem dX5_fewestTrunks_142 : decode cX5_fewestTrunks 142 = .ok (.getfield 21, 3) := by decide +kernel
theorem dX5_fewestTrunks_145 : decode cX5_fewestTrunks 145 = .ok (.iload_n 2, 1) := by decide +kernel
theorem dX5_fewestTrunks_146 : decode cX5_fewestTrunks 146 = .ok (.iaload, 1) := by decide +kernel
theorem dX5_fewestTrunks_147 : decode cX5_fewestTrunks 147 = .ok (.bipush 100, 2) := by decide +kernel
theorem dX5_fewestTrunks_149 : decode cX5_fewestTrunks 149 = .ok (.idiv, 1) := by decide +kernel
theorem dX5_fewestTrunks_150 : decode cX5_fewestTrunks 150 = .ok (.goto 4, 3) := by decide +kernel
theorem dX5_fewestTrunks_153 : decode cX5_fewestTrunks 153 = .ok (.iconst (-1), 1) := by decide +kernel
theorem dX5_fewestTrunks_154 : decode cX5_fewestTrunks 154 = .ok (.ireturn, 1) := by decide +kernel
def f_X5_fewestTrunks_132   (v2 : Int32) (h : zHp) : Option (Int32 × zHp) := (if v2 < (Int32.ofNat 512) then zix v2 512 (some (((h 165 v2.toNatClampNeg) / (100 : Int32)), h)) else some ((-1 : Int32), h))
set_option maxHeartbeats 4000000 in
set_option maxRecDepth 100000 in
theorem f_X5_fewestTrunks_132_s  (v2 : Int32) (h : zHp) : Sim wX mX5_fewestTrunks 1 rI 132 [(0, .ref 161), (2, .int v2)] [] h (f_X5_fewestTrunks_132 v2 h) := by
  unfold f_X5_fewestTrunks_132
  refine Sim.iload_n 1 dX5_fewestTrunks_132 rfl ?_
  refine Sim.aload_n 0 dX5_fewestTrunks_133 rfl ?_
  refine Sim.getR (j := 165) fl_X5_21 dX5_fewestTrunks_134 xR_161_4 ?_
  refine Sim.alen (n := 512) dX5_fewestTrunks_137 xA_165 ?_
  refine Sim.icmp_ge 153 dX5_fewestTrunks_138 rfl ?_ ?_
  · refine Sim.aload_n 0 dX5_fewestTrunks_141 rfl ?_
    refine Sim.getR (j := 165) fl_X5_21 dX5_fewestTrunks_142 xR_161_4 ?_
    refine Sim.iload_n 1 dX5_fewestTrunks_145 rfl ?_
    refine Sim.iald (n := 512) dX5_fewestTrunks_146 xA_165 ?_
    refine Sim.bipush (v := (100 : Int32)) dX5_fewestTrunks_147 rfl ?_
    refine Sim.idivL dX5_fewestTrunks_149 (by decide) ?_
    refine Sim.goto 154 dX5_fewestTrunks_150 rfl ?_
    exact Sim.iret dX5_fewestTrunks_154 rfl
  · refine Sim.iconst (v := (-1 : Int32)) dX5_fewestTrunks_153 rfl ?_
    exact Sim.iret dX5_fewestTrunks_154 rfl
def f_X5_fewestTrunks_50  (k24 : Int32 × Int32 × Int32 × zHp → Option (Int32 × zHp)) (k50 : Int32 × Int32 × Int32 × Int32 × zHp → Option (Int32 × zHp)) (v1 : Int32) (v2 : Int32) (v3 : Int32) (v4 : Int32) (h : zHp) : Option (Int32 × zHp) := (if v4 < (h 33 1) then (if (v3 &&& ((1 : Int32) <<< (v4 &&& 31))) = 0 then k50 (v1, v2, v3, (v4 + (1 : Int32)), h) else zix (v3 ^^^ ((1 : Int32) <<< (v4 &&& 31))) 512 ((f_X7_get 33 v4 h).bind fun x1 => (f_X5_packed (h 165 (v3 ^^^ ((1 : Int32) <<< (v4 &&& 31))).toNatClampNeg) x1.1 v1 x1.2).bind fun x2 => zix v3 512 (zix v3 512 (zlt (zst x2.2 165 v3.toNatClampNeg (if x2.1 < (x2.2 165 v3.toNatClampNeg) then x2.1 else (x2.2 165 v3.toNatClampNeg))) fun h3 => k50 (v1, v2, v3, (v4 + (1 : Int32)), h3))))) else k24 (v1, v2, (v3 + (1 : Int32)), h))
set_option maxHeartbeats 4000000 in
set_option maxRecDepth 100000 in
theorem f_X5_fewestTrunks_50_s  (k24 : Int32 × Int32 × Int32 × zHp → Option (Int32 × zHp)) (H24 : ∀ v : Int32 × Int32 × Int32 × zHp, Sim wX mX5_fewestTrunks 1 rI 24 [(0, .ref 161), (1, .int v.1), (2, .int v.2.1), (3, .int v.2.2.1)] [] v.2.2.2 (k24 v)) (k50 : Int32 × Int32 × Int32 × Int32 × zHp → Option (Int32 × zHp)) (H50 : ∀ v : Int32 × Int32 × Int32 × Int32 × zHp, Sim wX mX5_fewestTrunks 1 rI 50 [(0, .ref 161), (1, .int v.1), (2, .int v.2.1), (3, .int v.2.2.1), (4, .int v.2.2.2.1)] [] v.2.2.2.2 (k50 v)) (v1 : Int32) (v2 : Int32) (v3 : Int32) (v4 : Int32) (h : zHp) : Sim wX mX5_fewestTrunks 1 rI 50 [(0, .ref 161), (1, .int v1), (2, .int v2), (3, .int v3), (4, .int v4)] [] h (f_X5_fewestTrunks_50 k24 k50 v1 v2 v3 v4 h) := by
  unfold f_X5_fewestTrunks_50
  refine Sim.iload 4 dX5_fewestTrunks_50 rfl ?_
  refine Sim.aload_n 0 dX5_fewestTrunks_52 rfl ?_
  refine Sim.getR (j := 26) fl_X5_24 dX5_fewestTrunks_53 xR_161_0 ?_
  refine Sim.getR (j := 33) fl_X5_86 dX5_fewestTrunks_56 (xR_X8_3 _ xL_X8_26) ?_
  refine Sim.getI fl_X5_34 dX5_fewestTrunks_59 (xI_X7_1 _ xL_X7_33) ?_
  refine Sim.icmp_ge 126 dX5_fewestTrunks_62 rfl ?_ ?_
  · refine Sim.iload_n 3 dX5_fewestTrunks_65 rfl ?_
    refine Sim.iconst (v := (1 : Int32)) dX5_fewestTrunks_66 rfl ?_
    refine Sim.iload 4 dX5_fewestTrunks_67 rfl ?_
    refine Sim.ishl dX5_fewestTrunks_69 ?_
    refine Sim.iand dX5_fewestTrunks_70 ?_
    refine Sim.if_eq 120 dX5_fewestTrunks_71 rfl ?_ ?_
    · refine Sim.iinc (L' := [(4, .int (v4 + (1 : Int32))), (0, .ref 161), (1, .int v1), (2, .int v2), (3, .int v3)]) 4 dX5_fewestTrunks_120 rfl rfl (Nat.le_of_ble_eq_true rfl) rfl ?_
      refine Sim.goto 50 dX5_fewestTrunks_123 rfl ?_
      refine Sim.locs [1, 2, 3, 4, 0] rfl ?_
      exact H50 (v1, v2, v3, (v4 + (1 : Int32)), h)
    · refine Sim.aload_n 0 dX5_fewestTrunks_74 rfl ?_
      refine Sim.getR (j := 165) fl_X5_21 dX5_fewestTrunks_75 xR_161_4 ?_
      refine Sim.iload_n 3 dX5_fewestTrunks_78 rfl ?_
      refine Sim.iconst (v := (1 : Int32)) dX5_fewestTrunks_79 rfl ?_
      refine Sim.iload 4 dX5_fewestTrunks_80 rfl ?_
      refine Sim.ishl dX5_fewestTrunks_82 ?_
      refine Sim.ixor dX5_fewestTrunks_83 ?_
      refine Sim.iald (n := 512) dX5_fewestTrunks_84 xA_165 ?_
      refine Sim.aload_n 0 dX5_fewestTrunks_85 rfl ?_
      refine Sim.getR (j := 26) fl_X5_24 dX5_fewestTrunks_86 xR_161_0 ?_
      refine Sim.getR (j := 33) fl_X5_86 dX5_fewestTrunks_89 (xR_X8_3 _ xL_X8_26) ?_
      refine Sim.iload 4 dX5_fewestTrunks_92 rfl ?_
      refine Sim.callV1I (d1 := 0) (s_X7_get 33 xL_X7_33 v4 h) dX5_fewestTrunks_94 ml_X5_40 mv_X7_get (xOC_X7 _ xL_X7_33) (Nat.le_of_ble_eq_true rfl) (Nat.le_of_ble_eq_true rfl) (Nat.le_of_ble_eq_true rfl) (fun x1 => ?_)
      refine Sim.iload_n 1 dX5_fewestTrunks_97 rfl ?_
      refine Sim.callS3I (d1 := 0) (s_X5_packed (h 165 (v3 ^^^ ((1 : Int32) <<< (v4 &&& 31))).toNatClampNeg) x1.1 v1 x1.2) dX5_fewestTrunks_98 ml_X5_89 mv_X5_packed (Nat.le_of_ble_eq_true rfl) (Nat.le_of_ble_eq_true rfl) (Nat.le_of_ble_eq_true rfl) (fun x2 => ?_)
      refine Sim.istore (L' := [(5, .int x2.1), (0, .ref 161), (1, .int v1), (2, .int v2), (3, .int v3), (4, .int v4)]) dX5_fewestTrunks_101 (Nat.le_of_ble_eq_true rfl) rfl ?_
      refine Sim.aload_n 1 dX5_fewestTrunks_103 rfl ?_
      refine Sim.getR (j := 165) fl_X5_21 dX5_fewestTrunks_104 xR_161_4 ?_
      refine Sim.iload_n 4 dX5_fewestTrunks_107 rfl ?_
      refine Sim.aload_n 1 dX5_fewestTrunks_108 rfl ?_
      refine Sim.getR (j := 165) fl_X5_21 dX5_fewestTrunks_109 xR_161_4 ?_
      refine Sim.iload_n 4 dX5_fewestTrunks_112 rfl ?_
      refine Sim.iald (n := 512) dX5_fewestTrunks_113 xA_165 ?_
      refine Sim.iload 0 dX5_fewestTrunks_114 rfl ?_
      refine Sim.mmin dX5_fewestTrunks_116 ml_X5_71 ms_min ms_Math mc_min (Nat.le_of_ble_eq_true rfl) (Nat.le_of_ble_eq_true rfl) ?_
      refine Sim.iast (n := 512) dX5_fewestTrunks_119 xA_165 ?_
      refine Sim.lth (fun h3 => ?_)
      refine Sim.iinc (L' := [(4, .int (v4 + (1 : Int32))), (5, .int x2.1), (0, .ref 161), (1, .int v1), (2, .int v2), (3, .int v3)]) 5 dX5_fewestTrunks_120 rfl rfl (Nat.le_of_ble_eq_true rfl) rfl ?_
      refine Sim.goto 50 dX5_fewestTrunks_123 rfl ?_
      refine Sim.locs [2, 3, 4, 5, 0] rfl ?_
      exact H50 (v1, v2, v3, (v4 + (1 : Int32)), h3)
  · refine Sim.iinc (L' := [(3, .int (v3 + (1 : Int32))), (0, .ref 161), (1, .int v1), (2, .int v2), (4, .int v4)]) 3 dX5_fewestTrunks_126 rfl rfl (Nat.le_of_ble_eq_true rfl) rfl ?_
    refine Sim.goto 24 dX5_fewestTrunks_129 rfl ?_
    refine Sim.locs [1, 2, 3, 0] rfl ?_
    exact H24 (v1, v2, (v3 + (1 : Int32)), h)
def f_X5_fewestTrunks_50_lp  (k24 : Int32 × Int32 × Int32 × zHp → Option (Int32 × zHp)) (n : Nat) (v : Int32 × Int32 × Int32 × Int32 × zHp) : Option (Int32 × zHp) := zlp (fun k50 v => f_X5_fewestTrunks_50 k24 k50 v.1 v.2.1 v.2.2.1 v.2.2.2.1 v.2.2.2.2) n v
theorem f_X5_fewestTrunks_50_ls  (k24 : Int32 × Int32 × Int32 × zHp → Option (Int32 × zHp)) (H24 : ∀ v : Int32 × Int32 × Int32 × zHp, Sim wX mX5_fewestTrunks 1 rI 24 [(0, .ref 161), (1, .int v.1), (2, .int v.2.1), (3, .int v.2.2.1)] [] v.2.2.2 (k24 v)) (n : Nat) (v : Int32 × Int32 × Int32 × Int32 × zHp) : Sim wX mX5_fewestTrunks 1 rI 50 [(0, .ref 161), (1, .int v.1), (2, .int v.2.1), (3, .int v.2.2.1), (4, .int v.2.2.2.1)] [] v.2.2.2.2 (f_X5_fewestTrunks_50_lp k24 n v) :=
  Sim.lp (V := Int32 × Int32 × Int32 × Int32 × zHp) (Lf := fun v => [(0, .ref 161), (1, .int v.1), (2, .int v.2.1), (3, .int v.2.2.1), (4, .int v.2.2.2.1)]) (sf := fun v => []) (hf := fun v => v.2.2.2.2) (fun k50 H50 v => f_X5_fewestTrunks_50_s k24 H24 k50 H50 v.1 v.2.1 v.2.2.1 v.2.2.2.1 v.2.2.2.2) n v
def f_X5_fewestTrunks_24  (k24 : Int32 × Int32 × Int32 × zHp → Option (Int32 × zHp)) (v1 : Int32) (v2 : Int32) (v3 : Int32) (h : zHp) : Option (Int32 × zHp) := (if v2 < v3 then f_X5_fewestTrunks_132 v2 h else (if v3 < (Int32.ofNat 512) then zix v3 512 (zlt (zst h 165 v3.toNatClampNeg (1000 : Int32)) fun h1 => f_X5_fewestTrunks_50_lp k24 zN (v1, v2, v3, (0 : Int32), h1)) else f_X5_fewestTrunks_132 v2 h))
set_option maxHeartbeats 4000000 in
set_option maxRecDepth 100000 in
theorem f_X5_fewestTrunks_24_s  (k24 : Int32 × Int32 × Int32 × zHp → Option (Int32 × zHp)) (H24 : ∀ v : Int32 × Int32 × Int32 × zHp, Sim wX mX5_fewestTrunks 1 rI 24 [(0, .ref 161), (1, .int v.1), (2, .int v.2.1), (3, .int v.2.2.1)] [] v.2.2.2 (k24 v)) (v1 : Int32) (v2 : Int32) (v3 : Int32) (h : zHp) : Sim wX mX5_fewestTrunks 1 rI 24 [(0, .ref 161), (1, .int v1), (2, .int v2), (3, .int v3)] [] h (f_X5_fewestTrunks_24 k24 v1 v2 v3 h) := by
  unfold f_X5_fewestTrunks_24
  refine Sim.iload_n 3 dX5_fewestTrunks_24 rfl ?_
  refine Sim.iload_n 2 dX5_fewestTrunks_25 rfl ?_
  refine Sim.icmp_gt 132 dX5_fewestTrunks_26 rfl ?_ ?_
  · refine Sim.locs [0, 2] rfl ?_
    exact f_X5_fewestTrunks_132_s v2 h
  · refine Sim.iload_n 3 dX5_fewestTrunks_29 rfl ?_
    refine Sim.aload_n 0 dX5_fewestTrunks_30 rfl ?_
    refine Sim.getR (j := 165) fl_X5_21 dX5_fewestTrunks_31 xR_161_4 ?_
    refine Sim.alen (n := 512) dX5_fewestTrunks_34 xA_165 ?_
    refine Sim.icmp_ge 132 dX5_fewestTrunks_35 rfl ?_ ?_
    · refine Sim.aload_n 0 dX5_fewestTrunks_38 rfl ?_
      refine Sim.getR (j := 165) fl_X5_21 dX5_fewestTrunks_39 xR_161_4 ?_
      refine Sim.iload_n 3 dX5_fewestTrunks_42 rfl ?_
      refine Sim.sipush (v := (1000 : Int32)) dX5_fewestTrunks_43 rfl ?_
      refine Sim.iast (n := 512) dX5_fewestTrunks_46 xA_165 ?_
      refine Sim.lth (fun h1 => ?_)
      refine Sim.iconst (v := (0 : Int32)) dX5_fewestTrunks_47 rfl ?_
      refine Sim.istore (L' := [(4, .int (0 : Int32)), (0, .ref 161), (1, .int v1), (2, .int v2), (3, .int v3)]) dX5_fewestTrunks_48 (Nat.le_of_ble_eq_true rfl) rfl ?_
      refine Sim.locs [1, 2, 3, 4, 0] rfl ?_
      exact f_X5_fewestTrunks_50_ls k24 H24 zN (v1, v2, v3, (0 : Int32), h1)
    · refine Sim.locs [0, 2] rfl ?_
      exact f_X5_fewestTrunks_132_s v2 h
def f_X5_fewestTrunks_24_lp   (n : Nat) (v : Int32 × Int32 × Int32 × zHp) : Option (Int32 × zHp) := zlp (fun k24 v => f_X5_fewestTrunks_24 k24 v.1 v.2.1 v.2.2.1 v.2.2.2) n v
theorem f_X5_fewestTrunks_24_ls  (n : Nat) (v : Int32 × Int32 × Int32 × zHp) : Sim wX mX5_fewestTrunks 1 rI 24 [(0, .ref 161), (1, .int v.1), (2, .int v.2.1), (3, .int v.2.2.1)] [] v.2.2.2 (f_X5_fewestTrunks_24_lp n v) :=
  Sim.lp (V := Int32 × Int32 × Int32 × zHp) (Lf := fun v => [(0, .ref 161), (1, .int v.1), (2, .int v.2.1), (3, .int v.2.2.1)]) (sf := fun v => []) (hf := fun v => v.2.2.2) (fun k24 H24 v => f_X5_fewestTrunks_24_s k24 H24 v.1 v.2.1 v.2.2.1 v.2.2.2) n v
def f_X5_fewestTrunks  (a1 : Int32) (h : zHp) : Option (Int32 × zHp) := zlt (((1 : Int32) <<< ((h 33 1) &&& 31)) - (1 : Int32)) fun x1 => zix (0 : Int32) 512 (zlt (zst h 165 (0 : Int32).toNatClampNeg (0 : Int32)) fun h2 => f_X5_fewestTrunks_24_lp  zN (a1, x1, (1 : Int32), h2))
set_option maxHeartbeats 4000000 in
set_option maxRecDepth 100000 in
theorem s_X5_fewestTrunks  (a1 : Int32) (h : zHp) : Fn wX mX5_fewestTrunks 1 rI [.ref 161, .int a1] h (f_X5_fewestTrunks a1 h) := by
  refine Fn.of rfl (Nat.le_of_ble_eq_true rfl) ?_
  unfold f_X5_fewestTrunks
  refine Sim.iconst (v := (1 : Int32)) dX5_fewestTrunks_0 rfl ?_
  refine Sim.aload_n 0 dX5_fewestTrunks_1 rfl ?_
  refine Sim.getR (j := 26) fl_X5_24 dX5_fewestTrunks_2 xR_161_0 ?_
  refine Sim.getR (j := 33) fl_X5_86 dX5_fewestTrunks_5 (xR_X8_3 _ xL_X8_26) ?_
  refine Sim.getI fl_X5_34 dX5_fewestTrunks_8 (xI_X7_1 _ xL_X7_33) ?_
  refine Sim.ishl dX5_fewestTrunks_11 ?_
  refine Sim.iconst (v := (1 : Int32)) dX5_fewestTrunks_12 rfl ?_
  refine Sim.isub dX5_fewestTrunks_13 ?_
  refine Sim.lti (fun x1 => ?_)
  refine Sim.istore_n (L' := [(2, .int x1), (0, .ref 161), (1, .int a1)]) dX5_fewestTrunks_14 (Nat.le_of_ble_eq_true rfl) rfl ?_
  refine Sim.aload_n 1 dX5_fewestTrunks_15 rfl ?_
  refine Sim.getR (j := 165) fl_X5_21 dX5_fewestTrunks_16 xR_161_4 ?_
  refine Sim.iconst (v := (0 : Int32)) dX5_fewestTrunks_19 rfl ?_
  refine Sim.iconst (v := (0 : Int32)) dX5_fewestTrunks_20 rfl ?_
  refine Sim.iast (n := 512) dX5_fewestTrunks_21 xA_165 ?_
  refine Sim.lth (fun h2 => ?_)
  refine Sim.iconst (v := (1 : Int32)) dX5_fewestTrunks_22 rfl ?_
  refine Sim.istore_n (L' := [(3, .int (1 : Int32)), (2, .int x1), (0, .ref 161), (1, .int a1)]) dX5_fewestTrunks_23 (Nat.le_of_ble_eq_true rfl) rfl ?_
  refine Sim.locs [2, 3, 1, 0] rfl ?_
  exact f_X5_fewestTrunks_24_ls  zN (a1, x1, (1 : Int32), h2)
theorem mv_X5_fewestTrunks : zMV mX5_fewestTrunks 1 := ⟨⟨zTb_in 1171 (by decide +kernel) rfl, zTb_in 147 (by decide +kernel) rfl, ⟨by decide +kernel, by decide +kernel⟩, by decide +kernel⟩, zTb_in 1169 (by decide +kernel) rfl, zTb_in 1170 (by decide +kernel) rfl⟩
-- ===== RockingPorch$Puzzles.throwsOf(I)I
abbrev mX5_throwsOf : zMt := (yX5_throwsOf, cX5_throwsOf, 2, some .int)
theorem dX5_throwsOf_0 : decode cX5_throwsOf 0 = .ok (.iconst 0, 1) := by decide +kernel
theorem dX5_throwsOf_1 : decode cX5_throwsOf 1 = .ok (.istore_n 1, 1) := by decide +kernel
theorem dX5_throwsOf_2 : decode cX5_throwsOf 2 = .ok (.iload_n 1, 1) := by decide +kernel
theorem dX5_throwsOf_3 : decode cX5_throwsOf 3 = .ok (.bipush 30, 2) := by decide +kernel
theorem dX5_throwsOf_5 : decode cX5_throwsOf 5 = .ok (.if_icmp .ge 17, 3) := by decide +kernel
theorem dX5_throwsOf_8 : decode cX5_throwsOf 8 = .ok (.iload_n 0, 1) := by decide +kernel
theorem dX5_throwsOf_9 : decode cX5_throwsOf 9 = .ok (.iload_n 1, 1) := by decide +kernel
theorem dX5_throwsOf_10 : decode cX5_throwsOf 10 = .ok (.iconst 1, 1) := by decide +kernel
theorem dX5_throwsOf_11 : decode cX5_throwsOf 11 = .ok (.iadd, 1) := by decide +kernel
theorem dX5_throwsOf_12 : decode cX5_throwsOf 12 = .ok (.ishr, 1) := by decide +kernel
theorem dX5_throwsOf_13 : decode cX5_throwsOf 13 = .ok (.ifCond .le 9, 3) := by decide +kernel
theorem dX5_throwsOf_16 : decode cX5_throwsOf 16 = .ok (.iinc 1 1, 3) := by decide +kernel
theorem dX5_throwsOf_19 : decode cX5_throwsOf 19 = .ok (.goto (-17), 3) := by decide +kernel
theorem dX5_throwsOf_22 : decode cX5_throwsOf 22 = .ok (.iload_n 1, 1) := by decide +kernel
theorem dX5_throwsOf_23 : decode cX5_throwsOf 23 = .ok (.ireturn, 1) := by decide +kernel
def f_X5_throwsOf_2  (k2 : Int32 × Int32 × zHp → Option (Int32 × zHp)) (v0 : Int32) (v1 : Int32) (h : zHp) : Option (Int32 × zHp) := (if v1 < (30 : Int32) then (if 0 < (v0 >>> ((v1 + (1 : Int32)) &&& 31)) then k2 (v0, (v1 + (1 : Int32)), h) else some (v1, h)) else some (v1, h))
set_option maxHeartbeats 4000000 in
set_option maxRecDepth 100000 in
theorem f_X5_throwsOf_2_s  (k2 : Int32 × Int32 × zHp → Option (Int32 × zHp)) (H2 : ∀ v : Int32 × Int32 × zHp, Sim wX mX5_throwsOf 0 rI 2 [(0, .int v.1), (1, .int v.2.1)] [] v.2.2 (k2 v)) (v0 : Int32) (v1 : Int32) (h : zHp) : Sim wX mX5_throwsOf 0 rI 2 [(0, .int v0), (1, .int v1)] [] h (f_X5_throwsOf_2 k2 v0 v1 h) := by
  unfold f_X5_throwsOf_2
  refine Sim.iload_n 1 dX5_throwsOf_2 rfl ?_
  refine Sim.bipush (v := (30 : Int32)) dX5_throwsOf_3 rfl ?_
  refine Sim.icmp_ge 22 dX5_throwsOf_5 rfl ?_ ?_
  · refine Sim.iload_n 0 dX5_throwsOf_8 rfl ?_
    refine Sim.iload_n 1 dX5_throwsOf_9 rfl ?_
    refine Sim.iconst (v := (1 : Int32)) dX5_throwsOf_10 rfl ?_
    refine Sim.iadd dX5_throwsOf_11 ?_
    refine Sim.ishr dX5_throwsOf_12 ?_
    refine Sim.if_le 22 dX5_throwsOf_13 rfl ?_ ?_
    · refine Sim.iinc (L' := [(1, .int (v1 + (1 : Int32))), (0, .int v0)]) 1 dX5_throwsOf_16 rfl rfl (Nat.le_of_ble_eq_true rfl) rfl ?_
      refine Sim.goto 2 dX5_throwsOf_19 rfl ?_
      refine Sim.locs [1, 0] rfl ?_
      exact H2 (v0, (v1 + (1 : Int32)), h)
    · refine Sim.iload_n 1 dX5_throwsOf_22 rfl ?_
      exact Sim.iret dX5_throwsOf_23 rfl
  · refine Sim.iload_n 1 dX5_throwsOf_22 rfl ?_
    exact Sim.iret dX5_throwsOf_23 rfl
def f_X5_throwsOf_2_lp   (n : Nat) (v : Int32 × Int32 × zHp) : Option (Int32 × zHp) := zlp (fun k2 v => f_X5_throwsOf_2 k2 v.1 v.2.1 v.2.2) n v
theorem f_X5_throwsOf_2_ls  (n : Nat) (v : Int32 × Int32 × zHp) : Sim wX mX5_throwsOf 0 rI 2 [(0, .int v.1), (1, .int v.2.1)] [] v.2.2 (f_X5_throwsOf_2_lp n v) :=
  Sim.lp (V := Int32 × Int32 × zHp) (Lf := fun v => [(0, .int v.1), (1, .int v.2.1)]) (sf := fun v => []) (hf := fun v => v.2.2) (fun k2 H2 v => f_X5_throwsOf_2_s k2 H2 v.1 v.2.1 v.2.2) n v
def f_X5_throwsOf  (a1 : Int32) (h : zHp) : Option (Int32 × zHp) := f_X5_throwsOf_2_lp  zN (a1, (0 : Int32), h)
set_option maxHeartbeats 4000000 in
set_option maxRecDepth 100000 in
theorem s_X5_throwsOf  (a1 : Int32) (h : zHp) : Fn wX mX5_throwsOf 0 rI [.int a1] h (f_X5_throwsOf a1 h) := by
  refine Fn.of rfl (Nat.le_of_ble_eq_true rfl) ?_
  unfold f_X5_throwsOf
  refine Sim.iconst (v := (0 : Int32)) dX5_throwsOf_0 rfl ?_
  refine Sim.istore_n (L' := [(1, .int (0 : Int32)), (0, .int a1)]) dX5_throwsOf_1 (Nat.le_of_ble_eq_true rfl) rfl ?_
  refine Sim.locs [1, 0] rfl ?_
  exact f_X5_throwsOf_2_ls  zN (a1, (0 : Int32), h)
theorem mv_X5_throwsOf : zMS mX5_throwsOf 1 := ⟨⟨zTb_in 1184 (by decide +kernel) rfl, zTb_in 147 (by decide +kernel) rfl, ⟨by decide +kernel, by decide +kernel⟩, by decide +kernel⟩, zTb_in 1183 (by decide +kernel) rfl⟩
-- ===== RockingPorch$Puzzles.fit(II)I
abbrev mX5_fit : zMt := (yX5_fit, cX5_fit, 6, some .int)
theorem ml_X5_93 : Cond.methodLink RX5 93 yX5_throwsOf ∈ zTb := zTb_in 1182 (by decide +kernel) rfl
theorem dX5_fit_0 : decode cX5_fit 0 = .ok (.iload_n 0, 1) := by decide +kernel
theorem dX5_fit_1 : decode cX5_fit 1 = .ok (.invokestatic 93, 3) := by decide +kernel
theorem dX5_fit_4 : decode cX5_fit 4 = .ok (.istore_n 2, 1) := by decide +kernel
theorem dX5_fit_5 : decode cX5_fit 5 = .ok (.iconst 0, 1) := by decide +kernel
theorem dX5_fit_6 : decode cX5_fit 6 = .ok (.istore_n 3, 1) := by decide +kernel
theorem dX5_fit_7 : decode cX5_fit 7 = .ok (.iconst 1, 1) := by decide +kernel
theorem dX5_fit_8 : decode cX5_fit 8 = .ok (.istore 4, 2) := by decide +kernel
theorem dX5_fit_10 : decode cX5_fit 10 = .ok (.iload 4, 2) := by decide +kernel
theorem dX5_fit_12 : decode cX5_fit 12 = .ok (.iload_n 2, 1) := by decide +kernel
theorem dX5_fit_13 : decode cX5_fit 13 = .ok (.if_icmp .gt 40, 3) := by decide +kernel
theorem dX5_fit_16 : decode cX5_fit 16 = .ok (.iconst 1, 1) := by decide +kernel
theorem dX5_fit_17 : decode cX5_fit 17 = .ok (.iload 4, 2) := by decide +kernel
theorem dX5_fit_19 : decode cX5_fit 19 = .ok (.ishl, 1) := by decide +kernel
theorem dX5_fit_20 : decode cX5_fit 20 = .ok (.iconst 1, 1) := by decide +kernel
theorem dX5_fit_21 : decode cX5_fit 21 = .ok (.isub, 1) := by decide +kernel
theorem dX5_fit_22 : decode cX5_fit 22 = .ok (.istore 5, 2) := by decide +kernel
theorem dX5_fit_24 : decode cX5_fit 24 = .ok (.iload_n 0, 1) := by decide +kernel
theorem dX5_fit_25 : decode cX5_fit 25 = .ok (.iload 5, 2) := by decide +kernel
theorem dX5_fit_27 : decode cX5_fit 27 = .ok (.iand, 1) := by decide +kernel
theorem dX5_fit_28 : decode cX5_fit 28 = .ok (.iload_n 1, 1) := by decide +kernel
theorem dX5_fit_29 : decode cX5_fit 29 = .ok (.iload_n 2, 1) := by decide +kernel
theorem dX5_fit_30 : decode cX5_fit 30 = .ok (.iload 4, 2) := by decide +kernel
theorem dX5_fit_32 : decode cX5_fit 32 = .ok (.isub, 1) := by decide +kernel
theorem dX5_fit_33 : decode cX5_fit 33 = .ok (.ishr, 1) := by decide +kernel
theorem dX5_fit_34 : decode cX5_fit 34 = .ok (.iload 5, 2) := by decide +kernel
theorem dX5_fit_36 : decode cX5_fit 36 = .ok (.iand, 1) := by decide +kernel
theorem dX5_fit_37 : decode cX5_fit 37 = .ok (.if_icmp .ne 10, 3) := by decide +kernel
theorem dX5_fit_40 : decode cX5_fit 40 = .ok (.iload_n 3, 1) := by decide +kernel
theorem dX5_fit_41 : decode cX5_fit 41 = .ok (.iconst 1, 1) := by decide +kernel
theorem dX5_fit_42 : decode cX5_fit 42 = .ok (.iload 4, 2) := by decide +kernel
theorem dX5_fit_44 : decode cX5_fit 44 = .ok (.ishl, 1) := by decide +kernel
theorem dX5_fit_45 : decode cX5_fit 45 = .ok (.iadd, 1) := by decide +kernel
theorem dX5_fit_46 : decode cX5_fit 46 = .ok (.istore_n 3, 1) := by decide +kernel
theorem dX5_fit_47 : decode cX5_fit 47 = .ok (.iinc 4 1, 3) := by decide +kernel
theorem dX5_fit_50 : decode cX5_fit 50 = .ok (.goto (-40), 3) := by decide +kernel
theorem dX5_fit_53 : decode cX5_fit 53 = .ok (.iload_n 3, 1) := by decide +kernel
theorem dX5_fit_54 : decode cX5_fit 54 = .ok (.ireturn, 1) := by decide +kernel
def f_X5_fit_10  (k10 : Int32 × Int32 × Int32 × Int32 × Int32 × zHp → Option (Int32 × zHp)) (v0 : Int32) (v1 : Int32) (v2 : Int32) (v3 : Int32) (v4 : Int32) (h : zHp) : Option (Int32 × zHp) := (if v2 < v4 then some (v3, h) else zlt (((1 : Int32) <<< (v4 &&& 31)) - (1 : Int32)) fun x1 => (if (v0 &&& x1) = ((v1 >>> ((v2 - v4) &&& 31)) &&& x1) then zlt (v3 + ((1 : Int32) <<< (v4 &&& 31))) fun x2 => k10 (v0, v1, v2, x2, (v4 + (1 : Int32)), h) else k10 (v0, v1, v2, v3, (v4 + (1 : Int32)), h)))
set_option maxHeartbeats 4000000 in
set_option maxRecDepth 100000 in
theorem f_X5_fit_10_s  (k10 : Int32 × Int32 × Int32 × Int32 × Int32 × zHp → Option (Int32 × zHp)) (H10 : ∀ v : Int32 × Int32 × Int32 × Int32 × Int32 × zHp, Sim wX mX5_fit 1 rI 10 [(0, .int v.1), (1, .int v.2.1), (2, .int v.2.2.1), (3, .int v.2.2.2.1), (4, .int v.2.2.2.2.1)] [] v.2.2.2.2.2 (k10 v)) (v0 : Int32) (v1 : Int32) (v2 : Int32) (v3 : Int32) (v4 : Int32) (h : zHp) : Sim wX mX5_fit 1 rI 10 [(0, .int v0), (1, .int v1), (2, .int v2), (3, .int v3), (4, .int v4)] [] h (f_X5_fit_10 k10 v0 v1 v2 v3 v4 h) := by
  unfold f_X5_fit_10
  refine Sim.iload 4 dX5_fit_10 rfl ?_
  refine Sim.iload_n 2 dX5_fit_12 rfl ?_
  refine Sim.icmp_gt 53 dX5_fit_13 rfl ?_ ?_
  · refine Sim.iload_n 3 dX5_fit_53 rfl ?_
    exact Sim.iret dX5_fit_54 rfl
  · refine Sim.iconst (v := (1 : Int32)) dX5_fit_16 rfl ?_
    refine Sim.iload 4 dX5_fit_17 rfl ?_
    refine Sim.ishl dX5_fit_19 ?_
    refine Sim.iconst (v := (1 : Int32)) dX5_fit_20 rfl ?_
    refine Sim.isub dX5_fit_21 ?_
    refine Sim.lti (fun x1 => ?_)
    refine Sim.istore (L' := [(5, .int x1), (0, .int v0), (1, .int v1), (2, .int v2), (3, .int v3), (4, .int v4)]) dX5_fit_22 (Nat.le_of_ble_eq_true rfl) rfl ?_
    refine Sim.iload_n 1 dX5_fit_24 rfl ?_
    refine Sim.iload 0 dX5_fit_25 rfl ?_
    refine Sim.iand dX5_fit_27 ?_
    refine Sim.iload_n 2 dX5_fit_28 rfl ?_
    refine Sim.iload_n 3 dX5_fit_29 rfl ?_
    refine Sim.iload 5 dX5_fit_30 rfl ?_
    refine Sim.isub dX5_fit_32 ?_
    refine Sim.ishr dX5_fit_33 ?_
    refine Sim.iload 0 dX5_fit_34 rfl ?_
    refine Sim.iand dX5_fit_36 ?_
    refine Sim.icmp_ne 47 dX5_fit_37 rfl ?_ ?_
    · refine Sim.iload_n 4 dX5_fit_40 rfl ?_
      refine Sim.iconst (v := (1 : Int32)) dX5_fit_41 rfl ?_
      refine Sim.iload 5 dX5_fit_42 rfl ?_
      refine Sim.ishl dX5_fit_44 ?_
      refine Sim.iadd dX5_fit_45 ?_
      refine Sim.lti (fun x2 => ?_)
      refine Sim.istore_n (L' := [(3, .int x2), (5, .int x1), (0, .int v0), (1, .int v1), (2, .int v2), (4, .int v4)]) dX5_fit_46 (Nat.le_of_ble_eq_true rfl) rfl ?_
      refine Sim.iinc (L' := [(4, .int (v4 + (1 : Int32))), (3, .int x2), (5, .int x1), (0, .int v0), (1, .int v1), (2, .int v2)]) 5 dX5_fit_47 rfl rfl (Nat.le_of_ble_eq_true rfl) rfl ?_
      refine Sim.goto 10 dX5_fit_50 rfl ?_
      refine Sim.locs [3, 4, 5, 1, 0] rfl ?_
      exact H10 (v0, v1, v2, x2, (v4 + (1 : Int32)), h)
    · refine Sim.iinc (L' := [(4, .int (v4 + (1 : Int32))), (5, .int x1), (0, .int v0), (1, .int v1), (2, .int v2), (3, .int v3)]) 5 dX5_fit_47 rfl rfl (Nat.le_of_ble_eq_true rfl) rfl ?_
      refine Sim.goto 10 dX5_fit_50 rfl ?_
      refine Sim.locs [2, 3, 4, 5, 0] rfl ?_
      exact H10 (v0, v1, v2, v3, (v4 + (1 : Int32)), h)
def f_X5_fit_10_lp   (n : Nat) (v : Int32 × Int32 × Int32 × Int32 × Int32 × zHp) : Option (Int32 × zHp) := zlp (fun k10 v => f_X5_fit_10 k10 v.1 v.2.1 v.2.2.1 v.2.2.2.1 v.2.2.2.2.1 v.2.2.2.2.2) n v
theorem f_X5_fit_10_ls  (n : Nat) (v : Int32 × Int32 × Int32 × Int32 × Int32 × zHp) : Sim wX mX5_fit 1 rI 10 [(0, .int v.1), (1, .int v.2.1), (2, .int v.2.2.1), (3, .int v.2.2.2.1), (4, .int v.2.2.2.2.1)] [] v.2.2.2.2.2 (f_X5_fit_10_lp n v) :=
  Sim.lp (V := Int32 × Int32 × Int32 × Int32 × Int32 × zHp) (Lf := fun v => [(0, .int v.1), (1, .int v.2.1), (2, .int v.2.2.1), (3, .int v.2.2.2.1), (4, .int v.2.2.2.2.1)]) (sf := fun v => []) (hf := fun v => v.2.2.2.2.2) (fun k10 H10 v => f_X5_fit_10_s k10 H10 v.1 v.2.1 v.2.2.1 v.2.2.2.1 v.2.2.2.2.1 v.2.2.2.2.2) n v
def f_X5_fit  (a1 : Int32) (a2 : Int32) (h : zHp) : Option (Int32 × zHp) := (f_X5_throwsOf a1 h).bind fun x1 => f_X5_fit_10_lp  zN (a1, a2, x1.1, (0 : Int32), (1 : Int32), x1.2)
set_option maxHeartbeats 4000000 in
set_option maxRecDepth 100000 in
theorem s_X5_fit  (a1 : Int32) (a2 : Int32) (h : zHp) : Fn wX mX5_fit 1 rI [.int a1, .int a2] h (f_X5_fit a1 a2 h) := by
  refine Fn.of rfl (Nat.le_of_ble_eq_true rfl) ?_
  unfold f_X5_fit
  refine Sim.iload_n 0 dX5_fit_0 rfl ?_
  refine Sim.callS1I (d1 := 0) (s_X5_throwsOf a1 h) dX5_fit_1 ml_X5_93 mv_X5_throwsOf (Nat.le_of_ble_eq_true rfl) (Nat.le_of_ble_eq_true rfl) (Nat.le_of_ble_eq_true rfl) (fun x1 => ?_)
  refine Sim.istore_n (L' := [(2, .int x1.1), (0, .int a1), (1, .int a2)]) dX5_fit_4 (Nat.le_of_ble_eq_true rfl) rfl ?_
  refine Sim.iconst (v := (0 : Int32)) dX5_fit_5 rfl ?_
  refine Sim.istore_n (L' := [(3, .int (0 : Int32)), (2, .int x1.1), (0, .int a1), (1, .int a2)]) dX5_fit_6 (Nat.le_of_ble_eq_true rfl) rfl ?_
  refine Sim.iconst (v := (1 : Int32)) dX5_fit_7 rfl ?_
  refine Sim.istore (L' := [(4, .int (1 : Int32)), (3, .int (0 : Int32)), (2, .int x1.1), (0, .int a1), (1, .int a2)]) dX5_fit_8 (Nat.le_of_ble_eq_true rfl) rfl ?_
  refine Sim.locs [3, 4, 2, 1, 0] rfl ?_
  exact f_X5_fit_10_ls  zN (a1, a2, x1.1, (0 : Int32), (1 : Int32), x1.2)
theorem mv_X5_fit : zMS mX5_fit 2 := ⟨⟨zTb_in 1181 (by decide +kernel) rfl, zTb_in 147 (by decide +kernel) rfl, ⟨by decide +kernel, by decide +kernel⟩, by decide +kernel⟩, zTb_in 1180 (by decide +kernel) rfl⟩
-- ===== RockingPorch$Puzzles.likely(IIZ)I
abbrev mX5_likely : zMt := (yX5_likely, cX5_likely, 6, some .int)
theorem ml_X5_96 : Cond.methodLink RX5 96 yX5_fit ∈ zTb := zTb_in 1193 (by decide +kernel) rfl
theorem dX5_likely_0 : decode cX5_likely 0 = .ok (.iload_n 1, 1) := by decide +kernel
theorem dX5_likely_1 : decode cX5_likely 1 = .ok (.iload_n 1, 1) := by decide +kernel
theorem dX5_likely_2 : decode cX5_likely 2 = .ok (.invokestatic 96, 3) := by decide +kernel
theorem dX5_likely_5 : decode cX5_likely 5 = .ok (.iload_n 1, 1) := by decide +kernel
theorem dX5_likely_6 : decode cX5_likely 6 = .ok (.iload_n 0, 1) := by decide +kernel
theorem dX5_likely_7 : decode cX5_likely 7 = .ok (.invokestatic 96, 3) := by decide +kernel
theorem dX5_likely_10 : decode cX5_likely 10 = .ok (.isub, 1) := by decide +kernel
theorem dX5_likely_11 : decode cX5_likely 11 = .ok (.istore_n 3, 1) := by decide +kernel
theorem dX5_likely_12 : decode cX5_likely 12 = .ok (.iload_n 0, 1) := by decide +kernel
theorem dX5_likely_13 : decode cX5_likely 13 = .ok (.iload_n 0, 1) := by decide +kernel
theorem dX5_likely_14 : decode cX5_likely 14 = .ok (.invokestatic 96, 3) := by decide +kernel
theorem dX5_likely_17 : decode cX5_likely 17 = .ok (.iload_n 0, 1) := by decide +kernel
theorem dX5_likely_18 : decode cX5_likely 18 = .ok (.iload_n 1, 1) := by decide +kernel
theorem dX5_likely_19 : decode cX5_likely 19 = .ok (.invokestatic 96, 3) := by decide +kernel
theorem dX5_likely_22 : decode cX5_likely 22 = .ok (.isub, 1) := by decide +kernel
theorem dX5_likely_23 : decode cX5_likely 23 = .ok (.istore 4, 2) := by decide +kernel
theorem dX5_likely_25 : decode cX5_likely 25 = .ok (.iconst 1, 1) := by decide +kernel
theorem dX5_likely_26 : decode cX5_likely 26 = .ok (.iload_n 3, 1) := by decide +kernel
theorem dX5_likely_27 : decode cX5_likely 27 = .ok (.iload 4, 2) := by decide +kernel
theorem dX5_likely_29 : decode cX5_likely 29 = .ok (.iadd, 1) := by decide +kernel
theorem dX5_likely_30 : decode cX5_likely 30 = .ok (.iload_n 3, 1) := by decide +kernel
theorem dX5_likely_31 : decode cX5_likely 31 = .ok (.invokestatic 55, 3) := by decide +kernel
theorem dX5_likely_34 : decode cX5_likely 34 = .ok (.invokestatic 47, 3) := by decide +kernel
theorem dX5_likely_37 : decode cX5_likely 37 = .ok (.istore 5, 2) := by decide +kernel
theorem dX5_likely_39 : decode cX5_likely 39 = .ok (.iload_n 2, 1) := by decide +kernel
theorem dX5_likely_40 : decode cX5_likely 40 = .ok (.ifCond .eq 10, 3) := by decide +kernel
theorem dX5_likely_43 : decode cX5_likely 43 = .ok (.iload_n 3, 1) := by decide +kernel
theorem dX5_likely_44 : decode cX5_likely 44 = .ok (.iload 4, 2) := by decide +kernel
theorem dX5_likely_46 : decode cX5_likely 46 = .ok (.iadd, 1) := by decide +kernel
theorem dX5_likely_47 : decode cX5_likely 47 = .ok (.goto 4, 3) := by decide +kernel
theorem dX5_likely_50 : decode cX5_likely 50 = .ok (.iload_n 3, 1) := by decide +kernel
theorem dX5_likely_51 : decode cX5_likely 51 = .ok (.iload 5, 2) := by decide +kernel
theorem dX5_likely_53 : decode cX5_likely 53 = .ok (.idiv, 1) := by decide +kernel
theorem dX5_likely_54 : decode cX5_likely 54 = .ok (.ireturn, 1) := by decide +kernel
def f_X5_likely  (a1 : Int32) (a2 : Int32) (a3 : Int32) (h : zHp) : Option (Int32 × zHp) := (f_X5_fit a2 a2 h).bind fun x1 => (f_X5_fit a2 a1 x1.2).bind fun x2 => zlt (x1.1 - x2.1) fun x3 => (f_X5_fit a1 a1 x2.2).bind fun x4 => (f_X5_fit a1 a2 x4.2).bind fun x5 => zlt (x4.1 - x5.1) fun x6 => (f_X5_divisor (x3 + x6) x3 x5.2).bind fun x7 => zlt (if (1 : Int32) < x7.1 then x7.1 else (1 : Int32)) fun x8 => (if a3 = 0 then zdz x8 (some ((x3 / x8), x7.2)) else zdz x8 (some (((x3 + x6) / x8), x7.2)))
set_option maxHeartbeats 4000000 in
set_option maxRecDepth 100000 in
theorem s_X5_likely  (a1 : Int32) (a2 : Int32) (a3 : Int32) (h : zHp) : Fn wX mX5_likely 2 rI [.int a1, .int a2, .int a3] h (f_X5_likely a1 a2 a3 h) := by
  refine Fn.of rfl (Nat.le_of_ble_eq_true rfl) ?_
  unfold f_X5_likely
  refine Sim.iload_n 1 dX5_likely_0 rfl ?_
  refine Sim.iload_n 1 dX5_likely_1 rfl ?_
  refine Sim.callS2I (d1 := 1) (s_X5_fit a2 a2 h) dX5_likely_2 ml_X5_96 mv_X5_fit (Nat.le_of_ble_eq_true rfl) (Nat.le_of_ble_eq_true rfl) (Nat.le_of_ble_eq_true rfl) (fun x1 => ?_)
  refine Sim.iload_n 1 dX5_likely_5 rfl ?_
  refine Sim.iload_n 0 dX5_likely_6 rfl ?_
  refine Sim.callS2I (d1 := 1) (s_X5_fit a2 a1 x1.2) dX5_likely_7 ml_X5_96 mv_X5_fit (Nat.le_of_ble_eq_true rfl) (Nat.le_of_ble_eq_true rfl) (Nat.le_of_ble_eq_true rfl) (fun x2 => ?_)
  refine Sim.isub dX5_likely_10 ?_
  refine Sim.lti (fun x3 => ?_)
  refine Sim.istore_n (L' := [(3, .int x3), (0, .int a1), (1, .int a2), (2, .int a3)]) dX5_likely_11 (Nat.le_of_ble_eq_true rfl) rfl ?_
  refine Sim.iload_n 1 dX5_likely_12 rfl ?_
  refine Sim.iload_n 1 dX5_likely_13 rfl ?_
  refine Sim.callS2I (d1 := 1) (s_X5_fit a1 a1 x2.2) dX5_likely_14 ml_X5_96 mv_X5_fit (Nat.le_of_ble_eq_true rfl) (Nat.le_of_ble_eq_true rfl) (Nat.le_of_ble_eq_true rfl) (fun x4 => ?_)
  refine Sim.iload_n 1 dX5_likely_17 rfl ?_
  refine Sim.iload_n 2 dX5_likely_18 rfl ?_
  refine Sim.callS2I (d1 := 1) (s_X5_fit a1 a2 x4.2) dX5_likely_19 ml_X5_96 mv_X5_fit (Nat.le_of_ble_eq_true rfl) (Nat.le_of_ble_eq_true rfl) (Nat.le_of_ble_eq_true rfl) (fun x5 => ?_)
  refine Sim.isub dX5_likely_22 ?_
  refine Sim.lti (fun x6 => ?_)
  refine Sim.istore (L' := [(4, .int x6), (3, .int x3), (0, .int a1), (1, .int a2), (2, .int a3)]) dX5_likely_23 (Nat.le_of_ble_eq_true rfl) rfl ?_
  refine Sim.iconst (v := (1 : Int32)) dX5_likely_25 rfl ?_
  refine Sim.iload_n 1 dX5_likely_26 rfl ?_
  refine Sim.iload 0 dX5_likely_27 rfl ?_
  refine Sim.iadd dX5_likely_29 ?_
  refine Sim.iload_n 1 dX5_likely_30 rfl ?_
  refine Sim.callS2I (d1 := 1) (s_X5_divisor (x3 + x6) x3 x5.2) dX5_likely_31 ml_X5_55 mv_X5_divisor (Nat.le_of_ble_eq_true rfl) (Nat.le_of_ble_eq_true rfl) (Nat.le_of_ble_eq_true rfl) (fun x7 => ?_)
  refine Sim.mmax dX5_likely_34 ml_X5_47 ms_max ms_Math mc_max (Nat.le_of_ble_eq_true rfl) (Nat.le_of_ble_eq_true rfl) ?_
  refine Sim.lti (fun x8 => ?_)
  refine Sim.istore (L' := [(5, .int x8), (4, .int x6), (3, .int x3), (0, .int a1), (1, .int a2), (2, .int a3)]) dX5_likely_37 (Nat.le_of_ble_eq_true rfl) rfl ?_
  refine Sim.iload_n 5 dX5_likely_39 rfl ?_
  refine Sim.if_eq 50 dX5_likely_40 rfl ?_ ?_
  · refine Sim.iload_n 2 dX5_likely_50 rfl ?_
    refine Sim.iload 0 dX5_likely_51 rfl ?_
    refine Sim.idiv dX5_likely_53 ?_
    exact Sim.iret dX5_likely_54 rfl
  · refine Sim.iload_n 2 dX5_likely_43 rfl ?_
    refine Sim.iload 1 dX5_likely_44 rfl ?_
    refine Sim.iadd dX5_likely_46 ?_
    refine Sim.goto 51 dX5_likely_47 rfl ?_
    refine Sim.iload 0 dX5_likely_51 rfl ?_
    refine Sim.idiv dX5_likely_53 ?_
    exact Sim.iret dX5_likely_54 rfl
theorem mv_X5_likely : zMS mX5_likely 3 := ⟨⟨zTb_in 1192 (by decide +kernel) rfl, zTb_in 147 (by decide +kernel) rfl, ⟨by decide +kernel, by decide +kernel⟩, by decide +kernel⟩, zTb_in 1191 (by decide +kernel) rfl⟩
-- ===== RockingPorch$Puzzles.handsApart(I)I
abbrev mX5_handsApart : zMt := (yX5_handsApart, cX5_handsApart, 2, some .int)
theorem dX5_handsApart_0 : decode cX5_handsApart 0 = .ok (.bipush 11, 2) := by decide +kernel
theorem dX5_handsApart_2 : decode cX5_handsApart 2 = .ok (.iload_n 0, 1) := by decide +kernel
theorem dX5_handsApart_3 : decode cX5_handsApart 3 = .ok (.imul, 1) := by decide +kernel
theorem dX5_handsApart_4 : decode cX5_handsApart 4 = .ok (.sipush 720, 3) := by decide +kernel
theorem dX5_handsApart_7 : decode cX5_handsApart 7 = .ok (.irem, 1) := by decide +kernel
theorem dX5_handsApart_8 : decode cX5_handsApart 8 = .ok (.istore_n 1, 1) := by decide +kernel
theorem dX5_handsApart_9 : decode cX5_handsApart 9 = .ok (.iload_n 1, 1) := by decide +kernel
theorem dX5_handsApart_10 : decode cX5_handsApart 10 = .ok (.sipush 720, 3) := by decide +kernel
theorem dX5_handsApart_13 : decode cX5_handsApart 13 = .ok (.iload_n 1, 1) := by decide +kernel
theorem dX5_handsApart_14 : decode cX5_handsApart 14 = .ok (.isub, 1) := by decide +kernel
theorem dX5_handsApart_15 : decode cX5_handsApart 15 = .ok (.invokestatic 71, 3) := by decide +kernel
theorem dX5_handsApart_18 : decode cX5_handsApart 18 = .ok (.ireturn, 1) := by decide +kernel
def f_X5_handsApart  (a1 : Int32) (h : zHp) : Option (Int32 × zHp) := zlt (((11 : Int32) * a1) - ((11 : Int32) * a1) / (720 : Int32) * (720 : Int32)) fun x1 => some ((if ((720 : Int32) - x1) < x1 then ((720 : Int32) - x1) else x1), h)
set_option maxHeartbeats 4000000 in
set_option maxRecDepth 100000 in
theorem s_X5_handsApart  (a1 : Int32) (h : zHp) : Fn wX mX5_handsApart 1 rI [.int a1] h (f_X5_handsApart a1 h) := by
  refine Fn.of rfl (Nat.le_of_ble_eq_true rfl) ?_
  unfold f_X5_handsApart
  refine Sim.bipush (v := (11 : Int32)) dX5_handsApart_0 rfl ?_
  refine Sim.iload_n 0 dX5_handsApart_2 rfl ?_
  refine Sim.imul dX5_handsApart_3 ?_
  refine Sim.sipush (v := (720 : Int32)) dX5_handsApart_4 rfl ?_
  refine Sim.iremL dX5_handsApart_7 (by decide) ?_
  refine Sim.lti (fun x1 => ?_)
  refine Sim.istore_n (L' := [(1, .int x1), (0, .int a1)]) dX5_handsApart_8 (Nat.le_of_ble_eq_true rfl) rfl ?_
  refine Sim.iload_n 0 dX5_handsApart_9 rfl ?_
  refine Sim.sipush (v := (720 : Int32)) dX5_handsApart_10 rfl ?_
  refine Sim.iload_n 0 dX5_handsApart_13 rfl ?_
  refine Sim.isub dX5_handsApart_14 ?_
  refine Sim.mmin dX5_handsApart_15 ml_X5_71 ms_min ms_Math mc_min (Nat.le_of_ble_eq_true rfl) (Nat.le_of_ble_eq_true rfl) ?_
  exact Sim.iret dX5_handsApart_18 rfl
theorem mv_X5_handsApart : zMS mX5_handsApart 1 := ⟨⟨zTb_in 1200 (by decide +kernel) rfl, zTb_in 147 (by decide +kernel) rfl, ⟨by decide +kernel, by decide +kernel⟩, by decide +kernel⟩, zTb_in 1199 (by decide +kernel) rfl⟩
-- ===== RockingPorch$Puzzles.handsAsNear(I)I
abbrev mX5_handsAsNear : zMt := (yX5_handsAsNear, cX5_handsAsNear, 4, some .int)
theorem ml_X5_99 : Cond.methodLink RX5 99 yX5_handsApart ∈ zTb := zTb_in 1204 (by decide +kernel) rfl
theorem dX5_handsAsNear_0 : decode cX5_handsAsNear 0 = .ok (.iload_n 0, 1) := by decide +kernel
theorem dX5_handsAsNear_1 : decode cX5_handsAsNear 1 = .ok (.invokestatic 99, 3) := by decide +kernel
theorem dX5_handsAsNear_4 : decode cX5_handsAsNear 4 = .ok (.istore_n 1, 1) := by decide +kernel
theorem dX5_handsAsNear_5 : decode cX5_handsAsNear 5 = .ok (.iconst 0, 1) := by decide +kernel
theorem dX5_handsAsNear_6 : decode cX5_handsAsNear 6 = .ok (.istore_n 2, 1) := by decide +kernel
theorem dX5_handsAsNear_7 : decode cX5_handsAsNear 7 = .ok (.iconst 0, 1) := by decide +kernel
theorem dX5_handsAsNear_8 : decode cX5_handsAsNear 8 = .ok (.istore_n 3, 1) := by decide +kernel
theorem dX5_handsAsNear_9 : decode cX5_handsAsNear 9 = .ok (.iload_n 3, 1) := by decide +kernel
theorem dX5_handsAsNear_10 : decode cX5_handsAsNear 10 = .ok (.iload_n 0, 1) := by decide +kernel
theorem dX5_handsAsNear_11 : decode cX5_handsAsNear 11 = .ok (.if_icmp .gt 25, 3) := by decide +kernel
theorem dX5_handsAsNear_14 : decode cX5_handsAsNear 14 = .ok (.iload_n 2, 1) := by decide +kernel
theorem dX5_handsAsNear_15 : decode cX5_handsAsNear 15 = .ok (.iload_n 3, 1) := by decide +kernel
theorem dX5_handsAsNear_16 : decode cX5_handsAsNear 16 = .ok (.invokestatic 99, 3) := by decide +kernel
theorem dX5_handsAsNear_19 : decode cX5_handsAsNear 19 = .ok (.iload_n 1, 1) := by decide +kernel
theorem dX5_handsAsNear_20 : decode cX5_handsAsNear 20 = .ok (.if_icmp .gt 7, 3) := by decide +kernel
theorem dX5_handsAsNear_23 : decode cX5_handsAsNear 23 = .ok (.iconst 1, 1) := by decide +kernel
theorem dX5_handsAsNear_24 : decode cX5_handsAsNear 24 = .ok (.goto 4, 3) := by decide +kernel
theorem dX5_handsAsNear_27 : decode cX5_handsAsNear 27 = .ok (.iconst 0, 1) := by decide +kernel
theorem dX5_handsAsNear_28 : decode cX5_handsAsNear 28 = .ok (.iadd, 1) := by decide +kernel
theorem dX5_handsAsNear_29 : decode cX5_handsAsNear 29 = .ok (.istore_n 2, 1) := by decide +kernel
theorem dX5_handsAsNear_30 : decode cX5_handsAsNear 30 = .ok (.iinc 3 1, 3) := by decide +kernel
theorem dX5_handsAsNear_33 : decode cX5_handsAsNear 33 = .ok (.goto (-24), 3) := by decide +kernel
theorem dX5_handsAsNear_36 : decode cX5_handsAsNear 36 = .ok (.iload_n 2, 1) := by decide +kernel
theorem dX5_handsAsNear_37 : decode cX5_handsAsNear 37 = .ok (.ireturn, 1) := by decide +kernel
def f_X5_handsAsNear_9  (k9 : Int32 × Int32 × Int32 × Int32 × zHp → Option (Int32 × zHp)) (v0 : Int32) (v1 : Int32) (v2 : Int32) (v3 : Int32) (h : zHp) : Option (Int32 × zHp) := (if v0 < v3 then some (v2, h) else (f_X5_handsApart v3 h).bind fun x1 => (if v1 < x1.1 then zlt (v2 + (0 : Int32)) fun x2 => k9 (v0, v1, x2, (v3 + (1 : Int32)), x1.2) else zlt (v2 + (1 : Int32)) fun x3 => k9 (v0, v1, x3, (v3 + (1 : Int32)), x1.2)))
set_option maxHeartbeats 4000000 in
set_option maxRecDepth 100000 in
theorem f_X5_handsAsNear_9_s  (k9 : Int32 × Int32 × Int32 × Int32 × zHp → Option (Int32 × zHp)) (H9 : ∀ v : Int32 × Int32 × Int32 × Int32 × zHp, Sim wX mX5_handsAsNear 2 rI 9 [(0, .int v.1), (1, .int v.2.1), (2, .int v.2.2.1), (3, .int v.2.2.2.1)] [] v.2.2.2.2 (k9 v)) (v0 : Int32) (v1 : Int32) (v2 : Int32) (v3 : Int32) (h : zHp) : Sim wX mX5_handsAsNear 2 rI 9 [(0, .int v0), (1, .int v1), (2, .int v2), (3, .int v3)] [] h (f_X5_handsAsNear_9 k9 v0 v1 v2 v3 h) := by
  unfold f_X5_handsAsNear_9
  refine Sim.iload_n 3 dX5_handsAsNear_9 rfl ?_
  refine Sim.iload_n 0 dX5_handsAsNear_10 rfl ?_
  refine Sim.icmp_gt 36 dX5_handsAsNear_11 rfl ?_ ?_
  · refine Sim.iload_n 2 dX5_handsAsNear_36 rfl ?_
    exact Sim.iret dX5_handsAsNear_37 rfl
  · refine Sim.iload_n 2 dX5_handsAsNear_14 rfl ?_
    refine Sim.iload_n 3 dX5_handsAsNear_15 rfl ?_
    refine Sim.callS1I (d1 := 1) (s_X5_handsApart v3 h) dX5_handsAsNear_16 ml_X5_99 mv_X5_handsApart (Nat.le_of_ble_eq_true rfl) (Nat.le_of_ble_eq_true rfl) (Nat.le_of_ble_eq_true rfl) (fun x1 => ?_)
    refine Sim.iload_n 1 dX5_handsAsNear_19 rfl ?_
    refine Sim.icmp_gt 27 dX5_handsAsNear_20 rfl ?_ ?_
    · refine Sim.iconst (v := (0 : Int32)) dX5_handsAsNear_27 rfl ?_
      refine Sim.iadd dX5_handsAsNear_28 ?_
      refine Sim.lti (fun x2 => ?_)
      refine Sim.istore_n (L' := [(2, .int x2), (0, .int v0), (1, .int v1), (3, .int v3)]) dX5_handsAsNear_29 (Nat.le_of_ble_eq_true rfl) rfl ?_
      refine Sim.iinc (L' := [(3, .int (v3 + (1 : Int32))), (2, .int x2), (0, .int v0), (1, .int v1)]) 3 dX5_handsAsNear_30 rfl rfl (Nat.le_of_ble_eq_true rfl) rfl ?_
      refine Sim.goto 9 dX5_handsAsNear_33 rfl ?_
      refine Sim.locs [2, 3, 1, 0] rfl ?_
      exact H9 (v0, v1, x2, (v3 + (1 : Int32)), x1.2)
    · refine Sim.iconst (v := (1 : Int32)) dX5_handsAsNear_23 rfl ?_
      refine Sim.goto 28 dX5_handsAsNear_24 rfl ?_
      refine Sim.iadd dX5_handsAsNear_28 ?_
      refine Sim.lti (fun x3 => ?_)
      refine Sim.istore_n (L' := [(2, .int x3), (0, .int v0), (1, .int v1), (3, .int v3)]) dX5_handsAsNear_29 (Nat.le_of_ble_eq_true rfl) rfl ?_
      refine Sim.iinc (L' := [(3, .int (v3 + (1 : Int32))), (2, .int x3), (0, .int v0), (1, .int v1)]) 3 dX5_handsAsNear_30 rfl rfl (Nat.le_of_ble_eq_true rfl) rfl ?_
      refine Sim.goto 9 dX5_handsAsNear_33 rfl ?_
      refine Sim.locs [2, 3, 1, 0] rfl ?_
      exact H9 (v0, v1, x3, (v3 + (1 : Int32)), x1.2)
def f_X5_handsAsNear_9_lp   (n : Nat) (v : Int32 × Int32 × Int32 × Int32 × zHp) : Option (Int32 × zHp) := zlp (fun k9 v => f_X5_handsAsNear_9 k9 v.1 v.2.1 v.2.2.1 v.2.2.2.1 v.2.2.2.2) n v
theorem f_X5_handsAsNear_9_ls  (n : Nat) (v : Int32 × Int32 × Int32 × Int32 × zHp) : Sim wX mX5_handsAsNear 2 rI 9 [(0, .int v.1), (1, .int v.2.1), (2, .int v.2.2.1), (3, .int v.2.2.2.1)] [] v.2.2.2.2 (f_X5_handsAsNear_9_lp n v) :=
  Sim.lp (V := Int32 × Int32 × Int32 × Int32 × zHp) (Lf := fun v => [(0, .int v.1), (1, .int v.2.1), (2, .int v.2.2.1), (3, .int v.2.2.2.1)]) (sf := fun v => []) (hf := fun v => v.2.2.2.2) (fun k9 H9 v => f_X5_handsAsNear_9_s k9 H9 v.1 v.2.1 v.2.2.1 v.2.2.2.1 v.2.2.2.2) n v
def f_X5_handsAsNear  (a1 : Int32) (h : zHp) : Option (Int32 × zHp) := (f_X5_handsApart a1 h).bind fun x1 => f_X5_handsAsNear_9_lp  zN (a1, x1.1, (0 : Int32), (0 : Int32), x1.2)
set_option maxHeartbeats 4000000 in
set_option maxRecDepth 100000 in
theorem s_X5_handsAsNear  (a1 : Int32) (h : zHp) : Fn wX mX5_handsAsNear 2 rI [.int a1] h (f_X5_handsAsNear a1 h) := by
  refine Fn.of rfl (Nat.le_of_ble_eq_true rfl) ?_
  unfold f_X5_handsAsNear
  refine Sim.iload_n 0 dX5_handsAsNear_0 rfl ?_
  refine Sim.callS1I (d1 := 1) (s_X5_handsApart a1 h) dX5_handsAsNear_1 ml_X5_99 mv_X5_handsApart (Nat.le_of_ble_eq_true rfl) (Nat.le_of_ble_eq_true rfl) (Nat.le_of_ble_eq_true rfl) (fun x1 => ?_)
  refine Sim.istore_n (L' := [(1, .int x1.1), (0, .int a1)]) dX5_handsAsNear_4 (Nat.le_of_ble_eq_true rfl) rfl ?_
  refine Sim.iconst (v := (0 : Int32)) dX5_handsAsNear_5 rfl ?_
  refine Sim.istore_n (L' := [(2, .int (0 : Int32)), (1, .int x1.1), (0, .int a1)]) dX5_handsAsNear_6 (Nat.le_of_ble_eq_true rfl) rfl ?_
  refine Sim.iconst (v := (0 : Int32)) dX5_handsAsNear_7 rfl ?_
  refine Sim.istore_n (L' := [(3, .int (0 : Int32)), (2, .int (0 : Int32)), (1, .int x1.1), (0, .int a1)]) dX5_handsAsNear_8 (Nat.le_of_ble_eq_true rfl) rfl ?_
  refine Sim.locs [3, 2, 1, 0] rfl ?_
  exact f_X5_handsAsNear_9_ls  zN (a1, x1.1, (0 : Int32), (0 : Int32), x1.2)
theorem mv_X5_handsAsNear : zMS mX5_handsAsNear 1 := ⟨⟨zTb_in 1203 (by decide +kernel) rfl, zTb_in 147 (by decide +kernel) rfl, ⟨by decide +kernel, by decide +kernel⟩, by decide +kernel⟩, zTb_in 1202 (by decide +kernel) rfl⟩
-- ===== RockingPorch$Puzzles.stepSet()J
abbrev mX5_stepSet : zMt := (yX5_stepSet, cX5_stepSet, 4, some .long)
theorem fl_X5_102 : zF RX5 102 8 4 := ⟨RX8, TX8, 7, rfl, Nat.le_of_ble_eq_true rfl, zTb_in 337 (by decide +kernel) rfl, in_X8⟩
theorem dX5_stepSet_0 : decode cX5_stepSet 0 = .ok (.lconst 0, 1) := by decide +kernel
theorem dX5_stepSet_1 : decode cX5_stepSet 1 = .ok (.lstore_n 1, 1) := by decide +kernel
theorem dX5_stepSet_2 : decode cX5_stepSet 2 = .ok (.iconst 0, 1) := by decide +kernel
theorem dX5_stepSet_3 : decode cX5_stepSet 3 = .ok (.istore_n 3, 1) := by decide +kernel
theorem dX5_stepSet_4 : decode cX5_stepSet 4 = .ok (.iload_n 3, 1) := by decide +kernel
theorem dX5_stepSet_5 : decode cX5_stepSet 5 = .ok (.aload_n 0, 1) := by decide +kernel
theorem dX5_stepSet_6 : decode cX5_stepSet 6 = .ok (.getfield 24, 3) := by decide +kernel
theorem dX5_stepSet_9 : decode cX5_stepSet 9 = .ok (.getfield 102, 3) := by decide +kernel
theorem dX5_stepSet_12 : decode cX5_stepSet 12 = .ok (.getfield 34, 3) := by decide +kernel
theorem dX5_stepSet_15 : decode cX5_stepSet 15 = .ok (.if_icmp .ge 25, 3) := by decide +kernel
theorem dX5_stepSet_18 : decode cX5_stepSet 18 = .ok (.lload_n 1, 1) := by decide +kernel
theorem dX5_stepSet_19 : decode cX5_stepSet 19 = .ok (.lconst 1, 1) := by decide +kernel
theorem dX5_stepSet_20 : decode cX5_stepSet 20 = .ok (.aload_n 0, 1) := by decide +kernel
theorem dX5_stepSet_21 : decode cX5_stepSet 21 = .ok (.getfield 24, 3) := by decide +kernel
theorem dX5_stepSet_24 : decode cX5_stepSet 24 = .ok (.getfield 102, 3) := by decide +kernel
theorem dX5_stepSet_27 : decode cX5_stepSet 27 = .ok (.iload_n 3, 1) := by decide +kernel
theorem dX5_stepSet_28 : decode cX5_stepSet 28 = .ok (.invokevirtual 40, 3) := by decide +kernel
theorem dX5_stepSet_31 : decode cX5_stepSet 31 = .ok (.lshl, 1) := by decide +kernel
theorem dX5_stepSet_32 : decode cX5_stepSet 32 = .ok (.lor, 1) := by decide +kernel
theorem dX5_stepSet_33 : decode cX5_stepSet 33 = .ok (.lstore_n 1, 1) := by decide +kernel
theorem dX5_stepSet_34 : decode cX5_stepSet 34 = .ok (.iinc 3 1, 3) := by decide +kernel
theorem dX5_stepSet_37 : decode cX5_stepSet 37 = .ok (.goto (-33), 3) := by decide +kernel
theorem dX5_stepSet_40 : decode cX5_stepSet 40 = .ok (.lload_n 1, 1) := by decide +kernel
theorem dX5_stepSet_41 : decode cX5_stepSet 41 = .ok (.lreturn, 1) := by decide +kernel
def f_X5_stepSet_4  (k4 : Int64 × Int32 × zHp → Option (Int64 × zHp)) (v1 : Int64) (v3 : Int32) (h : zHp) : Option (Int64 × zHp) := (if v3 < (h 35 1) then (f_X7_get 35 v3 h).bind fun x1 => zlt (v1 ||| ((1 : Int64) <<< (x1.1.toInt64 &&& 63))) fun x2 => k4 (x2, (v3 + (1 : Int32)), x1.2) else some (v1, h))
set_option maxHeartbeats 4000000 in
set_option maxRecDepth 100000 in
theorem f_X5_stepSet_4_s  (k4 : Int64 × Int32 × zHp → Option (Int64 × zHp)) (H4 : ∀ v : Int64 × Int32 × zHp, Sim wX mX5_stepSet 1 rJ 4 [(0, .ref 161), (1, .long v.1), (3, .int v.2.1)] [] v.2.2 (k4 v)) (v1 : Int64) (v3 : Int32) (h : zHp) : Sim wX mX5_stepSet 1 rJ 4 [(0, .ref 161), (1, .long v1), (3, .int v3)] [] h (f_X5_stepSet_4 k4 v1 v3 h) := by
  unfold f_X5_stepSet_4
  refine Sim.iload_n 2 dX5_stepSet_4 rfl ?_
  refine Sim.aload_n 0 dX5_stepSet_5 rfl ?_
  refine Sim.getR (j := 26) fl_X5_24 dX5_stepSet_6 xR_161_0 ?_
  refine Sim.getR (j := 35) fl_X5_102 dX5_stepSet_9 (xR_X8_4 _ xL_X8_26) ?_
  refine Sim.getI fl_X5_34 dX5_stepSet_12 (xI_X7_1 _ xL_X7_35) ?_
  refine Sim.icmp_ge 40 dX5_stepSet_15 rfl ?_ ?_
  · refine Sim.lload_n 1 dX5_stepSet_18 rfl ?_
    refine Sim.lconst (v := (1 : Int64)) dX5_stepSet_19 rfl ?_
    refine Sim.aload_n 0 dX5_stepSet_20 rfl ?_
    refine Sim.getR (j := 26) fl_X5_24 dX5_stepSet_21 xR_161_0 ?_
    refine Sim.getR (j := 35) fl_X5_102 dX5_stepSet_24 (xR_X8_4 _ xL_X8_26) ?_
    refine Sim.iload_n 2 dX5_stepSet_27 rfl ?_
    refine Sim.callV1I (d1 := 0) (s_X7_get 35 xL_X7_35 v3 h) dX5_stepSet_28 ml_X5_40 mv_X7_get (xOC_X7 _ xL_X7_35) (Nat.le_of_ble_eq_true rfl) (Nat.le_of_ble_eq_true rfl) (Nat.le_of_ble_eq_true rfl) (fun x1 => ?_)
    refine Sim.lshl dX5_stepSet_31 ?_
    refine Sim.lor dX5_stepSet_32 ?_
    refine Sim.ltl (fun x2 => ?_)
    refine Sim.lstore_n (L' := [(1, .long x2), (0, .ref 161), (3, .int v3)]) dX5_stepSet_33 (Nat.le_of_ble_eq_true rfl) rfl ?_
    refine Sim.iinc (L' := [(3, .int (v3 + (1 : Int32))), (1, .long x2), (0, .ref 161)]) 2 dX5_stepSet_34 rfl rfl (Nat.le_of_ble_eq_true rfl) rfl ?_
    refine Sim.goto 4 dX5_stepSet_37 rfl ?_
    refine Sim.locs [2, 1, 0] rfl ?_
    exact H4 (x2, (v3 + (1 : Int32)), x1.2)
  · refine Sim.lload_n 1 dX5_stepSet_40 rfl ?_
    exact Sim.lret dX5_stepSet_41 rfl
def f_X5_stepSet_4_lp   (n : Nat) (v : Int64 × Int32 × zHp) : Option (Int64 × zHp) := zlp (fun k4 v => f_X5_stepSet_4 k4 v.1 v.2.1 v.2.2) n v
theorem f_X5_stepSet_4_ls  (n : Nat) (v : Int64 × Int32 × zHp) : Sim wX mX5_stepSet 1 rJ 4 [(0, .ref 161), (1, .long v.1), (3, .int v.2.1)] [] v.2.2 (f_X5_stepSet_4_lp n v) :=
  Sim.lp (V := Int64 × Int32 × zHp) (Lf := fun v => [(0, .ref 161), (1, .long v.1), (3, .int v.2.1)]) (sf := fun v => []) (hf := fun v => v.2.2) (fun k4 H4 v => f_X5_stepSet_4_s k4 H4 v.1 v.2.1 v.2.2) n v
def f_X5_stepSet   (h : zHp) : Option (Int64 × zHp) := f_X5_stepSet_4_lp  zN ((0 : Int64), (0 : Int32), h)
set_option maxHeartbeats 4000000 in
set_option maxRecDepth 100000 in
theorem s_X5_stepSet   (h : zHp) : Fn wX mX5_stepSet 1 rJ [.ref 161] h (f_X5_stepSet  h) := by
  refine Fn.of rfl (Nat.le_of_ble_eq_true rfl) ?_
  unfold f_X5_stepSet
  refine Sim.lconst (v := (0 : Int64)) dX5_stepSet_0 rfl ?_
  refine Sim.lstore_n (L' := [(1, .long (0 : Int64)), (0, .ref 161)]) dX5_stepSet_1 (Nat.le_of_ble_eq_true rfl) rfl ?_
  refine Sim.iconst (v := (0 : Int32)) dX5_stepSet_2 rfl ?_
  refine Sim.istore_n (L' := [(3, .int (0 : Int32)), (1, .long (0 : Int64)), (0, .ref 161)]) dX5_stepSet_3 (Nat.le_of_ble_eq_true rfl) rfl ?_
  refine Sim.locs [2, 1, 0] rfl ?_
  exact f_X5_stepSet_4_ls  zN ((0 : Int64), (0 : Int32), h)
theorem mv_X5_stepSet : zMV mX5_stepSet 0 := ⟨⟨zTb_in 1220 (by decide +kernel) rfl, zTb_in 147 (by decide +kernel) rfl, ⟨by decide +kernel, by decide +kernel⟩, by decide +kernel⟩, zTb_in 1219 (by decide +kernel) rfl, zTb_in 35 (by decide +kernel) rfl⟩
-- ===== RockingPorch$Puzzles.stands(JI)Z
abbrev mX5_stands : zMt := (yX5_stands, cX5_stands, 3, some .boolean)
theorem dX5_stands_0 : decode cX5_stands 0 = .ok (.iload_n 2, 1) := by decide +kernel
theorem dX5_stands_1 : decode cX5_stands 1 = .ok (.ifCond .lt 23, 3) := by decide +kernel
theorem dX5_stands_4 : decode cX5_stands 4 = .ok (.iload_n 2, 1) := by decide +kernel
theorem dX5_stands_5 : decode cX5_stands 5 = .ok (.bipush 60, 2) := by decide +kernel
theorem dX5_stands_7 : decode cX5_stands 7 = .ok (.if_icmp .gt 17, 3) := by decide +kernel
theorem dX5_stands_10 : decode cX5_stands 10 = .ok (.lload_n 0, 1) := by decide +kernel
theorem dX5_stands_11 : decode cX5_stands 11 = .ok (.iload_n 2, 1) := by decide +kernel
theorem dX5_stands_12 : decode cX5_stands 12 = .ok (.lshr, 1) := by decide +kernel
theorem dX5_stands_13 : decode cX5_stands 13 = .ok (.lconst 1, 1) := by decide +kernel
theorem dX5_stands_14 : decode cX5_stands 14 = .ok (.land, 1) := by decide +kernel
theorem dX5_stands_15 : decode cX5_stands 15 = .ok (.lconst 1, 1) := by decide +kernel
theorem dX5_stands_16 : decode cX5_stands 16 = .ok (.lcmp, 1) := by decide +kernel
theorem dX5_stands_17 : decode cX5_stands 17 = .ok (.ifCond .ne 7, 3) := by decide +kernel
theorem dX5_stands_20 : decode cX5_stands 20 = .ok (.iconst 1, 1) := by decide +kernel
theorem dX5_stands_21 : decode cX5_stands 21 = .ok (.goto 4, 3) := by decide +kernel
theorem dX5_stands_24 : decode cX5_stands 24 = .ok (.iconst 0, 1) := by decide +kernel
theorem dX5_stands_25 : decode cX5_stands 25 = .ok (.ireturn, 1) := by decide +kernel
def f_X5_stands  (a1 : Int64) (a2 : Int32) (h : zHp) : Option (Int32 × zHp) := (if a2 < 0 then some ((0 : Int32), h) else (if (60 : Int32) < a2 then some ((0 : Int32), h) else (if (lg_cmp ((a1 >>> (a2.toInt64 &&& 63)) &&& (1 : Int64)) (1 : Int64)) = 0 then some ((1 : Int32), h) else some ((0 : Int32), h))))
set_option maxHeartbeats 4000000 in
set_option maxRecDepth 100000 in
theorem s_X5_stands  (a1 : Int64) (a2 : Int32) (h : zHp) : Fn wX mX5_stands 0 rI [.long a1, .int a2] h (f_X5_stands a1 a2 h) := by
  refine Fn.of rfl (Nat.le_of_ble_eq_true rfl) ?_
  unfold f_X5_stands
  refine Sim.iload_n 1 dX5_stands_0 rfl ?_
  refine Sim.if_lt 24 dX5_stands_1 rfl ?_ ?_
  · refine Sim.iconst (v := (0 : Int32)) dX5_stands_24 rfl ?_
    exact Sim.nret dX5_stands_25 rfl rfl
  · refine Sim.iload_n 1 dX5_stands_4 rfl ?_
    refine Sim.bipush (v := (60 : Int32)) dX5_stands_5 rfl ?_
    refine Sim.icmp_gt 24 dX5_stands_7 rfl ?_ ?_
    · refine Sim.iconst (v := (0 : Int32)) dX5_stands_24 rfl ?_
      exact Sim.nret dX5_stands_25 rfl rfl
    · refine Sim.lload_n 0 dX5_stands_10 rfl ?_
      refine Sim.iload_n 1 dX5_stands_11 rfl ?_
      refine Sim.lshr dX5_stands_12 ?_
      refine Sim.lconst (v := (1 : Int64)) dX5_stands_13 rfl ?_
      refine Sim.land dX5_stands_14 ?_
      refine Sim.lconst (v := (1 : Int64)) dX5_stands_15 rfl ?_
      refine Sim.lcmp dX5_stands_16 ?_
      refine Sim.if_ne 24 dX5_stands_17 rfl ?_ ?_
      · refine Sim.iconst (v := (1 : Int32)) dX5_stands_20 rfl ?_
        refine Sim.goto 25 dX5_stands_21 rfl ?_
        exact Sim.nret dX5_stands_25 rfl rfl
      · refine Sim.iconst (v := (0 : Int32)) dX5_stands_24 rfl ?_
        exact Sim.nret dX5_stands_25 rfl rfl
theorem mv_X5_stands : zMS mX5_stands 2 := ⟨⟨zTb_in 1223 (by decide +kernel) rfl, zTb_in 147 (by decide +kernel) rfl, ⟨by decide +kernel, by decide +kernel⟩, by decide +kernel⟩, zTb_in 1222 (by decide +kernel) rfl⟩
-- ===== RockingPorch$Puzzles.threes()I
abbrev mX5_threes : zMt := (yX5_threes, cX5_threes, 6, some .int)
theorem ml_X5_105 : Cond.methodLink RX5 105 yX5_stepSet ∈ zTb := zTb_in 1217 (by decide +kernel) rfl
theorem ml_X5_109 : Cond.methodLink RX5 109 yX5_stands ∈ zTb := zTb_in 1221 (by decide +kernel) rfl
theorem dX5_threes_0 : decode cX5_threes 0 = .ok (.aload_n 0, 1) := by decide +kernel
theorem dX5_threes_1 : decode cX5_threes 1 = .ok (.invokevirtual 105, 3) := by decide +kernel
theorem dX5_threes_4 : decode cX5_threes 4 = .ok (.lstore_n 1, 1) := by decide +kernel
theorem dX5_threes_5 : decode cX5_threes 5 = .ok (.iconst 0, 1) := by decide +kernel
theorem dX5_threes_6 : decode cX5_threes 6 = .ok (.istore_n 3, 1) := by decide +kernel
theorem dX5_threes_7 : decode cX5_threes 7 = .ok (.iconst 0, 1) := by decide +kernel
theorem dX5_threes_8 : decode cX5_threes 8 = .ok (.istore 4, 2) := by decide +kernel
theorem dX5_threes_10 : decode cX5_threes 10 = .ok (.iload 4, 2) := by decide +kernel
theorem dX5_threes_12 : decode cX5_threes 12 = .ok (.bipush 60, 2) := by decide +kernel
theorem dX5_threes_14 : decode cX5_threes 14 = .ok (.if_icmp .gt 73, 3) := by decide +kernel
theorem dX5_threes_17 : decode cX5_threes 17 = .ok (.iconst 1, 1) := by decide +kernel
theorem dX5_threes_18 : decode cX5_threes 18 = .ok (.istore 5, 2) := by decide +kernel
theorem dX5_threes_20 : decode cX5_threes 20 = .ok (.lload_n 1, 1) := by decide +kernel
theorem dX5_threes_21 : decode cX5_threes 21 = .ok (.iload 4, 2) := by decide +kernel
theorem dX5_threes_23 : decode cX5_threes 23 = .ok (.invokestatic 109, 3) := by decide +kernel
theorem dX5_threes_26 : decode cX5_threes 26 = .ok (.ifCond .eq 55, 3) := by decide +kernel
theorem dX5_threes_29 : decode cX5_threes 29 = .ok (.iload 4, 2) := by decide +kernel
theorem dX5_threes_31 : decode cX5_threes 31 = .ok (.iconst 2, 1) := by decide +kernel
theorem dX5_threes_32 : decode cX5_threes 32 = .ok (.iload 5, 2) := by decide +kernel
theorem dX5_threes_34 : decode cX5_threes 34 = .ok (.imul, 1) := by decide +kernel
theorem dX5_threes_35 : decode cX5_threes 35 = .ok (.iadd, 1) := by decide +kernel
theorem dX5_threes_36 : decode cX5_threes 36 = .ok (.bipush 60, 2) := by decide +kernel
theorem dX5_threes_38 : decode cX5_threes 38 = .ok (.if_icmp .gt 43, 3) := by decide +kernel
theorem dX5_threes_41 : decode cX5_threes 41 = .ok (.iload_n 3, 1) := by decide +kernel
theorem dX5_threes_42 : decode cX5_threes 42 = .ok (.lload_n 1, 1) := by decide +kernel
theorem dX5_threes_43 : decode cX5_threes 43 = .ok (.iload 4, 2) := by decide +kernel
theorem dX5_threes_45 : decode cX5_threes 45 = .ok (.iload 5, 2) := by decide +kernel
theorem dX5_threes_47 : decode cX5_threes 47 = .ok (.iadd, 1) := by decide +kernel
theorem dX5_threes_48 : decode cX5_threes 48 = .ok (.invokestatic 109, 3) := by decide +kernel
theorem dX5_threes_51 : decode cX5_threes 51 = .ok (.ifCond .eq 21, 3) := by decide +kernel
theorem dX5_threes_54 : decode cX5_threes 54 = .ok (.lload_n 1, 1) := by decide +kernel
theorem dX5_threes_55 : decode cX5_threes 55 = .ok (.iload 4, 2) := by decide +kernel
theorem dX5_threes_57 : decode cX5_threes 57 = .ok (.iconst 2, 1) := by decide +kernel
theorem dX5_threes_58 : decode cX5_threes 58 = .ok (.iload 5, 2) := by decide +kernel
theorem dX5_threes_60 : decode cX5_threes 60 = .ok (.imul, 1) := by decide +kernel
theorem dX5_threes_61 : decode cX5_threes 61 = .ok (.iadd, 1) := by decide +kernel
theorem dX5_threes_62 : decode cX5_threes 62 = .ok (.invokestatic 109, 3) := by decide +kernel
theorem dX5_threes_65 : decode cX5_threes 65 = .ok (.ifCond .eq 7, 3) := by decide +kernel
theorem dX5_threes_68 : decode cX5_threes 68 = .ok (.iconst 1, 1) := by decide +kernel
theorem dX5_threes_69 : decode cX5_threes 69 = .ok (.goto 4, 3) := by decide +kernel
theorem dX5_threes_72 : decode cX5_threes 72 = .ok (.iconst 0, 1) := by decide +kernel
theorem dX5_threes_73 : decode cX5_threes 73 = .ok (.iadd, 1) := by decide +kernel
theorem dX5_threes_74 : decode cX5_threes 74 = .ok (.istore_n 3, 1) := by decide +kernel
theorem dX5_threes_75 : decode cX5_threes 75 = .ok (.iinc 5 1, 3) := by decide +kernel
theorem dX5_threes_78 : decode cX5_threes 78 = .ok (.goto (-58), 3) := by decide +kernel
theorem dX5_threes_81 : decode cX5_threes 81 = .ok (.iinc 4 1, 3) := by decide +kernel
theorem dX5_threes_84 : decode cX5_threes 84 = .ok (.goto (-74), 3) := by decide +kernel
theorem dX5_threes_87 : decode cX5_threes 87 = .ok (.iload_n 3, 1) := by decide +kernel
theorem dX5_threes_88 : decode cX5_threes 88 = .ok (.ireturn, 1) := by decide +kernel
def f_X5_threes_72  (k10 : Int64 × Int32 × Int32 × zHp → Option (Int32 × zHp)) (k20 : Int64 × Int32 × Int32 × Int32 × zHp → Option (Int32 × zHp)) (v1 : Int64) (v4 : Int32) (v5 : Int32) (s0 : Int32) (h : zHp) : Option (Int32 × zHp) := zlt (s0 + (0 : Int32)) fun x1 => k20 (v1, x1, v4, (v5 + (1 : Int32)), h)
set_option maxHeartbeats 4000000 in
set_option maxRecDepth 100000 in
theorem f_X5_threes_72_s  (k10 : Int64 × Int32 × Int32 × zHp → Option (Int32 × zHp)) (H10 : ∀ v : Int64 × Int32 × Int32 × zHp, Sim wX mX5_threes 2 rI 10 [(1, .long v.1), (3, .int v.2.1), (4, .int v.2.2.1)] [] v.2.2.2 (k10 v)) (k20 : Int64 × Int32 × Int32 × Int32 × zHp → Option (Int32 × zHp)) (H20 : ∀ v : Int64 × Int32 × Int32 × Int32 × zHp, Sim wX mX5_threes 2 rI 20 [(1, .long v.1), (3, .int v.2.1), (4, .int v.2.2.1), (5, .int v.2.2.2.1)] [] v.2.2.2.2 (k20 v)) (v1 : Int64) (v4 : Int32) (v5 : Int32) (s0 : Int32) (h : zHp) : Sim wX mX5_threes 2 rI 72 [(1, .long v1), (4, .int v4), (5, .int v5)] [.int s0] h (f_X5_threes_72 k10 k20 v1 v4 v5 s0 h) := by
  unfold f_X5_threes_72
  refine Sim.iconst (v := (0 : Int32)) dX5_threes_72 rfl ?_
  refine Sim.iadd dX5_threes_73 ?_
  refine Sim.lti (fun x1 => ?_)
  refine Sim.istore_n (L' := [(3, .int x1), (1, .long v1), (4, .int v4), (5, .int v5)]) dX5_threes_74 (Nat.le_of_ble_eq_true rfl) rfl ?_
  refine Sim.iinc (L' := [(5, .int (v5 + (1 : Int32))), (3, .int x1), (1, .long v1), (4, .int v4)]) 3 dX5_threes_75 rfl rfl (Nat.le_of_ble_eq_true rfl) rfl ?_
  refine Sim.goto 20 dX5_threes_78 rfl ?_
  refine Sim.locs [2, 1, 3, 0] rfl ?_
  exact H20 (v1, x1, v4, (v5 + (1 : Int32)), h)
def f_X5_threes_20  (k10 : Int64 × Int32 × Int32 × zHp → Option (Int32 × zHp)) (k20 : Int64 × Int32 × Int32 × Int32 × zHp → Option (Int32 × zHp)) (v1 : Int64) (v3 : Int32) (v4 : Int32) (v5 : Int32) (h : zHp) : Option (Int32 × zHp) := (f_X5_stands v1 v4 h).bind fun x1 => (if x1.1 = 0 then k10 (v1, v3, (v4 + (1 : Int32)), x1.2) else (if (60 : Int32) < (v4 + ((2 : Int32) * v5)) then k10 (v1, v3, (v4 + (1 : Int32)), x1.2) else (f_X5_stands v1 (v4 + v5) x1.2).bind fun x2 => (if x2.1 = 0 then f_X5_threes_72 k10 k20 v1 v4 v5 v3 x2.2 else (f_X5_stands v1 (v4 + ((2 : Int32) * v5)) x2.2).bind fun x3 => (if x3.1 = 0 then f_X5_threes_72 k10 k20 v1 v4 v5 v3 x3.2 else zlt (v3 + (1 : Int32)) fun x4 => k20 (v1, x4, v4, (v5 + (1 : Int32)), x3.2)))))
set_option maxHeartbeats 4000000 in
set_option maxRecDepth 100000 in
theorem f_X5_threes_20_s  (k10 : Int64 × Int32 × Int32 × zHp → Option (Int32 × zHp)) (H10 : ∀ v : Int64 × Int32 × Int32 × zHp, Sim wX mX5_threes 2 rI 10 [(1, .long v.1), (3, .int v.2.1), (4, .int v.2.2.1)] [] v.2.2.2 (k10 v)) (k20 : Int64 × Int32 × Int32 × Int32 × zHp → Option (Int32 × zHp)) (H20 : ∀ v : Int64 × Int32 × Int32 × Int32 × zHp, Sim wX mX5_threes 2 rI 20 [(1, .long v.1), (3, .int v.2.1), (4, .int v.2.2.1), (5, .int v.2.2.2.1)] [] v.2.2.2.2 (k20 v)) (v1 : Int64) (v3 : Int32) (v4 : Int32) (v5 : Int32) (h : zHp) : Sim wX mX5_threes 2 rI 20 [(1, .long v1), (3, .int v3), (4, .int v4), (5, .int v5)] [] h (f_X5_threes_20 k10 k20 v1 v3 v4 v5 h) := by
  unfold f_X5_threes_20
  refine Sim.lload_n 0 dX5_threes_20 rfl ?_
  refine Sim.iload 2 dX5_threes_21 rfl ?_
  refine Sim.callS2I (d1 := 0) (s_X5_stands v1 v4 h) dX5_threes_23 ml_X5_109 mv_X5_stands (Nat.le_of_ble_eq_true rfl) (Nat.le_of_ble_eq_true rfl) (Nat.le_of_ble_eq_true rfl) (fun x1 => ?_)
  refine Sim.if_eq 81 dX5_threes_26 rfl ?_ ?_
  · refine Sim.iinc (L' := [(4, .int (v4 + (1 : Int32))), (1, .long v1), (3, .int v3), (5, .int v5)]) 2 dX5_threes_81 rfl rfl (Nat.le_of_ble_eq_true rfl) rfl ?_
    refine Sim.goto 10 dX5_threes_84 rfl ?_
    refine Sim.locs [1, 2, 0] rfl ?_
    exact H10 (v1, v3, (v4 + (1 : Int32)), x1.2)
  · refine Sim.iload 2 dX5_threes_29 rfl ?_
    refine Sim.iconst (v := (2 : Int32)) dX5_threes_31 rfl ?_
    refine Sim.iload 3 dX5_threes_32 rfl ?_
    refine Sim.imul dX5_threes_34 ?_
    refine Sim.iadd dX5_threes_35 ?_
    refine Sim.bipush (v := (60 : Int32)) dX5_threes_36 rfl ?_
    refine Sim.icmp_gt 81 dX5_threes_38 rfl ?_ ?_
    · refine Sim.iinc (L' := [(4, .int (v4 + (1 : Int32))), (1, .long v1), (3, .int v3), (5, .int v5)]) 2 dX5_threes_81 rfl rfl (Nat.le_of_ble_eq_true rfl) rfl ?_
      refine Sim.goto 10 dX5_threes_84 rfl ?_
      refine Sim.locs [1, 2, 0] rfl ?_
      exact H10 (v1, v3, (v4 + (1 : Int32)), x1.2)
    · refine Sim.iload_n 1 dX5_threes_41 rfl ?_
      refine Sim.lload_n 0 dX5_threes_42 rfl ?_
      refine Sim.iload 2 dX5_threes_43 rfl ?_
      refine Sim.iload 3 dX5_threes_45 rfl ?_
      refine Sim.iadd dX5_threes_47 ?_
      refine Sim.callS2I (d1 := 0) (s_X5_stands v1 (v4 + v5) x1.2) dX5_threes_48 ml_X5_109 mv_X5_stands (Nat.le_of_ble_eq_true rfl) (Nat.le_of_ble_eq_true rfl) (Nat.le_of_ble_eq_true rfl) (fun x2 => ?_)
      refine Sim.if_eq 72 dX5_threes_51 rfl ?_ ?_
      · refine Sim.locs [0, 2, 3] rfl ?_
        exact f_X5_threes_72_s k10 H10 k20 H20 v1 v4 v5 v3 x2.2
      · refine Sim.lload_n 0 dX5_threes_54 rfl ?_
        refine Sim.iload 2 dX5_threes_55 rfl ?_
        refine Sim.iconst (v := (2 : Int32)) dX5_threes_57 rfl ?_
        refine Sim.iload 3 dX5_threes_58 rfl ?_
        refine Sim.imul dX5_threes_60 ?_
        refine Sim.iadd dX5_threes_61 ?_
        refine Sim.callS2I (d1 := 0) (s_X5_stands v1 (v4 + ((2 : Int32) * v5)) x2.2) dX5_threes_62 ml_X5_109 mv_X5_stands (Nat.le_of_ble_eq_true rfl) (Nat.le_of_ble_eq_true rfl) (Nat.le_of_ble_eq_true rfl) (fun x3 => ?_)
        refine Sim.if_eq 72 dX5_threes_65 rfl ?_ ?_
        · refine Sim.locs [0, 2, 3] rfl ?_
          exact f_X5_threes_72_s k10 H10 k20 H20 v1 v4 v5 v3 x3.2
        · refine Sim.iconst (v := (1 : Int32)) dX5_threes_68 rfl ?_
          refine Sim.goto 73 dX5_threes_69 rfl ?_
          refine Sim.iadd dX5_threes_73 ?_
          refine Sim.lti (fun x4 => ?_)
          refine Sim.istore_n (L' := [(3, .int x4), (1, .long v1), (4, .int v4), (5, .int v5)]) dX5_threes_74 (Nat.le_of_ble_eq_true rfl) rfl ?_
          refine Sim.iinc (L' := [(5, .int (v5 + (1 : Int32))), (3, .int x4), (1, .long v1), (4, .int v4)]) 3 dX5_threes_75 rfl rfl (Nat.le_of_ble_eq_true rfl) rfl ?_
          refine Sim.goto 20 dX5_threes_78 rfl ?_
          refine Sim.locs [2, 1, 3, 0] rfl ?_
          exact H20 (v1, x4, v4, (v5 + (1 : Int32)), x3.2)
def f_X5_threes_20_lp  (k10 : Int64 × Int32 × Int32 × zHp → Option (Int32 × zHp)) (n : Nat) (v : Int64 × Int32 × Int32 × Int32 × zHp) : Option (Int32 × zHp) := zlp (fun k20 v => f_X5_threes_20 k10 k20 v.1 v.2.1 v.2.2.1 v.2.2.2.1 v.2.2.2.2) n v
theorem f_X5_threes_20_ls  (k10 : Int64 × Int32 × Int32 × zHp → Option (Int32 × zHp)) (H10 : ∀ v : Int64 × Int32 × Int32 × zHp, Sim wX mX5_threes 2 rI 10 [(1, .long v.1), (3, .int v.2.1), (4, .int v.2.2.1)] [] v.2.2.2 (k10 v)) (n : Nat) (v : Int64 × Int32 × Int32 × Int32 × zHp) : Sim wX mX5_threes 2 rI 20 [(1, .long v.1), (3, .int v.2.1), (4, .int v.2.2.1), (5, .int v.2.2.2.1)] [] v.2.2.2.2 (f_X5_threes_20_lp k10 n v) :=
  Sim.lp (V := Int64 × Int32 × Int32 × Int32 × zHp) (Lf := fun v => [(1, .long v.1), (3, .int v.2.1), (4, .int v.2.2.1), (5, .int v.2.2.2.1)]) (sf := fun v => []) (hf := fun v => v.2.2.2.2) (fun k20 H20 v => f_X5_threes_20_s k10 H10 k20 H20 v.1 v.2.1 v.2.2.1 v.2.2.2.1 v.2.2.2.2) n v
def f_X5_threes_10  (k10 : Int64 × Int32 × Int32 × zHp → Option (Int32 × zHp)) (v1 : Int64) (v3 : Int32) (v4 : Int32) (h : zHp) : Option (Int32 × zHp) := (if (60 : Int32) < v4 then some (v3, h) else f_X5_threes_20_lp k10 zN (v1, v3, v4, (1 : Int32), h))
set_option maxHeartbeats 4000000 in
set_option maxRecDepth 100000 in
theorem f_X5_threes_10_s  (k10 : Int64 × Int32 × Int32 × zHp → Option (Int32 × zHp)) (H10 : ∀ v : Int64 × Int32 × Int32 × zHp, Sim wX mX5_threes 2 rI 10 [(1, .long v.1), (3, .int v.2.1), (4, .int v.2.2.1)] [] v.2.2.2 (k10 v)) (v1 : Int64) (v3 : Int32) (v4 : Int32) (h : zHp) : Sim wX mX5_threes 2 rI 10 [(1, .long v1), (3, .int v3), (4, .int v4)] [] h (f_X5_threes_10 k10 v1 v3 v4 h) := by
  unfold f_X5_threes_10
  refine Sim.iload 2 dX5_threes_10 rfl ?_
  refine Sim.bipush (v := (60 : Int32)) dX5_threes_12 rfl ?_
  refine Sim.icmp_gt 87 dX5_threes_14 rfl ?_ ?_
  · refine Sim.iload_n 1 dX5_threes_87 rfl ?_
    exact Sim.iret dX5_threes_88 rfl
  · refine Sim.iconst (v := (1 : Int32)) dX5_threes_17 rfl ?_
    refine Sim.istore (L' := [(5, .int (1 : Int32)), (1, .long v1), (3, .int v3), (4, .int v4)]) dX5_threes_18 (Nat.le_of_ble_eq_true rfl) rfl ?_
    refine Sim.locs [1, 2, 3, 0] rfl ?_
    exact f_X5_threes_20_ls k10 H10 zN (v1, v3, v4, (1 : Int32), h)
def f_X5_threes_10_lp   (n : Nat) (v : Int64 × Int32 × Int32 × zHp) : Option (Int32 × zHp) := zlp (fun k10 v => f_X5_threes_10 k10 v.1 v.2.1 v.2.2.1 v.2.2.2) n v
theorem f_X5_threes_10_ls  (n : Nat) (v : Int64 × Int32 × Int32 × zHp) : Sim wX mX5_threes 2 rI 10 [(1, .long v.1), (3, .int v.2.1), (4, .int v.2.2.1)] [] v.2.2.2 (f_X5_threes_10_lp n v) :=
  Sim.lp (V := Int64 × Int32 × Int32 × zHp) (Lf := fun v => [(1, .long v.1), (3, .int v.2.1), (4, .int v.2.2.1)]) (sf := fun v => []) (hf := fun v => v.2.2.2) (fun k10 H10 v => f_X5_threes_10_s k10 H10 v.1 v.2.1 v.2.2.1 v.2.2.2) n v
def f_X5_threes   (h : zHp) : Option (Int32 × zHp) := (f_X5_stepSet h).bind fun x1 => f_X5_threes_10_lp  zN (x1.1, (0 : Int32), (0 : Int32), x1.2)
set_option maxHeartbeats 4000000 in
set_option maxRecDepth 100000 in
theorem s_X5_threes   (h : zHp) : Fn wX mX5_threes 2 rI [.ref 161] h (f_X5_threes  h) := by
  refine Fn.of rfl (Nat.le_of_ble_eq_true rfl) ?_
  unfold f_X5_threes
  refine Sim.aload_n 0 dX5_threes_0 rfl ?_
  refine Sim.callV0J (d1 := 1) (s_X5_stepSet h) dX5_threes_1 ml_X5_105 mv_X5_stepSet xO_X5 (Nat.le_of_ble_eq_true rfl) (Nat.le_of_ble_eq_true rfl) (Nat.le_of_ble_eq_true rfl) (fun x1 => ?_)
  refine Sim.lstore_n (L' := [(1, .long x1.1), (0, .ref 161)]) dX5_threes_4 (Nat.le_of_ble_eq_true rfl) rfl ?_
  refine Sim.iconst (v := (0 : Int32)) dX5_threes_5 rfl ?_
  refine Sim.istore_n (L' := [(3, .int (0 : Int32)), (1, .long x1.1), (0, .ref 161)]) dX5_threes_6 (Nat.le_of_ble_eq_true rfl) rfl ?_
  refine Sim.iconst (v := (0 : Int32)) dX5_threes_7 rfl ?_
  refine Sim.istore (L' := [(4, .int (0 : Int32)), (3, .int (0 : Int32)), (1, .long x1.1), (0, .ref 161)]) dX5_threes_8 (Nat.le_of_ble_eq_true rfl) rfl ?_
  refine Sim.locs [2, 1, 0] rfl ?_
  exact f_X5_threes_10_ls  zN (x1.1, (0 : Int32), (0 : Int32), x1.2)
theorem mv_X5_threes : zMV mX5_threes 0 := ⟨⟨zTb_in 1216 (by decide +kernel) rfl, zTb_in 147 (by decide +kernel) rfl, ⟨by decide +kernel, by decide +kernel⟩, by decide +kernel⟩, zTb_in 1214 (by decide +kernel) rfl, zTb_in 1215 (by decide +kernel) rfl⟩
-- ===== RockingPorch$Puzzles.longestStair()I
abbrev mX5_longestStair : zMt := (yX5_longestStair, cX5_longestStair, 7, some .int)
theorem dX5_longestStair_0 : decode cX5_longestStair 0 = .ok (.aload_n 0, 1) := by decide +kernel
theorem dX5_longestStair_1 : decode cX5_longestStair 1 = .ok (.invokevirtual 105, 3) := by decide +kernel
theorem dX5_longestStair_4 : decode cX5_longestStair 4 = .ok (.lstore_n 1, 1) := by decide +kernel
theorem dX5_longestStair_5 : decode cX5_longestStair 5 = .ok (.aload_n 0, 1) := by decide +kernel
theorem dX5_longestStair_6 : decode cX5_longestStair 6 = .ok (.getfield 24, 3) := by decide +kernel
theorem dX5_longestStair_9 : decode cX5_longestStair 9 = .ok (.getfield 102, 3) := by decide +kernel
theorem dX5_longestStair_12 : decode cX5_longestStair 12 = .ok (.getfield 34, 3) := by decide +kernel
theorem dX5_longestStair_15 : decode cX5_longestStair 15 = .ok (.iconst 1, 1) := by decide +kernel
theorem dX5_longestStair_16 : decode cX5_longestStair 16 = .ok (.invokestatic 71, 3) := by decide +kernel
theorem dX5_longestStair_19 : decode cX5_longestStair 19 = .ok (.istore_n 3, 1) := by decide +kernel
theorem dX5_longestStair_20 : decode cX5_longestStair 20 = .ok (.iconst 0, 1) := by decide +kernel
theorem dX5_longestStair_21 : decode cX5_longestStair 21 = .ok (.istore 4, 2) := by decide +kernel
theorem dX5_longestStair_23 : decode cX5_longestStair 23 = .ok (.iload 4, 2) := by decide +kernel
theorem dX5_longestStair_25 : decode cX5_longestStair 25 = .ok (.bipush 60, 2) := by decide +kernel
theorem dX5_longestStair_27 : decode cX5_longestStair 27 = .ok (.if_icmp .gt 75, 3) := by decide +kernel
theorem dX5_longestStair_30 : decode cX5_longestStair 30 = .ok (.iconst 1, 1) := by decide +kernel
theorem dX5_longestStair_31 : decode cX5_longestStair 31 = .ok (.istore 5, 2) := by decide +kernel
theorem dX5_longestStair_33 : decode cX5_longestStair 33 = .ok (.lload_n 1, 1) := by decide +kernel
theorem dX5_longestStair_34 : decode cX5_longestStair 34 = .ok (.iload 4, 2) := by decide +kernel
theorem dX5_longestStair_36 : decode cX5_longestStair 36 = .ok (.invokestatic 109, 3) := by decide +kernel
theorem dX5_longestStair_39 : decode cX5_longestStair 39 = .ok (.ifCond .eq 57, 3) := by decide +kernel
theorem dX5_longestStair_42 : decode cX5_longestStair 42 = .ok (.iload 4, 2) := by decide +kernel
theorem dX5_longestStair_44 : decode cX5_longestStair 44 = .ok (.iload 5, 2) := by decide +kernel
theorem dX5_longestStair_46 : decode cX5_longestStair 46 = .ok (.iadd, 1) := by decide +kernel
theorem dX5_longestStair_47 : decode cX5_longestStair 47 = .ok (.bipush 60, 2) := by decide +kernel
theorem dX5_longestStair_49 : decode cX5_longestStair 49 = .ok (.if_icmp .gt 47, 3) := by decide +kernel
theorem dX5_longestStair_52 : decode cX5_longestStair 52 = .ok (.iconst 1, 1) := by decide +kernel
theorem dX5_longestStair_53 : decode cX5_longestStair 53 = .ok (.istore 6, 2) := by decide +kernel
theorem dX5_longestStair_55 : decode cX5_longestStair 55 = .ok (.iload 6, 2) := by decide +kernel
theorem dX5_longestStair_57 : decode cX5_longestStair 57 = .ok (.bipush 60, 2) := by decide +kernel
theorem dX5_longestStair_59 : decode cX5_longestStair 59 = .ok (.if_icmp .gt 24, 3) := by decide +kernel
theorem dX5_longestStair_62 : decode cX5_longestStair 62 = .ok (.lload_n 1, 1) := by decide +kernel
theorem dX5_longestStair_63 : decode cX5_longestStair 63 = .ok (.iload 4, 2) := by decide +kernel
theorem dX5_longestStair_65 : decode cX5_longestStair 65 = .ok (.iload 6, 2) := by decide +kernel
theorem dX5_longestStair_67 : decode cX5_longestStair 67 = .ok (.iload 5, 2) := by decide +kernel
theorem dX5_longestStair_69 : decode cX5_longestStair 69 = .ok (.imul, 1) := by decide +kernel
theorem dX5_longestStair_70 : decode cX5_longestStair 70 = .ok (.iadd, 1) := by decide +kernel
theorem dX5_longestStair_71 : decode cX5_longestStair 71 = .ok (.invokestatic 109, 3) := by decide +kernel
theorem dX5_longestStair_74 : decode cX5_longestStair 74 = .ok (.ifCond .eq 9, 3) := by decide +kernel
theorem dX5_longestStair_77 : decode cX5_longestStair 77 = .ok (.iinc 6 1, 3) := by decide +kernel
theorem dX5_longestStair_80 : decode cX5_longestStair 80 = .ok (.goto (-25), 3) := by decide +kernel
theorem dX5_longestStair_83 : decode cX5_longestStair 83 = .ok (.iload_n 3, 1) := by decide +kernel
theorem dX5_longestStair_84 : decode cX5_longestStair 84 = .ok (.iload 6, 2) := by decide +kernel
theorem dX5_longestStair_86 : decode cX5_longestStair 86 = .ok (.invokestatic 47, 3) := by decide +kernel
theorem dX5_longestStair_89 : decode cX5_longestStair 89 = .ok (.istore_n 3, 1) := by decide +kernel
theorem dX5_longestStair_90 : decode cX5_longestStair 90 = .ok (.iinc 5 1, 3) := by decide +kernel
theorem dX5_longestStair_93 : decode cX5_longestStair 93 = .ok (.goto (-60), 3) := by decide +kernel
theorem dX5_longestStair_96 : decode cX5_longestStair 96 = .ok (.iinc 4 1, 3) := by decide +kernel
theorem dX5_longestStair_99 : decode cX5_longestStair 99 = .ok (.goto (-76), 3) := by decide +kernel
theorem dX5_longestStair_102 : decode cX5_longestStair 102 = .ok (.iload_n 3, 1) := by decide +kernel
theorem dX5_longestStair_103 : decode cX5_longestStair 103 = .ok (.ireturn, 1) := by decide +kernel
def f_X5_longestStair_83  (k23 : Int64 × Int32 × Int32 × zHp → Option (Int32 × zHp)) (k33 : Int64 × Int32 × Int32 × Int32 × zHp → Option (Int32 × zHp)) (v1 : Int64) (v3 : Int32) (v4 : Int32) (v5 : Int32) (v6 : Int32) (h : zHp) : Option (Int32 × zHp) := zlt (if v3 < v6 then v6 else v3) fun x1 => k33 (v1, x1, v4, (v5 + (1 : Int32)), h)
set_option maxHeartbeats 4000000 in
set_option maxRecDepth 100000 in
theorem f_X5_longestStair_83_s  (k23 : Int64 × Int32 × Int32 × zHp → Option (Int32 × zHp)) (H23 : ∀ v : Int64 × Int32 × Int32 × zHp, Sim wX mX5_longestStair 2 rI 23 [(1, .long v.1), (3, .int v.2.1), (4, .int v.2.2.1)] [] v.2.2.2 (k23 v)) (k33 : Int64 × Int32 × Int32 × Int32 × zHp → Option (Int32 × zHp)) (H33 : ∀ v : Int64 × Int32 × Int32 × Int32 × zHp, Sim wX mX5_longestStair 2 rI 33 [(1, .long v.1), (3, .int v.2.1), (4, .int v.2.2.1), (5, .int v.2.2.2.1)] [] v.2.2.2.2 (k33 v)) (v1 : Int64) (v3 : Int32) (v4 : Int32) (v5 : Int32) (v6 : Int32) (h : zHp) : Sim wX mX5_longestStair 2 rI 83 [(1, .long v1), (3, .int v3), (4, .int v4), (5, .int v5), (6, .int v6)] [] h (f_X5_longestStair_83 k23 k33 v1 v3 v4 v5 v6 h) := by
  unfold f_X5_longestStair_83
  refine Sim.iload_n 1 dX5_longestStair_83 rfl ?_
  refine Sim.iload 4 dX5_longestStair_84 rfl ?_
  refine Sim.mmax dX5_longestStair_86 ml_X5_47 ms_max ms_Math mc_max (Nat.le_of_ble_eq_true rfl) (Nat.le_of_ble_eq_true rfl) ?_
  refine Sim.lti (fun x1 => ?_)
  refine Sim.istore_n (L' := [(3, .int x1), (1, .long v1), (4, .int v4), (5, .int v5), (6, .int v6)]) dX5_longestStair_89 (Nat.le_of_ble_eq_true rfl) rfl ?_
  refine Sim.iinc (L' := [(5, .int (v5 + (1 : Int32))), (3, .int x1), (1, .long v1), (4, .int v4), (6, .int v6)]) 3 dX5_longestStair_90 rfl rfl (Nat.le_of_ble_eq_true rfl) rfl ?_
  refine Sim.goto 33 dX5_longestStair_93 rfl ?_
  refine Sim.locs [2, 1, 3, 0] rfl ?_
  exact H33 (v1, x1, v4, (v5 + (1 : Int32)), h)
def f_X5_longestStair_55  (k23 : Int64 × Int32 × Int32 × zHp → Option (Int32 × zHp)) (k33 : Int64 × Int32 × Int32 × Int32 × zHp → Option (Int32 × zHp)) (k55 : Int64 × Int32 × Int32 × Int32 × Int32 × zHp → Option (Int32 × zHp)) (v1 : Int64) (v3 : Int32) (v4 : Int32) (v5 : Int32) (v6 : Int32) (h : zHp) : Option (Int32 × zHp) := (if (60 : Int32) < v6 then f_X5_longestStair_83 k23 k33 v1 v3 v4 v5 v6 h else (f_X5_stands v1 (v4 + (v6 * v5)) h).bind fun x1 => (if x1.1 = 0 then f_X5_longestStair_83 k23 k33 v1 v3 v4 v5 v6 x1.2 else k55 (v1, v3, v4, v5, (v6 + (1 : Int32)), x1.2)))
set_option maxHeartbeats 4000000 in
set_option maxRecDepth 100000 in
theorem f_X5_longestStair_55_s  (k23 : Int64 × Int32 × Int32 × zHp → Option (Int32 × zHp)) (H23 : ∀ v : Int64 × Int32 × Int32 × zHp, Sim wX mX5_longestStair 2 rI 23 [(1, .long v.1), (3, .int v.2.1), (4, .int v.2.2.1)] [] v.2.2.2 (k23 v)) (k33 : Int64 × Int32 × Int32 × Int32 × zHp → Option (Int32 × zHp)) (H33 : ∀ v : Int64 × Int32 × Int32 × Int32 × zHp, Sim wX mX5_longestStair 2 rI 33 [(1, .long v.1), (3, .int v.2.1), (4, .int v.2.2.1), (5, .int v.2.2.2.1)] [] v.2.2.2.2 (k33 v)) (k55 : Int64 × Int32 × Int32 × Int32 × Int32 × zHp → Option (Int32 × zHp)) (H55 : ∀ v : Int64 × Int32 × Int32 × Int32 × Int32 × zHp, Sim wX mX5_longestStair 2 rI 55 [(1, .long v.1), (3, .int v.2.1), (4, .int v.2.2.1), (5, .int v.2.2.2.1), (6, .int v.2.2.2.2.1)] [] v.2.2.2.2.2 (k55 v)) (v1 : Int64) (v3 : Int32) (v4 : Int32) (v5 : Int32) (v6 : Int32) (h : zHp) : Sim wX mX5_longestStair 2 rI 55 [(1, .long v1), (3, .int v3), (4, .int v4), (5, .int v5), (6, .int v6)] [] h (f_X5_longestStair_55 k23 k33 k55 v1 v3 v4 v5 v6 h) := by
  unfold f_X5_longestStair_55
  refine Sim.iload 4 dX5_longestStair_55 rfl ?_
  refine Sim.bipush (v := (60 : Int32)) dX5_longestStair_57 rfl ?_
  refine Sim.icmp_gt 83 dX5_longestStair_59 rfl ?_ ?_
  · exact f_X5_longestStair_83_s k23 H23 k33 H33 v1 v3 v4 v5 v6 h
  · refine Sim.lload_n 0 dX5_longestStair_62 rfl ?_
    refine Sim.iload 2 dX5_longestStair_63 rfl ?_
    refine Sim.iload 4 dX5_longestStair_65 rfl ?_
    refine Sim.iload 3 dX5_longestStair_67 rfl ?_
    refine Sim.imul dX5_longestStair_69 ?_
    refine Sim.iadd dX5_longestStair_70 ?_
    refine Sim.callS2I (d1 := 0) (s_X5_stands v1 (v4 + (v6 * v5)) h) dX5_longestStair_71 ml_X5_109 mv_X5_stands (Nat.le_of_ble_eq_true rfl) (Nat.le_of_ble_eq_true rfl) (Nat.le_of_ble_eq_true rfl) (fun x1 => ?_)
    refine Sim.if_eq 83 dX5_longestStair_74 rfl ?_ ?_
    · exact f_X5_longestStair_83_s k23 H23 k33 H33 v1 v3 v4 v5 v6 x1.2
    · refine Sim.iinc (L' := [(6, .int (v6 + (1 : Int32))), (1, .long v1), (3, .int v3), (4, .int v4), (5, .int v5)]) 4 dX5_longestStair_77 rfl rfl (Nat.le_of_ble_eq_true rfl) rfl ?_
      refine Sim.goto 55 dX5_longestStair_80 rfl ?_
      refine Sim.locs [1, 2, 3, 4, 0] rfl ?_
      exact H55 (v1, v3, v4, v5, (v6 + (1 : Int32)), x1.2)
def f_X5_longestStair_55_lp  (k23 : Int64 × Int32 × Int32 × zHp → Option (Int32 × zHp)) (k33 : Int64 × Int32 × Int32 × Int32 × zHp → Option (Int32 × zHp)) (n : Nat) (v : Int64 × Int32 × Int32 × Int32 × Int32 × zHp) : Option (Int32 × zHp) := zlp (fun k55 v => f_X5_longestStair_55 k23 k33 k55 v.1 v.2.1 v.2.2.1 v.2.2.2.1 v.2.2.2.2.1 v.2.2.2.2.2) n v
theorem f_X5_longestStair_55_ls  (k23 : Int64 × Int32 × Int32 × zHp → Option (Int32 × zHp)) (H23 : ∀ v : Int64 × Int32 × Int32 × zHp, Sim wX mX5_longestStair 2 rI 23 [(1, .long v.1), (3, .int v.2.1), (4, .int v.2.2.1)] [] v.2.2.2 (k23 v)) (k33 : Int64 × Int32 × Int32 × Int32 × zHp → Option (Int32 × zHp)) (H33 : ∀ v : Int64 × Int32 × Int32 × Int32 × zHp, Sim wX mX5_longestStair 2 rI 33 [(1, .long v.1), (3, .int v.2.1), (4, .int v.2.2.1), (5, .int v.2.2.2.1)] [] v.2.2.2.2 (k33 v)) (n : Nat) (v : Int64 × Int32 × Int32 × Int32 × Int32 × zHp) : Sim wX mX5_longestStair 2 rI 55 [(1, .long v.1), (3, .int v.2.1), (4, .int v.2.2.1), (5, .int v.2.2.2.1), (6, .int v.2.2.2.2.1)] [] v.2.2.2.2.2 (f_X5_longestStair_55_lp k23 k33 n v) :=
  Sim.lp (V := Int64 × Int32 × Int32 × Int32 × Int32 × zHp) (Lf := fun v => [(1, .long v.1), (3, .int v.2.1), (4, .int v.2.2.1), (5, .int v.2.2.2.1), (6, .int v.2.2.2.2.1)]) (sf := fun v => []) (hf := fun v => v.2.2.2.2.2) (fun k55 H55 v => f_X5_longestStair_55_s k23 H23 k33 H33 k55 H55 v.1 v.2.1 v.2.2.1 v.2.2.2.1 v.2.2.2.2.1 v.2.2.2.2.2) n v
def f_X5_longestStair_33  (k23 : Int64 × Int32 × Int32 × zHp → Option (Int32 × zHp)) (k33 : Int64 × Int32 × Int32 × Int32 × zHp → Option (Int32 × zHp)) (v1 : Int64) (v3 : Int32) (v4 : Int32) (v5 : Int32) (h : zHp) : Option (Int32 × zHp) := (f_X5_stands v1 v4 h).bind fun x1 => (if x1.1 = 0 then k23 (v1, v3, (v4 + (1 : Int32)), x1.2) else (if (60 : Int32) < (v4 + v5) then k23 (v1, v3, (v4 + (1 : Int32)), x1.2) else f_X5_longestStair_55_lp k23 k33 zN (v1, v3, v4, v5, (1 : Int32), x1.2)))
set_option maxHeartbeats 4000000 in
set_option maxRecDepth 100000 in
theorem f_X5_longestStair_33_s  (k23 : Int64 × Int32 × Int32 × zHp → Option (Int32 × zHp)) (H23 : ∀ v : Int64 × Int32 × Int32 × zHp, Sim wX mX5_longestStair 2 rI 23 [(1, .long v.1), (3, .int v.2.1), (4, .int v.2.2.1)] [] v.2.2.2 (k23 v)) (k33 : Int64 × Int32 × Int32 × Int32 × zHp → Option (Int32 × zHp)) (H33 : ∀ v : Int64 × Int32 × Int32 × Int32 × zHp, Sim wX mX5_longestStair 2 rI 33 [(1, .long v.1), (3, .int v.2.1), (4, .int v.2.2.1), (5, .int v.2.2.2.1)] [] v.2.2.2.2 (k33 v)) (v1 : Int64) (v3 : Int32) (v4 : Int32) (v5 : Int32) (h : zHp) : Sim wX mX5_longestStair 2 rI 33 [(1, .long v1), (3, .int v3), (4, .int v4), (5, .int v5)] [] h (f_X5_longestStair_33 k23 k33 v1 v3 v4 v5 h) := by
  unfold f_X5_longestStair_33
  refine Sim.lload_n 0 dX5_longestStair_33 rfl ?_
  refine Sim.iload 2 dX5_longestStair_34 rfl ?_
  refine Sim.callS2I (d1 := 0) (s_X5_stands v1 v4 h) dX5_longestStair_36 ml_X5_109 mv_X5_stands (Nat.le_of_ble_eq_true rfl) (Nat.le_of_ble_eq_true rfl) (Nat.le_of_ble_eq_true rfl) (fun x1 => ?_)
  refine Sim.if_eq 96 dX5_longestStair_39 rfl ?_ ?_
  · refine Sim.iinc (L' := [(4, .int (v4 + (1 : Int32))), (1, .long v1), (3, .int v3), (5, .int v5)]) 2 dX5_longestStair_96 rfl rfl (Nat.le_of_ble_eq_true rfl) rfl ?_
    refine Sim.goto 23 dX5_longestStair_99 rfl ?_
    refine Sim.locs [1, 2, 0] rfl ?_
    exact H23 (v1, v3, (v4 + (1 : Int32)), x1.2)
  · refine Sim.iload 2 dX5_longestStair_42 rfl ?_
    refine Sim.iload 3 dX5_longestStair_44 rfl ?_
    refine Sim.iadd dX5_longestStair_46 ?_
    refine Sim.bipush (v := (60 : Int32)) dX5_longestStair_47 rfl ?_
    refine Sim.icmp_gt 96 dX5_longestStair_49 rfl ?_ ?_
    · refine Sim.iinc (L' := [(4, .int (v4 + (1 : Int32))), (1, .long v1), (3, .int v3), (5, .int v5)]) 2 dX5_longestStair_96 rfl rfl (Nat.le_of_ble_eq_true rfl) rfl ?_
      refine Sim.goto 23 dX5_longestStair_99 rfl ?_
      refine Sim.locs [1, 2, 0] rfl ?_
      exact H23 (v1, v3, (v4 + (1 : Int32)), x1.2)
    · refine Sim.iconst (v := (1 : Int32)) dX5_longestStair_52 rfl ?_
      refine Sim.istore (L' := [(6, .int (1 : Int32)), (1, .long v1), (3, .int v3), (4, .int v4), (5, .int v5)]) dX5_longestStair_53 (Nat.le_of_ble_eq_true rfl) rfl ?_
      refine Sim.locs [1, 2, 3, 4, 0] rfl ?_
      exact f_X5_longestStair_55_ls k23 H23 k33 H33 zN (v1, v3, v4, v5, (1 : Int32), x1.2)
def f_X5_longestStair_33_lp  (k23 : Int64 × Int32 × Int32 × zHp → Option (Int32 × zHp)) (n : Nat) (v : Int64 × Int32 × Int32 × Int32 × zHp) : Option (Int32 × zHp) := zlp (fun k33 v => f_X5_longestStair_33 k23 k33 v.1 v.2.1 v.2.2.1 v.2.2.2.1 v.2.2.2.2) n v
theorem f_X5_longestStair_33_ls  (k23 : Int64 × Int32 × Int32 × zHp → Option (Int32 × zHp)) (H23 : ∀ v : Int64 × Int32 × Int32 × zHp, Sim wX mX5_longestStair 2 rI 23 [(1, .long v.1), (3, .int v.2.1), (4, .int v.2.2.1)] [] v.2.2.2 (k23 v)) (n : Nat) (v : Int64 × Int32 × Int32 × Int32 × zHp) : Sim wX mX5_longestStair 2 rI 33 [(1, .long v.1), (3, .int v.2.1), (4, .int v.2.2.1), (5, .int v.2.2.2.1)] [] v.2.2.2.2 (f_X5_longestStair_33_lp k23 n v) :=
  Sim.lp (V := Int64 × Int32 × Int32 × Int32 × zHp) (Lf := fun v => [(1, .long v.1), (3, .int v.2.1), (4, .int v.2.2.1), (5, .int v.2.2.2.1)]) (sf := fun v => []) (hf := fun v => v.2.2.2.2) (fun k33 H33 v => f_X5_longestStair_33_s k23 H23 k33 H33 v.1 v.2.1 v.2.2.1 v.2.2.2.1 v.2.2.2.2) n v
def f_X5_longestStair_23  (k23 : Int64 × Int32 × Int32 × zHp → Option (Int32 × zHp)) (v1 : Int64) (v3 : Int32) (v4 : Int32) (h : zHp) : Option (Int32 × zHp) := (if (60 : Int32) < v4 then some (v3, h) else f_X5_longestStair_33_lp k23 zN (v1, v3, v4, (1 : Int32), h))
set_option maxHeartbeats 4000000 in
set_option maxRecDepth 100000 in
theorem f_X5_longestStair_23_s  (k23 : Int64 × Int32 × Int32 × zHp → Option (Int32 × zHp)) (H23 : ∀ v : Int64 × Int32 × Int32 × zHp, Sim wX mX5_longestStair 2 rI 23 [(1, .long v.1), (3, .int v.2.1), (4, .int v.2.2.1)] [] v.2.2.2 (k23 v)) (v1 : Int64) (v3 : Int32) (v4 : Int32) (h : zHp) : Sim wX mX5_longestStair 2 rI 23 [(1, .long v1), (3, .int v3), (4, .int v4)] [] h (f_X5_longestStair_23 k23 v1 v3 v4 h) := by
  unfold f_X5_longestStair_23
  refine Sim.iload 2 dX5_longestStair_23 rfl ?_
  refine Sim.bipush (v := (60 : Int32)) dX5_longestStair_25 rfl ?_
  refine Sim.icmp_gt 102 dX5_longestStair_27 rfl ?_ ?_
  · refine Sim.iload_n 1 dX5_longestStair_102 rfl ?_
    exact Sim.iret dX5_longestStair_103 rfl
  · refine Sim.iconst (v := (1 : Int32)) dX5_longestStair_30 rfl ?_
    refine Sim.istore (L' := [(5, .int (1 : Int32)), (1, .long v1), (3, .int v3), (4, .int v4)]) dX5_longestStair_31 (Nat.le_of_ble_eq_true rfl) rfl ?_
    refine Sim.locs [1, 2, 3, 0] rfl ?_
    exact f_X5_longestStair_33_ls k23 H23 zN (v1, v3, v4, (1 : Int32), h)
def f_X5_longestStair_23_lp   (n : Nat) (v : Int64 × Int32 × Int32 × zHp) : Option (Int32 × zHp) := zlp (fun k23 v => f_X5_longestStair_23 k23 v.1 v.2.1 v.2.2.1 v.2.2.2) n v
theorem f_X5_longestStair_23_ls  (n : Nat) (v : Int64 × Int32 × Int32 × zHp) : Sim wX mX5_longestStair 2 rI 23 [(1, .long v.1), (3, .int v.2.1), (4, .int v.2.2.1)] [] v.2.2.2 (f_X5_longestStair_23_lp n v) :=
  Sim.lp (V := Int64 × Int32 × Int32 × zHp) (Lf := fun v => [(1, .long v.1), (3, .int v.2.1), (4, .int v.2.2.1)]) (sf := fun v => []) (hf := fun v => v.2.2.2) (fun k23 H23 v => f_X5_longestStair_23_s k23 H23 v.1 v.2.1 v.2.2.1 v.2.2.2) n v
def f_X5_longestStair   (h : zHp) : Option (Int32 × zHp) := (f_X5_stepSet h).bind fun x1 => zlt (if (1 : Int32) < (x1.2 35 1) then (1 : Int32) else (x1.2 35 1)) fun x2 => f_X5_longestStair_23_lp  zN (x1.1, x2, (0 : Int32), x1.2)
set_option maxHeartbeats 4000000 in
set_option maxRecDepth 100000 in
theorem s_X5_longestStair   (h : zHp) : Fn wX mX5_longestStair 2 rI [.ref 161] h (f_X5_longestStair  h) := by
  refine Fn.of rfl (Nat.le_of_ble_eq_true rfl) ?_
  unfold f_X5_longestStair
  refine Sim.aload_n 0 dX5_longestStair_0 rfl ?_
  refine Sim.callV0J (d1 := 1) (s_X5_stepSet h) dX5_longestStair_1 ml_X5_105 mv_X5_stepSet xO_X5 (Nat.le_of_ble_eq_true rfl) (Nat.le_of_ble_eq_true rfl) (Nat.le_of_ble_eq_true rfl) (fun x1 => ?_)
  refine Sim.lstore_n (L' := [(1, .long x1.1), (0, .ref 161)]) dX5_longestStair_4 (Nat.le_of_ble_eq_true rfl) rfl ?_
  refine Sim.aload_n 1 dX5_longestStair_5 rfl ?_
  refine Sim.getR (j := 26) fl_X5_24 dX5_longestStair_6 xR_161_0 ?_
  refine Sim.getR (j := 35) fl_X5_102 dX5_longestStair_9 (xR_X8_4 _ xL_X8_26) ?_
  refine Sim.getI fl_X5_34 dX5_longestStair_12 (xI_X7_1 _ xL_X7_35) ?_
  refine Sim.iconst (v := (1 : Int32)) dX5_longestStair_15 rfl ?_
  refine Sim.mmin dX5_longestStair_16 ml_X5_71 ms_min ms_Math mc_min (Nat.le_of_ble_eq_true rfl) (Nat.le_of_ble_eq_true rfl) ?_
  refine Sim.lti (fun x2 => ?_)
  refine Sim.istore_n (L' := [(3, .int x2), (1, .long x1.1), (0, .ref 161)]) dX5_longestStair_19 (Nat.le_of_ble_eq_true rfl) rfl ?_
  refine Sim.iconst (v := (0 : Int32)) dX5_longestStair_20 rfl ?_
  refine Sim.istore (L' := [(4, .int (0 : Int32)), (3, .int x2), (1, .long x1.1), (0, .ref 161)]) dX5_longestStair_21 (Nat.le_of_ble_eq_true rfl) rfl ?_
  refine Sim.locs [2, 1, 0] rfl ?_
  exact f_X5_longestStair_23_ls  zN (x1.1, x2, (0 : Int32), x1.2)
theorem mv_X5_longestStair : zMV mX5_longestStair 0 := ⟨⟨zTb_in 1227 (by decide +kernel) rfl, zTb_in 147 (by decide +kernel) rfl, ⟨by decide +kernel, by decide +kernel⟩, by decide +kernel⟩, zTb_in 1225 (by decide +kernel) rfl, zTb_in 1226 (by decide +kernel) rfl⟩
-- ===== RockingPorch$Puzzles.sortCoins(I)V
abbrev mX5_sortCoins : zMt := (yX5_sortCoins, cX5_sortCoins, 5, none)
theorem fl_X5_113 : zF RX5 113 8 5 := ⟨RX8, TX8, 7, rfl, Nat.le_of_ble_eq_true rfl, zTb_in 340 (by decide +kernel) rfl, in_X8⟩
theorem dX5_sortCoins_0 : decode cX5_sortCoins 0 = .ok (.iconst 0, 1) := by decide +kernel
theorem dX5_sortCoins_1 : decode cX5_sortCoins 1 = .ok (.istore_n 2, 1) := by decide +kernel
theorem dX5_sortCoins_2 : decode cX5_sortCoins 2 = .ok (.iload_n 2, 1) := by decide +kernel
theorem dX5_sortCoins_3 : decode cX5_sortCoins 3 = .ok (.iload_n 1, 1) := by decide +kernel
theorem dX5_sortCoins_4 : decode cX5_sortCoins 4 = .ok (.if_icmp .ge 78, 3) := by decide +kernel
theorem dX5_sortCoins_7 : decode cX5_sortCoins 7 = .ok (.iload_n 2, 1) := by decide +kernel
theorem dX5_sortCoins_8 : decode cX5_sortCoins 8 = .ok (.bipush 10, 2) := by decide +kernel
theorem dX5_sortCoins_10 : decode cX5_sortCoins 10 = .ok (.if_icmp .ge 72, 3) := by decide +kernel
theorem dX5_sortCoins_13 : decode cX5_sortCoins 13 = .ok (.aload_n 0, 1) := by decide +kernel
theorem dX5_sortCoins_14 : decode cX5_sortCoins 14 = .ok (.getfield 24, 3) := by decide +kernel
theorem dX5_sortCoins_17 : decode cX5_sortCoins 17 = .ok (.getfield 113, 3) := by decide +kernel
theorem dX5_sortCoins_20 : decode cX5_sortCoins 20 = .ok (.iload_n 2, 1) := by decide +kernel
theorem dX5_sortCoins_21 : decode cX5_sortCoins 21 = .ok (.invokevirtual 40, 3) := by decide +kernel
theorem dX5_sortCoins_24 : decode cX5_sortCoins 24 = .ok (.istore_n 3, 1) := by decide +kernel
theorem dX5_sortCoins_25 : decode cX5_sortCoins 25 = .ok (.iload_n 2, 1) := by decide +kernel
theorem dX5_sortCoins_26 : decode cX5_sortCoins 26 = .ok (.istore 4, 2) := by decide +kernel
theorem dX5_sortCoins_28 : decode cX5_sortCoins 28 = .ok (.iload 4, 2) := by decide +kernel
theorem dX5_sortCoins_30 : decode cX5_sortCoins 30 = .ok (.ifCond .le 38, 3) := by decide +kernel
theorem dX5_sortCoins_33 : decode cX5_sortCoins 33 = .ok (.aload_n 0, 1) := by decide +kernel
theorem dX5_sortCoins_34 : decode cX5_sortCoins 34 = .ok (.getfield 9, 3) := by decide +kernel
theorem dX5_sortCoins_37 : decode cX5_sortCoins 37 = .ok (.iload 4, 2) := by decide +kernel
theorem dX5_sortCoins_39 : decode cX5_sortCoins 39 = .ok (.iconst 1, 1) := by decide +kernel
theorem dX5_sortCoins_40 : decode cX5_sortCoins 40 = .ok (.isub, 1) := by decide +kernel
theorem dX5_sortCoins_41 : decode cX5_sortCoins 41 = .ok (.iaload, 1) := by decide +kernel
theorem dX5_sortCoins_42 : decode cX5_sortCoins 42 = .ok (.iload_n 3, 1) := by decide +kernel
theorem dX5_sortCoins_43 : decode cX5_sortCoins 43 = .ok (.if_icmp .le 25, 3) := by decide +kernel
theorem dX5_sortCoins_46 : decode cX5_sortCoins 46 = .ok (.aload_n 0, 1) := by decide +kernel
theorem dX5_sortCoins_47 : decode cX5_sortCoins 47 = .ok (.getfield 9, 3) := by decide +kernel
theorem dX5_sortCoins_50 : decode cX5_sortCoins 50 = .ok (.iload 4, 2) := by decide +kernel
theorem dX5_sortCoins_52 : decode cX5_sortCoins 52 = .ok (.aload_n 0, 1) := by decide +kernel
theorem dX5_sortCoins_53 : decode cX5_sortCoins 53 = .ok (.getfield 9, 3) := by decide +kernel
theorem dX5_sortCoins_56 : decode cX5_sortCoins 56 = .ok (.iload 4, 2) := by decide +kernel
theorem dX5_sortCoins_58 : decode cX5_sortCoins 58 = .ok (.iconst 1, 1) := by decide +kernel
theorem dX5_sortCoins_59 : decode cX5_sortCoins 59 = .ok (.isub, 1) := by decide +kernel
theorem dX5_sortCoins_60 : decode cX5_sortCoins 60 = .ok (.iaload, 1) := by decide +kernel
theorem dX5_sortCoins_61 : decode cX5_sortCoins 61 = .ok (.iastore, 1) := by decide +kernel
theorem dX5_sortCoins_62 : decode cX5_sortCoins 62 = .ok (.iinc 4 (-1), 3) := by decide +kernel
theorem dX5_sortCoins_65 : decode cX5_sortCoins 65 = .ok (.goto (-37), 3) := by decide +kernel
theorem dX5_sortCoins_68 : decode cX5_sortCoins 68 = .ok (.aload_n 0, 1) := by decide +kernel
theorem dX5_sortCoins_69 : decode cX5_sortCoins 69 = .ok (.getfield 9, 3) := by decide +kernel
theorem dX5_sortCoins_72 : decode cX5_sortCoins 72 = .ok (.iload 4, 2) := by decide +kernel
theorem dX5_sortCoins_74 : decode cX5_sortCoins 74 = .ok (.iload_n 3, 1) := by decide +kernel
theorem dX5_sortCoins_75 : decode cX5_sortCoins 75 = .ok (.iastore, 1) := by decide +kernel
theorem dX5_sortCoins_76 : decode cX5_sortCoins 76 = .ok (.iinc 2 1, 3) := by decide +kernel
theorem dX5_sortCoins_79 : decode cX5_sortCoins 79 = .ok (.goto (-77), 3) := by decide +kernel
theorem dX5_sortCoins_82 : decode cX5_sortCoins 82 = .ok (.return_, 1) := by decide +kernel
def f_X5_sortCoins_68  (k2 : Int32 × Int32 × zHp → Option (zHp)) (v1 : Int32) (v2 : Int32) (v3 : Int32) (v4 : Int32) (h : zHp) : Option (zHp) := zix v4 10 (zlt (zst h 162 v4.toNatClampNeg v3) fun h1 => k2 (v1, (v2 + (1 : Int32)), h1))
set_option maxHeartbeats 4000000 in
set_option maxRecDepth 100000 in
theorem f_X5_sortCoins_68_s  (k2 : Int32 × Int32 × zHp → Option (zHp)) (H2 : ∀ v : Int32 × Int32 × zHp, Sim wX mX5_sortCoins 1 rV 2 [(0, .ref 161), (1, .int v.1), (2, .int v.2.1)] [] v.2.2 (k2 v)) (v1 : Int32) (v2 : Int32) (v3 : Int32) (v4 : Int32) (h : zHp) : Sim wX mX5_sortCoins 1 rV 68 [(0, .ref 161), (1, .int v1), (2, .int v2), (3, .int v3), (4, .int v4)] [] h (f_X5_sortCoins_68 k2 v1 v2 v3 v4 h) := by
  unfold f_X5_sortCoins_68
  refine Sim.aload_n 0 dX5_sortCoins_68 rfl ?_
  refine Sim.getR (j := 162) fl_X5_9 dX5_sortCoins_69 xR_161_1 ?_
  refine Sim.iload 4 dX5_sortCoins_72 rfl ?_
  refine Sim.iload_n 3 dX5_sortCoins_74 rfl ?_
  refine Sim.iast (n := 10) dX5_sortCoins_75 xA_162 ?_
  refine Sim.lth (fun h1 => ?_)
  refine Sim.iinc (L' := [(2, .int (v2 + (1 : Int32))), (0, .ref 161), (1, .int v1), (3, .int v3), (4, .int v4)]) 2 dX5_sortCoins_76 rfl rfl (Nat.le_of_ble_eq_true rfl) rfl ?_
  refine Sim.goto 2 dX5_sortCoins_79 rfl ?_
  refine Sim.locs [1, 2, 0] rfl ?_
  exact H2 (v1, (v2 + (1 : Int32)), h1)
def f_X5_sortCoins_28  (k2 : Int32 × Int32 × zHp → Option (zHp)) (k28 : Int32 × Int32 × Int32 × Int32 × zHp → Option (zHp)) (v1 : Int32) (v2 : Int32) (v3 : Int32) (v4 : Int32) (h : zHp) : Option (zHp) := (if 0 < v4 then zix (v4 - (1 : Int32)) 10 ((if v3 < (h 162 (v4 - (1 : Int32)).toNatClampNeg) then zix (v4 - (1 : Int32)) 10 (zix v4 10 (zlt (zst h 162 v4.toNatClampNeg (h 162 (v4 - (1 : Int32)).toNatClampNeg)) fun h1 => k28 (v1, v2, v3, (v4 + (-1 : Int32)), h1))) else f_X5_sortCoins_68 k2 v1 v2 v3 v4 h)) else f_X5_sortCoins_68 k2 v1 v2 v3 v4 h)
set_option maxHeartbeats 4000000 in
set_option maxRecDepth 100000 in
theorem f_X5_sortCoins_28_s  (k2 : Int32 × Int32 × zHp → Option (zHp)) (H2 : ∀ v : Int32 × Int32 × zHp, Sim wX mX5_sortCoins 1 rV 2 [(0, .ref 161), (1, .int v.1), (2, .int v.2.1)] [] v.2.2 (k2 v)) (k28 : Int32 × Int32 × Int32 × Int32 × zHp → Option (zHp)) (H28 : ∀ v : Int32 × Int32 × Int32 × Int32 × zHp, Sim wX mX5_sortCoins 1 rV 28 [(0, .ref 161), (1, .int v.1), (2, .int v.2.1), (3, .int v.2.2.1), (4, .int v.2.2.2.1)] [] v.2.2.2.2 (k28 v)) (v1 : Int32) (v2 : Int32) (v3 : Int32) (v4 : Int32) (h : zHp) : Sim wX mX5_sortCoins 1 rV 28 [(0, .ref 161), (1, .int v1), (2, .int v2), (3, .int v3), (4, .int v4)] [] h (f_X5_sortCoins_28 k2 k28 v1 v2 v3 v4 h) := by
  unfold f_X5_sortCoins_28
  refine Sim.iload 4 dX5_sortCoins_28 rfl ?_
  refine Sim.if_le 68 dX5_sortCoins_30 rfl ?_ ?_
  · refine Sim.aload_n 0 dX5_sortCoins_33 rfl ?_
    refine Sim.getR (j := 162) fl_X5_9 dX5_sortCoins_34 xR_161_1 ?_
    refine Sim.iload 4 dX5_sortCoins_37 rfl ?_
    refine Sim.iconst (v := (1 : Int32)) dX5_sortCoins_39 rfl ?_
    refine Sim.isub dX5_sortCoins_40 ?_
    refine Sim.iald (n := 10) dX5_sortCoins_41 xA_162 ?_
    refine Sim.iload_n 3 dX5_sortCoins_42 rfl ?_
    refine Sim.icmp_le 68 dX5_sortCoins_43 rfl ?_ ?_
    · refine Sim.aload_n 0 dX5_sortCoins_46 rfl ?_
      refine Sim.getR (j := 162) fl_X5_9 dX5_sortCoins_47 xR_161_1 ?_
      refine Sim.iload 4 dX5_sortCoins_50 rfl ?_
      refine Sim.aload_n 0 dX5_sortCoins_52 rfl ?_
      refine Sim.getR (j := 162) fl_X5_9 dX5_sortCoins_53 xR_161_1 ?_
      refine Sim.iload 4 dX5_sortCoins_56 rfl ?_
      refine Sim.iconst (v := (1 : Int32)) dX5_sortCoins_58 rfl ?_
      refine Sim.isub dX5_sortCoins_59 ?_
      refine Sim.iald (n := 10) dX5_sortCoins_60 xA_162 ?_
      refine Sim.iast (n := 10) dX5_sortCoins_61 xA_162 ?_
      refine Sim.lth (fun h1 => ?_)
      refine Sim.iinc (L' := [(4, .int (v4 + (-1 : Int32))), (0, .ref 161), (1, .int v1), (2, .int v2), (3, .int v3)]) 4 dX5_sortCoins_62 rfl rfl (Nat.le_of_ble_eq_true rfl) rfl ?_
      refine Sim.goto 28 dX5_sortCoins_65 rfl ?_
      refine Sim.locs [1, 2, 3, 4, 0] rfl ?_
      exact H28 (v1, v2, v3, (v4 + (-1 : Int32)), h1)
    · exact f_X5_sortCoins_68_s k2 H2 v1 v2 v3 v4 h
  · exact f_X5_sortCoins_68_s k2 H2 v1 v2 v3 v4 h
def f_X5_sortCoins_28_lp  (k2 : Int32 × Int32 × zHp → Option (zHp)) (n : Nat) (v : Int32 × Int32 × Int32 × Int32 × zHp) : Option (zHp) := zlp (fun k28 v => f_X5_sortCoins_28 k2 k28 v.1 v.2.1 v.2.2.1 v.2.2.2.1 v.2.2.2.2) n v
theorem f_X5_sortCoins_28_ls  (k2 : Int32 × Int32 × zHp → Option (zHp)) (H2 : ∀ v : Int32 × Int32 × zHp, Sim wX mX5_sortCoins 1 rV 2 [(0, .ref 161), (1, .int v.1), (2, .int v.2.1)] [] v.2.2 (k2 v)) (n : Nat) (v : Int32 × Int32 × Int32 × Int32 × zHp) : Sim wX mX5_sortCoins 1 rV 28 [(0, .ref 161), (1, .int v.1), (2, .int v.2.1), (3, .int v.2.2.1), (4, .int v.2.2.2.1)] [] v.2.2.2.2 (f_X5_sortCoins_28_lp k2 n v) :=
  Sim.lp (V := Int32 × Int32 × Int32 × Int32 × zHp) (Lf := fun v => [(0, .ref 161), (1, .int v.1), (2, .int v.2.1), (3, .int v.2.2.1), (4, .int v.2.2.2.1)]) (sf := fun v => []) (hf := fun v => v.2.2.2.2) (fun k28 H28 v => f_X5_sortCoins_28_s k2 H2 k28 H28 v.1 v.2.1 v.2.2.1 v.2.2.2.1 v.2.2.2.2) n v
def f_X5_sortCoins_2  (k2 : Int32 × Int32 × zHp → Option (zHp)) (v1 : Int32) (v2 : Int32) (h : zHp) : Option (zHp) := (if v2 < v1 then (if v2 < (10 : Int32) then (f_X7_get 37 v2 h).bind fun x1 => f_X5_sortCoins_28_lp k2 zN (v1, v2, x1.1, v2, x1.2) else some h) else some h)
set_option maxHeartbeats 4000000 in
set_option maxRecDepth 100000 in
theorem f_X5_sortCoins_2_s  (k2 : Int32 × Int32 × zHp → Option (zHp)) (H2 : ∀ v : Int32 × Int32 × zHp, Sim wX mX5_sortCoins 1 rV 2 [(0, .ref 161), (1, .int v.1), (2, .int v.2.1)] [] v.2.2 (k2 v)) (v1 : Int32) (v2 : Int32) (h : zHp) : Sim wX mX5_sortCoins 1 rV 2 [(0, .ref 161), (1, .int v1), (2, .int v2)] [] h (f_X5_sortCoins_2 k2 v1 v2 h) := by
  unfold f_X5_sortCoins_2
  refine Sim.iload_n 2 dX5_sortCoins_2 rfl ?_
  refine Sim.iload_n 1 dX5_sortCoins_3 rfl ?_
  refine Sim.icmp_ge 82 dX5_sortCoins_4 rfl ?_ ?_
  · refine Sim.iload_n 2 dX5_sortCoins_7 rfl ?_
    refine Sim.bipush (v := (10 : Int32)) dX5_sortCoins_8 rfl ?_
    refine Sim.icmp_ge 82 dX5_sortCoins_10 rfl ?_ ?_
    · refine Sim.aload_n 0 dX5_sortCoins_13 rfl ?_
      refine Sim.getR (j := 26) fl_X5_24 dX5_sortCoins_14 xR_161_0 ?_
      refine Sim.getR (j := 37) fl_X5_113 dX5_sortCoins_17 (xR_X8_5 _ xL_X8_26) ?_
      refine Sim.iload_n 2 dX5_sortCoins_20 rfl ?_
      refine Sim.callV1I (d1 := 0) (s_X7_get 37 xL_X7_37 v2 h) dX5_sortCoins_21 ml_X5_40 mv_X7_get (xOC_X7 _ xL_X7_37) (Nat.le_of_ble_eq_true rfl) (Nat.le_of_ble_eq_true rfl) (Nat.le_of_ble_eq_true rfl) (fun x1 => ?_)
      refine Sim.istore_n (L' := [(3, .int x1.1), (0, .ref 161), (1, .int v1), (2, .int v2)]) dX5_sortCoins_24 (Nat.le_of_ble_eq_true rfl) rfl ?_
      refine Sim.iload_n 3 dX5_sortCoins_25 rfl ?_
      refine Sim.istore (L' := [(4, .int v2), (3, .int x1.1), (0, .ref 161), (1, .int v1), (2, .int v2)]) dX5_sortCoins_26 (Nat.le_of_ble_eq_true rfl) rfl ?_
      refine Sim.locs [2, 3, 4, 1, 0] rfl ?_
      exact f_X5_sortCoins_28_ls k2 H2 zN (v1, v2, x1.1, v2, x1.2)
    · exact Sim.vret dX5_sortCoins_82 rfl
  · exact Sim.vret dX5_sortCoins_82 rfl
def f_X5_sortCoins_2_lp   (n : Nat) (v : Int32 × Int32 × zHp) : Option (zHp) := zlp (fun k2 v => f_X5_sortCoins_2 k2 v.1 v.2.1 v.2.2) n v
theorem f_X5_sortCoins_2_ls  (n : Nat) (v : Int32 × Int32 × zHp) : Sim wX mX5_sortCoins 1 rV 2 [(0, .ref 161), (1, .int v.1), (2, .int v.2.1)] [] v.2.2 (f_X5_sortCoins_2_lp n v) :=
  Sim.lp (V := Int32 × Int32 × zHp) (Lf := fun v => [(0, .ref 161), (1, .int v.1), (2, .int v.2.1)]) (sf := fun v => []) (hf := fun v => v.2.2) (fun k2 H2 v => f_X5_sortCoins_2_s k2 H2 v.1 v.2.1 v.2.2) n v
def f_X5_sortCoins  (a1 : Int32) (h : zHp) : Option (zHp) := f_X5_sortCoins_2_lp  zN (a1, (0 : Int32), h)
set_option maxHeartbeats 4000000 in
set_option maxRecDepth 100000 in
theorem s_X5_sortCoins  (a1 : Int32) (h : zHp) : Fn wX mX5_sortCoins 1 rV [.ref 161, .int a1] h (f_X5_sortCoins a1 h) := by
  refine Fn.of rfl (Nat.le_of_ble_eq_true rfl) ?_
  unfold f_X5_sortCoins
  refine Sim.iconst (v := (0 : Int32)) dX5_sortCoins_0 rfl ?_
  refine Sim.istore_n (L' := [(2, .int (0 : Int32)), (0, .ref 161), (1, .int a1)]) dX5_sortCoins_1 (Nat.le_of_ble_eq_true rfl) rfl ?_
  refine Sim.locs [1, 2, 0] rfl ?_
  exact f_X5_sortCoins_2_ls  zN (a1, (0 : Int32), h)
theorem mv_X5_sortCoins : zMV mX5_sortCoins 1 := ⟨⟨zTb_in 1243 (by decide +kernel) rfl, zTb_in 147 (by decide +kernel) rfl, ⟨by decide +kernel, by decide +kernel⟩, by decide +kernel⟩, zTb_in 1242 (by decide +kernel) rfl, zTb_in 36 (by decide +kernel) rfl⟩
-- ===== RockingPorch$Puzzles.roomBelow(I)I
abbrev mX5_roomBelow : zMt := (yX5_roomBelow, cX5_roomBelow, 2, some .int)
theorem dX5_roomBelow_0 : decode cX5_roomBelow 0 = .ok (.iload_n 1, 1) := by decide +kernel
theorem dX5_roomBelow_1 : decode cX5_roomBelow 1 = .ok (.ifCond .le 44, 3) := by decide +kernel
theorem dX5_roomBelow_4 : decode cX5_roomBelow 4 = .ok (.aload_n 0, 1) := by decide +kernel
theorem dX5_roomBelow_5 : decode cX5_roomBelow 5 = .ok (.getfield 9, 3) := by decide +kernel
theorem dX5_roomBelow_8 : decode cX5_roomBelow 8 = .ok (.iload_n 1, 1) := by decide +kernel
theorem dX5_roomBelow_9 : decode cX5_roomBelow 9 = .ok (.iconst 1, 1) := by decide +kernel
theorem dX5_roomBelow_10 : decode cX5_roomBelow 10 = .ok (.isub, 1) := by decide +kernel
theorem dX5_roomBelow_11 : decode cX5_roomBelow 11 = .ok (.iaload, 1) := by decide +kernel
theorem dX5_roomBelow_12 : decode cX5_roomBelow 12 = .ok (.aload_n 0, 1) := by decide +kernel
theorem dX5_roomBelow_13 : decode cX5_roomBelow 13 = .ok (.getfield 9, 3) := by decide +kernel
theorem dX5_roomBelow_16 : decode cX5_roomBelow 16 = .ok (.iload_n 1, 1) := by decide +kernel
theorem dX5_roomBelow_17 : decode cX5_roomBelow 17 = .ok (.iaload, 1) := by decide +kernel
theorem dX5_roomBelow_18 : decode cX5_roomBelow 18 = .ok (.if_icmp .ge 23, 3) := by decide +kernel
theorem dX5_roomBelow_21 : decode cX5_roomBelow 21 = .ok (.aload_n 0, 1) := by decide +kernel
theorem dX5_roomBelow_22 : decode cX5_roomBelow 22 = .ok (.getfield 9, 3) := by decide +kernel
theorem dX5_roomBelow_25 : decode cX5_roomBelow 25 = .ok (.iload_n 1, 1) := by decide +kernel
theorem dX5_roomBelow_26 : decode cX5_roomBelow 26 = .ok (.iaload, 1) := by decide +kernel
theorem dX5_roomBelow_27 : decode cX5_roomBelow 27 = .ok (.aload_n 0, 1) := by decide +kernel
theorem dX5_roomBelow_28 : decode cX5_roomBelow 28 = .ok (.getfield 9, 3) := by decide +kernel
theorem dX5_roomBelow_31 : decode cX5_roomBelow 31 = .ok (.iload_n 1, 1) := by decide +kernel
theorem dX5_roomBelow_32 : decode cX5_roomBelow 32 = .ok (.iconst 1, 1) := by decide +kernel
theorem dX5_roomBelow_33 : decode cX5_roomBelow 33 = .ok (.isub, 1) := by decide +kernel
theorem dX5_roomBelow_34 : decode cX5_roomBelow 34 = .ok (.iaload, 1) := by decide +kernel
theorem dX5_roomBelow_35 : decode cX5_roomBelow 35 = .ok (.isub, 1) := by decide +kernel
theorem dX5_roomBelow_36 : decode cX5_roomBelow 36 = .ok (.iconst 1, 1) := by decide +kernel
theorem dX5_roomBelow_37 : decode cX5_roomBelow 37 = .ok (.isub, 1) := by decide +kernel
theorem dX5_roomBelow_38 : decode cX5_roomBelow 38 = .ok (.goto 13, 3) := by decide +kernel
theorem dX5_roomBelow_41 : decode cX5_roomBelow 41 = .ok (.iconst 0, 1) := by decide +kernel
theorem dX5_roomBelow_42 : decode cX5_roomBelow 42 = .ok (.goto 9, 3) := by decide +kernel
theorem dX5_roomBelow_45 : decode cX5_roomBelow 45 = .ok (.aload_n 0, 1) := by decide +kernel
theorem dX5_roomBelow_46 : decode cX5_roomBelow 46 = .ok (.getfield 9, 3) := by decide +kernel
theorem dX5_roomBelow_49 : decode cX5_roomBelow 49 = .ok (.iconst 0, 1) := by decide +kernel
theorem dX5_roomBelow_50 : decode cX5_roomBelow 50 = .ok (.iaload, 1) := by decide +kernel
theorem dX5_roomBelow_51 : decode cX5_roomBelow 51 = .ok (.ireturn, 1) := by decide +kernel
def f_X5_roomBelow  (a1 : Int32) (h : zHp) : Option (Int32 × zHp) := (if 0 < a1 then zix (a1 - (1 : Int32)) 10 (zix a1 10 ((if (h 162 (a1 - (1 : Int32)).toNatClampNeg) < (h 162 a1.toNatClampNeg) then zix a1 10 (zix (a1 - (1 : Int32)) 10 (some ((((h 162 a1.toNatClampNeg) - (h 162 (a1 - (1 : Int32)).toNatClampNeg)) - (1 : Int32)), h))) else some ((0 : Int32), h)))) else zix (0 : Int32) 10 (some ((h 162 (0 : Int32).toNatClampNeg), h)))
set_option maxHeartbeats 4000000 in
set_option maxRecDepth 100000 in
theorem s_X5_roomBelow  (a1 : Int32) (h : zHp) : Fn wX mX5_roomBelow 0 rI [.ref 161, .int a1] h (f_X5_roomBelow a1 h) := by
  refine Fn.of rfl (Nat.le_of_ble_eq_true rfl) ?_
  unfold f_X5_roomBelow
  refine Sim.iload_n 1 dX5_roomBelow_0 rfl ?_
  refine Sim.if_le 45 dX5_roomBelow_1 rfl ?_ ?_
  · refine Sim.aload_n 0 dX5_roomBelow_4 rfl ?_
    refine Sim.getR (j := 162) fl_X5_9 dX5_roomBelow_5 xR_161_1 ?_
    refine Sim.iload_n 1 dX5_roomBelow_8 rfl ?_
    refine Sim.iconst (v := (1 : Int32)) dX5_roomBelow_9 rfl ?_
    refine Sim.isub dX5_roomBelow_10 ?_
    refine Sim.iald (n := 10) dX5_roomBelow_11 xA_162 ?_
    refine Sim.aload_n 0 dX5_roomBelow_12 rfl ?_
    refine Sim.getR (j := 162) fl_X5_9 dX5_roomBelow_13 xR_161_1 ?_
    refine Sim.iload_n 1 dX5_roomBelow_16 rfl ?_
    refine Sim.iald (n := 10) dX5_roomBelow_17 xA_162 ?_
    refine Sim.icmp_ge 41 dX5_roomBelow_18 rfl ?_ ?_
    · refine Sim.aload_n 0 dX5_roomBelow_21 rfl ?_
      refine Sim.getR (j := 162) fl_X5_9 dX5_roomBelow_22 xR_161_1 ?_
      refine Sim.iload_n 1 dX5_roomBelow_25 rfl ?_
      refine Sim.iald (n := 10) dX5_roomBelow_26 xA_162 ?_
      refine Sim.aload_n 0 dX5_roomBelow_27 rfl ?_
      refine Sim.getR (j := 162) fl_X5_9 dX5_roomBelow_28 xR_161_1 ?_
      refine Sim.iload_n 1 dX5_roomBelow_31 rfl ?_
      refine Sim.iconst (v := (1 : Int32)) dX5_roomBelow_32 rfl ?_
      refine Sim.isub dX5_roomBelow_33 ?_
      refine Sim.iald (n := 10) dX5_roomBelow_34 xA_162 ?_
      refine Sim.isub dX5_roomBelow_35 ?_
      refine Sim.iconst (v := (1 : Int32)) dX5_roomBelow_36 rfl ?_
      refine Sim.isub dX5_roomBelow_37 ?_
      refine Sim.goto 51 dX5_roomBelow_38 rfl ?_
      exact Sim.iret dX5_roomBelow_51 rfl
    · refine Sim.iconst (v := (0 : Int32)) dX5_roomBelow_41 rfl ?_
      refine Sim.goto 51 dX5_roomBelow_42 rfl ?_
      exact Sim.iret dX5_roomBelow_51 rfl
  · refine Sim.aload_n 0 dX5_roomBelow_45 rfl ?_
    refine Sim.getR (j := 162) fl_X5_9 dX5_roomBelow_46 xR_161_1 ?_
    refine Sim.iconst (v := (0 : Int32)) dX5_roomBelow_49 rfl ?_
    refine Sim.iald (n := 10) dX5_roomBelow_50 xA_162 ?_
    exact Sim.iret dX5_roomBelow_51 rfl
theorem mv_X5_roomBelow : zMV mX5_roomBelow 1 := ⟨⟨zTb_in 1247 (by decide +kernel) rfl, zTb_in 147 (by decide +kernel) rfl, ⟨by decide +kernel, by decide +kernel⟩, by decide +kernel⟩, zTb_in 1246 (by decide +kernel) rfl, zTb_in 37 (by decide +kernel) rfl⟩
-- ===== RockingPorch$Puzzles.isLost(I)Z
abbrev mX5_isLost : zMt := (yX5_isLost, cX5_isLost, 4, some .boolean)
theorem ml_X5_120 : Cond.methodLink RX5 120 yX5_roomBelow ∈ zTb := zTb_in 1244 (by decide +kernel) rfl
theorem dX5_isLost_0 : decode cX5_isLost 0 = .ok (.iconst 0, 1) := by decide +kernel
theorem dX5_isLost_1 : decode cX5_isLost 1 = .ok (.istore_n 2, 1) := by decide +kernel
theorem dX5_isLost_2 : decode cX5_isLost 2 = .ok (.iload_n 1, 1) := by decide +kernel
theorem dX5_isLost_3 : decode cX5_isLost 3 = .ok (.bipush 10, 2) := by decide +kernel
theorem dX5_isLost_5 : decode cX5_isLost 5 = .ok (.invokestatic 71, 3) := by decide +kernel
theorem dX5_isLost_8 : decode cX5_isLost 8 = .ok (.iconst 1, 1) := by decide +kernel
theorem dX5_isLost_9 : decode cX5_isLost 9 = .ok (.isub, 1) := by decide +kernel
theorem dX5_isLost_10 : decode cX5_isLost 10 = .ok (.istore_n 3, 1) := by decide +kernel
theorem dX5_isLost_11 : decode cX5_isLost 11 = .ok (.iload_n 3, 1) := by decide +kernel
theorem dX5_isLost_12 : decode cX5_isLost 12 = .ok (.ifCond .lt 17, 3) := by decide +kernel
theorem dX5_isLost_15 : decode cX5_isLost 15 = .ok (.iload_n 2, 1) := by decide +kernel
theorem dX5_isLost_16 : decode cX5_isLost 16 = .ok (.aload_n 0, 1) := by decide +kernel
theorem dX5_isLost_17 : decode cX5_isLost 17 = .ok (.iload_n 3, 1) := by decide +kernel
theorem dX5_isLost_18 : decode cX5_isLost 18 = .ok (.invokevirtual 120, 3) := by decide +kernel
theorem dX5_isLost_21 : decode cX5_isLost 21 = .ok (.ixor, 1) := by decide +kernel
theorem dX5_isLost_22 : decode cX5_isLost 22 = .ok (.istore_n 2, 1) := by decide +kernel
theorem dX5_isLost_23 : decode cX5_isLost 23 = .ok (.iinc 3 (-2), 3) := by decide +kernel
theorem dX5_isLost_26 : decode cX5_isLost 26 = .ok (.goto (-15), 3) := by decide +kernel
theorem dX5_isLost_29 : decode cX5_isLost 29 = .ok (.iload_n 2, 1) := by decide +kernel
theorem dX5_isLost_30 : decode cX5_isLost 30 = .ok (.ifCond .ne 7, 3) := by decide +kernel
theorem dX5_isLost_33 : decode cX5_isLost 33 = .ok (.iconst 1, 1) := by decide +kernel
theorem dX5_isLost_34 : decode cX5_isLost 34 = .ok (.goto 4, 3) := by decide +kernel
theorem dX5_isLost_37 : decode cX5_isLost 37 = .ok (.iconst 0, 1) := by decide +kernel
theorem dX5_isLost_38 : decode cX5_isLost 38 = .ok (.ireturn, 1) := by decide +kernel
def f_X5_isLost_11  (k11 : Int32 × Int32 × zHp → Option (Int32 × zHp)) (v2 : Int32) (v3 : Int32) (h : zHp) : Option (Int32 × zHp) := (if v3 < 0 then (if v2 = 0 then some ((1 : Int32), h) else some ((0 : Int32), h)) else (f_X5_roomBelow v3 h).bind fun x1 => zlt (v2 ^^^ x1.1) fun x2 => k11 (x2, (v3 + (-2 : Int32)), x1.2))
set_option maxHeartbeats 4000000 in
set_option maxRecDepth 100000 in
theorem f_X5_isLost_11_s  (k11 : Int32 × Int32 × zHp → Option (Int32 × zHp)) (H11 : ∀ v : Int32 × Int32 × zHp, Sim wX mX5_isLost 1 rI 11 [(0, .ref 161), (2, .int v.1), (3, .int v.2.1)] [] v.2.2 (k11 v)) (v2 : Int32) (v3 : Int32) (h : zHp) : Sim wX mX5_isLost 1 rI 11 [(0, .ref 161), (2, .int v2), (3, .int v3)] [] h (f_X5_isLost_11 k11 v2 v3 h) := by
  unfold f_X5_isLost_11
  refine Sim.iload_n 2 dX5_isLost_11 rfl ?_
  refine Sim.if_lt 29 dX5_isLost_12 rfl ?_ ?_
  · refine Sim.iload_n 1 dX5_isLost_29 rfl ?_
    refine Sim.if_ne 37 dX5_isLost_30 rfl ?_ ?_
    · refine Sim.iconst (v := (1 : Int32)) dX5_isLost_33 rfl ?_
      refine Sim.goto 38 dX5_isLost_34 rfl ?_
      exact Sim.nret dX5_isLost_38 rfl rfl
    · refine Sim.iconst (v := (0 : Int32)) dX5_isLost_37 rfl ?_
      exact Sim.nret dX5_isLost_38 rfl rfl
  · refine Sim.iload_n 1 dX5_isLost_15 rfl ?_
    refine Sim.aload_n 0 dX5_isLost_16 rfl ?_
    refine Sim.iload_n 2 dX5_isLost_17 rfl ?_
    refine Sim.callV1I (d1 := 0) (s_X5_roomBelow v3 h) dX5_isLost_18 ml_X5_120 mv_X5_roomBelow xO_X5 (Nat.le_of_ble_eq_true rfl) (Nat.le_of_ble_eq_true rfl) (Nat.le_of_ble_eq_true rfl) (fun x1 => ?_)
    refine Sim.ixor dX5_isLost_21 ?_
    refine Sim.lti (fun x2 => ?_)
    refine Sim.istore_n (L' := [(2, .int x2), (0, .ref 161), (3, .int v3)]) dX5_isLost_22 (Nat.le_of_ble_eq_true rfl) rfl ?_
    refine Sim.iinc (L' := [(3, .int (v3 + (-2 : Int32))), (2, .int x2), (0, .ref 161)]) 2 dX5_isLost_23 rfl rfl (Nat.le_of_ble_eq_true rfl) rfl ?_
    refine Sim.goto 11 dX5_isLost_26 rfl ?_
    refine Sim.locs [2, 1, 0] rfl ?_
    exact H11 (x2, (v3 + (-2 : Int32)), x1.2)
def f_X5_isLost_11_lp   (n : Nat) (v : Int32 × Int32 × zHp) : Option (Int32 × zHp) := zlp (fun k11 v => f_X5_isLost_11 k11 v.1 v.2.1 v.2.2) n v
theorem f_X5_isLost_11_ls  (n : Nat) (v : Int32 × Int32 × zHp) : Sim wX mX5_isLost 1 rI 11 [(0, .ref 161), (2, .int v.1), (3, .int v.2.1)] [] v.2.2 (f_X5_isLost_11_lp n v) :=
  Sim.lp (V := Int32 × Int32 × zHp) (Lf := fun v => [(0, .ref 161), (2, .int v.1), (3, .int v.2.1)]) (sf := fun v => []) (hf := fun v => v.2.2) (fun k11 H11 v => f_X5_isLost_11_s k11 H11 v.1 v.2.1 v.2.2) n v
def f_X5_isLost  (a1 : Int32) (h : zHp) : Option (Int32 × zHp) := zlt ((if (10 : Int32) < a1 then (10 : Int32) else a1) - (1 : Int32)) fun x1 => f_X5_isLost_11_lp  zN ((0 : Int32), x1, h)
set_option maxHeartbeats 4000000 in
set_option maxRecDepth 100000 in
theorem s_X5_isLost  (a1 : Int32) (h : zHp) : Fn wX mX5_isLost 1 rI [.ref 161, .int a1] h (f_X5_isLost a1 h) := by
  refine Fn.of rfl (Nat.le_of_ble_eq_true rfl) ?_
  unfold f_X5_isLost
  refine Sim.iconst (v := (0 : Int32)) dX5_isLost_0 rfl ?_
  refine Sim.istore_n (L' := [(2, .int (0 : Int32)), (0, .ref 161), (1, .int a1)]) dX5_isLost_1 (Nat.le_of_ble_eq_true rfl) rfl ?_
  refine Sim.iload_n 2 dX5_isLost_2 rfl ?_
  refine Sim.bipush (v := (10 : Int32)) dX5_isLost_3 rfl ?_
  refine Sim.mmin dX5_isLost_5 ml_X5_71 ms_min ms_Math mc_min (Nat.le_of_ble_eq_true rfl) (Nat.le_of_ble_eq_true rfl) ?_
  refine Sim.iconst (v := (1 : Int32)) dX5_isLost_8 rfl ?_
  refine Sim.isub dX5_isLost_9 ?_
  refine Sim.lti (fun x1 => ?_)
  refine Sim.istore_n (L' := [(3, .int x1), (2, .int (0 : Int32)), (0, .ref 161), (1, .int a1)]) dX5_isLost_10 (Nat.le_of_ble_eq_true rfl) rfl ?_
  refine Sim.locs [2, 1, 0] rfl ?_
  exact f_X5_isLost_11_ls  zN ((0 : Int32), x1, h)
theorem mv_X5_isLost : zMV mX5_isLost 1 := ⟨⟨zTb_in 1251 (by decide +kernel) rfl, zTb_in 147 (by decide +kernel) rfl, ⟨by decide +kernel, by decide +kernel⟩, by decide +kernel⟩, zTb_in 1250 (by decide +kernel) rfl, zTb_in 38 (by decide +kernel) rfl⟩
