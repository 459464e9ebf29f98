-- ===== RockingPorch$Past.goBack(LRockingPorch$Porch;LRockingPorch$Lines;)Z
abbrev mX3_goBack : zMt := (yX3_goBack, cX3_goBack, 4, some .boolean)
theorem fp_X3_41 : zFp RX3 41 2 2 .int := ⟨RX2, TX2, 3, tyX2, rfl, Nat.le_of_ble_eq_true rfl, zTb_in 261 (by decide +kernel) rfl, in_X2, tyX2_ok, nmX2, rfl, rfl⟩
theorem dX3_goBack_0 : decode cX3_goBack 0 = .ok (.aload_n 0, 1) := by decide +kernel
theorem dX3_goBack_1 : decode cX3_goBack 1 = .ok (.getfield 25, 3) := by decide +kernel
theorem dX3_goBack_4 : decode cX3_goBack 4 = .ok (.ifCond .ne 5, 3) := by decide +kernel
theorem dX3_goBack_7 : decode cX3_goBack 7 = .ok (.iconst 0, 1) := by decide +kernel
theorem dX3_goBack_8 : decode cX3_goBack 8 = .ok (.ireturn, 1) := by decide +kernel
theorem dX3_goBack_9 : decode cX3_goBack 9 = .ok (.aload_n 0, 1) := by decide +kernel
theorem dX3_goBack_10 : decode cX3_goBack 10 = .ok (.dup, 1) := by decide +kernel
theorem dX3_goBack_11 : decode cX3_goBack 11 = .ok (.getfield 25, 3) := by decide +kernel
theorem dX3_goBack_14 : decode cX3_goBack 14 = .ok (.iconst 1, 1) := by decide +kernel
theorem dX3_goBack_15 : decode cX3_goBack 15 = .ok (.isub, 1) := by decide +kernel
theorem dX3_goBack_16 : decode cX3_goBack 16 = .ok (.putfield 25, 3) := by decide +kernel
theorem dX3_goBack_19 : decode cX3_goBack 19 = .ok (.aload_n 0, 1) := by decide +kernel
theorem dX3_goBack_20 : decode cX3_goBack 20 = .ok (.aload_n 0, 1) := by decide +kernel
theorem dX3_goBack_21 : decode cX3_goBack 21 = .ok (.getfield 21, 3) := by decide +kernel
theorem dX3_goBack_24 : decode cX3_goBack 24 = .ok (.bipush 6, 2) := by decide +kernel
theorem dX3_goBack_26 : decode cX3_goBack 26 = .ok (.iadd, 1) := by decide +kernel
theorem dX3_goBack_27 : decode cX3_goBack 27 = .ok (.iconst 1, 1) := by decide +kernel
theorem dX3_goBack_28 : decode cX3_goBack 28 = .ok (.isub, 1) := by decide +kernel
theorem dX3_goBack_29 : decode cX3_goBack 29 = .ok (.bipush 6, 2) := by decide +kernel
theorem dX3_goBack_31 : decode cX3_goBack 31 = .ok (.irem, 1) := by decide +kernel
theorem dX3_goBack_32 : decode cX3_goBack 32 = .ok (.putfield 21, 3) := by decide +kernel
theorem dX3_goBack_35 : decode cX3_goBack 35 = .ok (.aload_n 0, 1) := by decide +kernel
theorem dX3_goBack_36 : decode cX3_goBack 36 = .ok (.getfield 11, 3) := by decide +kernel
theorem dX3_goBack_39 : decode cX3_goBack 39 = .ok (.aload_n 0, 1) := by decide +kernel
theorem dX3_goBack_40 : decode cX3_goBack 40 = .ok (.getfield 21, 3) := by decide +kernel
theorem dX3_goBack_43 : decode cX3_goBack 43 = .ok (.aaload, 1) := by decide +kernel
theorem dX3_goBack_44 : decode cX3_goBack 44 = .ok (.astore_n 3, 1) := by decide +kernel
theorem dX3_goBack_45 : decode cX3_goBack 45 = .ok (.aload_n 3, 1) := by decide +kernel
theorem dX3_goBack_46 : decode cX3_goBack 46 = .ok (.ifnonnull 5, 3) := by decide +kernel
theorem dX3_goBack_51 : decode cX3_goBack 51 = .ok (.aload_n 1, 1) := by decide +kernel
theorem dX3_goBack_52 : decode cX3_goBack 52 = .ok (.aload_n 3, 1) := by decide +kernel
theorem dX3_goBack_53 : decode cX3_goBack 53 = .ok (.invokevirtual 31, 3) := by decide +kernel
theorem dX3_goBack_56 : decode cX3_goBack 56 = .ok (.aload_n 2, 1) := by decide +kernel
theorem dX3_goBack_57 : decode cX3_goBack 57 = .ok (.aload_n 0, 1) := by decide +kernel
theorem dX3_goBack_58 : decode cX3_goBack 58 = .ok (.getfield 17, 3) := by decide +kernel
theorem dX3_goBack_61 : decode cX3_goBack 61 = .ok (.aload_n 0, 1) := by decide +kernel
theorem dX3_goBack_62 : decode cX3_goBack 62 = .ok (.getfield 21, 3) := by decide +kernel
theorem dX3_goBack_65 : decode cX3_goBack 65 = .ok (.iaload, 1) := by decide +kernel
theorem dX3_goBack_66 : decode cX3_goBack 66 = .ok (.putfield 41, 3) := by decide +kernel
theorem dX3_goBack_69 : decode cX3_goBack 69 = .ok (.iconst 1, 1) := by decide +kernel
theorem dX3_goBack_70 : decode cX3_goBack 70 = .ok (.ireturn, 1) := by decide +kernel
def f_X3_goBack (b1 : Nat) (b2 : Nat)  (h : zHp) : Option (Int32 × zHp) := (if (h 79 3) = 0 then some ((0 : Int32), h) else zlt (zst h 79 3 ((h 79 3) - (1 : Int32))) fun h1 => zlt (zst h1 79 2 ((((h1 79 2) + (6 : Int32)) - (1 : Int32)) - (((h1 79 2) + (6 : Int32)) - (1 : Int32)) / (6 : Int32) * (6 : Int32))) fun h2 => zix (h2 79 2) 6 ((f_X4_copyFrom b1 (82 + 9 * (h2 79 2).toNatClampNeg) h2).bind fun x4 => zix (x4 79 2) 6 (zlt (zst x4 b2 2 (x4 81 (x4 79 2).toNatClampNeg)) fun h5 => some ((1 : Int32), h5))))
set_option maxHeartbeats 4000000 in
set_option maxRecDepth 100000 in
theorem s_X3_goBack (b1 : Nat) (hb1 : b1 ∈ xPorch) (b2 : Nat) (hb2 : b2 ∈ xLines)  (h : zHp) : Fn wX mX3_goBack 2 rI [.ref 79, .ref b1, .ref b2] h (f_X3_goBack b1 b2 h) := by
  refine Fn.of rfl (Nat.le_of_ble_eq_true rfl) ?_
  unfold f_X3_goBack
  refine Sim.aload_n 0 dX3_goBack_0 rfl ?_
  refine Sim.getI fl_X3_25 dX3_goBack_1 xI_79_3 ?_
  refine Sim.if_ne 9 dX3_goBack_4 rfl ?_ ?_
  · refine Sim.iconst (v := (0 : Int32)) dX3_goBack_7 rfl ?_
    exact Sim.nret dX3_goBack_8 rfl rfl
  · refine Sim.aload_n 0 dX3_goBack_9 rfl ?_
    refine Sim.dup dX3_goBack_10 rfl ?_
    refine Sim.getI fl_X3_25 dX3_goBack_11 xI_79_3 ?_
    refine Sim.iconst (v := (1 : Int32)) dX3_goBack_14 rfl ?_
    refine Sim.isub dX3_goBack_15 ?_
    refine Sim.put fp_X3_25 dX3_goBack_16 xI_79_3 rfl rfl ?_
    refine Sim.lth (fun h1 => ?_)
    refine Sim.aload_n 0 dX3_goBack_19 rfl ?_
    refine Sim.aload_n 0 dX3_goBack_20 rfl ?_
    refine Sim.getI fl_X3_21 dX3_goBack_21 xI_79_2 ?_
    refine Sim.bipush (v := (6 : Int32)) dX3_goBack_24 rfl ?_
    refine Sim.iadd dX3_goBack_26 ?_
    refine Sim.iconst (v := (1 : Int32)) dX3_goBack_27 rfl ?_
    refine Sim.isub dX3_goBack_28 ?_
    refine Sim.bipush (v := (6 : Int32)) dX3_goBack_29 rfl ?_
    refine Sim.iremL dX3_goBack_31 (by decide) ?_
    refine Sim.put fp_X3_21 dX3_goBack_32 xI_79_2 rfl rfl ?_
    refine Sim.lth (fun h2 => ?_)
    refine Sim.aload_n 0 dX3_goBack_35 rfl ?_
    refine Sim.getR (j := 80) fl_X3_11 dX3_goBack_36 xR_79_0 ?_
    refine Sim.aload_n 0 dX3_goBack_39 rfl ?_
    refine Sim.getI fl_X3_21 dX3_goBack_40 xI_79_2 ?_
    refine Sim.aald (n := 6) (j := fun i => 82 + 9 * i) dX3_goBack_43 xP_80 (fun q3 => ?_)
    refine Sim.astore_n (L' := [(3, .ref (82 + 9 * (h2 79 2).toNatClampNeg)), (0, .ref 79), (1, .ref b1), (2, .ref b2)]) dX3_goBack_44 (Nat.le_of_ble_eq_true rfl) rfl ?_
    refine Sim.aload_n 0 dX3_goBack_45 rfl ?_
    refine Sim.ifnonnull 51 dX3_goBack_46 rfl ?_
    refine Sim.aload_n 2 dX3_goBack_51 rfl ?_
    refine Sim.aload_n 0 dX3_goBack_52 rfl ?_
    refine Sim.callV1U (d1 := 1) (s_X4_copyFrom b1 hb1 (82 + 9 * (h2 79 2).toNatClampNeg) (xPp q3) h2) dX3_goBack_53 ml_X3_31 mv_X4_copyFrom (xOC_X4 _ hb1) (Nat.le_of_ble_eq_true rfl) (Nat.le_of_ble_eq_true rfl) (Nat.le_of_ble_eq_true rfl) (fun x4 => ?_)
    refine Sim.aload_n 3 dX3_goBack_56 rfl ?_
    refine Sim.aload_n 1 dX3_goBack_57 rfl ?_
    refine Sim.getR (j := 81) fl_X3_17 dX3_goBack_58 xR_79_1 ?_
    refine Sim.aload_n 1 dX3_goBack_61 rfl ?_
    refine Sim.getI fl_X3_21 dX3_goBack_62 xI_79_2 ?_
    refine Sim.iald (n := 6) dX3_goBack_65 xA_81 ?_
    refine Sim.put fp_X3_41 dX3_goBack_66 (xI_X2_2 _ hb2) rfl rfl ?_
    refine Sim.lth (fun h5 => ?_)
    refine Sim.iconst (v := (1 : Int32)) dX3_goBack_69 rfl ?_
    exact Sim.nret dX3_goBack_70 rfl rfl
theorem mv_X3_goBack : zMV mX3_goBack 2 := ⟨⟨zTb_in 1259 (by decide +kernel) rfl, zTb_in 144 (by decide +kernel) rfl, ⟨by decide +kernel, by decide +kernel⟩, by decide +kernel⟩, zTb_in 1257 (by decide +kernel) rfl, zTb_in 1258 (by decide +kernel) rfl⟩
-- ===== RockingPorch$Porch.addChair(I)I
abbrev mX4_addChair : zMt := (yX4_addChair, cX4_addChair, 2, some .int)
theorem ml_X4_65 : Cond.methodLink RX4 65 yX4_rock ∈ zTb := zTb_in 557 (by decide +kernel) rfl
theorem dX4_addChair_0 : decode cX4_addChair 0 = .ok (.aload_n 0, 1) := by decide +kernel
theorem dX4_addChair_1 : decode cX4_addChair 1 = .ok (.getfield 36, 3) := by decide +kernel
theorem dX4_addChair_4 : decode cX4_addChair 4 = .ok (.bipush 10, 2) := by decide +kernel
theorem dX4_addChair_6 : decode cX4_addChair 6 = .ok (.if_icmp .lt 5, 3) := by decide +kernel
theorem dX4_addChair_9 : decode cX4_addChair 9 = .ok (.iconst (-1), 1) := by decide +kernel
theorem dX4_addChair_10 : decode cX4_addChair 10 = .ok (.ireturn, 1) := by decide +kernel
theorem dX4_addChair_11 : decode cX4_addChair 11 = .ok (.aload_n 0, 1) := by decide +kernel
theorem dX4_addChair_12 : decode cX4_addChair 12 = .ok (.getfield 9, 3) := by decide +kernel
theorem dX4_addChair_15 : decode cX4_addChair 15 = .ok (.aload_n 0, 1) := by decide +kernel
theorem dX4_addChair_16 : decode cX4_addChair 16 = .ok (.getfield 36, 3) := by decide +kernel
theorem dX4_addChair_19 : decode cX4_addChair 19 = .ok (.iload_n 1, 1) := by decide +kernel
theorem dX4_addChair_20 : decode cX4_addChair 20 = .ok (.iastore, 1) := by decide +kernel
theorem dX4_addChair_21 : decode cX4_addChair 21 = .ok (.aload_n 0, 1) := by decide +kernel
theorem dX4_addChair_22 : decode cX4_addChair 22 = .ok (.getfield 21, 3) := by decide +kernel
theorem dX4_addChair_25 : decode cX4_addChair 25 = .ok (.aload_n 0, 1) := by decide +kernel
theorem dX4_addChair_26 : decode cX4_addChair 26 = .ok (.getfield 36, 3) := by decide +kernel
theorem dX4_addChair_29 : decode cX4_addChair 29 = .ok (.iconst (-1), 1) := by decide +kernel
theorem dX4_addChair_30 : decode cX4_addChair 30 = .ok (.iastore, 1) := by decide +kernel
theorem dX4_addChair_31 : decode cX4_addChair 31 = .ok (.aload_n 0, 1) := by decide +kernel
theorem dX4_addChair_32 : decode cX4_addChair 32 = .ok (.aload_n 0, 1) := by decide +kernel
theorem dX4_addChair_33 : decode cX4_addChair 33 = .ok (.getfield 36, 3) := by decide +kernel
theorem dX4_addChair_36 : decode cX4_addChair 36 = .ok (.iconst 0, 1) := by decide +kernel
theorem dX4_addChair_37 : decode cX4_addChair 37 = .ok (.iconst (-1), 1) := by decide +kernel
theorem dX4_addChair_38 : decode cX4_addChair 38 = .ok (.invokevirtual 65, 3) := by decide +kernel
theorem dX4_addChair_41 : decode cX4_addChair 41 = .ok (.aload_n 0, 1) := by decide +kernel
theorem dX4_addChair_42 : decode cX4_addChair 42 = .ok (.dup, 1) := by decide +kernel
theorem dX4_addChair_43 : decode cX4_addChair 43 = .ok (.getfield 36, 3) := by decide +kernel
theorem dX4_addChair_46 : decode cX4_addChair 46 = .ok (.iconst 1, 1) := by decide +kernel
theorem dX4_addChair_47 : decode cX4_addChair 47 = .ok (.iadd, 1) := by decide +kernel
theorem dX4_addChair_48 : decode cX4_addChair 48 = .ok (.putfield 36, 3) := by decide +kernel
theorem dX4_addChair_51 : decode cX4_addChair 51 = .ok (.aload_n 0, 1) := by decide +kernel
theorem dX4_addChair_52 : decode cX4_addChair 52 = .ok (.getfield 36, 3) := by decide +kernel
theorem dX4_addChair_55 : decode cX4_addChair 55 = .ok (.iconst 1, 1) := by decide +kernel
theorem dX4_addChair_56 : decode cX4_addChair 56 = .ok (.isub, 1) := by decide +kernel
theorem dX4_addChair_57 : decode cX4_addChair 57 = .ok (.ireturn, 1) := by decide +kernel
def f_X4_addChair (o : Nat) (a1 : Int32) (h : zHp) : Option (Int32 × zHp) := (if (h o 9) < (10 : Int32) then zix (h o 9) 10 (zlt (zst h (o + 1) (h o 9).toNatClampNeg a1) fun h1 => zix (h1 o 9) 10 (zlt (zst h1 (o + 4) (h1 o 9).toNatClampNeg (-1 : Int32)) fun h2 => (f_X4_rock o (h2 o 9) (0 : Int32) (-1 : Int32) h2).bind fun x3 => zlt (zst x3 o 9 ((x3 o 9) + (1 : Int32))) fun h4 => some (((h4 o 9) - (1 : Int32)), h4))) else some ((-1 : Int32), h))
set_option maxHeartbeats 4000000 in
set_option maxRecDepth 100000 in
theorem s_X4_addChair (o : Nat) (ho : o ∈ xPorch) (a1 : Int32) (h : zHp) : Fn wX mX4_addChair 1 rI [.ref o, .int a1] h (f_X4_addChair o a1 h) := by
  refine Fn.of rfl (Nat.le_of_ble_eq_true rfl) ?_
  unfold f_X4_addChair
  refine Sim.aload_n 0 dX4_addChair_0 rfl ?_
  refine Sim.getI fl_X4_36 dX4_addChair_1 (xI_X4_9 _ ho) ?_
  refine Sim.bipush (v := (10 : Int32)) dX4_addChair_4 rfl ?_
  refine Sim.icmp_lt 11 dX4_addChair_6 rfl ?_ ?_
  · refine Sim.aload_n 0 dX4_addChair_11 rfl ?_
    refine Sim.getR (j := (o + 1)) fl_X4_9 dX4_addChair_12 (xR_X4_1 _ ho) ?_
    refine Sim.aload_n 0 dX4_addChair_15 rfl ?_
    refine Sim.getI fl_X4_36 dX4_addChair_16 (xI_X4_9 _ ho) ?_
    refine Sim.iload_n 1 dX4_addChair_19 rfl ?_
    refine Sim.iast (n := 10) dX4_addChair_20 (xA_X4_1 _ ho) ?_
    refine Sim.lth (fun h1 => ?_)
    refine Sim.aload_n 0 dX4_addChair_21 rfl ?_
    refine Sim.getR (j := (o + 4)) fl_X4_21 dX4_addChair_22 (xR_X4_4 _ ho) ?_
    refine Sim.aload_n 0 dX4_addChair_25 rfl ?_
    refine Sim.getI fl_X4_36 dX4_addChair_26 (xI_X4_9 _ ho) ?_
    refine Sim.iconst (v := (-1 : Int32)) dX4_addChair_29 rfl ?_
    refine Sim.iast (n := 10) dX4_addChair_30 (xA_X4_4 _ ho) ?_
    refine Sim.lth (fun h2 => ?_)
    refine Sim.aload_n 0 dX4_addChair_31 rfl ?_
    refine Sim.aload_n 0 dX4_addChair_32 rfl ?_
    refine Sim.getI fl_X4_36 dX4_addChair_33 (xI_X4_9 _ ho) ?_
    refine Sim.iconst (v := (0 : Int32)) dX4_addChair_36 rfl ?_
    refine Sim.iconst (v := (-1 : Int32)) dX4_addChair_37 rfl ?_
    refine Sim.callV3U (d1 := 0) (s_X4_rock o ho (h2 o 9) (0 : Int32) (-1 : Int32) h2) dX4_addChair_38 ml_X4_65 mv_X4_rock (xOC_X4 _ ho) (Nat.le_of_ble_eq_true rfl) (Nat.le_of_ble_eq_true rfl) (Nat.le_of_ble_eq_true rfl) (fun x3 => ?_)
    refine Sim.aload_n 0 dX4_addChair_41 rfl ?_
    refine Sim.dup dX4_addChair_42 rfl ?_
    refine Sim.getI fl_X4_36 dX4_addChair_43 (xI_X4_9 _ ho) ?_
    refine Sim.iconst (v := (1 : Int32)) dX4_addChair_46 rfl ?_
    refine Sim.iadd dX4_addChair_47 ?_
    refine Sim.put fp_X4_36 dX4_addChair_48 (xI_X4_9 _ ho) rfl rfl ?_
    refine Sim.lth (fun h4 => ?_)
    refine Sim.aload_n 0 dX4_addChair_51 rfl ?_
    refine Sim.getI fl_X4_36 dX4_addChair_52 (xI_X4_9 _ ho) ?_
    refine Sim.iconst (v := (1 : Int32)) dX4_addChair_55 rfl ?_
    refine Sim.isub dX4_addChair_56 ?_
    exact Sim.iret dX4_addChair_57 rfl
  · refine Sim.iconst (v := (-1 : Int32)) dX4_addChair_9 rfl ?_
    exact Sim.iret dX4_addChair_10 rfl
theorem mv_X4_addChair : zMV mX4_addChair 1 := ⟨⟨zTb_in 556 (by decide +kernel) rfl, zTb_in 139 (by decide +kernel) rfl, ⟨by decide +kernel, by decide +kernel⟩, by decide +kernel⟩, zTb_in 554 (by decide +kernel) rfl, zTb_in 555 (by decide +kernel) rfl⟩
-- ===== RockingPorch$Porch.addPerson(I)I
abbrev mX4_addPerson : zMt := (yX4_addPerson, cX4_addPerson, 2, some .int)
theorem dX4_addPerson_0 : decode cX4_addPerson 0 = .ok (.aload_n 0, 1) := by decide +kernel
theorem dX4_addPerson_1 : decode cX4_addPerson 1 = .ok (.getfield 40, 3) := by decide +kernel
theorem dX4_addPerson_4 : decode cX4_addPerson 4 = .ok (.bipush 14, 2) := by decide +kernel
theorem dX4_addPerson_6 : decode cX4_addPerson 6 = .ok (.if_icmp .lt 5, 3) := by decide +kernel
theorem dX4_addPerson_9 : decode cX4_addPerson 9 = .ok (.iconst (-1), 1) := by decide +kernel
theorem dX4_addPerson_10 : decode cX4_addPerson 10 = .ok (.ireturn, 1) := by decide +kernel
theorem dX4_addPerson_11 : decode cX4_addPerson 11 = .ok (.aload_n 0, 1) := by decide +kernel
theorem dX4_addPerson_12 : decode cX4_addPerson 12 = .ok (.getfield 24, 3) := by decide +kernel
theorem dX4_addPerson_15 : decode cX4_addPerson 15 = .ok (.aload_n 0, 1) := by decide +kernel
theorem dX4_addPerson_16 : decode cX4_addPerson 16 = .ok (.getfield 40, 3) := by decide +kernel
theorem dX4_addPerson_19 : decode cX4_addPerson 19 = .ok (.iload_n 1, 1) := by decide +kernel
theorem dX4_addPerson_20 : decode cX4_addPerson 20 = .ok (.iastore, 1) := by decide +kernel
theorem dX4_addPerson_21 : decode cX4_addPerson 21 = .ok (.aload_n 0, 1) := by decide +kernel
theorem dX4_addPerson_22 : decode cX4_addPerson 22 = .ok (.getfield 27, 3) := by decide +kernel
theorem dX4_addPerson_25 : decode cX4_addPerson 25 = .ok (.aload_n 0, 1) := by decide +kernel
theorem dX4_addPerson_26 : decode cX4_addPerson 26 = .ok (.getfield 40, 3) := by decide +kernel
theorem dX4_addPerson_29 : decode cX4_addPerson 29 = .ok (.iconst 1, 1) := by decide +kernel
theorem dX4_addPerson_30 : decode cX4_addPerson 30 = .ok (.iastore, 1) := by decide +kernel
theorem dX4_addPerson_31 : decode cX4_addPerson 31 = .ok (.aload_n 0, 1) := by decide +kernel
theorem dX4_addPerson_32 : decode cX4_addPerson 32 = .ok (.getfield 30, 3) := by decide +kernel
theorem dX4_addPerson_35 : decode cX4_addPerson 35 = .ok (.aload_n 0, 1) := by decide +kernel
theorem dX4_addPerson_36 : decode cX4_addPerson 36 = .ok (.getfield 40, 3) := by decide +kernel
theorem dX4_addPerson_39 : decode cX4_addPerson 39 = .ok (.iconst 0, 1) := by decide +kernel
theorem dX4_addPerson_40 : decode cX4_addPerson 40 = .ok (.iastore, 1) := by decide +kernel
theorem dX4_addPerson_41 : decode cX4_addPerson 41 = .ok (.aload_n 0, 1) := by decide +kernel
theorem dX4_addPerson_42 : decode cX4_addPerson 42 = .ok (.getfield 33, 3) := by decide +kernel
theorem dX4_addPerson_45 : decode cX4_addPerson 45 = .ok (.aload_n 0, 1) := by decide +kernel
theorem dX4_addPerson_46 : decode cX4_addPerson 46 = .ok (.getfield 40, 3) := by decide +kernel
theorem dX4_addPerson_49 : decode cX4_addPerson 49 = .ok (.iconst 0, 1) := by decide +kernel
theorem dX4_addPerson_50 : decode cX4_addPerson 50 = .ok (.iastore, 1) := by decide +kernel
theorem dX4_addPerson_51 : decode cX4_addPerson 51 = .ok (.aload_n 0, 1) := by decide +kernel
theorem dX4_addPerson_52 : decode cX4_addPerson 52 = .ok (.dup, 1) := by decide +kernel
theorem dX4_addPerson_53 : decode cX4_addPerson 53 = .ok (.getfield 40, 3) := by decide +kernel
theorem dX4_addPerson_56 : decode cX4_addPerson 56 = .ok (.iconst 1, 1) := by decide +kernel
theorem dX4_addPerson_57 : decode cX4_addPerson 57 = .ok (.iadd, 1) := by decide +kernel
theorem dX4_addPerson_58 : decode cX4_addPerson 58 = .ok (.putfield 40, 3) := by decide +kernel
theorem dX4_addPerson_61 : decode cX4_addPerson 61 = .ok (.aload_n 0, 1) := by decide +kernel
theorem dX4_addPerson_62 : decode cX4_addPerson 62 = .ok (.getfield 40, 3) := by decide +kernel
theorem dX4_addPerson_65 : decode cX4_addPerson 65 = .ok (.iconst 1, 1) := by decide +kernel
theorem dX4_addPerson_66 : decode cX4_addPerson 66 = .ok (.isub, 1) := by decide +kernel
theorem dX4_addPerson_67 : decode cX4_addPerson 67 = .ok (.ireturn, 1) := by decide +kernel
def f_X4_addPerson (o : Nat) (a1 : Int32) (h : zHp) : Option (Int32 × zHp) := (if (h o 10) < (14 : Int32) then zix (h o 10) 14 (zlt (zst h (o + 5) (h o 10).toNatClampNeg a1) fun h1 => zix (h1 o 10) 14 (zlt (zst h1 (o + 6) (h1 o 10).toNatClampNeg (1 : Int32)) fun h2 => zix (h2 o 10) 14 (zlt (zst h2 (o + 7) (h2 o 10).toNatClampNeg (0 : Int32)) fun h3 => zix (h3 o 10) 14 (zlt (zst h3 (o + 8) (h3 o 10).toNatClampNeg (0 : Int32)) fun h4 => zlt (zst h4 o 10 ((h4 o 10) + (1 : Int32))) fun h5 => some (((h5 o 10) - (1 : Int32)), h5))))) else some ((-1 : Int32), h))
set_option maxHeartbeats 4000000 in
set_option maxRecDepth 100000 in
theorem s_X4_addPerson (o : Nat) (ho : o ∈ xPorch) (a1 : Int32) (h : zHp) : Fn wX mX4_addPerson 0 rI [.ref o, .int a1] h (f_X4_addPerson o a1 h) := by
  refine Fn.of rfl (Nat.le_of_ble_eq_true rfl) ?_
  unfold f_X4_addPerson
  refine Sim.aload_n 0 dX4_addPerson_0 rfl ?_
  refine Sim.getI fl_X4_40 dX4_addPerson_1 (xI_X4_10 _ ho) ?_
  refine Sim.bipush (v := (14 : Int32)) dX4_addPerson_4 rfl ?_
  refine Sim.icmp_lt 11 dX4_addPerson_6 rfl ?_ ?_
  · refine Sim.aload_n 0 dX4_addPerson_11 rfl ?_
    refine Sim.getR (j := (o + 5)) fl_X4_24 dX4_addPerson_12 (xR_X4_5 _ ho) ?_
    refine Sim.aload_n 0 dX4_addPerson_15 rfl ?_
    refine Sim.getI fl_X4_40 dX4_addPerson_16 (xI_X4_10 _ ho) ?_
    refine Sim.iload_n 1 dX4_addPerson_19 rfl ?_
    refine Sim.iast (n := 14) dX4_addPerson_20 (xA_X4_5 _ ho) ?_
    refine Sim.lth (fun h1 => ?_)
    refine Sim.aload_n 0 dX4_addPerson_21 rfl ?_
    refine Sim.getR (j := (o + 6)) fl_X4_27 dX4_addPerson_22 (xR_X4_6 _ ho) ?_
    refine Sim.aload_n 0 dX4_addPerson_25 rfl ?_
    refine Sim.getI fl_X4_40 dX4_addPerson_26 (xI_X4_10 _ ho) ?_
    refine Sim.iconst (v := (1 : Int32)) dX4_addPerson_29 rfl ?_
    refine Sim.iast (n := 14) dX4_addPerson_30 (xA_X4_6 _ ho) ?_
    refine Sim.lth (fun h2 => ?_)
    refine Sim.aload_n 0 dX4_addPerson_31 rfl ?_
    refine Sim.getR (j := (o + 7)) fl_X4_30 dX4_addPerson_32 (xR_X4_7 _ ho) ?_
    refine Sim.aload_n 0 dX4_addPerson_35 rfl ?_
    refine Sim.getI fl_X4_40 dX4_addPerson_36 (xI_X4_10 _ ho) ?_
    refine Sim.iconst (v := (0 : Int32)) dX4_addPerson_39 rfl ?_
    refine Sim.iast (n := 14) dX4_addPerson_40 (xA_X4_7 _ ho) ?_
    refine Sim.lth (fun h3 => ?_)
    refine Sim.aload_n 0 dX4_addPerson_41 rfl ?_
    refine Sim.getR (j := (o + 8)) fl_X4_33 dX4_addPerson_42 (xR_X4_8 _ ho) ?_
    refine Sim.aload_n 0 dX4_addPerson_45 rfl ?_
    refine Sim.getI fl_X4_40 dX4_addPerson_46 (xI_X4_10 _ ho) ?_
    refine Sim.iconst (v := (0 : Int32)) dX4_addPerson_49 rfl ?_
    refine Sim.iast (n := 14) dX4_addPerson_50 (xA_X4_8 _ ho) ?_
    refine Sim.lth (fun h4 => ?_)
    refine Sim.aload_n 0 dX4_addPerson_51 rfl ?_
    refine Sim.dup dX4_addPerson_52 rfl ?_
    refine Sim.getI fl_X4_40 dX4_addPerson_53 (xI_X4_10 _ ho) ?_
    refine Sim.iconst (v := (1 : Int32)) dX4_addPerson_56 rfl ?_
    refine Sim.iadd dX4_addPerson_57 ?_
    refine Sim.put fp_X4_40 dX4_addPerson_58 (xI_X4_10 _ ho) rfl rfl ?_
    refine Sim.lth (fun h5 => ?_)
    refine Sim.aload_n 0 dX4_addPerson_61 rfl ?_
    refine Sim.getI fl_X4_40 dX4_addPerson_62 (xI_X4_10 _ ho) ?_
    refine Sim.iconst (v := (1 : Int32)) dX4_addPerson_65 rfl ?_
    refine Sim.isub dX4_addPerson_66 ?_
    exact Sim.iret dX4_addPerson_67 rfl
  · refine Sim.iconst (v := (-1 : Int32)) dX4_addPerson_9 rfl ?_
    exact Sim.iret dX4_addPerson_10 rfl
theorem mv_X4_addPerson : zMV mX4_addPerson 1 := ⟨⟨zTb_in 568 (by decide +kernel) rfl, zTb_in 139 (by decide +kernel) rfl, ⟨by decide +kernel, by decide +kernel⟩, by decide +kernel⟩, zTb_in 566 (by decide +kernel) rfl, zTb_in 567 (by decide +kernel) rfl⟩
-- ===== RockingPorch$Porch.rockingFor(I)I
abbrev mX4_rockingFor : zMt := (yX4_rockingFor, cX4_rockingFor, 4, some .int)
theorem ml_X4_76 : Cond.methodLink RX4 76 yX4_rocks ∈ zTb := zTb_in 1007 (by decide +kernel) rfl
theorem dX4_rockingFor_0 : decode cX4_rockingFor 0 = .ok (.iconst 0, 1) := by decide +kernel
theorem dX4_rockingFor_1 : decode cX4_rockingFor 1 = .ok (.istore_n 2, 1) := by decide +kernel
theorem dX4_rockingFor_2 : decode cX4_rockingFor 2 = .ok (.iconst 0, 1) := by decide +kernel
theorem dX4_rockingFor_3 : decode cX4_rockingFor 3 = .ok (.istore_n 3, 1) := by decide +kernel
theorem dX4_rockingFor_4 : decode cX4_rockingFor 4 = .ok (.iload_n 3, 1) := by decide +kernel
theorem dX4_rockingFor_5 : decode cX4_rockingFor 5 = .ok (.aload_n 0, 1) := by decide +kernel
theorem dX4_rockingFor_6 : decode cX4_rockingFor 6 = .ok (.getfield 36, 3) := by decide +kernel
theorem dX4_rockingFor_9 : decode cX4_rockingFor 9 = .ok (.if_icmp .ge 33, 3) := by decide +kernel
theorem dX4_rockingFor_12 : decode cX4_rockingFor 12 = .ok (.aload_n 0, 1) := by decide +kernel
theorem dX4_rockingFor_13 : decode cX4_rockingFor 13 = .ok (.iload_n 3, 1) := by decide +kernel
theorem dX4_rockingFor_14 : decode cX4_rockingFor 14 = .ok (.invokevirtual 76, 3) := by decide +kernel
theorem dX4_rockingFor_17 : decode cX4_rockingFor 17 = .ok (.ifCond .eq 19, 3) := by decide +kernel
theorem dX4_rockingFor_20 : decode cX4_rockingFor 20 = .ok (.aload_n 0, 1) := by decide +kernel
theorem dX4_rockingFor_21 : decode cX4_rockingFor 21 = .ok (.getfield 18, 3) := by decide +kernel
theorem dX4_rockingFor_24 : decode cX4_rockingFor 24 = .ok (.iload_n 3, 1) := by decide +kernel
theorem dX4_rockingFor_25 : decode cX4_rockingFor 25 = .ok (.iaload, 1) := by decide +kernel
theorem dX4_rockingFor_26 : decode cX4_rockingFor 26 = .ok (.iload_n 1, 1) := by decide +kernel
theorem dX4_rockingFor_27 : decode cX4_rockingFor 27 = .ok (.if_icmp .ne 9, 3) := by decide +kernel
theorem dX4_rockingFor_30 : decode cX4_rockingFor 30 = .ok (.iload_n 2, 1) := by decide +kernel
theorem dX4_rockingFor_31 : decode cX4_rockingFor 31 = .ok (.iconst 1, 1) := by decide +kernel
theorem dX4_rockingFor_32 : decode cX4_rockingFor 32 = .ok (.iload_n 3, 1) := by decide +kernel
theorem dX4_rockingFor_33 : decode cX4_rockingFor 33 = .ok (.ishl, 1) := by decide +kernel
theorem dX4_rockingFor_34 : decode cX4_rockingFor 34 = .ok (.ior, 1) := by decide +kernel
theorem dX4_rockingFor_35 : decode cX4_rockingFor 35 = .ok (.istore_n 2, 1) := by decide +kernel
theorem dX4_rockingFor_36 : decode cX4_rockingFor 36 = .ok (.iinc 3 1, 3) := by decide +kernel
theorem dX4_rockingFor_39 : decode cX4_rockingFor 39 = .ok (.goto (-35), 3) := by decide +kernel
theorem dX4_rockingFor_42 : decode cX4_rockingFor 42 = .ok (.iload_n 2, 1) := by decide +kernel
theorem dX4_rockingFor_43 : decode cX4_rockingFor 43 = .ok (.ireturn, 1) := by decide +kernel
def f_X4_rockingFor_4 (o : Nat) (k4 : Int32 × Int32 × Int32 × zHp → Option (Int32 × zHp)) (v1 : Int32) (v2 : Int32) (v3 : Int32) (h : zHp) : Option (Int32 × zHp) := (if v3 < (h o 9) then (f_X4_rocks o v3 h).bind fun x1 => (if x1.1 = 0 then k4 (v1, v2, (v3 + (1 : Int32)), x1.2) else zix v3 10 ((if (x1.2 (o + 3) v3.toNatClampNeg) = v1 then zlt (v2 ||| ((1 : Int32) <<< (v3 &&& 31))) fun x2 => k4 (v1, x2, (v3 + (1 : Int32)), x1.2) else k4 (v1, v2, (v3 + (1 : Int32)), x1.2)))) else some (v2, h))
set_option maxHeartbeats 4000000 in
set_option maxRecDepth 100000 in
theorem f_X4_rockingFor_4_s (o : Nat) (ho : o ∈ xPorch) (k4 : Int32 × Int32 × Int32 × zHp → Option (Int32 × zHp)) (H4 : ∀ v : Int32 × Int32 × Int32 × zHp, Sim wX mX4_rockingFor 2 rI 4 [(0, .ref o), (1, .int v.1), (2, .int v.2.1), (3, .int v.2.2.1)] [] v.2.2.2 (k4 v)) (v1 : Int32) (v2 : Int32) (v3 : Int32) (h : zHp) : Sim wX mX4_rockingFor 2 rI 4 [(0, .ref o), (1, .int v1), (2, .int v2), (3, .int v3)] [] h (f_X4_rockingFor_4 o k4 v1 v2 v3 h) := by
  unfold f_X4_rockingFor_4
  refine Sim.iload_n 3 dX4_rockingFor_4 rfl ?_
  refine Sim.aload_n 0 dX4_rockingFor_5 rfl ?_
  refine Sim.getI fl_X4_36 dX4_rockingFor_6 (xI_X4_9 _ ho) ?_
  refine Sim.icmp_ge 42 dX4_rockingFor_9 rfl ?_ ?_
  · refine Sim.aload_n 0 dX4_rockingFor_12 rfl ?_
    refine Sim.iload_n 3 dX4_rockingFor_13 rfl ?_
    refine Sim.callV1I (d1 := 1) (s_X4_rocks o ho v3 h) dX4_rockingFor_14 ml_X4_76 mv_X4_rocks (xOC_X4 _ ho) (Nat.le_of_ble_eq_true rfl) (Nat.le_of_ble_eq_true rfl) (Nat.le_of_ble_eq_true rfl) (fun x1 => ?_)
    refine Sim.if_eq 36 dX4_rockingFor_17 rfl ?_ ?_
    · refine Sim.iinc (L' := [(3, .int (v3 + (1 : Int32))), (0, .ref o), (1, .int v1), (2, .int v2)]) 3 dX4_rockingFor_36 rfl rfl (Nat.le_of_ble_eq_true rfl) rfl ?_
      refine Sim.goto 4 dX4_rockingFor_39 rfl ?_
      refine Sim.locs [1, 2, 3, 0] rfl ?_
      exact H4 (v1, v2, (v3 + (1 : Int32)), x1.2)
    · refine Sim.aload_n 0 dX4_rockingFor_20 rfl ?_
      refine Sim.getR (j := (o + 3)) fl_X4_18 dX4_rockingFor_21 (xR_X4_3 _ ho) ?_
      refine Sim.iload_n 3 dX4_rockingFor_24 rfl ?_
      refine Sim.iald (n := 10) dX4_rockingFor_25 (xA_X4_3 _ ho) ?_
      refine Sim.iload_n 1 dX4_rockingFor_26 rfl ?_
      refine Sim.icmp_ne 36 dX4_rockingFor_27 rfl ?_ ?_
      · refine Sim.iload_n 2 dX4_rockingFor_30 rfl ?_
        refine Sim.iconst (v := (1 : Int32)) dX4_rockingFor_31 rfl ?_
        refine Sim.iload_n 3 dX4_rockingFor_32 rfl ?_
        refine Sim.ishl dX4_rockingFor_33 ?_
        refine Sim.ior dX4_rockingFor_34 ?_
        refine Sim.lti (fun x2 => ?_)
        refine Sim.istore_n (L' := [(2, .int x2), (0, .ref o), (1, .int v1), (3, .int v3)]) dX4_rockingFor_35 (Nat.le_of_ble_eq_true rfl) rfl ?_
        refine Sim.iinc (L' := [(3, .int (v3 + (1 : Int32))), (2, .int x2), (0, .ref o), (1, .int v1)]) 3 dX4_rockingFor_36 rfl rfl (Nat.le_of_ble_eq_true rfl) rfl ?_
        refine Sim.goto 4 dX4_rockingFor_39 rfl ?_
        refine Sim.locs [2, 3, 1, 0] rfl ?_
        exact H4 (v1, x2, (v3 + (1 : Int32)), x1.2)
      · refine Sim.iinc (L' := [(3, .int (v3 + (1 : Int32))), (0, .ref o), (1, .int v1), (2, .int v2)]) 3 dX4_rockingFor_36 rfl rfl (Nat.le_of_ble_eq_true rfl) rfl ?_
        refine Sim.goto 4 dX4_rockingFor_39 rfl ?_
        refine Sim.locs [1, 2, 3, 0] rfl ?_
        exact H4 (v1, v2, (v3 + (1 : Int32)), x1.2)
  · refine Sim.iload_n 2 dX4_rockingFor_42 rfl ?_
    exact Sim.iret dX4_rockingFor_43 rfl
def f_X4_rockingFor_4_lp (o : Nat)  (n : Nat) (v : Int32 × Int32 × Int32 × zHp) : Option (Int32 × zHp) := zlp (fun k4 v => f_X4_rockingFor_4 o k4 v.1 v.2.1 v.2.2.1 v.2.2.2) n v
theorem f_X4_rockingFor_4_ls (o : Nat) (ho : o ∈ xPorch) (n : Nat) (v : Int32 × Int32 × Int32 × zHp) : Sim wX mX4_rockingFor 2 rI 4 [(0, .ref o), (1, .int v.1), (2, .int v.2.1), (3, .int v.2.2.1)] [] v.2.2.2 (f_X4_rockingFor_4_lp o n v) :=
  Sim.lp (V := Int32 × Int32 × Int32 × zHp) (Lf := fun v => [(0, .ref o), (1, .int v.1), (2, .int v.2.1), (3, .int v.2.2.1)]) (sf := fun v => []) (hf := fun v => v.2.2.2) (fun k4 H4 v => f_X4_rockingFor_4_s o ho k4 H4 v.1 v.2.1 v.2.2.1 v.2.2.2) n v
def f_X4_rockingFor (o : Nat) (a1 : Int32) (h : zHp) : Option (Int32 × zHp) := f_X4_rockingFor_4_lp o zN (a1, (0 : Int32), (0 : Int32), h)
set_option maxHeartbeats 4000000 in
set_option maxRecDepth 100000 in
theorem s_X4_rockingFor (o : Nat) (ho : o ∈ xPorch) (a1 : Int32) (h : zHp) : Fn wX mX4_rockingFor 2 rI [.ref o, .int a1] h (f_X4_rockingFor o a1 h) := by
  refine Fn.of rfl (Nat.le_of_ble_eq_true rfl) ?_
  unfold f_X4_rockingFor
  refine Sim.iconst (v := (0 : Int32)) dX4_rockingFor_0 rfl ?_
  refine Sim.istore_n (L' := [(2, .int (0 : Int32)), (0, .ref o), (1, .int a1)]) dX4_rockingFor_1 (Nat.le_of_ble_eq_true rfl) rfl ?_
  refine Sim.iconst (v := (0 : Int32)) dX4_rockingFor_2 rfl ?_
  refine Sim.istore_n (L' := [(3, .int (0 : Int32)), (2, .int (0 : Int32)), (0, .ref o), (1, .int a1)]) dX4_rockingFor_3 (Nat.le_of_ble_eq_true rfl) rfl ?_
  refine Sim.locs [2, 3, 1, 0] rfl ?_
  exact f_X4_rockingFor_4_ls o ho zN (a1, (0 : Int32), (0 : Int32), h)
theorem mv_X4_rockingFor : zMV mX4_rockingFor 1 := ⟨⟨zTb_in 1006 (by decide +kernel) rfl, zTb_in 139 (by decide +kernel) rfl, ⟨by decide +kernel, by decide +kernel⟩, by decide +kernel⟩, zTb_in 1004 (by decide +kernel) rfl, zTb_in 1005 (by decide +kernel) rfl⟩
-- ===== RockingPorch$Porch.rockingSet()I
abbrev mX4_rockingSet : zMt := (yX4_rockingSet, cX4_rockingSet, 3, some .int)
theorem dX4_rockingSet_0 : decode cX4_rockingSet 0 = .ok (.iconst 0, 1) := by decide +kernel
theorem dX4_rockingSet_1 : decode cX4_rockingSet 1 = .ok (.istore_n 1, 1) := by decide +kernel
theorem dX4_rockingSet_2 : decode cX4_rockingSet 2 = .ok (.iconst 0, 1) := by decide +kernel
theorem dX4_rockingSet_3 : decode cX4_rockingSet 3 = .ok (.istore_n 2, 1) := by decide +kernel
theorem dX4_rockingSet_4 : decode cX4_rockingSet 4 = .ok (.iload_n 2, 1) := by decide +kernel
theorem dX4_rockingSet_5 : decode cX4_rockingSet 5 = .ok (.aload_n 0, 1) := by decide +kernel
theorem dX4_rockingSet_6 : decode cX4_rockingSet 6 = .ok (.getfield 36, 3) := by decide +kernel
theorem dX4_rockingSet_9 : decode cX4_rockingSet 9 = .ok (.if_icmp .ge 23, 3) := by decide +kernel
theorem dX4_rockingSet_12 : decode cX4_rockingSet 12 = .ok (.aload_n 0, 1) := by decide +kernel
theorem dX4_rockingSet_13 : decode cX4_rockingSet 13 = .ok (.iload_n 2, 1) := by decide +kernel
theorem dX4_rockingSet_14 : decode cX4_rockingSet 14 = .ok (.invokevirtual 76, 3) := by decide +kernel
theorem dX4_rockingSet_17 : decode cX4_rockingSet 17 = .ok (.ifCond .eq 9, 3) := by decide +kernel
theorem dX4_rockingSet_20 : decode cX4_rockingSet 20 = .ok (.iload_n 1, 1) := by decide +kernel
theorem dX4_rockingSet_21 : decode cX4_rockingSet 21 = .ok (.iconst 1, 1) := by decide +kernel
theorem dX4_rockingSet_22 : decode cX4_rockingSet 22 = .ok (.iload_n 2, 1) := by decide +kernel
theorem dX4_rockingSet_23 : decode cX4_rockingSet 23 = .ok (.ishl, 1) := by decide +kernel
theorem dX4_rockingSet_24 : decode cX4_rockingSet 24 = .ok (.ior, 1) := by decide +kernel
theorem dX4_rockingSet_25 : decode cX4_rockingSet 25 = .ok (.istore_n 1, 1) := by decide +kernel
theorem dX4_rockingSet_26 : decode cX4_rockingSet 26 = .ok (.iinc 2 1, 3) := by decide +kernel
theorem dX4_rockingSet_29 : decode cX4_rockingSet 29 = .ok (.goto (-25), 3) := by decide +kernel
theorem dX4_rockingSet_32 : decode cX4_rockingSet 32 = .ok (.iload_n 1, 1) := by decide +kernel
theorem dX4_rockingSet_33 : decode cX4_rockingSet 33 = .ok (.ireturn, 1) := by decide +kernel
def f_X4_rockingSet_4 (o : Nat) (k4 : Int32 × Int32 × zHp → Option (Int32 × zHp)) (v1 : Int32) (v2 : Int32) (h : zHp) : Option (Int32 × zHp) := (if v2 < (h o 9) then (f_X4_rocks o v2 h).bind fun x1 => (if x1.1 = 0 then k4 (v1, (v2 + (1 : Int32)), x1.2) else zlt (v1 ||| ((1 : Int32) <<< (v2 &&& 31))) fun x2 => k4 (x2, (v2 + (1 : Int32)), x1.2)) else some (v1, h))
set_option maxHeartbeats 4000000 in
set_option maxRecDepth 100000 in
theorem f_X4_rockingSet_4_s (o : Nat) (ho : o ∈ xPorch) (k4 : Int32 × Int32 × zHp → Option (Int32 × zHp)) (H4 : ∀ v : Int32 × Int32 × zHp, Sim wX mX4_rockingSet 2 rI 4 [(0, .ref o), (1, .int v.1), (2, .int v.2.1)] [] v.2.2 (k4 v)) (v1 : Int32) (v2 : Int32) (h : zHp) : Sim wX mX4_rockingSet 2 rI 4 [(0, .ref o), (1, .int v1), (2, .int v2)] [] h (f_X4_rockingSet_4 o k4 v1 v2 h) := by
  unfold f_X4_rockingSet_4
  refine Sim.iload_n 2 dX4_rockingSet_4 rfl ?_
  refine Sim.aload_n 0 dX4_rockingSet_5 rfl ?_
  refine Sim.getI fl_X4_36 dX4_rockingSet_6 (xI_X4_9 _ ho) ?_
  refine Sim.icmp_ge 32 dX4_rockingSet_9 rfl ?_ ?_
  · refine Sim.aload_n 0 dX4_rockingSet_12 rfl ?_
    refine Sim.iload_n 2 dX4_rockingSet_13 rfl ?_
    refine Sim.callV1I (d1 := 1) (s_X4_rocks o ho v2 h) dX4_rockingSet_14 ml_X4_76 mv_X4_rocks (xOC_X4 _ ho) (Nat.le_of_ble_eq_true rfl) (Nat.le_of_ble_eq_true rfl) (Nat.le_of_ble_eq_true rfl) (fun x1 => ?_)
    refine Sim.if_eq 26 dX4_rockingSet_17 rfl ?_ ?_
    · refine Sim.iinc (L' := [(2, .int (v2 + (1 : Int32))), (0, .ref o), (1, .int v1)]) 2 dX4_rockingSet_26 rfl rfl (Nat.le_of_ble_eq_true rfl) rfl ?_
      refine Sim.goto 4 dX4_rockingSet_29 rfl ?_
      refine Sim.locs [1, 2, 0] rfl ?_
      exact H4 (v1, (v2 + (1 : Int32)), x1.2)
    · refine Sim.iload_n 1 dX4_rockingSet_20 rfl ?_
      refine Sim.iconst (v := (1 : Int32)) dX4_rockingSet_21 rfl ?_
      refine Sim.iload_n 2 dX4_rockingSet_22 rfl ?_
      refine Sim.ishl dX4_rockingSet_23 ?_
      refine Sim.ior dX4_rockingSet_24 ?_
      refine Sim.lti (fun x2 => ?_)
      refine Sim.istore_n (L' := [(1, .int x2), (0, .ref o), (2, .int v2)]) dX4_rockingSet_25 (Nat.le_of_ble_eq_true rfl) rfl ?_
      refine Sim.iinc (L' := [(2, .int (v2 + (1 : Int32))), (1, .int x2), (0, .ref o)]) 2 dX4_rockingSet_26 rfl rfl (Nat.le_of_ble_eq_true rfl) rfl ?_
      refine Sim.goto 4 dX4_rockingSet_29 rfl ?_
      refine Sim.locs [2, 1, 0] rfl ?_
      exact H4 (x2, (v2 + (1 : Int32)), x1.2)
  · refine Sim.iload_n 1 dX4_rockingSet_32 rfl ?_
    exact Sim.iret dX4_rockingSet_33 rfl
def f_X4_rockingSet_4_lp (o : Nat)  (n : Nat) (v : Int32 × Int32 × zHp) : Option (Int32 × zHp) := zlp (fun k4 v => f_X4_rockingSet_4 o k4 v.1 v.2.1 v.2.2) n v
theorem f_X4_rockingSet_4_ls (o : Nat) (ho : o ∈ xPorch) (n : Nat) (v : Int32 × Int32 × zHp) : Sim wX mX4_rockingSet 2 rI 4 [(0, .ref o), (1, .int v.1), (2, .int v.2.1)] [] v.2.2 (f_X4_rockingSet_4_lp o n v) :=
  Sim.lp (V := Int32 × Int32 × zHp) (Lf := fun v => [(0, .ref o), (1, .int v.1), (2, .int v.2.1)]) (sf := fun v => []) (hf := fun v => v.2.2) (fun k4 H4 v => f_X4_rockingSet_4_s o ho k4 H4 v.1 v.2.1 v.2.2) n v
def f_X4_rockingSet (o : Nat)  (h : zHp) : Option (Int32 × zHp) := f_X4_rockingSet_4_lp o zN ((0 : Int32), (0 : Int32), h)
set_option maxHeartbeats 4000000 in
set_option maxRecDepth 100000 in
theorem s_X4_rockingSet (o : Nat) (ho : o ∈ xPorch)  (h : zHp) : Fn wX mX4_rockingSet 2 rI [.ref o] h (f_X4_rockingSet o h) := by
  refine Fn.of rfl (Nat.le_of_ble_eq_true rfl) ?_
  unfold f_X4_rockingSet
  refine Sim.iconst (v := (0 : Int32)) dX4_rockingSet_0 rfl ?_
  refine Sim.istore_n (L' := [(1, .int (0 : Int32)), (0, .ref o)]) dX4_rockingSet_1 (Nat.le_of_ble_eq_true rfl) rfl ?_
  refine Sim.iconst (v := (0 : Int32)) dX4_rockingSet_2 rfl ?_
  refine Sim.istore_n (L' := [(2, .int (0 : Int32)), (1, .int (0 : Int32)), (0, .ref o)]) dX4_rockingSet_3 (Nat.le_of_ble_eq_true rfl) rfl ?_
  refine Sim.locs [2, 1, 0] rfl ?_
  exact f_X4_rockingSet_4_ls o ho zN ((0 : Int32), (0 : Int32), h)
theorem mv_X4_rockingSet : zMV mX4_rockingSet 0 := ⟨⟨zTb_in 1290 (by decide +kernel) rfl, zTb_in 139 (by decide +kernel) rfl, ⟨by decide +kernel, by decide +kernel⟩, by decide +kernel⟩, zTb_in 1288 (by decide +kernel) rfl, zTb_in 1289 (by decide +kernel) rfl⟩
-- ===== RockingPorch$Porch.freeSet()I
abbrev mX4_freeSet : zMt := (yX4_freeSet, cX4_freeSet, 3, some .int)
theorem ml_X4_79 : Cond.methodLink RX4 79 yX4_isFree ∈ zTb := zTb_in 1026 (by decide +kernel) rfl
theorem dX4_freeSet_0 : decode cX4_freeSet 0 = .ok (.iconst 0, 1) := by decide +kernel
theorem dX4_freeSet_1 : decode cX4_freeSet 1 = .ok (.istore_n 1, 1) := by decide +kernel
theorem dX4_freeSet_2 : decode cX4_freeSet 2 = .ok (.iconst 0, 1) := by decide +kernel
theorem dX4_freeSet_3 : decode cX4_freeSet 3 = .ok (.istore_n 2, 1) := by decide +kernel
theorem dX4_freeSet_4 : decode cX4_freeSet 4 = .ok (.iload_n 2, 1) := by decide +kernel
theorem dX4_freeSet_5 : decode cX4_freeSet 5 = .ok (.aload_n 0, 1) := by decide +kernel
theorem dX4_freeSet_6 : decode cX4_freeSet 6 = .ok (.getfield 36, 3) := by decide +kernel
theorem dX4_freeSet_9 : decode cX4_freeSet 9 = .ok (.if_icmp .ge 23, 3) := by decide +kernel
theorem dX4_freeSet_12 : decode cX4_freeSet 12 = .ok (.aload_n 0, 1) := by decide +kernel
theorem dX4_freeSet_13 : decode cX4_freeSet 13 = .ok (.iload_n 2, 1) := by decide +kernel
theorem dX4_freeSet_14 : decode cX4_freeSet 14 = .ok (.invokevirtual 79, 3) := by decide +kernel
theorem dX4_freeSet_17 : decode cX4_freeSet 17 = .ok (.ifCond .eq 9, 3) := by decide +kernel
theorem dX4_freeSet_20 : decode cX4_freeSet 20 = .ok (.iload_n 1, 1) := by decide +kernel
theorem dX4_freeSet_21 : decode cX4_freeSet 21 = .ok (.iconst 1, 1) := by decide +kernel
theorem dX4_freeSet_22 : decode cX4_freeSet 22 = .ok (.iload_n 2, 1) := by decide +kernel
theorem dX4_freeSet_23 : decode cX4_freeSet 23 = .ok (.ishl, 1) := by decide +kernel
theorem dX4_freeSet_24 : decode cX4_freeSet 24 = .ok (.ior, 1) := by decide +kernel
theorem dX4_freeSet_25 : decode cX4_freeSet 25 = .ok (.istore_n 1, 1) := by decide +kernel
theorem dX4_freeSet_26 : decode cX4_freeSet 26 = .ok (.iinc 2 1, 3) := by decide +kernel
theorem dX4_freeSet_29 : decode cX4_freeSet 29 = .ok (.goto (-25), 3) := by decide +kernel
theorem dX4_freeSet_32 : decode cX4_freeSet 32 = .ok (.iload_n 1, 1) := by decide +kernel
theorem dX4_freeSet_33 : decode cX4_freeSet 33 = .ok (.ireturn, 1) := by decide +kernel
def f_X4_freeSet_4 (o : Nat) (k4 : Int32 × Int32 × zHp → Option (Int32 × zHp)) (v1 : Int32) (v2 : Int32) (h : zHp) : Option (Int32 × zHp) := (if v2 < (h o 9) then (f_X4_isFree o v2 h).bind fun x1 => (if x1.1 = 0 then k4 (v1, (v2 + (1 : Int32)), x1.2) else zlt (v1 ||| ((1 : Int32) <<< (v2 &&& 31))) fun x2 => k4 (x2, (v2 + (1 : Int32)), x1.2)) else some (v1, h))
set_option maxHeartbeats 4000000 in
set_option maxRecDepth 100000 in
theorem f_X4_freeSet_4_s (o : Nat) (ho : o ∈ xPorch) (k4 : Int32 × Int32 × zHp → Option (Int32 × zHp)) (H4 : ∀ v : Int32 × Int32 × zHp, Sim wX mX4_freeSet 2 rI 4 [(0, .ref o), (1, .int v.1), (2, .int v.2.1)] [] v.2.2 (k4 v)) (v1 : Int32) (v2 : Int32) (h : zHp) : Sim wX mX4_freeSet 2 rI 4 [(0, .ref o), (1, .int v1), (2, .int v2)] [] h (f_X4_freeSet_4 o k4 v1 v2 h) := by
  unfold f_X4_freeSet_4
  refine Sim.iload_n 2 dX4_freeSet_4 rfl ?_
  refine Sim.aload_n 0 dX4_freeSet_5 rfl ?_
  refine Sim.getI fl_X4_36 dX4_freeSet_6 (xI_X4_9 _ ho) ?_
  refine Sim.icmp_ge 32 dX4_freeSet_9 rfl ?_ ?_
  · refine Sim.aload_n 0 dX4_freeSet_12 rfl ?_
    refine Sim.iload_n 2 dX4_freeSet_13 rfl ?_
    refine Sim.callV1I (d1 := 1) (s_X4_isFree o ho v2 h) dX4_freeSet_14 ml_X4_79 mv_X4_isFree (xOC_X4 _ ho) (Nat.le_of_ble_eq_true rfl) (Nat.le_of_ble_eq_true rfl) (Nat.le_of_ble_eq_true rfl) (fun x1 => ?_)
    refine Sim.if_eq 26 dX4_freeSet_17 rfl ?_ ?_
    · refine Sim.iinc (L' := [(2, .int (v2 + (1 : Int32))), (0, .ref o), (1, .int v1)]) 2 dX4_freeSet_26 rfl rfl (Nat.le_of_ble_eq_true rfl) rfl ?_
      refine Sim.goto 4 dX4_freeSet_29 rfl ?_
      refine Sim.locs [1, 2, 0] rfl ?_
      exact H4 (v1, (v2 + (1 : Int32)), x1.2)
    · refine Sim.iload_n 1 dX4_freeSet_20 rfl ?_
      refine Sim.iconst (v := (1 : Int32)) dX4_freeSet_21 rfl ?_
      refine Sim.iload_n 2 dX4_freeSet_22 rfl ?_
      refine Sim.ishl dX4_freeSet_23 ?_
      refine Sim.ior dX4_freeSet_24 ?_
      refine Sim.lti (fun x2 => ?_)
      refine Sim.istore_n (L' := [(1, .int x2), (0, .ref o), (2, .int v2)]) dX4_freeSet_25 (Nat.le_of_ble_eq_true rfl) rfl ?_
      refine Sim.iinc (L' := [(2, .int (v2 + (1 : Int32))), (1, .int x2), (0, .ref o)]) 2 dX4_freeSet_26 rfl rfl (Nat.le_of_ble_eq_true rfl) rfl ?_
      refine Sim.goto 4 dX4_freeSet_29 rfl ?_
      refine Sim.locs [2, 1, 0] rfl ?_
      exact H4 (x2, (v2 + (1 : Int32)), x1.2)
  · refine Sim.iload_n 1 dX4_freeSet_32 rfl ?_
    exact Sim.iret dX4_freeSet_33 rfl
def f_X4_freeSet_4_lp (o : Nat)  (n : Nat) (v : Int32 × Int32 × zHp) : Option (Int32 × zHp) := zlp (fun k4 v => f_X4_freeSet_4 o k4 v.1 v.2.1 v.2.2) n v
theorem f_X4_freeSet_4_ls (o : Nat) (ho : o ∈ xPorch) (n : Nat) (v : Int32 × Int32 × zHp) : Sim wX mX4_freeSet 2 rI 4 [(0, .ref o), (1, .int v.1), (2, .int v.2.1)] [] v.2.2 (f_X4_freeSet_4_lp o n v) :=
  Sim.lp (V := Int32 × Int32 × zHp) (Lf := fun v => [(0, .ref o), (1, .int v.1), (2, .int v.2.1)]) (sf := fun v => []) (hf := fun v => v.2.2) (fun k4 H4 v => f_X4_freeSet_4_s o ho k4 H4 v.1 v.2.1 v.2.2) n v
def f_X4_freeSet (o : Nat)  (h : zHp) : Option (Int32 × zHp) := f_X4_freeSet_4_lp o zN ((0 : Int32), (0 : Int32), h)
set_option maxHeartbeats 4000000 in
set_option maxRecDepth 100000 in
theorem s_X4_freeSet (o : Nat) (ho : o ∈ xPorch)  (h : zHp) : Fn wX mX4_freeSet 2 rI [.ref o] h (f_X4_freeSet o h) := by
  refine Fn.of rfl (Nat.le_of_ble_eq_true rfl) ?_
  unfold f_X4_freeSet
  refine Sim.iconst (v := (0 : Int32)) dX4_freeSet_0 rfl ?_
  refine Sim.istore_n (L' := [(1, .int (0 : Int32)), (0, .ref o)]) dX4_freeSet_1 (Nat.le_of_ble_eq_true rfl) rfl ?_
  refine Sim.iconst (v := (0 : Int32)) dX4_freeSet_2 rfl ?_
  refine Sim.istore_n (L' := [(2, .int (0 : Int32)), (1, .int (0 : Int32)), (0, .ref o)]) dX4_freeSet_3 (Nat.le_of_ble_eq_true rfl) rfl ?_
  refine Sim.locs [2, 1, 0] rfl ?_
  exact f_X4_freeSet_4_ls o ho zN ((0 : Int32), (0 : Int32), h)
theorem mv_X4_freeSet : zMV mX4_freeSet 0 := ⟨⟨zTb_in 1025 (by decide +kernel) rfl, zTb_in 139 (by decide +kernel) rfl, ⟨by decide +kernel, by decide +kernel⟩, by decide +kernel⟩, zTb_in 1023 (by decide +kernel) rfl, zTb_in 1024 (by decide +kernel) rfl⟩
-- ===== RockingPorch$Porch.show(I)I
abbrev mX4_show : zMt := (yX4_show, cX4_show, 2, some .int)
theorem ct_X4_100 : Cond.constant RX4 100 (-100000 : Int32) ∈ zTb := zTb_in 1292 (by decide +kernel) rfl
theorem ml_X4_94 : Cond.methodLink RX4 94 yX4_rockingSet ∈ zTb := zTb_in 1287 (by decide +kernel) rfl
theorem ml_X4_97 : Cond.methodLink RX4 97 yX4_freeSet ∈ zTb := zTb_in 1291 (by decide +kernel) rfl
theorem dX4_show_0 : decode cX4_show 0 = .ok (.iload_n 1, 1) := by decide +kernel
theorem dX4_show_1 : decode cX4_show 1 = .ok (.tableswitch 100 0 9 #[55, 60, 65, 70, 75, 80, 85, 90, 100, 95], 55) := by decide +kernel
theorem dX4_show_56 : decode cX4_show 56 = .ok (.aload_n 0, 1) := by decide +kernel
theorem dX4_show_57 : decode cX4_show 57 = .ok (.getfield 36, 3) := by decide +kernel
theorem dX4_show_60 : decode cX4_show 60 = .ok (.ireturn, 1) := by decide +kernel
theorem dX4_show_61 : decode cX4_show 61 = .ok (.aload_n 0, 1) := by decide +kernel
theorem dX4_show_62 : decode cX4_show 62 = .ok (.getfield 40, 3) := by decide +kernel
theorem dX4_show_65 : decode cX4_show 65 = .ok (.ireturn, 1) := by decide +kernel
theorem dX4_show_66 : decode cX4_show 66 = .ok (.aload_n 0, 1) := by decide +kernel
theorem dX4_show_67 : decode cX4_show 67 = .ok (.invokevirtual 94, 3) := by decide +kernel
theorem dX4_show_70 : decode cX4_show 70 = .ok (.ireturn, 1) := by decide +kernel
theorem dX4_show_71 : decode cX4_show 71 = .ok (.aload_n 0, 1) := by decide +kernel
theorem dX4_show_72 : decode cX4_show 72 = .ok (.invokevirtual 97, 3) := by decide +kernel
theorem dX4_show_75 : decode cX4_show 75 = .ok (.ireturn, 1) := by decide +kernel
theorem dX4_show_76 : decode cX4_show 76 = .ok (.aload_n 0, 1) := by decide +kernel
theorem dX4_show_77 : decode cX4_show 77 = .ok (.invokevirtual 82, 3) := by decide +kernel
theorem dX4_show_80 : decode cX4_show 80 = .ok (.ireturn, 1) := by decide +kernel
theorem dX4_show_81 : decode cX4_show 81 = .ok (.aload_n 0, 1) := by decide +kernel
theorem dX4_show_82 : decode cX4_show 82 = .ok (.getfield 43, 3) := by decide +kernel
theorem dX4_show_85 : decode cX4_show 85 = .ok (.ireturn, 1) := by decide +kernel
theorem dX4_show_86 : decode cX4_show 86 = .ok (.aload_n 0, 1) := by decide +kernel
theorem dX4_show_87 : decode cX4_show 87 = .ok (.getfield 46, 3) := by decide +kernel
theorem dX4_show_90 : decode cX4_show 90 = .ok (.ireturn, 1) := by decide +kernel
theorem dX4_show_91 : decode cX4_show 91 = .ok (.aload_n 0, 1) := by decide +kernel
theorem dX4_show_92 : decode cX4_show 92 = .ok (.getfield 49, 3) := by decide +kernel
theorem dX4_show_95 : decode cX4_show 95 = .ok (.ireturn, 1) := by decide +kernel
theorem dX4_show_96 : decode cX4_show 96 = .ok (.aload_n 0, 1) := by decide +kernel
theorem dX4_show_97 : decode cX4_show 97 = .ok (.getfield 52, 3) := by decide +kernel
theorem dX4_show_100 : decode cX4_show 100 = .ok (.ireturn, 1) := by decide +kernel
theorem dX4_show_101 : decode cX4_show 101 = .ok (.ldc 100, 2) := by decide +kernel
theorem dX4_show_103 : decode cX4_show 103 = .ok (.ireturn, 1) := by decide +kernel
def f_X4_show (o : Nat) (a1 : Int32) (h : zHp) : Option (Int32 × zHp) := (if a1 = (0 : Int32) then some ((h o 9), h) else (if a1 = (1 : Int32) then some ((h o 10), h) else (if a1 = (2 : Int32) then (f_X4_rockingSet o h).bind fun x4 => some (x4.1, x4.2) else (if a1 = (3 : Int32) then (f_X4_freeSet o h).bind fun x6 => some (x6.1, x6.2) else (if a1 = (4 : Int32) then (f_X4_awaySet o h).bind fun x8 => some (x8.1, x8.2) else (if a1 = (5 : Int32) then some ((h o 11), h) else (if a1 = (6 : Int32) then some ((h o 12), h) else (if a1 = (7 : Int32) then some ((h o 13), h) else (if a1 = (8 : Int32) then some ((-100000 : Int32), h) else (if a1 = (9 : Int32) then some ((h o 14), h) else some ((-100000 : Int32), h)))))))))))
set_option maxHeartbeats 4000000 in
set_option maxRecDepth 100000 in
theorem s_X4_show (o : Nat) (ho : o ∈ xPorch) (a1 : Int32) (h : zHp) : Fn wX mX4_show 3 rI [.ref o, .int a1] h (f_X4_show o a1 h) := by
  refine Fn.of rfl (Nat.le_of_ble_eq_true rfl) ?_
  unfold f_X4_show
  refine Sim.iload_n 1 dX4_show_0 rfl ?_
  refine Sim.ite _ (fun q1 => ?_) (fun q1 => ?_)
  · refine Sim.tswIn 56 dX4_show_1 q1 (by decide) (by decide) rfl rfl ?_
    refine Sim.aload_n 0 dX4_show_56 rfl ?_
    refine Sim.getI fl_X4_36 dX4_show_57 (xI_X4_9 _ ho) ?_
    exact Sim.iret dX4_show_60 rfl
  refine Sim.ite _ (fun q2 => ?_) (fun q2 => ?_)
  · refine Sim.tswIn 61 dX4_show_1 q2 (by decide) (by decide) rfl rfl ?_
    refine Sim.aload_n 0 dX4_show_61 rfl ?_
    refine Sim.getI fl_X4_40 dX4_show_62 (xI_X4_10 _ ho) ?_
    exact Sim.iret dX4_show_65 rfl
  refine Sim.ite _ (fun q3 => ?_) (fun q3 => ?_)
  · refine Sim.tswIn 66 dX4_show_1 q3 (by decide) (by decide) rfl rfl ?_
    refine Sim.aload_n 0 dX4_show_66 rfl ?_
    refine Sim.callV0I (d1 := 2) (s_X4_rockingSet o ho h) dX4_show_67 ml_X4_94 mv_X4_rockingSet (xOC_X4 _ ho) (Nat.le_of_ble_eq_true rfl) (Nat.le_of_ble_eq_true rfl) (Nat.le_of_ble_eq_true rfl) (fun x4 => ?_)
    exact Sim.iret dX4_show_70 rfl
  refine Sim.ite _ (fun q5 => ?_) (fun q5 => ?_)
  · refine Sim.tswIn 71 dX4_show_1 q5 (by decide) (by decide) rfl rfl ?_
    refine Sim.aload_n 0 dX4_show_71 rfl ?_
    refine Sim.callV0I (d1 := 2) (s_X4_freeSet o ho h) dX4_show_72 ml_X4_97 mv_X4_freeSet (xOC_X4 _ ho) (Nat.le_of_ble_eq_true rfl) (Nat.le_of_ble_eq_true rfl) (Nat.le_of_ble_eq_true rfl) (fun x6 => ?_)
    exact Sim.iret dX4_show_75 rfl
  refine Sim.ite _ (fun q7 => ?_) (fun q7 => ?_)
  · refine Sim.tswIn 76 dX4_show_1 q7 (by decide) (by decide) rfl rfl ?_
    refine Sim.aload_n 0 dX4_show_76 rfl ?_
    refine Sim.callV0I (d1 := 0) (s_X4_awaySet o ho h) dX4_show_77 ml_X4_82 mv_X4_awaySet (xOC_X4 _ ho) (Nat.le_of_ble_eq_true rfl) (Nat.le_of_ble_eq_true rfl) (Nat.le_of_ble_eq_true rfl) (fun x8 => ?_)
    exact Sim.iret dX4_show_80 rfl
  refine Sim.ite _ (fun q9 => ?_) (fun q9 => ?_)
  · refine Sim.tswIn 81 dX4_show_1 q9 (by decide) (by decide) rfl rfl ?_
    refine Sim.aload_n 0 dX4_show_81 rfl ?_
    refine Sim.getI fl_X4_43 dX4_show_82 (xI_X4_11 _ ho) ?_
    exact Sim.iret dX4_show_85 rfl
  refine Sim.ite _ (fun q10 => ?_) (fun q10 => ?_)
  · refine Sim.tswIn 86 dX4_show_1 q10 (by decide) (by decide) rfl rfl ?_
    refine Sim.aload_n 0 dX4_show_86 rfl ?_
    refine Sim.getI fl_X4_46 dX4_show_87 (xI_X4_12 _ ho) ?_
    exact Sim.iret dX4_show_90 rfl
  refine Sim.ite _ (fun q11 => ?_) (fun q11 => ?_)
  · refine Sim.tswIn 91 dX4_show_1 q11 (by decide) (by decide) rfl rfl ?_
    refine Sim.aload_n 0 dX4_show_91 rfl ?_
    refine Sim.getI fl_X4_49 dX4_show_92 (xI_X4_13 _ ho) ?_
    exact Sim.iret dX4_show_95 rfl
  refine Sim.ite _ (fun q12 => ?_) (fun q12 => ?_)
  · refine Sim.tswIn 101 dX4_show_1 q12 (by decide) (by decide) rfl rfl ?_
    refine Sim.ldc (v := (-100000 : Int32)) dX4_show_101 ct_X4_100 ?_
    exact Sim.iret dX4_show_103 rfl
  refine Sim.ite _ (fun q13 => ?_) (fun q13 => ?_)
  · refine Sim.tswIn 96 dX4_show_1 q13 (by decide) (by decide) rfl rfl ?_
    refine Sim.aload_n 0 dX4_show_96 rfl ?_
    refine Sim.getI fl_X4_52 dX4_show_97 (xI_X4_14 _ ho) ?_
    exact Sim.iret dX4_show_100 rfl
  refine Sim.tswOut 101 dX4_show_1 (by have aq1 : a1.toInt ≠ 0 := fun w => q1 (Int32.toInt_inj.mp w); have aq2 : a1.toInt ≠ 1 := fun w => q2 (Int32.toInt_inj.mp w); have aq3 : a1.toInt ≠ 2 := fun w => q3 (Int32.toInt_inj.mp w); have aq5 : a1.toInt ≠ 3 := fun w => q5 (Int32.toInt_inj.mp w); have aq7 : a1.toInt ≠ 4 := fun w => q7 (Int32.toInt_inj.mp w); have aq9 : a1.toInt ≠ 5 := fun w => q9 (Int32.toInt_inj.mp w); have aq10 : a1.toInt ≠ 6 := fun w => q10 (Int32.toInt_inj.mp w); have aq11 : a1.toInt ≠ 7 := fun w => q11 (Int32.toInt_inj.mp w); have aq12 : a1.toInt ≠ 8 := fun w => q12 (Int32.toInt_inj.mp w); have aq13 : a1.toInt ≠ 9 := fun w => q13 (Int32.toInt_inj.mp w); omega) rfl ?_
  refine Sim.ldc (v := (-100000 : Int32)) dX4_show_101 ct_X4_100 ?_
  exact Sim.iret dX4_show_103 rfl
theorem mv_X4_show : zMV mX4_show 1 := ⟨⟨zTb_in 1286 (by decide +kernel) rfl, zTb_in 139 (by decide +kernel) rfl, ⟨by decide +kernel, by decide +kernel⟩, by decide +kernel⟩, zTb_in 1284 (by decide +kernel) rfl, zTb_in 1285 (by decide +kernel) rfl⟩
-- ===== RockingPorch$Row.get(I)I
abbrev mX7_get : zMt := (yX7_get, cX7_get, 2, some .int)
theorem fl_X7_15 : zF RX7 15 7 0 := ⟨RX7, TX7, 2, rfl, Nat.le_of_ble_eq_true rfl, zTb_in 316 (by decide +kernel) rfl, in_X7⟩
theorem fl_X7_9 : zF RX7 9 7 1 := ⟨RX7, TX7, 2, rfl, Nat.le_of_ble_eq_true rfl, zTb_in 317 (by decide +kernel) rfl, in_X7⟩
theorem dX7_get_0 : decode cX7_get 0 = .ok (.iload_n 1, 1) := by decide +kernel
theorem dX7_get_1 : decode cX7_get 1 = .ok (.ifCond .lt 29, 3) := by decide +kernel
theorem dX7_get_4 : decode cX7_get 4 = .ok (.iload_n 1, 1) := by decide +kernel
theorem dX7_get_5 : decode cX7_get 5 = .ok (.aload_n 0, 1) := by decide +kernel
theorem dX7_get_6 : decode cX7_get 6 = .ok (.getfield 9, 3) := by decide +kernel
theorem dX7_get_9 : decode cX7_get 9 = .ok (.if_icmp .ge 21, 3) := by decide +kernel
theorem dX7_get_12 : decode cX7_get 12 = .ok (.iload_n 1, 1) := by decide +kernel
theorem dX7_get_13 : decode cX7_get 13 = .ok (.aload_n 0, 1) := by decide +kernel
theorem dX7_get_14 : decode cX7_get 14 = .ok (.getfield 15, 3) := by decide +kernel
theorem dX7_get_17 : decode cX7_get 17 = .ok (.arraylength, 1) := by decide +kernel
theorem dX7_get_18 : decode cX7_get 18 = .ok (.if_icmp .ge 12, 3) := by decide +kernel
theorem dX7_get_21 : decode cX7_get 21 = .ok (.aload_n 0, 1) := by decide +kernel
theorem dX7_get_22 : decode cX7_get 22 = .ok (.getfield 15, 3) := by decide +kernel
theorem dX7_get_25 : decode cX7_get 25 = .ok (.iload_n 1, 1) := by decide +kernel
theorem dX7_get_26 : decode cX7_get 26 = .ok (.iaload, 1) := by decide +kernel
theorem dX7_get_27 : decode cX7_get 27 = .ok (.goto 4, 3) := by decide +kernel
theorem dX7_get_30 : decode cX7_get 30 = .ok (.iconst 0, 1) := by decide +kernel
theorem dX7_get_31 : decode cX7_get 31 = .ok (.ireturn, 1) := by decide +kernel
def f_X7_get (o : Nat) (a1 : Int32) (h : zHp) : Option (Int32 × zHp) := (if a1 < 0 then some ((0 : Int32), h) else (if a1 < (h o 1) then (if a1 < (Int32.ofNat (zln wX (o + 1))) then zix a1 (zln wX (o + 1)) (some ((h (o + 1) a1.toNatClampNeg), h)) else some ((0 : Int32), h)) else some ((0 : Int32), h)))
set_option maxHeartbeats 4000000 in
set_option maxRecDepth 100000 in
theorem s_X7_get (o : Nat) (ho : o ∈ xRow) (a1 : Int32) (h : zHp) : Fn wX mX7_get 0 rI [.ref o, .int a1] h (f_X7_get o a1 h) := by
  refine Fn.of rfl (Nat.le_of_ble_eq_true rfl) ?_
  unfold f_X7_get
  refine Sim.iload_n 1 dX7_get_0 rfl ?_
  refine Sim.if_lt 30 dX7_get_1 rfl ?_ ?_
  · refine Sim.iconst (v := (0 : Int32)) dX7_get_30 rfl ?_
    exact Sim.iret dX7_get_31 rfl
  · refine Sim.iload_n 1 dX7_get_4 rfl ?_
    refine Sim.aload_n 0 dX7_get_5 rfl ?_
    refine Sim.getI fl_X7_9 dX7_get_6 (xI_X7_1 _ ho) ?_
    refine Sim.icmp_ge 30 dX7_get_9 rfl ?_ ?_
    · refine Sim.iload_n 1 dX7_get_12 rfl ?_
      refine Sim.aload_n 0 dX7_get_13 rfl ?_
      refine Sim.getR (j := (o + 1)) fl_X7_15 dX7_get_14 (xR_X7_0 _ ho) ?_
      refine Sim.alen (n := (zln wX (o + 1))) dX7_get_17 (xA_X7_0 _ ho) ?_
      refine Sim.icmp_ge 30 dX7_get_18 rfl ?_ ?_
      · refine Sim.aload_n 0 dX7_get_21 rfl ?_
        refine Sim.getR (j := (o + 1)) fl_X7_15 dX7_get_22 (xR_X7_0 _ ho) ?_
        refine Sim.iload_n 1 dX7_get_25 rfl ?_
        refine Sim.iald (n := (zln wX (o + 1))) dX7_get_26 (xA_X7_0 _ ho) ?_
        refine Sim.goto 31 dX7_get_27 rfl ?_
        exact Sim.iret dX7_get_31 rfl
      · refine Sim.iconst (v := (0 : Int32)) dX7_get_30 rfl ?_
        exact Sim.iret dX7_get_31 rfl
    · refine Sim.iconst (v := (0 : Int32)) dX7_get_30 rfl ?_
      exact Sim.iret dX7_get_31 rfl
theorem mv_X7_get : zMV mX7_get 1 := ⟨⟨zTb_in 1058 (by decide +kernel) rfl, zTb_in 143 (by decide +kernel) rfl, ⟨by decide +kernel, by decide +kernel⟩, by decide +kernel⟩, zTb_in 1056 (by decide +kernel) rfl, zTb_in 1057 (by decide +kernel) rfl⟩
-- ===== RockingPorch$Told.first(I)I
abbrev mX8_first : zMt := (yX8_first, cX8_first, 1, some .int)
theorem dX8_first_0 : decode cX8_first 0 = .ok (.iload_n 0, 1) := by decide +kernel
theorem dX8_first_1 : decode cX8_first 1 = .ok (.bipush 32, 2) := by decide +kernel
theorem dX8_first_3 : decode cX8_first 3 = .ok (.idiv, 1) := by decide +kernel
theorem dX8_first_4 : decode cX8_first 4 = .ok (.ireturn, 1) := by decide +kernel
def f_X8_first  (a1 : Int32) (h : zHp) : Option (Int32 × zHp) := some ((a1 / (32 : Int32)), h)
set_option maxHeartbeats 4000000 in
set_option maxRecDepth 100000 in
theorem s_X8_first  (a1 : Int32) (h : zHp) : Fn wX mX8_first 0 rI [.int a1] h (f_X8_first a1 h) := by
  refine Fn.of rfl (Nat.le_of_ble_eq_true rfl) ?_
  unfold f_X8_first
  refine Sim.iload_n 0 dX8_first_0 rfl ?_
  refine Sim.bipush (v := (32 : Int32)) dX8_first_1 rfl ?_
  refine Sim.idivL dX8_first_3 (by decide) ?_
  exact Sim.iret dX8_first_4 rfl
theorem mv_X8_first : zMS mX8_first 1 := ⟨⟨zTb_in 1061 (by decide +kernel) rfl, zTb_in 142 (by decide +kernel) rfl, ⟨by decide +kernel, by decide +kernel⟩, by decide +kernel⟩, zTb_in 1060 (by decide +kernel) rfl⟩
-- ===== RockingPorch$Told.second(I)I
abbrev mX8_second : zMt := (yX8_second, cX8_second, 1, some .int)
theorem dX8_second_0 : decode cX8_second 0 = .ok (.iload_n 0, 1) := by decide +kernel
theorem dX8_second_1 : decode cX8_second 1 = .ok (.bipush 32, 2) := by decide +kernel
theorem dX8_second_3 : decode cX8_second 3 = .ok (.irem, 1) := by decide +kernel
theorem dX8_second_4 : decode cX8_second 4 = .ok (.ireturn, 1) := by decide +kernel
def f_X8_second  (a1 : Int32) (h : zHp) : Option (Int32 × zHp) := some ((a1 - a1 / (32 : Int32) * (32 : Int32)), h)
set_option maxHeartbeats 4000000 in
set_option maxRecDepth 100000 in
theorem s_X8_second  (a1 : Int32) (h : zHp) : Fn wX mX8_second 0 rI [.int a1] h (f_X8_second a1 h) := by
  refine Fn.of rfl (Nat.le_of_ble_eq_true rfl) ?_
  unfold f_X8_second
  refine Sim.iload_n 0 dX8_second_0 rfl ?_
  refine Sim.bipush (v := (32 : Int32)) dX8_second_1 rfl ?_
  refine Sim.iremL dX8_second_3 (by decide) ?_
  exact Sim.iret dX8_second_4 rfl
theorem mv_X8_second : zMS mX8_second 1 := ⟨⟨zTb_in 1065 (by decide +kernel) rfl, zTb_in 142 (by decide +kernel) rfl, ⟨by decide +kernel, by decide +kernel⟩, by decide +kernel⟩, zTb_in 1064 (by decide +kernel) rfl⟩
-- ===== RockingPorch$Puzzles.divisor(II)I
abbrev mX5_divisor : zMt := (yX5_divisor, cX5_divisor, 6, some .int)
theorem ml_X5_47 : Cond.methodLink RX5 47 Lib.Math.max.name ∈ zTb := zTb_in 1062 (by decide +kernel) rfl
theorem dX5_divisor_0 : decode cX5_divisor 0 = .ok (.iconst 1, 1) := by decide +kernel
theorem dX5_divisor_1 : decode cX5_divisor 1 = .ok (.iload_n 0, 1) := by decide +kernel
theorem dX5_divisor_2 : decode cX5_divisor 2 = .ok (.invokestatic 47, 3) := by decide +kernel
theorem dX5_divisor_5 : decode cX5_divisor 5 = .ok (.istore_n 2, 1) := by decide +kernel
theorem dX5_divisor_6 : decode cX5_divisor 6 = .ok (.iconst 0, 1) := by decide +kernel
theorem dX5_divisor_7 : decode cX5_divisor 7 = .ok (.iload_n 1, 1) := by decide +kernel
theorem dX5_divisor_8 : decode cX5_divisor 8 = .ok (.invokestatic 47, 3) := by decide +kernel
theorem dX5_divisor_11 : decode cX5_divisor 11 = .ok (.istore_n 3, 1) := by decide +kernel
theorem dX5_divisor_12 : decode cX5_divisor 12 = .ok (.iconst 0, 1) := by decide +kernel
theorem dX5_divisor_13 : decode cX5_divisor 13 = .ok (.istore 4, 2) := by decide +kernel
theorem dX5_divisor_15 : decode cX5_divisor 15 = .ok (.iload 4, 2) := by decide +kernel
theorem dX5_divisor_17 : decode cX5_divisor 17 = .ok (.bipush 64, 2) := by decide +kernel
theorem dX5_divisor_19 : decode cX5_divisor 19 = .ok (.if_icmp .ge 23, 3) := by decide +kernel
theorem dX5_divisor_22 : decode cX5_divisor 22 = .ok (.iload_n 3, 1) := by decide +kernel
theorem dX5_divisor_23 : decode cX5_divisor 23 = .ok (.ifCond .eq 19, 3) := by decide +kernel
theorem dX5_divisor_26 : decode cX5_divisor 26 = .ok (.iload_n 2, 1) := by decide +kernel
theorem dX5_divisor_27 : decode cX5_divisor 27 = .ok (.iload_n 3, 1) := by decide +kernel
theorem dX5_divisor_28 : decode cX5_divisor 28 = .ok (.irem, 1) := by decide +kernel
theorem dX5_divisor_29 : decode cX5_divisor 29 = .ok (.istore 5, 2) := by decide +kernel
theorem dX5_divisor_31 : decode cX5_divisor 31 = .ok (.iload_n 3, 1) := by decide +kernel
theorem dX5_divisor_32 : decode cX5_divisor 32 = .ok (.istore_n 2, 1) := by decide +kernel
theorem dX5_divisor_33 : decode cX5_divisor 33 = .ok (.iload 5, 2) := by decide +kernel
theorem dX5_divisor_35 : decode cX5_divisor 35 = .ok (.istore_n 3, 1) := by decide +kernel
theorem dX5_divisor_36 : decode cX5_divisor 36 = .ok (.iinc 4 1, 3) := by decide +kernel
theorem dX5_divisor_39 : decode cX5_divisor 39 = .ok (.goto (-24), 3) := by decide +kernel
theorem dX5_divisor_42 : decode cX5_divisor 42 = .ok (.iload_n 2, 1) := by decide +kernel
theorem dX5_divisor_43 : decode cX5_divisor 43 = .ok (.ireturn, 1) := by decide +kernel
def f_X5_divisor_15  (k15 : Int32 × Int32 × Int32 × zHp → Option (Int32 × zHp)) (v2 : Int32) (v3 : Int32) (v4 : Int32) (h : zHp) : Option (Int32 × zHp) := (if v4 < (64 : Int32) then (if v3 = 0 then some (v2, h) else zdz v3 (zlt (v2 - v2 / v3 * v3) fun x1 => k15 (v3, x1, (v4 + (1 : Int32)), h))) else some (v2, h))
set_option maxHeartbeats 4000000 in
set_option maxRecDepth 100000 in
theorem f_X5_divisor_15_s  (k15 : Int32 × Int32 × Int32 × zHp → Option (Int32 × zHp)) (H15 : ∀ v : Int32 × Int32 × Int32 × zHp, Sim wX mX5_divisor 1 rI 15 [(2, .int v.1), (3, .int v.2.1), (4, .int v.2.2.1)] [] v.2.2.2 (k15 v)) (v2 : Int32) (v3 : Int32) (v4 : Int32) (h : zHp) : Sim wX mX5_divisor 1 rI 15 [(2, .int v2), (3, .int v3), (4, .int v4)] [] h (f_X5_divisor_15 k15 v2 v3 v4 h) := by
  unfold f_X5_divisor_15
  refine Sim.iload 2 dX5_divisor_15 rfl ?_
  refine Sim.bipush (v := (64 : Int32)) dX5_divisor_17 rfl ?_
  refine Sim.icmp_ge 42 dX5_divisor_19 rfl ?_ ?_
  · refine Sim.iload_n 1 dX5_divisor_22 rfl ?_
    refine Sim.if_eq 42 dX5_divisor_23 rfl ?_ ?_
    · refine Sim.iload_n 0 dX5_divisor_42 rfl ?_
      exact Sim.iret dX5_divisor_43 rfl
    · refine Sim.iload_n 0 dX5_divisor_26 rfl ?_
      refine Sim.iload_n 1 dX5_divisor_27 rfl ?_
      refine Sim.irem dX5_divisor_28 ?_
      refine Sim.lti (fun x1 => ?_)
      refine Sim.istore (L' := [(5, .int x1), (2, .int v2), (3, .int v3), (4, .int v4)]) dX5_divisor_29 (Nat.le_of_ble_eq_true rfl) rfl ?_
      refine Sim.iload_n 2 dX5_divisor_31 rfl ?_
      refine Sim.istore_n (L' := [(2, .int v3), (5, .int x1), (3, .int v3), (4, .int v4)]) dX5_divisor_32 (Nat.le_of_ble_eq_true rfl) rfl ?_
      refine Sim.iload 1 dX5_divisor_33 rfl ?_
      refine Sim.istore_n (L' := [(3, .int x1), (2, .int v3), (5, .int x1), (4, .int v4)]) dX5_divisor_35 (Nat.le_of_ble_eq_true rfl) rfl ?_
      refine Sim.iinc (L' := [(4, .int (v4 + (1 : Int32))), (3, .int x1), (2, .int v3), (5, .int x1)]) 3 dX5_divisor_36 rfl rfl (Nat.le_of_ble_eq_true rfl) rfl ?_
      refine Sim.goto 15 dX5_divisor_39 rfl ?_
      refine Sim.locs [2, 1, 0] rfl ?_
      exact H15 (v3, x1, (v4 + (1 : Int32)), h)
  · refine Sim.iload_n 0 dX5_divisor_42 rfl ?_
    exact Sim.iret dX5_divisor_43 rfl
def f_X5_divisor_15_lp   (n : Nat) (v : Int32 × Int32 × Int32 × zHp) : Option (Int32 × zHp) := zlp (fun k15 v => f_X5_divisor_15 k15 v.1 v.2.1 v.2.2.1 v.2.2.2) n v
theorem f_X5_divisor_15_ls  (n : Nat) (v : Int32 × Int32 × Int32 × zHp) : Sim wX mX5_divisor 1 rI 15 [(2, .int v.1), (3, .int v.2.1), (4, .int v.2.2.1)] [] v.2.2.2 (f_X5_divisor_15_lp n v) :=
  Sim.lp (V := Int32 × Int32 × Int32 × zHp) (Lf := fun v => [(2, .int v.1), (3, .int v.2.1), (4, .int v.2.2.1)]) (sf := fun v => []) (hf := fun v => v.2.2.2) (fun k15 H15 v => f_X5_divisor_15_s k15 H15 v.1 v.2.1 v.2.2.1 v.2.2.2) n v
def f_X5_divisor  (a1 : Int32) (a2 : Int32) (h : zHp) : Option (Int32 × zHp) := zlt (if (1 : Int32) < a1 then a1 else (1 : Int32)) fun x1 => zlt (if (0 : Int32) < a2 then a2 else (0 : Int32)) fun x2 => f_X5_divisor_15_lp  zN (x1, x2, (0 : Int32), h)
set_option maxHeartbeats 4000000 in
set_option maxRecDepth 100000 in
theorem s_X5_divisor  (a1 : Int32) (a2 : Int32) (h : zHp) : Fn wX mX5_divisor 1 rI [.int a1, .int a2] h (f_X5_divisor a1 a2 h) := by
  refine Fn.of rfl (Nat.le_of_ble_eq_true rfl) ?_
  unfold f_X5_divisor
  refine Sim.iconst (v := (1 : Int32)) dX5_divisor_0 rfl ?_
  refine Sim.iload_n 0 dX5_divisor_1 rfl ?_
  refine Sim.mmax dX5_divisor_2 ml_X5_47 ms_max ms_Math mc_max (Nat.le_of_ble_eq_true rfl) (Nat.le_of_ble_eq_true rfl) ?_
  refine Sim.lti (fun x1 => ?_)
  refine Sim.istore_n (L' := [(2, .int x1), (0, .int a1), (1, .int a2)]) dX5_divisor_5 (Nat.le_of_ble_eq_true rfl) rfl ?_
  refine Sim.iconst (v := (0 : Int32)) dX5_divisor_6 rfl ?_
  refine Sim.iload_n 2 dX5_divisor_7 rfl ?_
  refine Sim.mmax dX5_divisor_8 ml_X5_47 ms_max ms_Math mc_max (Nat.le_of_ble_eq_true rfl) (Nat.le_of_ble_eq_true rfl) ?_
  refine Sim.lti (fun x2 => ?_)
  refine Sim.istore_n (L' := [(3, .int x2), (2, .int x1), (0, .int a1), (1, .int a2)]) dX5_divisor_11 (Nat.le_of_ble_eq_true rfl) rfl ?_
  refine Sim.iconst (v := (0 : Int32)) dX5_divisor_12 rfl ?_
  refine Sim.istore (L' := [(4, .int (0 : Int32)), (3, .int x2), (2, .int x1), (0, .int a1), (1, .int a2)]) dX5_divisor_13 (Nat.le_of_ble_eq_true rfl) rfl ?_
  refine Sim.locs [2, 1, 0] rfl ?_
  exact f_X5_divisor_15_ls  zN (x1, x2, (0 : Int32), h)
theorem mv_X5_divisor : zMS mX5_divisor 2 := ⟨⟨zTb_in 1068 (by decide +kernel) rfl, zTb_in 147 (by decide +kernel) rfl, ⟨by decide +kernel, by decide +kernel⟩, by decide +kernel⟩, zTb_in 1067 (by decide +kernel) rfl⟩
-- ===== RockingPorch$Puzzles.meeting(Z)I
abbrev mX5_meeting : zMt := (yX5_meeting, cX5_meeting, 8, some .int)
theorem fl_X5_24 : zF RX5 24 5 0 := ⟨RX5, TX5, 5, rfl, Nat.le_of_ble_eq_true rfl, zTb_in 497 (by decide +kernel) rfl, in_X5⟩
theorem fl_X5_28 : zF RX5 28 8 0 := ⟨RX8, TX8, 7, rfl, Nat.le_of_ble_eq_true rfl, zTb_in 325 (by decide +kernel) rfl, in_X8⟩
theorem fl_X5_34 : zF RX5 34 7 1 := ⟨RX7, TX7, 2, rfl, Nat.le_of_ble_eq_true rfl, zTb_in 318 (by decide +kernel) rfl, in_X7⟩
theorem ml_X5_40 : Cond.methodLink RX5 40 yX7_get ∈ zTb := zTb_in 1055 (by decide +kernel) rfl
theorem ml_X5_44 : Cond.methodLink RX5 44 yX8_first ∈ zTb := zTb_in 1059 (by decide +kernel) rfl
theorem ml_X5_53 : Cond.methodLink RX5 53 yX8_second ∈ zTb := zTb_in 1063 (by decide +kernel) rfl
theorem ml_X5_55 : Cond.methodLink RX5 55 yX5_divisor ∈ zTb := zTb_in 1066 (by decide +kernel) rfl
theorem dX5_meeting_0 : decode cX5_meeting 0 = .ok (.iconst 0, 1) := by decide +kernel
theorem dX5_meeting_1 : decode cX5_meeting 1 = .ok (.istore_n 2, 1) := by decide +kernel
theorem dX5_meeting_2 : decode cX5_meeting 2 = .ok (.iconst 1, 1) := by decide +kernel
theorem dX5_meeting_3 : decode cX5_meeting 3 = .ok (.istore_n 3, 1) := by decide +kernel
theorem dX5_meeting_4 : decode cX5_meeting 4 = .ok (.iconst 0, 1) := by decide +kernel
theorem dX5_meeting_5 : decode cX5_meeting 5 = .ok (.istore 4, 2) := by decide +kernel
theorem dX5_meeting_7 : decode cX5_meeting 7 = .ok (.iload 4, 2) := by decide +kernel
theorem dX5_meeting_9 : decode cX5_meeting 9 = .ok (.aload_n 0, 1) := by decide +kernel
theorem dX5_meeting_10 : decode cX5_meeting 10 = .ok (.getfield 24, 3) := by decide +kernel
theorem dX5_meeting_13 : decode cX5_meeting 13 = .ok (.getfield 28, 3) := by decide +kernel
theorem dX5_meeting_16 : decode cX5_meeting 16 = .ok (.getfield 34, 3) := by decide +kernel
theorem dX5_meeting_19 : decode cX5_meeting 19 = .ok (.if_icmp .ge 97, 3) := by decide +kernel
theorem dX5_meeting_22 : decode cX5_meeting 22 = .ok (.iconst 1, 1) := by decide +kernel
theorem dX5_meeting_23 : decode cX5_meeting 23 = .ok (.aload_n 0, 1) := by decide +kernel
theorem dX5_meeting_24 : decode cX5_meeting 24 = .ok (.getfield 24, 3) := by decide +kernel
theorem dX5_meeting_27 : decode cX5_meeting 27 = .ok (.getfield 28, 3) := by decide +kernel
theorem dX5_meeting_30 : decode cX5_meeting 30 = .ok (.iload 4, 2) := by decide +kernel
theorem dX5_meeting_32 : decode cX5_meeting 32 = .ok (.invokevirtual 40, 3) := by decide +kernel
theorem dX5_meeting_35 : decode cX5_meeting 35 = .ok (.invokestatic 44, 3) := by decide +kernel
theorem dX5_meeting_38 : decode cX5_meeting 38 = .ok (.invokestatic 47, 3) := by decide +kernel
theorem dX5_meeting_41 : decode cX5_meeting 41 = .ok (.istore 5, 2) := by decide +kernel
theorem dX5_meeting_43 : decode cX5_meeting 43 = .ok (.aload_n 0, 1) := by decide +kernel
theorem dX5_meeting_44 : decode cX5_meeting 44 = .ok (.getfield 24, 3) := by decide +kernel
theorem dX5_meeting_47 : decode cX5_meeting 47 = .ok (.getfield 28, 3) := by decide +kernel
theorem dX5_meeting_50 : decode cX5_meeting 50 = .ok (.iload 4, 2) := by decide +kernel
theorem dX5_meeting_52 : decode cX5_meeting 52 = .ok (.invokevirtual 40, 3) := by decide +kernel
theorem dX5_meeting_55 : decode cX5_meeting 55 = .ok (.invokestatic 53, 3) := by decide +kernel
theorem dX5_meeting_58 : decode cX5_meeting 58 = .ok (.istore 6, 2) := by decide +kernel
theorem dX5_meeting_60 : decode cX5_meeting 60 = .ok (.iconst 0, 1) := by decide +kernel
theorem dX5_meeting_61 : decode cX5_meeting 61 = .ok (.istore 7, 2) := by decide +kernel
theorem dX5_meeting_63 : decode cX5_meeting 63 = .ok (.iload 7, 2) := by decide +kernel
theorem dX5_meeting_65 : decode cX5_meeting 65 = .ok (.iload 5, 2) := by decide +kernel
theorem dX5_meeting_67 : decode cX5_meeting 67 = .ok (.if_icmp .ge 22, 3) := by decide +kernel
theorem dX5_meeting_70 : decode cX5_meeting 70 = .ok (.iload_n 2, 1) := by decide +kernel
theorem dX5_meeting_71 : decode cX5_meeting 71 = .ok (.iload 5, 2) := by decide +kernel
theorem dX5_meeting_73 : decode cX5_meeting 73 = .ok (.irem, 1) := by decide +kernel
theorem dX5_meeting_74 : decode cX5_meeting 74 = .ok (.iload 6, 2) := by decide +kernel
theorem dX5_meeting_76 : decode cX5_meeting 76 = .ok (.if_icmp .eq 13, 3) := by decide +kernel
theorem dX5_meeting_79 : decode cX5_meeting 79 = .ok (.iload_n 2, 1) := by decide +kernel
theorem dX5_meeting_80 : decode cX5_meeting 80 = .ok (.iload_n 3, 1) := by decide +kernel
theorem dX5_meeting_81 : decode cX5_meeting 81 = .ok (.iadd, 1) := by decide +kernel
theorem dX5_meeting_82 : decode cX5_meeting 82 = .ok (.istore_n 2, 1) := by decide +kernel
theorem dX5_meeting_83 : decode cX5_meeting 83 = .ok (.iinc 7 1, 3) := by decide +kernel
theorem dX5_meeting_86 : decode cX5_meeting 86 = .ok (.goto (-23), 3) := by decide +kernel
theorem dX5_meeting_89 : decode cX5_meeting 89 = .ok (.iload 7, 2) := by decide +kernel
theorem dX5_meeting_91 : decode cX5_meeting 91 = .ok (.iload 5, 2) := by decide +kernel
theorem dX5_meeting_93 : decode cX5_meeting 93 = .ok (.if_icmp .lt 5, 3) := by decide +kernel
theorem dX5_meeting_96 : decode cX5_meeting 96 = .ok (.iconst (-1), 1) := by decide +kernel
theorem dX5_meeting_97 : decode cX5_meeting 97 = .ok (.ireturn, 1) := by decide +kernel
theorem dX5_meeting_98 : decode cX5_meeting 98 = .ok (.iload_n 3, 1) := by decide +kernel
theorem dX5_meeting_99 : decode cX5_meeting 99 = .ok (.iload_n 3, 1) := by decide +kernel
theorem dX5_meeting_100 : decode cX5_meeting 100 = .ok (.iload 5, 2) := by decide +kernel
theorem dX5_meeting_102 : decode cX5_meeting 102 = .ok (.invokestatic 55, 3) := by decide +kernel
theorem dX5_meeting_105 : decode cX5_meeting 105 = .ok (.idiv, 1) := by decide +kernel
theorem dX5_meeting_106 : decode cX5_meeting 106 = .ok (.iload 5, 2) := by decide +kernel
theorem dX5_meeting_108 : decode cX5_meeting 108 = .ok (.imul, 1) := by decide +kernel
theorem dX5_meeting_109 : decode cX5_meeting 109 = .ok (.istore_n 3, 1) := by decide +kernel
theorem dX5_meeting_110 : decode cX5_meeting 110 = .ok (.iinc 4 1, 3) := by decide +kernel
theorem dX5_meeting_113 : decode cX5_meeting 113 = .ok (.goto (-106), 3) := by decide +kernel
theorem dX5_meeting_116 : decode cX5_meeting 116 = .ok (.iload_n 1, 1) := by decide +kernel
theorem dX5_meeting_117 : decode cX5_meeting 117 = .ok (.ifCond .eq 7, 3) := by decide +kernel
theorem dX5_meeting_120 : decode cX5_meeting 120 = .ok (.iload_n 3, 1) := by decide +kernel
theorem dX5_meeting_121 : decode cX5_meeting 121 = .ok (.goto 4, 3) := by decide +kernel
theorem dX5_meeting_124 : decode cX5_meeting 124 = .ok (.iload_n 2, 1) := by decide +kernel
theorem dX5_meeting_125 : decode cX5_meeting 125 = .ok (.ireturn, 1) := by decide +kernel
def f_X5_meeting_89  (k7 : Int32 × Int32 × Int32 × Int32 × zHp → Option (Int32 × zHp)) (v1 : Int32) (v2 : Int32) (v3 : Int32) (v4 : Int32) (v5 : Int32) (v7 : Int32) (h : zHp) : Option (Int32 × zHp) := (if v7 < v5 then (f_X5_divisor v3 v5 h).bind fun x1 => zdz x1.1 (zlt ((v3 / x1.1) * v5) fun x2 => k7 (v1, v2, x2, (v4 + (1 : Int32)), x1.2)) else some ((-1 : Int32), h))
set_option maxHeartbeats 4000000 in
set_option maxRecDepth 100000 in
theorem f_X5_meeting_89_s  (k7 : Int32 × Int32 × Int32 × Int32 × zHp → Option (Int32 × zHp)) (H7 : ∀ v : Int32 × Int32 × Int32 × Int32 × zHp, Sim wX mX5_meeting 2 rI 7 [(0, .ref 161), (1, .int v.1), (2, .int v.2.1), (3, .int v.2.2.1), (4, .int v.2.2.2.1)] [] v.2.2.2.2 (k7 v)) (v1 : Int32) (v2 : Int32) (v3 : Int32) (v4 : Int32) (v5 : Int32) (v7 : Int32) (h : zHp) : Sim wX mX5_meeting 2 rI 89 [(0, .ref 161), (1, .int v1), (2, .int v2), (3, .int v3), (4, .int v4), (5, .int v5), (7, .int v7)] [] h (f_X5_meeting_89 k7 v1 v2 v3 v4 v5 v7 h) := by
  unfold f_X5_meeting_89
  refine Sim.iload 6 dX5_meeting_89 rfl ?_
  refine Sim.iload 5 dX5_meeting_91 rfl ?_
  refine Sim.icmp_lt 98 dX5_meeting_93 rfl ?_ ?_
  · refine Sim.iload_n 3 dX5_meeting_98 rfl ?_
    refine Sim.iload_n 3 dX5_meeting_99 rfl ?_
    refine Sim.iload 5 dX5_meeting_100 rfl ?_
    refine Sim.callS2I (d1 := 1) (s_X5_divisor v3 v5 h) dX5_meeting_102 ml_X5_55 mv_X5_divisor (Nat.le_of_ble_eq_true rfl) (Nat.le_of_ble_eq_true rfl) (Nat.le_of_ble_eq_true rfl) (fun x1 => ?_)
    refine Sim.idiv dX5_meeting_105 ?_
    refine Sim.iload 5 dX5_meeting_106 rfl ?_
    refine Sim.imul dX5_meeting_108 ?_
    refine Sim.lti (fun x2 => ?_)
    refine Sim.istore_n (L' := [(3, .int x2), (0, .ref 161), (1, .int v1), (2, .int v2), (4, .int v4), (5, .int v5), (7, .int v7)]) dX5_meeting_109 (Nat.le_of_ble_eq_true rfl) rfl ?_
    refine Sim.iinc (L' := [(4, .int (v4 + (1 : Int32))), (3, .int x2), (0, .ref 161), (1, .int v1), (2, .int v2), (5, .int v5), (7, .int v7)]) 4 dX5_meeting_110 rfl rfl (Nat.le_of_ble_eq_true rfl) rfl ?_
    refine Sim.goto 7 dX5_meeting_113 rfl ?_
    refine Sim.locs [2, 3, 4, 1, 0] rfl ?_
    exact H7 (v1, v2, x2, (v4 + (1 : Int32)), x1.2)
  · refine Sim.iconst (v := (-1 : Int32)) dX5_meeting_96 rfl ?_
    exact Sim.iret dX5_meeting_97 rfl
def f_X5_meeting_63  (k7 : Int32 × Int32 × Int32 × Int32 × zHp → Option (Int32 × zHp)) (k63 : Int32 × Int32 × Int32 × Int32 × Int32 × Int32 × Int32 × zHp → Option (Int32 × zHp)) (v1 : Int32) (v2 : Int32) (v3 : Int32) (v4 : Int32) (v5 : Int32) (v6 : Int32) (v7 : Int32) (h : zHp) : Option (Int32 × zHp) := (if v7 < v5 then zdz v5 ((if (v2 - v2 / v5 * v5) = v6 then f_X5_meeting_89 k7 v1 v2 v3 v4 v5 v7 h else zlt (v2 + v3) fun x1 => k63 (v1, x1, v3, v4, v5, v6, (v7 + (1 : Int32)), h))) else f_X5_meeting_89 k7 v1 v2 v3 v4 v5 v7 h)
set_option maxHeartbeats 4000000 in
set_option maxRecDepth 100000 in
theorem f_X5_meeting_63_s  (k7 : Int32 × Int32 × Int32 × Int32 × zHp → Option (Int32 × zHp)) (H7 : ∀ v : Int32 × Int32 × Int32 × Int32 × zHp, Sim wX mX5_meeting 2 rI 7 [(0, .ref 161), (1, .int v.1), (2, .int v.2.1), (3, .int v.2.2.1), (4, .int v.2.2.2.1)] [] v.2.2.2.2 (k7 v)) (k63 : Int32 × Int32 × Int32 × Int32 × Int32 × Int32 × Int32 × zHp → Option (Int32 × zHp)) (H63 : ∀ v : Int32 × Int32 × Int32 × Int32 × Int32 × Int32 × Int32 × zHp, Sim wX mX5_meeting 2 rI 63 [(0, .ref 161), (1, .int v.1), (2, .int v.2.1), (3, .int v.2.2.1), (4, .int v.2.2.2.1), (5, .int v.2.2.2.2.1), (6, .int v.2.2.2.2.2.1), (7, .int v.2.2.2.2.2.2.1)] [] v.2.2.2.2.2.2.2 (k63 v)) (v1 : Int32) (v2 : Int32) (v3 : Int32) (v4 : Int32) (v5 : Int32) (v6 : Int32) (v7 : Int32) (h : zHp) : Sim wX mX5_meeting 2 rI 63 [(0, .ref 161), (1, .int v1), (2, .int v2), (3, .int v3), (4, .int v4), (5, .int v5), (6, .int v6), (7, .int v7)] [] h (f_X5_meeting_63 k7 k63 v1 v2 v3 v4 v5 v6 v7 h) := by
  unfold f_X5_meeting_63
  refine Sim.iload 7 dX5_meeting_63 rfl ?_
  refine Sim.iload 5 dX5_meeting_65 rfl ?_
  refine Sim.icmp_ge 89 dX5_meeting_67 rfl ?_ ?_
  · refine Sim.iload_n 2 dX5_meeting_70 rfl ?_
    refine Sim.iload 5 dX5_meeting_71 rfl ?_
    refine Sim.irem dX5_meeting_73 ?_
    refine Sim.iload 6 dX5_meeting_74 rfl ?_
    refine Sim.icmp_eq 89 dX5_meeting_76 rfl ?_ ?_
    · refine Sim.locs [0, 1, 2, 3, 4, 5, 7] rfl ?_
      exact f_X5_meeting_89_s k7 H7 v1 v2 v3 v4 v5 v7 h
    · refine Sim.iload_n 2 dX5_meeting_79 rfl ?_
      refine Sim.iload_n 3 dX5_meeting_80 rfl ?_
      refine Sim.iadd dX5_meeting_81 ?_
      refine Sim.lti (fun x1 => ?_)
      refine Sim.istore_n (L' := [(2, .int x1), (0, .ref 161), (1, .int v1), (3, .int v3), (4, .int v4), (5, .int v5), (6, .int v6), (7, .int v7)]) dX5_meeting_82 (Nat.le_of_ble_eq_true rfl) rfl ?_
      refine Sim.iinc (L' := [(7, .int (v7 + (1 : Int32))), (2, .int x1), (0, .ref 161), (1, .int v1), (3, .int v3), (4, .int v4), (5, .int v5), (6, .int v6)]) 7 dX5_meeting_83 rfl rfl (Nat.le_of_ble_eq_true rfl) rfl ?_
      refine Sim.goto 63 dX5_meeting_86 rfl ?_
      refine Sim.locs [2, 3, 1, 4, 5, 6, 7, 0] rfl ?_
      exact H63 (v1, x1, v3, v4, v5, v6, (v7 + (1 : Int32)), h)
  · refine Sim.locs [0, 1, 2, 3, 4, 5, 7] rfl ?_
    exact f_X5_meeting_89_s k7 H7 v1 v2 v3 v4 v5 v7 h
def f_X5_meeting_63_lp  (k7 : Int32 × Int32 × Int32 × Int32 × zHp → Option (Int32 × zHp)) (n : Nat) (v : Int32 × Int32 × Int32 × Int32 × Int32 × Int32 × Int32 × zHp) : Option (Int32 × zHp) := zlp (fun k63 v => f_X5_meeting_63 k7 k63 v.1 v.2.1 v.2.2.1 v.2.2.2.1 v.2.2.2.2.1 v.2.2.2.2.2.1 v.2.2.2.2.2.2.1 v.2.2.2.2.2.2.2) n v
theorem f_X5_meeting_63_ls  (k7 : Int32 × Int32 × Int32 × Int32 × zHp → Option (Int32 × zHp)) (H7 : ∀ v : Int32 × Int32 × Int32 × Int32 × zHp, Sim wX mX5_meeting 2 rI 7 [(0, .ref 161), (1, .int v.1), (2, .int v.2.1), (3, .int v.2.2.1), (4, .int v.2.2.2.1)] [] v.2.2.2.2 (k7 v)) (n : Nat) (v : Int32 × Int32 × Int32 × Int32 × Int32 × Int32 × Int32 × zHp) : Sim wX mX5_meeting 2 rI 63 [(0, .ref 161), (1, .int v.1), (2, .int v.2.1), (3, .int v.2.2.1), (4, .int v.2.2.2.1), (5, .int v.2.2.2.2.1), (6, .int v.2.2.2.2.2.1), (7, .int v.2.2.2.2.2.2.1)] [] v.2.2.2.2.2.2.2 (f_X5_meeting_63_lp k7 n v) :=
  Sim.lp (V := Int32 × Int32 × Int32 × Int32 × Int32 × Int32 × Int32 × zHp) (Lf := fun v => [(0, .ref 161), (1, .int v.1), (2, .int v.2.1), (3, .int v.2.2.1), (4, .int v.2.2.2.1), (5, .int v.2.2.2.2.1), (6, .int v.2.2.2.2.2.1), (7, .int v.2.2.2.2.2.2.1)]) (sf := fun v => []) (hf := fun v => v.2.2.2.2.2.2.2) (fun k63 H63 v => f_X5_meeting_63_s k7 H7 k63 H63 v.1 v.2.1 v.2.2.1 v.2.2.2.1 v.2.2.2.2.1 v.2.2.2.2.2.1 v.2.2.2.2.2.2.1 v.2.2.2.2.2.2.2) n v
def f_X5_meeting_7  (k7 : Int32 × Int32 × Int32 × Int32 × zHp → Option (Int32 × zHp)) (v1 : Int32) (v2 : Int32) (v3 : Int32) (v4 : Int32) (h : zHp) : Option (Int32 × zHp) := (if v4 < (h 27 1) then (f_X7_get 27 v4 h).bind fun x1 => (f_X8_first x1.1 x1.2).bind fun x2 => zlt (if (1 : Int32) < x2.1 then x2.1 else (1 : Int32)) fun x3 => (f_X7_get 27 v4 x2.2).bind fun x4 => (f_X8_second x4.1 x4.2).bind fun x5 => f_X5_meeting_63_lp k7 zN (v1, v2, v3, v4, x3, x5.1, (0 : Int32), x5.2) else (if v1 = 0 then some (v2, h) else some (v3, h)))
set_option maxHeartbeats 4000000 in
set_option maxRecDepth 100000 in
theorem f_X5_meeting_7_s  (k7 : Int32 × Int32 × Int32 × Int32 × zHp → Option (Int32 × zHp)) (H7 : ∀ v : Int32 × Int32 × Int32 × Int32 × zHp, Sim wX mX5_meeting 2 rI 7 [(0, .ref 161), (1, .int v.1), (2, .int v.2.1), (3, .int v.2.2.1), (4, .int v.2.2.2.1)] [] v.2.2.2.2 (k7 v)) (v1 : Int32) (v2 : Int32) (v3 : Int32) (v4 : Int32) (h : zHp) : Sim wX mX5_meeting 2 rI 7 [(0, .ref 161), (1, .int v1), (2, .int v2), (3, .int v3), (4, .int v4)] [] h (f_X5_meeting_7 k7 v1 v2 v3 v4 h) := by
  unfold f_X5_meeting_7
  refine Sim.iload 4 dX5_meeting_7 rfl ?_
  refine Sim.aload_n 0 dX5_meeting_9 rfl ?_
  refine Sim.getR (j := 26) fl_X5_24 dX5_meeting_10 xR_161_0 ?_
  refine Sim.getR (j := 27) fl_X5_28 dX5_meeting_13 (xR_X8_0 _ xL_X8_26) ?_
  refine Sim.getI fl_X5_34 dX5_meeting_16 (xI_X7_1 _ xL_X7_27) ?_
  refine Sim.icmp_ge 116 dX5_meeting_19 rfl ?_ ?_
  · refine Sim.iconst (v := (1 : Int32)) dX5_meeting_22 rfl ?_
    refine Sim.aload_n 0 dX5_meeting_23 rfl ?_
    refine Sim.getR (j := 26) fl_X5_24 dX5_meeting_24 xR_161_0 ?_
    refine Sim.getR (j := 27) fl_X5_28 dX5_meeting_27 (xR_X8_0 _ xL_X8_26) ?_
    refine Sim.iload 4 dX5_meeting_30 rfl ?_
    refine Sim.callV1I (d1 := 0) (s_X7_get 27 xL_X7_27 v4 h) dX5_meeting_32 ml_X5_40 mv_X7_get (xOC_X7 _ xL_X7_27) (Nat.le_of_ble_eq_true rfl) (Nat.le_of_ble_eq_true rfl) (Nat.le_of_ble_eq_true rfl) (fun x1 => ?_)
    refine Sim.callS1I (d1 := 0) (s_X8_first x1.1 x1.2) dX5_meeting_35 ml_X5_44 mv_X8_first (Nat.le_of_ble_eq_true rfl) (Nat.le_of_ble_eq_true rfl) (Nat.le_of_ble_eq_true rfl) (fun x2 => ?_)
    refine Sim.mmax dX5_meeting_38 ml_X5_47 ms_max ms_Math mc_max (Nat.le_of_ble_eq_true rfl) (Nat.le_of_ble_eq_true rfl) ?_
    refine Sim.lti (fun x3 => ?_)
    refine Sim.istore (L' := [(5, .int x3), (0, .ref 161), (1, .int v1), (2, .int v2), (3, .int v3), (4, .int v4)]) dX5_meeting_41 (Nat.le_of_ble_eq_true rfl) rfl ?_
    refine Sim.aload_n 1 dX5_meeting_43 rfl ?_
    refine Sim.getR (j := 26) fl_X5_24 dX5_meeting_44 xR_161_0 ?_
    refine Sim.getR (j := 27) fl_X5_28 dX5_meeting_47 (xR_X8_0 _ xL_X8_26) ?_
    refine Sim.iload 5 dX5_meeting_50 rfl ?_
    refine Sim.callV1I (d1 := 0) (s_X7_get 27 xL_X7_27 v4 x2.2) dX5_meeting_52 ml_X5_40 mv_X7_get (xOC_X7 _ xL_X7_27) (Nat.le_of_ble_eq_true rfl) (Nat.le_of_ble_eq_true rfl) (Nat.le_of_ble_eq_true rfl) (fun x4 => ?_)
    refine Sim.callS1I (d1 := 0) (s_X8_second x4.1 x4.2) dX5_meeting_55 ml_X5_53 mv_X8_second (Nat.le_of_ble_eq_true rfl) (Nat.le_of_ble_eq_true rfl) (Nat.le_of_ble_eq_true rfl) (fun x5 => ?_)
    refine Sim.istore (L' := [(6, .int x5.1), (5, .int x3), (0, .ref 161), (1, .int v1), (2, .int v2), (3, .int v3), (4, .int v4)]) dX5_meeting_58 (Nat.le_of_ble_eq_true rfl) rfl ?_
    refine Sim.iconst (v := (0 : Int32)) dX5_meeting_60 rfl ?_
    refine Sim.istore (L' := [(7, .int (0 : Int32)), (6, .int x5.1), (5, .int x3), (0, .ref 161), (1, .int v1), (2, .int v2), (3, .int v3), (4, .int v4)]) dX5_meeting_61 (Nat.le_of_ble_eq_true rfl) rfl ?_
    refine Sim.locs [3, 4, 5, 6, 7, 2, 1, 0] rfl ?_
    exact f_X5_meeting_63_ls k7 H7 zN (v1, v2, v3, v4, x3, x5.1, (0 : Int32), x5.2)
  · refine Sim.iload_n 1 dX5_meeting_116 rfl ?_
    refine Sim.if_eq 124 dX5_meeting_117 rfl ?_ ?_
    · refine Sim.iload_n 2 dX5_meeting_124 rfl ?_
      exact Sim.iret dX5_meeting_125 rfl
    · refine Sim.iload_n 3 dX5_meeting_120 rfl ?_
      refine Sim.goto 125 dX5_meeting_121 rfl ?_
      exact Sim.iret dX5_meeting_125 rfl
def f_X5_meeting_7_lp   (n : Nat) (v : Int32 × Int32 × Int32 × Int32 × zHp) : Option (Int32 × zHp) := zlp (fun k7 v => f_X5_meeting_7 k7 v.1 v.2.1 v.2.2.1 v.2.2.2.1 v.2.2.2.2) n v
theorem f_X5_meeting_7_ls  (n : Nat) (v : Int32 × Int32 × Int32 × Int32 × zHp) : Sim wX mX5_meeting 2 rI 7 [(0, .ref 161), (1, .int v.1), (2, .int v.2.1), (3, .int v.2.2.1), (4, .int v.2.2.2.1)] [] v.2.2.2.2 (f_X5_meeting_7_lp n v) :=
  Sim.lp (V := Int32 × Int32 × Int32 × Int32 × zHp) (Lf := fun v => [(0, .ref 161), (1, .int v.1), (2, .int v.2.1), (3, .int v.2.2.1), (4, .int v.2.2.2.1)]) (sf := fun v => []) (hf := fun v => v.2.2.2.2) (fun k7 H7 v => f_X5_meeting_7_s k7 H7 v.1 v.2.1 v.2.2.1 v.2.2.2.1 v.2.2.2.2) n v
def f_X5_meeting  (a1 : Int32) (h : zHp) : Option (Int32 × zHp) := f_X5_meeting_7_lp  zN (a1, (0 : Int32), (1 : Int32), (0 : Int32), h)
set_option maxHeartbeats 4000000 in
set_option maxRecDepth 100000 in
theorem s_X5_meeting  (a1 : Int32) (h : zHp) : Fn wX mX5_meeting 2 rI [.ref 161, .int a1] h (f_X5_meeting a1 h) := by
  refine Fn.of rfl (Nat.le_of_ble_eq_true rfl) ?_
  unfold f_X5_meeting
  refine Sim.iconst (v := (0 : Int32)) dX5_meeting_0 rfl ?_
  refine Sim.istore_n (L' := [(2, .int (0 : Int32)), (0, .ref 161), (1, .int a1)]) dX5_meeting_1 (Nat.le_of_ble_eq_true rfl) rfl ?_
  refine Sim.iconst (v := (1 : Int32)) dX5_meeting_2 rfl ?_
  refine Sim.istore_n (L' := [(3, .int (1 : Int32)), (2, .int (0 : Int32)), (0, .ref 161), (1, .int a1)]) dX5_meeting_3 (Nat.le_of_ble_eq_true rfl) rfl ?_
  refine Sim.iconst (v := (0 : Int32)) dX5_meeting_4 rfl ?_
  refine Sim.istore (L' := [(4, .int (0 : Int32)), (3, .int (1 : Int32)), (2, .int (0 : Int32)), (0, .ref 161), (1, .int a1)]) dX5_meeting_5 (Nat.le_of_ble_eq_true rfl) rfl ?_
  refine Sim.locs [3, 4, 2, 1, 0] rfl ?_
  exact f_X5_meeting_7_ls  zN (a1, (0 : Int32), (1 : Int32), (0 : Int32), h)
theorem mv_X5_meeting : zMV mX5_meeting 1 := ⟨⟨zTb_in 1054 (by decide +kernel) rfl, zTb_in 147 (by decide +kernel) rfl, ⟨by decide +kernel, by decide +kernel⟩, by decide +kernel⟩, zTb_in 1052 (by decide +kernel) rfl, zTb_in 1053 (by decide +kernel) rfl⟩
-- ===== RockingPorch$Puzzles.forbid()V
abbrev mX5_forbid : zMt := (yX5_forbid, cX5_forbid, 4, none)
theorem fl_X5_65 : zF RX5 65 8 1 := ⟨RX8, TX8, 7, rfl, Nat.le_of_ble_eq_true rfl, zTb_in 328 (by decide +kernel) rfl, in_X8⟩
theorem fl_X5_9 : zF RX5 9 5 1 := ⟨RX5, TX5, 5, rfl, Nat.le_of_ble_eq_true rfl, zTb_in 498 (by decide +kernel) rfl, in_X5⟩
theorem dX5_forbid_0 : decode cX5_forbid 0 = .ok (.iconst 0, 1) := by decide +kernel
theorem dX5_forbid_1 : decode cX5_forbid 1 = .ok (.istore_n 1, 1) := by decide +kernel
theorem dX5_forbid_2 : decode cX5_forbid 2 = .ok (.iload_n 1, 1) := by decide +kernel
theorem dX5_forbid_3 : decode cX5_forbid 3 = .ok (.bipush 7, 2) := by decide +kernel
theorem dX5_forbid_5 : decode cX5_forbid 5 = .ok (.if_icmp .ge 16, 3) := by decide +kernel
theorem dX5_forbid_8 : decode cX5_forbid 8 = .ok (.aload_n 0, 1) := by decide +kernel
theorem dX5_forbid_9 : decode cX5_forbid 9 = .ok (.getfield 9, 3) := by decide +kernel
theorem dX5_forbid_12 : decode cX5_forbid 12 = .ok (.iload_n 1, 1) := by decide +kernel
theorem dX5_forbid_13 : decode cX5_forbid 13 = .ok (.iconst 0, 1) := by decide +kernel
theorem dX5_forbid_14 : decode cX5_forbid 14 = .ok (.iastore, 1) := by decide +kernel
theorem dX5_forbid_15 : decode cX5_forbid 15 = .ok (.iinc 1 1, 3) := by decide +kernel
theorem dX5_forbid_18 : decode cX5_forbid 18 = .ok (.goto (-16), 3) := by decide +kernel
theorem dX5_forbid_21 : decode cX5_forbid 21 = .ok (.iconst 0, 1) := by decide +kernel
theorem dX5_forbid_22 : decode cX5_forbid 22 = .ok (.istore_n 1, 1) := by decide +kernel
theorem dX5_forbid_23 : decode cX5_forbid 23 = .ok (.iload_n 1, 1) := by decide +kernel
theorem dX5_forbid_24 : decode cX5_forbid 24 = .ok (.aload_n 0, 1) := by decide +kernel
theorem dX5_forbid_25 : decode cX5_forbid 25 = .ok (.getfield 24, 3) := by decide +kernel
theorem dX5_forbid_28 : decode cX5_forbid 28 = .ok (.getfield 65, 3) := by decide +kernel
theorem dX5_forbid_31 : decode cX5_forbid 31 = .ok (.getfield 34, 3) := by decide +kernel
theorem dX5_forbid_34 : decode cX5_forbid 34 = .ok (.if_icmp .ge 75, 3) := by decide +kernel
theorem dX5_forbid_37 : decode cX5_forbid 37 = .ok (.aload_n 0, 1) := by decide +kernel
theorem dX5_forbid_38 : decode cX5_forbid 38 = .ok (.getfield 24, 3) := by decide +kernel
theorem dX5_forbid_41 : decode cX5_forbid 41 = .ok (.getfield 65, 3) := by decide +kernel
theorem dX5_forbid_44 : decode cX5_forbid 44 = .ok (.iload_n 1, 1) := by decide +kernel
theorem dX5_forbid_45 : decode cX5_forbid 45 = .ok (.invokevirtual 40, 3) := by decide +kernel
theorem dX5_forbid_48 : decode cX5_forbid 48 = .ok (.invokestatic 44, 3) := by decide +kernel
theorem dX5_forbid_51 : decode cX5_forbid 51 = .ok (.istore_n 2, 1) := by decide +kernel
theorem dX5_forbid_52 : decode cX5_forbid 52 = .ok (.aload_n 0, 1) := by decide +kernel
theorem dX5_forbid_53 : decode cX5_forbid 53 = .ok (.getfield 24, 3) := by decide +kernel
theorem dX5_forbid_56 : decode cX5_forbid 56 = .ok (.getfield 65, 3) := by decide +kernel
theorem dX5_forbid_59 : decode cX5_forbid 59 = .ok (.iload_n 1, 1) := by decide +kernel
theorem dX5_forbid_60 : decode cX5_forbid 60 = .ok (.invokevirtual 40, 3) := by decide +kernel
theorem dX5_forbid_63 : decode cX5_forbid 63 = .ok (.invokestatic 53, 3) := by decide +kernel
theorem dX5_forbid_66 : decode cX5_forbid 66 = .ok (.istore_n 3, 1) := by decide +kernel
theorem dX5_forbid_67 : decode cX5_forbid 67 = .ok (.iload_n 2, 1) := by decide +kernel
theorem dX5_forbid_68 : decode cX5_forbid 68 = .ok (.bipush 7, 2) := by decide +kernel
theorem dX5_forbid_70 : decode cX5_forbid 70 = .ok (.if_icmp .ge 33, 3) := by decide +kernel
theorem dX5_forbid_73 : decode cX5_forbid 73 = .ok (.iload_n 3, 1) := by decide +kernel
theorem dX5_forbid_74 : decode cX5_forbid 74 = .ok (.bipush 7, 2) := by decide +kernel
theorem dX5_forbid_76 : decode cX5_forbid 76 = .ok (.if_icmp .ge 27, 3) := by decide +kernel
theorem dX5_forbid_79 : decode cX5_forbid 79 = .ok (.aload_n 0, 1) := by decide +kernel
theorem dX5_forbid_80 : decode cX5_forbid 80 = .ok (.getfield 9, 3) := by decide +kernel
theorem dX5_forbid_83 : decode cX5_forbid 83 = .ok (.iload_n 2, 1) := by decide +kernel
theorem dX5_forbid_84 : decode cX5_forbid 84 = .ok (.dup2, 1) := by decide +kernel
theorem dX5_forbid_85 : decode cX5_forbid 85 = .ok (.iaload, 1) := by decide +kernel
theorem dX5_forbid_86 : decode cX5_forbid 86 = .ok (.iconst 1, 1) := by decide +kernel
theorem dX5_forbid_87 : decode cX5_forbid 87 = .ok (.iload_n 3, 1) := by decide +kernel
theorem dX5_forbid_88 : decode cX5_forbid 88 = .ok (.ishl, 1) := by decide +kernel
theorem dX5_forbid_89 : decode cX5_forbid 89 = .ok (.ior, 1) := by decide +kernel
theorem dX5_forbid_90 : decode cX5_forbid 90 = .ok (.iastore, 1) := by decide +kernel
theorem dX5_forbid_91 : decode cX5_forbid 91 = .ok (.aload_n 0, 1) := by decide +kernel
theorem dX5_forbid_92 : decode cX5_forbid 92 = .ok (.getfield 9, 3) := by decide +kernel
theorem dX5_forbid_95 : decode cX5_forbid 95 = .ok (.iload_n 3, 1) := by decide +kernel
theorem dX5_forbid_96 : decode cX5_forbid 96 = .ok (.dup2, 1) := by decide +kernel
theorem dX5_forbid_97 : decode cX5_forbid 97 = .ok (.iaload, 1) := by decide +kernel
theorem dX5_forbid_98 : decode cX5_forbid 98 = .ok (.iconst 1, 1) := by decide +kernel
theorem dX5_forbid_99 : decode cX5_forbid 99 = .ok (.iload_n 2, 1) := by decide +kernel
theorem dX5_forbid_100 : decode cX5_forbid 100 = .ok (.ishl, 1) := by decide +kernel
theorem dX5_forbid_101 : decode cX5_forbid 101 = .ok (.ior, 1) := by decide +kernel
theorem dX5_forbid_102 : decode cX5_forbid 102 = .ok (.iastore, 1) := by decide +kernel
theorem dX5_forbid_103 : decode cX5_forbid 103 = .ok (.iinc 1 1, 3) := by decide +kernel
theorem dX5_forbid_106 : decode cX5_forbid 106 = .ok (.goto (-83), 3) := by decide +kernel
theorem dX5_forbid_109 : decode cX5_forbid 109 = .ok (.return_, 1) := by decide +kernel
def f_X5_forbid_23  (k23 : Int32 × zHp → Option (zHp)) (v1 : Int32) (h : zHp) : Option (zHp) := (if v1 < (h 29 1) then (f_X7_get 29 v1 h).bind fun x1 => (f_X8_first x1.1 x1.2).bind fun x2 => (f_X7_get 29 v1 x2.2).bind fun x3 => (f_X8_second x3.1 x3.2).bind fun x4 => (if x2.1 < (7 : Int32) then (if x4.1 < (7 : Int32) then zix x2.1 10 (zix x2.1 10 (zlt (zst x4.2 162 x2.1.toNatClampNeg ((x4.2 162 x2.1.toNatClampNeg) ||| ((1 : Int32) <<< (x4.1 &&& 31)))) fun h5 => zix x4.1 10 (zix x4.1 10 (zlt (zst h5 162 x4.1.toNatClampNeg ((h5 162 x4.1.toNatClampNeg) ||| ((1 : Int32) <<< (x2.1 &&& 31)))) fun h6 => k23 ((v1 + (1 : Int32)), h6))))) else k23 ((v1 + (1 : Int32)), x4.2)) else k23 ((v1 + (1 : Int32)), x4.2)) else some h)
set_option maxHeartbeats 4000000 in
set_option maxRecDepth 100000 in
theorem f_X5_forbid_23_s  (k23 : Int32 × zHp → Option (zHp)) (H23 : ∀ v : Int32 × zHp, Sim wX mX5_forbid 1 rV 23 [(0, .ref 161), (1, .int v.1)] [] v.2 (k23 v)) (v1 : Int32) (h : zHp) : Sim wX mX5_forbid 1 rV 23 [(0, .ref 161), (1, .int v1)] [] h (f_X5_forbid_23 k23 v1 h) := by
  unfold f_X5_forbid_23
  refine Sim.iload_n 1 dX5_forbid_23 rfl ?_
  refine Sim.aload_n 0 dX5_forbid_24 rfl ?_
  refine Sim.getR (j := 26) fl_X5_24 dX5_forbid_25 xR_161_0 ?_
  refine Sim.getR (j := 29) fl_X5_65 dX5_forbid_28 (xR_X8_1 _ xL_X8_26) ?_
  refine Sim.getI fl_X5_34 dX5_forbid_31 (xI_X7_1 _ xL_X7_29) ?_
  refine Sim.icmp_ge 109 dX5_forbid_34 rfl ?_ ?_
  · refine Sim.aload_n 0 dX5_forbid_37 rfl ?_
    refine Sim.getR (j := 26) fl_X5_24 dX5_forbid_38 xR_161_0 ?_
    refine Sim.getR (j := 29) fl_X5_65 dX5_forbid_41 (xR_X8_1 _ xL_X8_26) ?_
    refine Sim.iload_n 1 dX5_forbid_44 rfl ?_
    refine Sim.callV1I (d1 := 0) (s_X7_get 29 xL_X7_29 v1 h) dX5_forbid_45 ml_X5_40 mv_X7_get (xOC_X7 _ xL_X7_29) (Nat.le_of_ble_eq_true rfl) (Nat.le_of_ble_eq_true rfl) (Nat.le_of_ble_eq_true rfl) (fun x1 => ?_)
    refine Sim.callS1I (d1 := 0) (s_X8_first x1.1 x1.2) dX5_forbid_48 ml_X5_44 mv_X8_first (Nat.le_of_ble_eq_true rfl) (Nat.le_of_ble_eq_true rfl) (Nat.le_of_ble_eq_true rfl) (fun x2 => ?_)
    refine Sim.istore_n (L' := [(2, .int x2.1), (0, .ref 161), (1, .int v1)]) dX5_forbid_51 (Nat.le_of_ble_eq_true rfl) rfl ?_
    refine Sim.aload_n 1 dX5_forbid_52 rfl ?_
    refine Sim.getR (j := 26) fl_X5_24 dX5_forbid_53 xR_161_0 ?_
    refine Sim.getR (j := 29) fl_X5_65 dX5_forbid_56 (xR_X8_1 _ xL_X8_26) ?_
    refine Sim.iload_n 2 dX5_forbid_59 rfl ?_
    refine Sim.callV1I (d1 := 0) (s_X7_get 29 xL_X7_29 v1 x2.2) dX5_forbid_60 ml_X5_40 mv_X7_get (xOC_X7 _ xL_X7_29) (Nat.le_of_ble_eq_true rfl) (Nat.le_of_ble_eq_true rfl) (Nat.le_of_ble_eq_true rfl) (fun x3 => ?_)
    refine Sim.callS1I (d1 := 0) (s_X8_second x3.1 x3.2) dX5_forbid_63 ml_X5_53 mv_X8_second (Nat.le_of_ble_eq_true rfl) (Nat.le_of_ble_eq_true rfl) (Nat.le_of_ble_eq_true rfl) (fun x4 => ?_)
    refine Sim.istore_n (L' := [(3, .int x4.1), (2, .int x2.1), (0, .ref 161), (1, .int v1)]) dX5_forbid_66 (Nat.le_of_ble_eq_true rfl) rfl ?_
    refine Sim.iload_n 1 dX5_forbid_67 rfl ?_
    refine Sim.bipush (v := (7 : Int32)) dX5_forbid_68 rfl ?_
    refine Sim.icmp_ge 103 dX5_forbid_70 rfl ?_ ?_
    · refine Sim.iload_n 0 dX5_forbid_73 rfl ?_
      refine Sim.bipush (v := (7 : Int32)) dX5_forbid_74 rfl ?_
      refine Sim.icmp_ge 103 dX5_forbid_76 rfl ?_ ?_
      · refine Sim.aload_n 2 dX5_forbid_79 rfl ?_
        refine Sim.getR (j := 162) fl_X5_9 dX5_forbid_80 xR_161_1 ?_
        refine Sim.iload_n 1 dX5_forbid_83 rfl ?_
        refine Sim.dup2 dX5_forbid_84 rfl rfl ?_
        refine Sim.iald (n := 10) dX5_forbid_85 xA_162 ?_
        refine Sim.iconst (v := (1 : Int32)) dX5_forbid_86 rfl ?_
        refine Sim.iload_n 0 dX5_forbid_87 rfl ?_
        refine Sim.ishl dX5_forbid_88 ?_
        refine Sim.ior dX5_forbid_89 ?_
        refine Sim.iast (n := 10) dX5_forbid_90 xA_162 ?_
        refine Sim.lth (fun h5 => ?_)
        refine Sim.aload_n 2 dX5_forbid_91 rfl ?_
        refine Sim.getR (j := 162) fl_X5_9 dX5_forbid_92 xR_161_1 ?_
        refine Sim.iload_n 0 dX5_forbid_95 rfl ?_
        refine Sim.dup2 dX5_forbid_96 rfl rfl ?_
        refine Sim.iald (n := 10) dX5_forbid_97 xA_162 ?_
        refine Sim.iconst (v := (1 : Int32)) dX5_forbid_98 rfl ?_
        refine Sim.iload_n 1 dX5_forbid_99 rfl ?_
        refine Sim.ishl dX5_forbid_100 ?_
        refine Sim.ior dX5_forbid_101 ?_
        refine Sim.iast (n := 10) dX5_forbid_102 xA_162 ?_
        refine Sim.lth (fun h6 => ?_)
        refine Sim.iinc (L' := [(1, .int (v1 + (1 : Int32))), (3, .int x4.1), (2, .int x2.1), (0, .ref 161)]) 3 dX5_forbid_103 rfl rfl (Nat.le_of_ble_eq_true rfl) rfl ?_
        refine Sim.goto 23 dX5_forbid_106 rfl ?_
        refine Sim.locs [3, 0] rfl ?_
        exact H23 ((v1 + (1 : Int32)), h6)
      · refine Sim.iinc (L' := [(1, .int (v1 + (1 : Int32))), (3, .int x4.1), (2, .int x2.1), (0, .ref 161)]) 3 dX5_forbid_103 rfl rfl (Nat.le_of_ble_eq_true rfl) rfl ?_
        refine Sim.goto 23 dX5_forbid_106 rfl ?_
        refine Sim.locs [3, 0] rfl ?_
        exact H23 ((v1 + (1 : Int32)), x4.2)
    · refine Sim.iinc (L' := [(1, .int (v1 + (1 : Int32))), (3, .int x4.1), (2, .int x2.1), (0, .ref 161)]) 3 dX5_forbid_103 rfl rfl (Nat.le_of_ble_eq_true rfl) rfl ?_
      refine Sim.goto 23 dX5_forbid_106 rfl ?_
      refine Sim.locs [3, 0] rfl ?_
      exact H23 ((v1 + (1 : Int32)), x4.2)
  · exact Sim.vret dX5_forbid_109 rfl
def f_X5_forbid_23_lp   (n : Nat) (v : Int32 × zHp) : Option (zHp) := zlp (fun k23 v => f_X5_forbid_23 k23 v.1 v.2) n v
theorem f_X5_forbid_23_ls  (n : Nat) (v : Int32 × zHp) : Sim wX mX5_forbid 1 rV 23 [(0, .ref 161), (1, .int v.1)] [] v.2 (f_X5_forbid_23_lp n v) :=
  Sim.lp (V := Int32 × zHp) (Lf := fun v => [(0, .ref 161), (1, .int v.1)]) (sf := fun v => []) (hf := fun v => v.2) (fun k23 H23 v => f_X5_forbid_23_s k23 H23 v.1 v.2) n v
def f_X5_forbid_2  (k2 : Int32 × zHp → Option (zHp)) (v1 : Int32) (h : zHp) : Option (zHp) := (if v1 < (7 : Int32) then zix v1 10 (zlt (zst h 162 v1.toNatClampNeg (0 : Int32)) fun h1 => k2 ((v1 + (1 : Int32)), h1)) else f_X5_forbid_23_lp  zN ((0 : Int32), h))
set_option maxHeartbeats 4000000 in
set_option maxRecDepth 100000 in
theorem f_X5_forbid_2_s  (k2 : Int32 × zHp → Option (zHp)) (H2 : ∀ v : Int32 × zHp, Sim wX mX5_forbid 1 rV 2 [(0, .ref 161), (1, .int v.1)] [] v.2 (k2 v)) (v1 : Int32) (h : zHp) : Sim wX mX5_forbid 1 rV 2 [(0, .ref 161), (1, .int v1)] [] h (f_X5_forbid_2 k2 v1 h) := by
  unfold f_X5_forbid_2
  refine Sim.iload_n 1 dX5_forbid_2 rfl ?_
  refine Sim.bipush (v := (7 : Int32)) dX5_forbid_3 rfl ?_
  refine Sim.icmp_ge 21 dX5_forbid_5 rfl ?_ ?_
  · refine Sim.aload_n 0 dX5_forbid_8 rfl ?_
    refine Sim.getR (j := 162) fl_X5_9 dX5_forbid_9 xR_161_1 ?_
    refine Sim.iload_n 1 dX5_forbid_12 rfl ?_
    refine Sim.iconst (v := (0 : Int32)) dX5_forbid_13 rfl ?_
    refine Sim.iast (n := 10) dX5_forbid_14 xA_162 ?_
    refine Sim.lth (fun h1 => ?_)
    refine Sim.iinc (L' := [(1, .int (v1 + (1 : Int32))), (0, .ref 161)]) 1 dX5_forbid_15 rfl rfl (Nat.le_of_ble_eq_true rfl) rfl ?_
    refine Sim.goto 2 dX5_forbid_18 rfl ?_
    refine Sim.locs [1, 0] rfl ?_
    exact H2 ((v1 + (1 : Int32)), h1)
  · refine Sim.iconst (v := (0 : Int32)) dX5_forbid_21 rfl ?_
    refine Sim.istore_n (L' := [(1, .int (0 : Int32)), (0, .ref 161)]) dX5_forbid_22 (Nat.le_of_ble_eq_true rfl) rfl ?_
    refine Sim.locs [1, 0] rfl ?_
    exact f_X5_forbid_23_ls  zN ((0 : Int32), h)
def f_X5_forbid_2_lp   (n : Nat) (v : Int32 × zHp) : Option (zHp) := zlp (fun k2 v => f_X5_forbid_2 k2 v.1 v.2) n v
theorem f_X5_forbid_2_ls  (n : Nat) (v : Int32 × zHp) : Sim wX mX5_forbid 1 rV 2 [(0, .ref 161), (1, .int v.1)] [] v.2 (f_X5_forbid_2_lp n v) :=
  Sim.lp (V := Int32 × zHp) (Lf := fun v => [(0, .ref 161), (1, .int v.1)]) (sf := fun v => []) (hf := fun v => v.2) (fun k2 H2 v => f_X5_forbid_2_s k2 H2 v.1 v.2) n v
def f_X5_forbid   (h : zHp) : Option (zHp) := f_X5_forbid_2_lp  zN ((0 : Int32), h)
set_option maxHeartbeats 4000000 in
set_option maxRecDepth 100000 in
theorem s_X5_forbid   (h : zHp) : Fn wX mX5_forbid 1 rV [.ref 161] h (f_X5_forbid  h) := by
  refine Fn.of rfl (Nat.le_of_ble_eq_true rfl) ?_
  unfold f_X5_forbid
  refine Sim.iconst (v := (0 : Int32)) dX5_forbid_0 rfl ?_
  refine Sim.istore_n (L' := [(1, .int (0 : Int32)), (0, .ref 161)]) dX5_forbid_1 (Nat.le_of_ble_eq_true rfl) rfl ?_
  refine Sim.locs [1, 0] rfl ?_
  exact f_X5_forbid_2_ls  zN ((0 : Int32), h)
theorem mv_X5_forbid : zMV mX5_forbid 0 := ⟨⟨zTb_in 1084 (by decide +kernel) rfl, zTb_in 147 (by decide +kernel) rfl, ⟨by decide +kernel, by decide +kernel⟩, by decide +kernel⟩, zTb_in 1083 (by decide +kernel) rfl, zTb_in 30 (by decide +kernel) rfl⟩
-- ===== RockingPorch$Puzzles.seatNext(III)V
abbrev mX5_seatNext : zMt := (yX5_seatNext, cX5_seatNext, 6, none)
theorem fl_X5_18 : zF RX5 18 5 3 := ⟨RX5, TX5, 5, rfl, Nat.le_of_ble_eq_true rfl, zTb_in 500 (by decide +kernel) rfl, in_X5⟩
theorem dX5_seatNext_0 : decode cX5_seatNext 0 = .ok (.aload_n 0, 1) := by decide +kernel
theorem dX5_seatNext_1 : decode cX5_seatNext 1 = .ok (.getfield 18, 3) := by decide +kernel
theorem dX5_seatNext_4 : decode cX5_seatNext 4 = .ok (.iload_n 1, 1) := by decide +kernel
theorem dX5_seatNext_5 : decode cX5_seatNext 5 = .ok (.bipush 7, 2) := by decide +kernel
theorem dX5_seatNext_7 : decode cX5_seatNext 7 = .ok (.imul, 1) := by decide +kernel
theorem dX5_seatNext_8 : decode cX5_seatNext 8 = .ok (.iload_n 2, 1) := by decide +kernel
theorem dX5_seatNext_9 : decode cX5_seatNext 9 = .ok (.iadd, 1) := by decide +kernel
theorem dX5_seatNext_10 : decode cX5_seatNext 10 = .ok (.iaload, 1) := by decide +kernel
theorem dX5_seatNext_11 : decode cX5_seatNext 11 = .ok (.istore 4, 2) := by decide +kernel
theorem dX5_seatNext_13 : decode cX5_seatNext 13 = .ok (.iconst 0, 1) := by decide +kernel
theorem dX5_seatNext_14 : decode cX5_seatNext 14 = .ok (.istore 5, 2) := by decide +kernel
theorem dX5_seatNext_16 : decode cX5_seatNext 16 = .ok (.iload 5, 2) := by decide +kernel
theorem dX5_seatNext_18 : decode cX5_seatNext 18 = .ok (.iload_n 3, 1) := by decide +kernel
theorem dX5_seatNext_19 : decode cX5_seatNext 19 = .ok (.if_icmp .ge 59, 3) := by decide +kernel
theorem dX5_seatNext_22 : decode cX5_seatNext 22 = .ok (.iload 4, 2) := by decide +kernel
theorem dX5_seatNext_24 : decode cX5_seatNext 24 = .ok (.ifCond .le 54, 3) := by decide +kernel
theorem dX5_seatNext_27 : decode cX5_seatNext 27 = .ok (.iload_n 1, 1) := by decide +kernel
theorem dX5_seatNext_28 : decode cX5_seatNext 28 = .ok (.iconst 1, 1) := by decide +kernel
theorem dX5_seatNext_29 : decode cX5_seatNext 29 = .ok (.iload 5, 2) := by decide +kernel
theorem dX5_seatNext_31 : decode cX5_seatNext 31 = .ok (.ishl, 1) := by decide +kernel
theorem dX5_seatNext_32 : decode cX5_seatNext 32 = .ok (.iand, 1) := by decide +kernel
theorem dX5_seatNext_33 : decode cX5_seatNext 33 = .ok (.ifCond .ne 39, 3) := by decide +kernel
theorem dX5_seatNext_36 : decode cX5_seatNext 36 = .ok (.aload_n 0, 1) := by decide +kernel
theorem dX5_seatNext_37 : decode cX5_seatNext 37 = .ok (.getfield 9, 3) := by decide +kernel
theorem dX5_seatNext_40 : decode cX5_seatNext 40 = .ok (.iload_n 2, 1) := by decide +kernel
theorem dX5_seatNext_41 : decode cX5_seatNext 41 = .ok (.iaload, 1) := by decide +kernel
theorem dX5_seatNext_42 : decode cX5_seatNext 42 = .ok (.iconst 1, 1) := by decide +kernel
theorem dX5_seatNext_43 : decode cX5_seatNext 43 = .ok (.iload 5, 2) := by decide +kernel
theorem dX5_seatNext_45 : decode cX5_seatNext 45 = .ok (.ishl, 1) := by decide +kernel
theorem dX5_seatNext_46 : decode cX5_seatNext 46 = .ok (.iand, 1) := by decide +kernel
theorem dX5_seatNext_47 : decode cX5_seatNext 47 = .ok (.ifCond .ne 25, 3) := by decide +kernel
theorem dX5_seatNext_50 : decode cX5_seatNext 50 = .ok (.aload_n 0, 1) := by decide +kernel
theorem dX5_seatNext_51 : decode cX5_seatNext 51 = .ok (.getfield 18, 3) := by decide +kernel
theorem dX5_seatNext_54 : decode cX5_seatNext 54 = .ok (.iload_n 1, 1) := by decide +kernel
theorem dX5_seatNext_55 : decode cX5_seatNext 55 = .ok (.iconst 1, 1) := by decide +kernel
theorem dX5_seatNext_56 : decode cX5_seatNext 56 = .ok (.iload 5, 2) := by decide +kernel
theorem dX5_seatNext_58 : decode cX5_seatNext 58 = .ok (.ishl, 1) := by decide +kernel
theorem dX5_seatNext_59 : decode cX5_seatNext 59 = .ok (.ior, 1) := by decide +kernel
theorem dX5_seatNext_60 : decode cX5_seatNext 60 = .ok (.bipush 7, 2) := by decide +kernel
theorem dX5_seatNext_62 : decode cX5_seatNext 62 = .ok (.imul, 1) := by decide +kernel
theorem dX5_seatNext_63 : decode cX5_seatNext 63 = .ok (.iload 5, 2) := by decide +kernel
theorem dX5_seatNext_65 : decode cX5_seatNext 65 = .ok (.iadd, 1) := by decide +kernel
theorem dX5_seatNext_66 : decode cX5_seatNext 66 = .ok (.dup2, 1) := by decide +kernel
theorem dX5_seatNext_67 : decode cX5_seatNext 67 = .ok (.iaload, 1) := by decide +kernel
theorem dX5_seatNext_68 : decode cX5_seatNext 68 = .ok (.iload 4, 2) := by decide +kernel
theorem dX5_seatNext_70 : decode cX5_seatNext 70 = .ok (.iadd, 1) := by decide +kernel
theorem dX5_seatNext_71 : decode cX5_seatNext 71 = .ok (.iastore, 1) := by decide +kernel
theorem dX5_seatNext_72 : decode cX5_seatNext 72 = .ok (.iinc 5 1, 3) := by decide +kernel
theorem dX5_seatNext_75 : decode cX5_seatNext 75 = .ok (.goto (-59), 3) := by decide +kernel
theorem dX5_seatNext_78 : decode cX5_seatNext 78 = .ok (.return_, 1) := by decide +kernel
def f_X5_seatNext_16  (k16 : Int32 × Int32 × Int32 × Int32 × Int32 × zHp → Option (zHp)) (v1 : Int32) (v2 : Int32) (v3 : Int32) (v4 : Int32) (v5 : Int32) (h : zHp) : Option (zHp) := (if v5 < v3 then (if 0 < v4 then (if (v1 &&& ((1 : Int32) <<< (v5 &&& 31))) = 0 then zix v2 10 ((if ((h 162 v2.toNatClampNeg) &&& ((1 : Int32) <<< (v5 &&& 31))) = 0 then zix (((v1 ||| ((1 : Int32) <<< (v5 &&& 31))) * (7 : Int32)) + v5) 896 (zix (((v1 ||| ((1 : Int32) <<< (v5 &&& 31))) * (7 : Int32)) + v5) 896 (zlt (zst h 164 (((v1 ||| ((1 : Int32) <<< (v5 &&& 31))) * (7 : Int32)) + v5).toNatClampNeg ((h 164 (((v1 ||| ((1 : Int32) <<< (v5 &&& 31))) * (7 : Int32)) + v5).toNatClampNeg) + v4)) fun h1 => k16 (v1, v2, v3, v4, (v5 + (1 : Int32)), h1))) else k16 (v1, v2, v3, v4, (v5 + (1 : Int32)), h))) else k16 (v1, v2, v3, v4, (v5 + (1 : Int32)), h)) else some h) else some h)
set_option maxHeartbeats 4000000 in
set_option maxRecDepth 100000 in
theorem f_X5_seatNext_16_s  (k16 : Int32 × Int32 × Int32 × Int32 × Int32 × zHp → Option (zHp)) (H16 : ∀ v : Int32 × Int32 × Int32 × Int32 × Int32 × zHp, Sim wX mX5_seatNext 0 rV 16 [(0, .ref 161), (1, .int v.1), (2, .int v.2.1), (3, .int v.2.2.1), (4, .int v.2.2.2.1), (5, .int v.2.2.2.2.1)] [] v.2.2.2.2.2 (k16 v)) (v1 : Int32) (v2 : Int32) (v3 : Int32) (v4 : Int32) (v5 : Int32) (h : zHp) : Sim wX mX5_seatNext 0 rV 16 [(0, .ref 161), (1, .int v1), (2, .int v2), (3, .int v3), (4, .int v4), (5, .int v5)] [] h (f_X5_seatNext_16 k16 v1 v2 v3 v4 v5 h) := by
  unfold f_X5_seatNext_16
  refine Sim.iload 5 dX5_seatNext_16 rfl ?_
  refine Sim.iload_n 3 dX5_seatNext_18 rfl ?_
  refine Sim.icmp_ge 78 dX5_seatNext_19 rfl ?_ ?_
  · refine Sim.iload 4 dX5_seatNext_22 rfl ?_
    refine Sim.if_le 78 dX5_seatNext_24 rfl ?_ ?_
    · refine Sim.iload_n 1 dX5_seatNext_27 rfl ?_
      refine Sim.iconst (v := (1 : Int32)) dX5_seatNext_28 rfl ?_
      refine Sim.iload 5 dX5_seatNext_29 rfl ?_
      refine Sim.ishl dX5_seatNext_31 ?_
      refine Sim.iand dX5_seatNext_32 ?_
      refine Sim.if_ne 72 dX5_seatNext_33 rfl ?_ ?_
      · refine Sim.aload_n 0 dX5_seatNext_36 rfl ?_
        refine Sim.getR (j := 162) fl_X5_9 dX5_seatNext_37 xR_161_1 ?_
        refine Sim.iload_n 2 dX5_seatNext_40 rfl ?_
        refine Sim.iald (n := 10) dX5_seatNext_41 xA_162 ?_
        refine Sim.iconst (v := (1 : Int32)) dX5_seatNext_42 rfl ?_
        refine Sim.iload 5 dX5_seatNext_43 rfl ?_
        refine Sim.ishl dX5_seatNext_45 ?_
        refine Sim.iand dX5_seatNext_46 ?_
        refine Sim.if_ne 72 dX5_seatNext_47 rfl ?_ ?_
        · refine Sim.aload_n 0 dX5_seatNext_50 rfl ?_
          refine Sim.getR (j := 164) fl_X5_18 dX5_seatNext_51 xR_161_3 ?_
          refine Sim.iload_n 1 dX5_seatNext_54 rfl ?_
          refine Sim.iconst (v := (1 : Int32)) dX5_seatNext_55 rfl ?_
          refine Sim.iload 5 dX5_seatNext_56 rfl ?_
          refine Sim.ishl dX5_seatNext_58 ?_
          refine Sim.ior dX5_seatNext_59 ?_
          refine Sim.bipush (v := (7 : Int32)) dX5_seatNext_60 rfl ?_
          refine Sim.imul dX5_seatNext_62 ?_
          refine Sim.iload 5 dX5_seatNext_63 rfl ?_
          refine Sim.iadd dX5_seatNext_65 ?_
          refine Sim.dup2 dX5_seatNext_66 rfl rfl ?_
          refine Sim.iald (n := 896) dX5_seatNext_67 xA_164 ?_
          refine Sim.iload 4 dX5_seatNext_68 rfl ?_
          refine Sim.iadd dX5_seatNext_70 ?_
          refine Sim.iast (n := 896) dX5_seatNext_71 xA_164 ?_
          refine Sim.lth (fun h1 => ?_)
          refine Sim.iinc (L' := [(5, .int (v5 + (1 : Int32))), (0, .ref 161), (1, .int v1), (2, .int v2), (3, .int v3), (4, .int v4)]) 5 dX5_seatNext_72 rfl rfl (Nat.le_of_ble_eq_true rfl) rfl ?_
          refine Sim.goto 16 dX5_seatNext_75 rfl ?_
          refine Sim.locs [1, 2, 3, 4, 5, 0] rfl ?_
          exact H16 (v1, v2, v3, v4, (v5 + (1 : Int32)), h1)
        · refine Sim.iinc (L' := [(5, .int (v5 + (1 : Int32))), (0, .ref 161), (1, .int v1), (2, .int v2), (3, .int v3), (4, .int v4)]) 5 dX5_seatNext_72 rfl rfl (Nat.le_of_ble_eq_true rfl) rfl ?_
          refine Sim.goto 16 dX5_seatNext_75 rfl ?_
          refine Sim.locs [1, 2, 3, 4, 5, 0] rfl ?_
          exact H16 (v1, v2, v3, v4, (v5 + (1 : Int32)), h)
      · refine Sim.iinc (L' := [(5, .int (v5 + (1 : Int32))), (0, .ref 161), (1, .int v1), (2, .int v2), (3, .int v3), (4, .int v4)]) 5 dX5_seatNext_72 rfl rfl (Nat.le_of_ble_eq_true rfl) rfl ?_
        refine Sim.goto 16 dX5_seatNext_75 rfl ?_
        refine Sim.locs [1, 2, 3, 4, 5, 0] rfl ?_
        exact H16 (v1, v2, v3, v4, (v5 + (1 : Int32)), h)
    · exact Sim.vret dX5_seatNext_78 rfl
  · exact Sim.vret dX5_seatNext_78 rfl
def f_X5_seatNext_16_lp   (n : Nat) (v : Int32 × Int32 × Int32 × Int32 × Int32 × zHp) : Option (zHp) := zlp (fun k16 v => f_X5_seatNext_16 k16 v.1 v.2.1 v.2.2.1 v.2.2.2.1 v.2.2.2.2.1 v.2.2.2.2.2) n v
theorem f_X5_seatNext_16_ls  (n : Nat) (v : Int32 × Int32 × Int32 × Int32 × Int32 × zHp) : Sim wX mX5_seatNext 0 rV 16 [(0, .ref 161), (1, .int v.1), (2, .int v.2.1), (3, .int v.2.2.1), (4, .int v.2.2.2.1), (5, .int v.2.2.2.2.1)] [] v.2.2.2.2.2 (f_X5_seatNext_16_lp n v) :=
  Sim.lp (V := Int32 × Int32 × Int32 × Int32 × Int32 × zHp) (Lf := fun v => [(0, .ref 161), (1, .int v.1), (2, .int v.2.1), (3, .int v.2.2.1), (4, .int v.2.2.2.1), (5, .int v.2.2.2.2.1)]) (sf := fun v => []) (hf := fun v => v.2.2.2.2.2) (fun k16 H16 v => f_X5_seatNext_16_s k16 H16 v.1 v.2.1 v.2.2.1 v.2.2.2.1 v.2.2.2.2.1 v.2.2.2.2.2) n v
def f_X5_seatNext  (a1 : Int32) (a2 : Int32) (a3 : Int32) (h : zHp) : Option (zHp) := zix ((a1 * (7 : Int32)) + a2) 896 (zlt (h 164 ((a1 * (7 : Int32)) + a2).toNatClampNeg) fun x1 => f_X5_seatNext_16_lp  zN (a1, a2, a3, x1, (0 : Int32), h))
set_option maxHeartbeats 4000000 in
set_option maxRecDepth 100000 in
theorem s_X5_seatNext  (a1 : Int32) (a2 : Int32) (a3 : Int32) (h : zHp) : Fn wX mX5_seatNext 0 rV [.ref 161, .int a1, .int a2, .int a3] h (f_X5_seatNext a1 a2 a3 h) := by
  refine Fn.of rfl (Nat.le_of_ble_eq_true rfl) ?_
  unfold f_X5_seatNext
  refine Sim.aload_n 0 dX5_seatNext_0 rfl ?_
  refine Sim.getR (j := 164) fl_X5_18 dX5_seatNext_1 xR_161_3 ?_
  refine Sim.iload_n 1 dX5_seatNext_4 rfl ?_
  refine Sim.bipush (v := (7 : Int32)) dX5_seatNext_5 rfl ?_
  refine Sim.imul dX5_seatNext_7 ?_
  refine Sim.iload_n 2 dX5_seatNext_8 rfl ?_
  refine Sim.iadd dX5_seatNext_9 ?_
  refine Sim.iald (n := 896) dX5_seatNext_10 xA_164 ?_
  refine Sim.lti (fun x1 => ?_)
  refine Sim.istore (L' := [(4, .int x1), (0, .ref 161), (1, .int a1), (2, .int a2), (3, .int a3)]) dX5_seatNext_11 (Nat.le_of_ble_eq_true rfl) rfl ?_
  refine Sim.iconst (v := (0 : Int32)) dX5_seatNext_13 rfl ?_
  refine Sim.istore (L' := [(5, .int (0 : Int32)), (4, .int x1), (0, .ref 161), (1, .int a1), (2, .int a2), (3, .int a3)]) dX5_seatNext_14 (Nat.le_of_ble_eq_true rfl) rfl ?_
  refine Sim.locs [2, 3, 4, 5, 1, 0] rfl ?_
  exact f_X5_seatNext_16_ls  zN (a1, a2, a3, x1, (0 : Int32), h)
theorem mv_X5_seatNext : zMV mX5_seatNext 3 := ⟨⟨zTb_in 1088 (by decide +kernel) rfl, zTb_in 147 (by decide +kernel) rfl, ⟨by decide +kernel, by decide +kernel⟩, by decide +kernel⟩, zTb_in 1087 (by decide +kernel) rfl, zTb_in 31 (by decide +kernel) rfl⟩
