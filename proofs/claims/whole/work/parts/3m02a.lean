-- ===== RockingPorchModel.readNumber(II)I
abbrev mX11_readNumber : zMt := (yX11_readNumber, cX11_readNumber, 4, some .int)
theorem dX11_readNumber_0 : decode cX11_readNumber 0 = .ok (.aload_n 0, 1) := by decide +kernel
theorem dX11_readNumber_1 : decode cX11_readNumber 1 = .ok (.getfield 187, 3) := by decide +kernel
theorem dX11_readNumber_4 : decode cX11_readNumber 4 = .ok (.iconst 3, 1) := by decide +kernel
theorem dX11_readNumber_5 : decode cX11_readNumber 5 = .ok (.if_icmp .eq 9, 3) := by decide +kernel
theorem dX11_readNumber_8 : decode cX11_readNumber 8 = .ok (.aload_n 0, 1) := by decide +kernel
theorem dX11_readNumber_9 : decode cX11_readNumber 9 = .ok (.iconst 1, 1) := by decide +kernel
theorem dX11_readNumber_10 : decode cX11_readNumber 10 = .ok (.invokevirtual 218, 3) := by decide +kernel
theorem dX11_readNumber_13 : decode cX11_readNumber 13 = .ok (.ireturn, 1) := by decide +kernel
theorem dX11_readNumber_14 : decode cX11_readNumber 14 = .ok (.aload_n 0, 1) := by decide +kernel
theorem dX11_readNumber_15 : decode cX11_readNumber 15 = .ok (.aload_n 0, 1) := by decide +kernel
theorem dX11_readNumber_16 : decode cX11_readNumber 16 = .ok (.getfield 190, 3) := by decide +kernel
theorem dX11_readNumber_19 : decode cX11_readNumber 19 = .ok (.iload_n 1, 1) := by decide +kernel
theorem dX11_readNumber_20 : decode cX11_readNumber 20 = .ok (.iload_n 2, 1) := by decide +kernel
theorem dX11_readNumber_21 : decode cX11_readNumber 21 = .ok (.invokevirtual 154, 3) := by decide +kernel
theorem dX11_readNumber_24 : decode cX11_readNumber 24 = .ok (.ifCond .ne 9, 3) := by decide +kernel
theorem dX11_readNumber_27 : decode cX11_readNumber 27 = .ok (.aload_n 0, 1) := by decide +kernel
theorem dX11_readNumber_28 : decode cX11_readNumber 28 = .ok (.iconst 2, 1) := by decide +kernel
theorem dX11_readNumber_29 : decode cX11_readNumber 29 = .ok (.invokevirtual 218, 3) := by decide +kernel
theorem dX11_readNumber_32 : decode cX11_readNumber 32 = .ok (.ireturn, 1) := by decide +kernel
theorem dX11_readNumber_33 : decode cX11_readNumber 33 = .ok (.aload_n 0, 1) := by decide +kernel
theorem dX11_readNumber_34 : decode cX11_readNumber 34 = .ok (.getfield 190, 3) := by decide +kernel
theorem dX11_readNumber_37 : decode cX11_readNumber 37 = .ok (.istore_n 3, 1) := by decide +kernel
theorem dX11_readNumber_38 : decode cX11_readNumber 38 = .ok (.aload_n 0, 1) := by decide +kernel
theorem dX11_readNumber_39 : decode cX11_readNumber 39 = .ok (.invokevirtual 224, 3) := by decide +kernel
theorem dX11_readNumber_42 : decode cX11_readNumber 42 = .ok (.iload_n 3, 1) := by decide +kernel
theorem dX11_readNumber_43 : decode cX11_readNumber 43 = .ok (.ireturn, 1) := by decide +kernel
def f_X11_readNumber  (a1 : Int32) (a2 : Int32) (h : zHp) : Option (Int32 × zHp) := (if (h 0 15) = (3 : Int32) then (f_X11_isIn (h 0 16) a1 a2 h).bind fun x1 => (if x1.1 = 0 then (f_X11_errs (2 : Int32) x1.2).bind fun x2 => some (x2.1, x2.2) else zlt (x1.2 0 16) fun x3 => (f_X11_reads x1.2).bind fun x4 => some (x3, x4)) else (f_X11_errs (1 : Int32) h).bind fun x5 => some (x5.1, x5.2))
set_option maxHeartbeats 4000000 in
set_option maxRecDepth 100000 in
theorem s_X11_readNumber  (a1 : Int32) (a2 : Int32) (h : zHp) : Fn wM mX11_readNumber 3 rI [.ref 0, .int a1, .int a2] h (f_X11_readNumber a1 a2 h) := by
  refine Fn.of rfl (Nat.le_of_ble_eq_true rfl) ?_
  unfold f_X11_readNumber
  refine Sim.aload_n 0 dX11_readNumber_0 rfl ?_
  refine Sim.getI fl_X11_187 dX11_readNumber_1 mI_15 ?_
  refine Sim.iconst (v := (3 : Int32)) dX11_readNumber_4 rfl ?_
  refine Sim.icmp_eq 14 dX11_readNumber_5 rfl ?_ ?_
  · refine Sim.aload_n 0 dX11_readNumber_14 rfl ?_
    refine Sim.aload_n 0 dX11_readNumber_15 rfl ?_
    refine Sim.getI fl_X11_190 dX11_readNumber_16 mI_16 ?_
    refine Sim.iload_n 1 dX11_readNumber_19 rfl ?_
    refine Sim.iload_n 2 dX11_readNumber_20 rfl ?_
    refine Sim.callV3I (d1 := 0) (s_X11_isIn (h 0 16) a1 a2 h) dX11_readNumber_21 ml_X11_154 mv_X11_isIn mC (Nat.le_of_ble_eq_true rfl) (Nat.le_of_ble_eq_true rfl) (Nat.le_of_ble_eq_true rfl) (fun x1 => ?_)
    refine Sim.if_ne 33 dX11_readNumber_24 rfl ?_ ?_
    · refine Sim.aload_n 0 dX11_readNumber_27 rfl ?_
      refine Sim.iconst (v := (2 : Int32)) dX11_readNumber_28 rfl ?_
      refine Sim.callV1I (d1 := 0) (s_X11_errs (2 : Int32) x1.2) dX11_readNumber_29 ml_X11_218 mv_X11_errs mC (Nat.le_of_ble_eq_true rfl) (Nat.le_of_ble_eq_true rfl) (Nat.le_of_ble_eq_true rfl) (fun x2 => ?_)
      exact Sim.iret dX11_readNumber_32 rfl
    · refine Sim.aload_n 0 dX11_readNumber_33 rfl ?_
      refine Sim.getI fl_X11_190 dX11_readNumber_34 mI_16 ?_
      refine Sim.lti (fun x3 => ?_)
      refine Sim.istore_n (L' := [(3, .int x3), (0, .ref 0), (1, .int a1), (2, .int a2)]) dX11_readNumber_37 (Nat.le_of_ble_eq_true rfl) rfl ?_
      refine Sim.aload_n 1 dX11_readNumber_38 rfl ?_
      refine Sim.callV0U (d1 := 2) (s_X11_reads x1.2) dX11_readNumber_39 ml_X11_224 mv_X11_reads mC (Nat.le_of_ble_eq_true rfl) (Nat.le_of_ble_eq_true rfl) (Nat.le_of_ble_eq_true rfl) (fun x4 => ?_)
      refine Sim.iload_n 0 dX11_readNumber_42 rfl ?_
      exact Sim.iret dX11_readNumber_43 rfl
  · refine Sim.aload_n 0 dX11_readNumber_8 rfl ?_
    refine Sim.iconst (v := (1 : Int32)) dX11_readNumber_9 rfl ?_
    refine Sim.callV1I (d1 := 0) (s_X11_errs (1 : Int32) h) dX11_readNumber_10 ml_X11_218 mv_X11_errs mC (Nat.le_of_ble_eq_true rfl) (Nat.le_of_ble_eq_true rfl) (Nat.le_of_ble_eq_true rfl) (fun x5 => ?_)
    exact Sim.iret dX11_readNumber_13 rfl
theorem mv_X11_readNumber : zMV mX11_readNumber 2 := ⟨⟨zTb_in 1618 (by decide +kernel) rfl, zTb_in 148 (by decide +kernel) rfl, ⟨by decide +kernel, by decide +kernel⟩, by decide +kernel⟩, zTb_in 1617 (by decide +kernel) rfl, zTb_in 58 (by decide +kernel) rfl⟩
-- ===== RockingPorchModel.readMark(I)I
abbrev mX11_readMark : zMt := (yX11_readMark, cX11_readMark, 2, some .int)
theorem dX11_readMark_0 : decode cX11_readMark 0 = .ok (.aload_n 0, 1) := by decide +kernel
theorem dX11_readMark_1 : decode cX11_readMark 1 = .ok (.iload_n 1, 1) := by decide +kernel
theorem dX11_readMark_2 : decode cX11_readMark 2 = .ok (.invokevirtual 231, 3) := by decide +kernel
theorem dX11_readMark_5 : decode cX11_readMark 5 = .ok (.ifCond .ne 9, 3) := by decide +kernel
theorem dX11_readMark_8 : decode cX11_readMark 8 = .ok (.aload_n 0, 1) := by decide +kernel
theorem dX11_readMark_9 : decode cX11_readMark 9 = .ok (.iconst 1, 1) := by decide +kernel
theorem dX11_readMark_10 : decode cX11_readMark 10 = .ok (.invokevirtual 218, 3) := by decide +kernel
theorem dX11_readMark_13 : decode cX11_readMark 13 = .ok (.ireturn, 1) := by decide +kernel
theorem dX11_readMark_14 : decode cX11_readMark 14 = .ok (.aload_n 0, 1) := by decide +kernel
theorem dX11_readMark_15 : decode cX11_readMark 15 = .ok (.invokevirtual 224, 3) := by decide +kernel
theorem dX11_readMark_18 : decode cX11_readMark 18 = .ok (.iconst 0, 1) := by decide +kernel
theorem dX11_readMark_19 : decode cX11_readMark 19 = .ok (.ireturn, 1) := by decide +kernel
def f_X11_readMark  (a1 : Int32) (h : zHp) : Option (Int32 × zHp) := (f_X11_isSign a1 h).bind fun x1 => (if x1.1 = 0 then (f_X11_errs (1 : Int32) x1.2).bind fun x2 => some (x2.1, x2.2) else (f_X11_reads x1.2).bind fun x3 => some ((0 : Int32), x3))
set_option maxHeartbeats 4000000 in
set_option maxRecDepth 100000 in
theorem s_X11_readMark  (a1 : Int32) (h : zHp) : Fn wM mX11_readMark 3 rI [.ref 0, .int a1] h (f_X11_readMark a1 h) := by
  refine Fn.of rfl (Nat.le_of_ble_eq_true rfl) ?_
  unfold f_X11_readMark
  refine Sim.aload_n 0 dX11_readMark_0 rfl ?_
  refine Sim.iload_n 1 dX11_readMark_1 rfl ?_
  refine Sim.callV1I (d1 := 0) (s_X11_isSign a1 h) dX11_readMark_2 ml_X11_231 mv_X11_isSign mC (Nat.le_of_ble_eq_true rfl) (Nat.le_of_ble_eq_true rfl) (Nat.le_of_ble_eq_true rfl) (fun x1 => ?_)
  refine Sim.if_ne 14 dX11_readMark_5 rfl ?_ ?_
  · refine Sim.aload_n 0 dX11_readMark_8 rfl ?_
    refine Sim.iconst (v := (1 : Int32)) dX11_readMark_9 rfl ?_
    refine Sim.callV1I (d1 := 0) (s_X11_errs (1 : Int32) x1.2) dX11_readMark_10 ml_X11_218 mv_X11_errs mC (Nat.le_of_ble_eq_true rfl) (Nat.le_of_ble_eq_true rfl) (Nat.le_of_ble_eq_true rfl) (fun x2 => ?_)
    exact Sim.iret dX11_readMark_13 rfl
  · refine Sim.aload_n 0 dX11_readMark_14 rfl ?_
    refine Sim.callV0U (d1 := 2) (s_X11_reads x1.2) dX11_readMark_15 ml_X11_224 mv_X11_reads mC (Nat.le_of_ble_eq_true rfl) (Nat.le_of_ble_eq_true rfl) (Nat.le_of_ble_eq_true rfl) (fun x3 => ?_)
    refine Sim.iconst (v := (0 : Int32)) dX11_readMark_18 rfl ?_
    exact Sim.iret dX11_readMark_19 rfl
theorem mv_X11_readMark : zMV mX11_readMark 1 := ⟨⟨zTb_in 1622 (by decide +kernel) rfl, zTb_in 148 (by decide +kernel) rfl, ⟨by decide +kernel, by decide +kernel⟩, by decide +kernel⟩, zTb_in 1621 (by decide +kernel) rfl, zTb_in 59 (by decide +kernel) rfl⟩
-- ===== RockingPorchModel.readTold(III)I
abbrev mX11_readTold : zMt := (yX11_readTold, cX11_readTold, 4, some .int)
theorem ml_X11_268 : Cond.methodLink RX11 268 yX11_readNumber ∈ zTb := zTb_in 1615 (by decide +kernel) rfl
theorem dX11_readTold_0 : decode cX11_readTold 0 = .ok (.aload_n 0, 1) := by decide +kernel
theorem dX11_readTold_1 : decode cX11_readTold 1 = .ok (.iload_n 1, 1) := by decide +kernel
theorem dX11_readTold_2 : decode cX11_readTold 2 = .ok (.invokevirtual 246, 3) := by decide +kernel
theorem dX11_readTold_5 : decode cX11_readTold 5 = .ok (.ifCond .ne 9, 3) := by decide +kernel
theorem dX11_readTold_8 : decode cX11_readTold 8 = .ok (.aload_n 0, 1) := by decide +kernel
theorem dX11_readTold_9 : decode cX11_readTold 9 = .ok (.iconst 1, 1) := by decide +kernel
theorem dX11_readTold_10 : decode cX11_readTold 10 = .ok (.invokevirtual 218, 3) := by decide +kernel
theorem dX11_readTold_13 : decode cX11_readTold 13 = .ok (.ireturn, 1) := by decide +kernel
theorem dX11_readTold_14 : decode cX11_readTold 14 = .ok (.aload_n 0, 1) := by decide +kernel
theorem dX11_readTold_15 : decode cX11_readTold 15 = .ok (.invokevirtual 224, 3) := by decide +kernel
theorem dX11_readTold_18 : decode cX11_readTold 18 = .ok (.aload_n 0, 1) := by decide +kernel
theorem dX11_readTold_19 : decode cX11_readTold 19 = .ok (.iload_n 2, 1) := by decide +kernel
theorem dX11_readTold_20 : decode cX11_readTold 20 = .ok (.iload_n 3, 1) := by decide +kernel
theorem dX11_readTold_21 : decode cX11_readTold 21 = .ok (.invokevirtual 268, 3) := by decide +kernel
theorem dX11_readTold_24 : decode cX11_readTold 24 = .ok (.ireturn, 1) := by decide +kernel
def f_X11_readTold  (a1 : Int32) (a2 : Int32) (a3 : Int32) (h : zHp) : Option (Int32 × zHp) := (f_X11_isWord a1 h).bind fun x1 => (if x1.1 = 0 then (f_X11_errs (1 : Int32) x1.2).bind fun x2 => some (x2.1, x2.2) else (f_X11_reads x1.2).bind fun x3 => (f_X11_readNumber a2 a3 x3).bind fun x4 => some (x4.1, x4.2))
set_option maxHeartbeats 4000000 in
set_option maxRecDepth 100000 in
theorem s_X11_readTold  (a1 : Int32) (a2 : Int32) (a3 : Int32) (h : zHp) : Fn wM mX11_readTold 4 rI [.ref 0, .int a1, .int a2, .int a3] h (f_X11_readTold a1 a2 a3 h) := by
  refine Fn.of rfl (Nat.le_of_ble_eq_true rfl) ?_
  unfold f_X11_readTold
  refine Sim.aload_n 0 dX11_readTold_0 rfl ?_
  refine Sim.iload_n 1 dX11_readTold_1 rfl ?_
  refine Sim.callV1I (d1 := 0) (s_X11_isWord a1 h) dX11_readTold_2 ml_X11_246 mv_X11_isWord mC (Nat.le_of_ble_eq_true rfl) (Nat.le_of_ble_eq_true rfl) (Nat.le_of_ble_eq_true rfl) (fun x1 => ?_)
  refine Sim.if_ne 14 dX11_readTold_5 rfl ?_ ?_
  · refine Sim.aload_n 0 dX11_readTold_8 rfl ?_
    refine Sim.iconst (v := (1 : Int32)) dX11_readTold_9 rfl ?_
    refine Sim.callV1I (d1 := 0) (s_X11_errs (1 : Int32) x1.2) dX11_readTold_10 ml_X11_218 mv_X11_errs mC (Nat.le_of_ble_eq_true rfl) (Nat.le_of_ble_eq_true rfl) (Nat.le_of_ble_eq_true rfl) (fun x2 => ?_)
    exact Sim.iret dX11_readTold_13 rfl
  · refine Sim.aload_n 0 dX11_readTold_14 rfl ?_
    refine Sim.callV0U (d1 := 2) (s_X11_reads x1.2) dX11_readTold_15 ml_X11_224 mv_X11_reads mC (Nat.le_of_ble_eq_true rfl) (Nat.le_of_ble_eq_true rfl) (Nat.le_of_ble_eq_true rfl) (fun x3 => ?_)
    refine Sim.aload_n 0 dX11_readTold_18 rfl ?_
    refine Sim.iload_n 2 dX11_readTold_19 rfl ?_
    refine Sim.iload_n 3 dX11_readTold_20 rfl ?_
    refine Sim.callV2I (d1 := 3) (s_X11_readNumber a2 a3 x3) dX11_readTold_21 ml_X11_268 mv_X11_readNumber mC (Nat.le_of_ble_eq_true rfl) (Nat.le_of_ble_eq_true rfl) (Nat.le_of_ble_eq_true rfl) (fun x4 => ?_)
    exact Sim.iret dX11_readTold_24 rfl
theorem mv_X11_readTold : zMV mX11_readTold 3 := ⟨⟨zTb_in 1614 (by decide +kernel) rfl, zTb_in 148 (by decide +kernel) rfl, ⟨by decide +kernel, by decide +kernel⟩, by decide +kernel⟩, zTb_in 1613 (by decide +kernel) rfl, zTb_in 57 (by decide +kernel) rfl⟩
-- ===== RockingPorchModel.readCall(I)I
abbrev mX11_readCall : zMt := (yX11_readCall, cX11_readCall, 2, some .int)
theorem fl_X11_62 : zF RX11 62 11 35 := ⟨RX11, TX11, 69, rfl, Nat.le_of_ble_eq_true rfl, zTb_in 1334 (by decide +kernel) rfl, in_X11⟩
theorem ml_X11_271 : Cond.methodLink RX11 271 yX11_readTold ∈ zTb := zTb_in 1611 (by decide +kernel) rfl
theorem ml_X11_275 : Cond.methodLink RX11 275 yX11_readMark ∈ zTb := zTb_in 1619 (by decide +kernel) rfl
theorem dX11_readCall_0 : decode cX11_readCall 0 = .ok (.aload_n 0, 1) := by decide +kernel
theorem dX11_readCall_1 : decode cX11_readCall 1 = .ok (.getfield 62, 3) := by decide +kernel
theorem dX11_readCall_4 : decode cX11_readCall 4 = .ok (.iload_n 1, 1) := by decide +kernel
theorem dX11_readCall_5 : decode cX11_readCall 5 = .ok (.aload_n 0, 1) := by decide +kernel
theorem dX11_readCall_6 : decode cX11_readCall 6 = .ok (.bipush 16, 2) := by decide +kernel
theorem dX11_readCall_8 : decode cX11_readCall 8 = .ok (.iconst 0, 1) := by decide +kernel
theorem dX11_readCall_9 : decode cX11_readCall 9 = .ok (.sipush 999, 3) := by decide +kernel
theorem dX11_readCall_12 : decode cX11_readCall 12 = .ok (.invokevirtual 271, 3) := by decide +kernel
theorem dX11_readCall_15 : decode cX11_readCall 15 = .ok (.iastore, 1) := by decide +kernel
theorem dX11_readCall_16 : decode cX11_readCall 16 = .ok (.aload_n 0, 1) := by decide +kernel
theorem dX11_readCall_17 : decode cX11_readCall 17 = .ok (.getfield 62, 3) := by decide +kernel
theorem dX11_readCall_20 : decode cX11_readCall 20 = .ok (.iload_n 1, 1) := by decide +kernel
theorem dX11_readCall_21 : decode cX11_readCall 21 = .ok (.iaload, 1) := by decide +kernel
theorem dX11_readCall_22 : decode cX11_readCall 22 = .ok (.iconst (-1), 1) := by decide +kernel
theorem dX11_readCall_23 : decode cX11_readCall 23 = .ok (.if_icmp .ne 5, 3) := by decide +kernel
theorem dX11_readCall_26 : decode cX11_readCall 26 = .ok (.iconst (-1), 1) := by decide +kernel
theorem dX11_readCall_27 : decode cX11_readCall 27 = .ok (.ireturn, 1) := by decide +kernel
theorem dX11_readCall_28 : decode cX11_readCall 28 = .ok (.aload_n 0, 1) := by decide +kernel
theorem dX11_readCall_29 : decode cX11_readCall 29 = .ok (.getfield 62, 3) := by decide +kernel
theorem dX11_readCall_32 : decode cX11_readCall 32 = .ok (.iload_n 1, 1) := by decide +kernel
theorem dX11_readCall_33 : decode cX11_readCall 33 = .ok (.iconst 1, 1) := by decide +kernel
theorem dX11_readCall_34 : decode cX11_readCall 34 = .ok (.iadd, 1) := by decide +kernel
theorem dX11_readCall_35 : decode cX11_readCall 35 = .ok (.aload_n 0, 1) := by decide +kernel
theorem dX11_readCall_36 : decode cX11_readCall 36 = .ok (.bipush 17, 2) := by decide +kernel
theorem dX11_readCall_38 : decode cX11_readCall 38 = .ok (.iconst 0, 1) := by decide +kernel
theorem dX11_readCall_39 : decode cX11_readCall 39 = .ok (.aload_n 0, 1) := by decide +kernel
theorem dX11_readCall_40 : decode cX11_readCall 40 = .ok (.getfield 143, 3) := by decide +kernel
theorem dX11_readCall_43 : decode cX11_readCall 43 = .ok (.iconst 1, 1) := by decide +kernel
theorem dX11_readCall_44 : decode cX11_readCall 44 = .ok (.isub, 1) := by decide +kernel
theorem dX11_readCall_45 : decode cX11_readCall 45 = .ok (.invokevirtual 271, 3) := by decide +kernel
theorem dX11_readCall_48 : decode cX11_readCall 48 = .ok (.iastore, 1) := by decide +kernel
theorem dX11_readCall_49 : decode cX11_readCall 49 = .ok (.aload_n 0, 1) := by decide +kernel
theorem dX11_readCall_50 : decode cX11_readCall 50 = .ok (.getfield 62, 3) := by decide +kernel
theorem dX11_readCall_53 : decode cX11_readCall 53 = .ok (.iload_n 1, 1) := by decide +kernel
theorem dX11_readCall_54 : decode cX11_readCall 54 = .ok (.iconst 1, 1) := by decide +kernel
theorem dX11_readCall_55 : decode cX11_readCall 55 = .ok (.iadd, 1) := by decide +kernel
theorem dX11_readCall_56 : decode cX11_readCall 56 = .ok (.iaload, 1) := by decide +kernel
theorem dX11_readCall_57 : decode cX11_readCall 57 = .ok (.iconst (-1), 1) := by decide +kernel
theorem dX11_readCall_58 : decode cX11_readCall 58 = .ok (.if_icmp .ne 5, 3) := by decide +kernel
theorem dX11_readCall_61 : decode cX11_readCall 61 = .ok (.iconst (-1), 1) := by decide +kernel
theorem dX11_readCall_62 : decode cX11_readCall 62 = .ok (.ireturn, 1) := by decide +kernel
theorem dX11_readCall_63 : decode cX11_readCall 63 = .ok (.aload_n 0, 1) := by decide +kernel
theorem dX11_readCall_64 : decode cX11_readCall 64 = .ok (.getfield 187, 3) := by decide +kernel
theorem dX11_readCall_67 : decode cX11_readCall 67 = .ok (.iconst 2, 1) := by decide +kernel
theorem dX11_readCall_68 : decode cX11_readCall 68 = .ok (.if_icmp .ne 18, 3) := by decide +kernel
theorem dX11_readCall_71 : decode cX11_readCall 71 = .ok (.aload_n 0, 1) := by decide +kernel
theorem dX11_readCall_72 : decode cX11_readCall 72 = .ok (.aload_n 0, 1) := by decide +kernel
theorem dX11_readCall_73 : decode cX11_readCall 73 = .ok (.getfield 190, 3) := by decide +kernel
theorem dX11_readCall_76 : decode cX11_readCall 76 = .ok (.bipush 18, 2) := by decide +kernel
theorem dX11_readCall_78 : decode cX11_readCall 78 = .ok (.bipush 21, 2) := by decide +kernel
theorem dX11_readCall_80 : decode cX11_readCall 80 = .ok (.invokevirtual 154, 3) := by decide +kernel
theorem dX11_readCall_83 : decode cX11_readCall 83 = .ok (.ifCond .ne 9, 3) := by decide +kernel
theorem dX11_readCall_86 : decode cX11_readCall 86 = .ok (.aload_n 0, 1) := by decide +kernel
theorem dX11_readCall_87 : decode cX11_readCall 87 = .ok (.iconst 1, 1) := by decide +kernel
theorem dX11_readCall_88 : decode cX11_readCall 88 = .ok (.invokevirtual 218, 3) := by decide +kernel
theorem dX11_readCall_91 : decode cX11_readCall 91 = .ok (.ireturn, 1) := by decide +kernel
theorem dX11_readCall_92 : decode cX11_readCall 92 = .ok (.aload_n 0, 1) := by decide +kernel
theorem dX11_readCall_93 : decode cX11_readCall 93 = .ok (.getfield 62, 3) := by decide +kernel
theorem dX11_readCall_96 : decode cX11_readCall 96 = .ok (.iload_n 1, 1) := by decide +kernel
theorem dX11_readCall_97 : decode cX11_readCall 97 = .ok (.iconst 2, 1) := by decide +kernel
theorem dX11_readCall_98 : decode cX11_readCall 98 = .ok (.iadd, 1) := by decide +kernel
theorem dX11_readCall_99 : decode cX11_readCall 99 = .ok (.aload_n 0, 1) := by decide +kernel
theorem dX11_readCall_100 : decode cX11_readCall 100 = .ok (.getfield 190, 3) := by decide +kernel
theorem dX11_readCall_103 : decode cX11_readCall 103 = .ok (.bipush 18, 2) := by decide +kernel
theorem dX11_readCall_105 : decode cX11_readCall 105 = .ok (.isub, 1) := by decide +kernel
theorem dX11_readCall_106 : decode cX11_readCall 106 = .ok (.iastore, 1) := by decide +kernel
theorem dX11_readCall_107 : decode cX11_readCall 107 = .ok (.aload_n 0, 1) := by decide +kernel
theorem dX11_readCall_108 : decode cX11_readCall 108 = .ok (.invokevirtual 224, 3) := by decide +kernel
theorem dX11_readCall_111 : decode cX11_readCall 111 = .ok (.aload_n 0, 1) := by decide +kernel
theorem dX11_readCall_112 : decode cX11_readCall 112 = .ok (.getfield 62, 3) := by decide +kernel
theorem dX11_readCall_115 : decode cX11_readCall 115 = .ok (.iload_n 1, 1) := by decide +kernel
theorem dX11_readCall_116 : decode cX11_readCall 116 = .ok (.iconst 3, 1) := by decide +kernel
theorem dX11_readCall_117 : decode cX11_readCall 117 = .ok (.iadd, 1) := by decide +kernel
theorem dX11_readCall_118 : decode cX11_readCall 118 = .ok (.aload_n 0, 1) := by decide +kernel
theorem dX11_readCall_119 : decode cX11_readCall 119 = .ok (.getfield 62, 3) := by decide +kernel
theorem dX11_readCall_122 : decode cX11_readCall 122 = .ok (.iload_n 1, 1) := by decide +kernel
theorem dX11_readCall_123 : decode cX11_readCall 123 = .ok (.iconst 2, 1) := by decide +kernel
theorem dX11_readCall_124 : decode cX11_readCall 124 = .ok (.iadd, 1) := by decide +kernel
theorem dX11_readCall_125 : decode cX11_readCall 125 = .ok (.iaload, 1) := by decide +kernel
theorem dX11_readCall_126 : decode cX11_readCall 126 = .ok (.ifCond .ne 17, 3) := by decide +kernel
theorem dX11_readCall_129 : decode cX11_readCall 129 = .ok (.aload_n 0, 1) := by decide +kernel
theorem dX11_readCall_130 : decode cX11_readCall 130 = .ok (.iconst 0, 1) := by decide +kernel
theorem dX11_readCall_131 : decode cX11_readCall 131 = .ok (.aload_n 0, 1) := by decide +kernel
theorem dX11_readCall_132 : decode cX11_readCall 132 = .ok (.getfield 140, 3) := by decide +kernel
theorem dX11_readCall_135 : decode cX11_readCall 135 = .ok (.iconst 1, 1) := by decide +kernel
theorem dX11_readCall_136 : decode cX11_readCall 136 = .ok (.isub, 1) := by decide +kernel
theorem dX11_readCall_137 : decode cX11_readCall 137 = .ok (.invokevirtual 268, 3) := by decide +kernel
theorem dX11_readCall_140 : decode cX11_readCall 140 = .ok (.goto 4, 3) := by decide +kernel
theorem dX11_readCall_143 : decode cX11_readCall 143 = .ok (.iconst 0, 1) := by decide +kernel
theorem dX11_readCall_144 : decode cX11_readCall 144 = .ok (.iastore, 1) := by decide +kernel
theorem dX11_readCall_145 : decode cX11_readCall 145 = .ok (.aload_n 0, 1) := by decide +kernel
theorem dX11_readCall_146 : decode cX11_readCall 146 = .ok (.getfield 62, 3) := by decide +kernel
theorem dX11_readCall_149 : decode cX11_readCall 149 = .ok (.iload_n 1, 1) := by decide +kernel
theorem dX11_readCall_150 : decode cX11_readCall 150 = .ok (.iconst 3, 1) := by decide +kernel
theorem dX11_readCall_151 : decode cX11_readCall 151 = .ok (.iadd, 1) := by decide +kernel
theorem dX11_readCall_152 : decode cX11_readCall 152 = .ok (.iaload, 1) := by decide +kernel
theorem dX11_readCall_153 : decode cX11_readCall 153 = .ok (.iconst (-1), 1) := by decide +kernel
theorem dX11_readCall_154 : decode cX11_readCall 154 = .ok (.if_icmp .ne 7, 3) := by decide +kernel
theorem dX11_readCall_157 : decode cX11_readCall 157 = .ok (.iconst (-1), 1) := by decide +kernel
theorem dX11_readCall_158 : decode cX11_readCall 158 = .ok (.goto 9, 3) := by decide +kernel
theorem dX11_readCall_161 : decode cX11_readCall 161 = .ok (.aload_n 0, 1) := by decide +kernel
theorem dX11_readCall_162 : decode cX11_readCall 162 = .ok (.bipush 59, 2) := by decide +kernel
theorem dX11_readCall_164 : decode cX11_readCall 164 = .ok (.invokevirtual 275, 3) := by decide +kernel
theorem dX11_readCall_167 : decode cX11_readCall 167 = .ok (.ireturn, 1) := by decide +kernel
def f_X11_readCall_144   (v1 : Int32) (s0 : Int32) (s1 : Int32) (h : zHp) : Option (Int32 × zHp) := zix s1 128 (zlt (zst h 17 s1.toNatClampNeg s0) fun h1 => zix (v1 + (3 : Int32)) 128 ((if (h1 17 (v1 + (3 : Int32)).toNatClampNeg) = (-1 : Int32) then some ((-1 : Int32), h1) else (f_X11_readMark (59 : Int32) h1).bind fun x2 => some (x2.1, x2.2))))
set_option maxHeartbeats 4000000 in
set_option maxRecDepth 100000 in
theorem f_X11_readCall_144_s  (v1 : Int32) (s0 : Int32) (s1 : Int32) (h : zHp) : Sim wM mX11_readCall 5 rI 144 [(0, .ref 0), (1, .int v1)] [.int s0, .int s1, .ref 17] h (f_X11_readCall_144 v1 s0 s1 h) := by
  unfold f_X11_readCall_144
  refine Sim.iast (n := 128) dX11_readCall_144 mA_17 ?_
  refine Sim.lth (fun h1 => ?_)
  refine Sim.aload_n 0 dX11_readCall_145 rfl ?_
  refine Sim.getR (j := 17) fl_X11_62 dX11_readCall_146 mR_35 ?_
  refine Sim.iload_n 1 dX11_readCall_149 rfl ?_
  refine Sim.iconst (v := (3 : Int32)) dX11_readCall_150 rfl ?_
  refine Sim.iadd dX11_readCall_151 ?_
  refine Sim.iald (n := 128) dX11_readCall_152 mA_17 ?_
  refine Sim.iconst (v := (-1 : Int32)) dX11_readCall_153 rfl ?_
  refine Sim.icmp_ne 161 dX11_readCall_154 rfl ?_ ?_
  · refine Sim.iconst (v := (-1 : Int32)) dX11_readCall_157 rfl ?_
    refine Sim.goto 167 dX11_readCall_158 rfl ?_
    exact Sim.iret dX11_readCall_167 rfl
  · refine Sim.aload_n 0 dX11_readCall_161 rfl ?_
    refine Sim.bipush (v := (59 : Int32)) dX11_readCall_162 rfl ?_
    refine Sim.callV1I (d1 := 3) (s_X11_readMark (59 : Int32) h1) dX11_readCall_164 ml_X11_275 mv_X11_readMark mC (Nat.le_of_ble_eq_true rfl) (Nat.le_of_ble_eq_true rfl) (Nat.le_of_ble_eq_true rfl) (fun x2 => ?_)
    exact Sim.iret dX11_readCall_167 rfl
def f_X11_readCall  (a1 : Int32) (h : zHp) : Option (Int32 × zHp) := (f_X11_readTold (16 : Int32) (0 : Int32) (999 : Int32) h).bind fun x1 => zix a1 128 (zlt (zst x1.2 17 a1.toNatClampNeg x1.1) fun h2 => zix a1 128 ((if (h2 17 a1.toNatClampNeg) = (-1 : Int32) then some ((-1 : Int32), h2) else (f_X11_readTold (17 : Int32) (0 : Int32) ((h2 0 7) - (1 : Int32)) h2).bind fun x3 => zix (a1 + (1 : Int32)) 128 (zlt (zst x3.2 17 (a1 + (1 : Int32)).toNatClampNeg x3.1) fun h4 => zix (a1 + (1 : Int32)) 128 ((if (h4 17 (a1 + (1 : Int32)).toNatClampNeg) = (-1 : Int32) then some ((-1 : Int32), h4) else (if (h4 0 15) = (2 : Int32) then (f_X11_isIn (h4 0 16) (18 : Int32) (21 : Int32) h4).bind fun x5 => (if x5.1 = 0 then (f_X11_errs (1 : Int32) x5.2).bind fun x6 => some (x6.1, x6.2) else zix (a1 + (2 : Int32)) 128 (zlt (zst x5.2 17 (a1 + (2 : Int32)).toNatClampNeg ((x5.2 0 16) - (18 : Int32))) fun h7 => (f_X11_reads h7).bind fun x8 => zix (a1 + (2 : Int32)) 128 ((if (x8 17 (a1 + (2 : Int32)).toNatClampNeg) = 0 then (f_X11_readNumber (0 : Int32) ((x8 0 6) - (1 : Int32)) x8).bind fun x9 => f_X11_readCall_144 a1 x9.1 (a1 + (3 : Int32)) x9.2 else f_X11_readCall_144 a1 (0 : Int32) (a1 + (3 : Int32)) x8)))) else (f_X11_errs (1 : Int32) h4).bind fun x10 => some (x10.1, x10.2))))))))
set_option maxHeartbeats 4000000 in
set_option maxRecDepth 100000 in
theorem s_X11_readCall  (a1 : Int32) (h : zHp) : Fn wM mX11_readCall 5 rI [.ref 0, .int a1] h (f_X11_readCall a1 h) := by
  refine Fn.of rfl (Nat.le_of_ble_eq_true rfl) ?_
  unfold f_X11_readCall
  refine Sim.aload_n 0 dX11_readCall_0 rfl ?_
  refine Sim.getR (j := 17) fl_X11_62 dX11_readCall_1 mR_35 ?_
  refine Sim.iload_n 1 dX11_readCall_4 rfl ?_
  refine Sim.aload_n 0 dX11_readCall_5 rfl ?_
  refine Sim.bipush (v := (16 : Int32)) dX11_readCall_6 rfl ?_
  refine Sim.iconst (v := (0 : Int32)) dX11_readCall_8 rfl ?_
  refine Sim.sipush (v := (999 : Int32)) dX11_readCall_9 rfl ?_
  refine Sim.callV3I (d1 := 4) (s_X11_readTold (16 : Int32) (0 : Int32) (999 : Int32) h) dX11_readCall_12 ml_X11_271 mv_X11_readTold mC (Nat.le_of_ble_eq_true rfl) (Nat.le_of_ble_eq_true rfl) (Nat.le_of_ble_eq_true rfl) (fun x1 => ?_)
  refine Sim.iast (n := 128) dX11_readCall_15 mA_17 ?_
  refine Sim.lth (fun h2 => ?_)
  refine Sim.aload_n 0 dX11_readCall_16 rfl ?_
  refine Sim.getR (j := 17) fl_X11_62 dX11_readCall_17 mR_35 ?_
  refine Sim.iload_n 1 dX11_readCall_20 rfl ?_
  refine Sim.iald (n := 128) dX11_readCall_21 mA_17 ?_
  refine Sim.iconst (v := (-1 : Int32)) dX11_readCall_22 rfl ?_
  refine Sim.icmp_ne 28 dX11_readCall_23 rfl ?_ ?_
  · refine Sim.iconst (v := (-1 : Int32)) dX11_readCall_26 rfl ?_
    exact Sim.iret dX11_readCall_27 rfl
  · refine Sim.aload_n 0 dX11_readCall_28 rfl ?_
    refine Sim.getR (j := 17) fl_X11_62 dX11_readCall_29 mR_35 ?_
    refine Sim.iload_n 1 dX11_readCall_32 rfl ?_
    refine Sim.iconst (v := (1 : Int32)) dX11_readCall_33 rfl ?_
    refine Sim.iadd dX11_readCall_34 ?_
    refine Sim.aload_n 0 dX11_readCall_35 rfl ?_
    refine Sim.bipush (v := (17 : Int32)) dX11_readCall_36 rfl ?_
    refine Sim.iconst (v := (0 : Int32)) dX11_readCall_38 rfl ?_
    refine Sim.aload_n 0 dX11_readCall_39 rfl ?_
    refine Sim.getI fl_X11_143 dX11_readCall_40 mI_7 ?_
    refine Sim.iconst (v := (1 : Int32)) dX11_readCall_43 rfl ?_
    refine Sim.isub dX11_readCall_44 ?_
    refine Sim.callV3I (d1 := 4) (s_X11_readTold (17 : Int32) (0 : Int32) ((h2 0 7) - (1 : Int32)) h2) dX11_readCall_45 ml_X11_271 mv_X11_readTold mC (Nat.le_of_ble_eq_true rfl) (Nat.le_of_ble_eq_true rfl) (Nat.le_of_ble_eq_true rfl) (fun x3 => ?_)
    refine Sim.iast (n := 128) dX11_readCall_48 mA_17 ?_
    refine Sim.lth (fun h4 => ?_)
    refine Sim.aload_n 0 dX11_readCall_49 rfl ?_
    refine Sim.getR (j := 17) fl_X11_62 dX11_readCall_50 mR_35 ?_
    refine Sim.iload_n 1 dX11_readCall_53 rfl ?_
    refine Sim.iconst (v := (1 : Int32)) dX11_readCall_54 rfl ?_
    refine Sim.iadd dX11_readCall_55 ?_
    refine Sim.iald (n := 128) dX11_readCall_56 mA_17 ?_
    refine Sim.iconst (v := (-1 : Int32)) dX11_readCall_57 rfl ?_
    refine Sim.icmp_ne 63 dX11_readCall_58 rfl ?_ ?_
    · refine Sim.iconst (v := (-1 : Int32)) dX11_readCall_61 rfl ?_
      exact Sim.iret dX11_readCall_62 rfl
    · refine Sim.aload_n 0 dX11_readCall_63 rfl ?_
      refine Sim.getI fl_X11_187 dX11_readCall_64 mI_15 ?_
      refine Sim.iconst (v := (2 : Int32)) dX11_readCall_67 rfl ?_
      refine Sim.icmp_ne 86 dX11_readCall_68 rfl ?_ ?_
      · refine Sim.aload_n 0 dX11_readCall_71 rfl ?_
        refine Sim.aload_n 0 dX11_readCall_72 rfl ?_
        refine Sim.getI fl_X11_190 dX11_readCall_73 mI_16 ?_
        refine Sim.bipush (v := (18 : Int32)) dX11_readCall_76 rfl ?_
        refine Sim.bipush (v := (21 : Int32)) dX11_readCall_78 rfl ?_
        refine Sim.callV3I (d1 := 0) (s_X11_isIn (h4 0 16) (18 : Int32) (21 : Int32) h4) dX11_readCall_80 ml_X11_154 mv_X11_isIn mC (Nat.le_of_ble_eq_true rfl) (Nat.le_of_ble_eq_true rfl) (Nat.le_of_ble_eq_true rfl) (fun x5 => ?_)
        refine Sim.if_ne 92 dX11_readCall_83 rfl ?_ ?_
        · refine Sim.aload_n 0 dX11_readCall_86 rfl ?_
          refine Sim.iconst (v := (1 : Int32)) dX11_readCall_87 rfl ?_
          refine Sim.callV1I (d1 := 0) (s_X11_errs (1 : Int32) x5.2) dX11_readCall_88 ml_X11_218 mv_X11_errs mC (Nat.le_of_ble_eq_true rfl) (Nat.le_of_ble_eq_true rfl) (Nat.le_of_ble_eq_true rfl) (fun x6 => ?_)
          exact Sim.iret dX11_readCall_91 rfl
        · refine Sim.aload_n 0 dX11_readCall_92 rfl ?_
          refine Sim.getR (j := 17) fl_X11_62 dX11_readCall_93 mR_35 ?_
          refine Sim.iload_n 1 dX11_readCall_96 rfl ?_
          refine Sim.iconst (v := (2 : Int32)) dX11_readCall_97 rfl ?_
          refine Sim.iadd dX11_readCall_98 ?_
          refine Sim.aload_n 0 dX11_readCall_99 rfl ?_
          refine Sim.getI fl_X11_190 dX11_readCall_100 mI_16 ?_
          refine Sim.bipush (v := (18 : Int32)) dX11_readCall_103 rfl ?_
          refine Sim.isub dX11_readCall_105 ?_
          refine Sim.iast (n := 128) dX11_readCall_106 mA_17 ?_
          refine Sim.lth (fun h7 => ?_)
          refine Sim.aload_n 0 dX11_readCall_107 rfl ?_
          refine Sim.callV0U (d1 := 2) (s_X11_reads h7) dX11_readCall_108 ml_X11_224 mv_X11_reads mC (Nat.le_of_ble_eq_true rfl) (Nat.le_of_ble_eq_true rfl) (Nat.le_of_ble_eq_true rfl) (fun x8 => ?_)
          refine Sim.aload_n 0 dX11_readCall_111 rfl ?_
          refine Sim.getR (j := 17) fl_X11_62 dX11_readCall_112 mR_35 ?_
          refine Sim.iload_n 1 dX11_readCall_115 rfl ?_
          refine Sim.iconst (v := (3 : Int32)) dX11_readCall_116 rfl ?_
          refine Sim.iadd dX11_readCall_117 ?_
          refine Sim.aload_n 0 dX11_readCall_118 rfl ?_
          refine Sim.getR (j := 17) fl_X11_62 dX11_readCall_119 mR_35 ?_
          refine Sim.iload_n 1 dX11_readCall_122 rfl ?_
          refine Sim.iconst (v := (2 : Int32)) dX11_readCall_123 rfl ?_
          refine Sim.iadd dX11_readCall_124 ?_
          refine Sim.iald (n := 128) dX11_readCall_125 mA_17 ?_
          refine Sim.if_ne 143 dX11_readCall_126 rfl ?_ ?_
          · refine Sim.aload_n 0 dX11_readCall_129 rfl ?_
            refine Sim.iconst (v := (0 : Int32)) dX11_readCall_130 rfl ?_
            refine Sim.aload_n 0 dX11_readCall_131 rfl ?_
            refine Sim.getI fl_X11_140 dX11_readCall_132 mI_6 ?_
            refine Sim.iconst (v := (1 : Int32)) dX11_readCall_135 rfl ?_
            refine Sim.isub dX11_readCall_136 ?_
            refine Sim.callV2I (d1 := 3) (s_X11_readNumber (0 : Int32) ((x8 0 6) - (1 : Int32)) x8) dX11_readCall_137 ml_X11_268 mv_X11_readNumber mC (Nat.le_of_ble_eq_true rfl) (Nat.le_of_ble_eq_true rfl) (Nat.le_of_ble_eq_true rfl) (fun x9 => ?_)
            refine Sim.goto 144 dX11_readCall_140 rfl ?_
            exact f_X11_readCall_144_s a1 x9.1 (a1 + (3 : Int32)) x9.2
          · refine Sim.iconst (v := (0 : Int32)) dX11_readCall_143 rfl ?_
            exact f_X11_readCall_144_s a1 (0 : Int32) (a1 + (3 : Int32)) x8
      · refine Sim.aload_n 0 dX11_readCall_86 rfl ?_
        refine Sim.iconst (v := (1 : Int32)) dX11_readCall_87 rfl ?_
        refine Sim.callV1I (d1 := 0) (s_X11_errs (1 : Int32) h4) dX11_readCall_88 ml_X11_218 mv_X11_errs mC (Nat.le_of_ble_eq_true rfl) (Nat.le_of_ble_eq_true rfl) (Nat.le_of_ble_eq_true rfl) (fun x10 => ?_)
        exact Sim.iret dX11_readCall_91 rfl
theorem mv_X11_readCall : zMV mX11_readCall 1 := ⟨⟨zTb_in 1610 (by decide +kernel) rfl, zTb_in 148 (by decide +kernel) rfl, ⟨by decide +kernel, by decide +kernel⟩, by decide +kernel⟩, zTb_in 1609 (by decide +kernel) rfl, zTb_in 56 (by decide +kernel) rfl⟩
-- ===== RockingPorchModel.readCalls()I
abbrev mX11_readCalls : zMt := (yX11_readCalls, cX11_readCalls, 2, some .int)
theorem ml_X11_278 : Cond.methodLink RX11 278 yX11_readCall ∈ zTb := zTb_in 1607 (by decide +kernel) rfl
theorem dX11_readCalls_0 : decode cX11_readCalls 0 = .ok (.iconst 0, 1) := by decide +kernel
theorem dX11_readCalls_1 : decode cX11_readCalls 1 = .ok (.istore_n 1, 1) := by decide +kernel
theorem dX11_readCalls_2 : decode cX11_readCalls 2 = .ok (.aload_n 0, 1) := by decide +kernel
theorem dX11_readCalls_3 : decode cX11_readCalls 3 = .ok (.bipush 16, 2) := by decide +kernel
theorem dX11_readCalls_5 : decode cX11_readCalls 5 = .ok (.invokevirtual 246, 3) := by decide +kernel
theorem dX11_readCalls_8 : decode cX11_readCalls 8 = .ok (.ifCond .eq 38, 3) := by decide +kernel
theorem dX11_readCalls_11 : decode cX11_readCalls 11 = .ok (.iload_n 1, 1) := by decide +kernel
theorem dX11_readCalls_12 : decode cX11_readCalls 12 = .ok (.bipush 16, 2) := by decide +kernel
theorem dX11_readCalls_14 : decode cX11_readCalls 14 = .ok (.if_icmp .ne 9, 3) := by decide +kernel
theorem dX11_readCalls_17 : decode cX11_readCalls 17 = .ok (.aload_n 0, 1) := by decide +kernel
theorem dX11_readCalls_18 : decode cX11_readCalls 18 = .ok (.iconst 3, 1) := by decide +kernel
theorem dX11_readCalls_19 : decode cX11_readCalls 19 = .ok (.invokevirtual 218, 3) := by decide +kernel
theorem dX11_readCalls_22 : decode cX11_readCalls 22 = .ok (.ireturn, 1) := by decide +kernel
theorem dX11_readCalls_23 : decode cX11_readCalls 23 = .ok (.aload_n 0, 1) := by decide +kernel
theorem dX11_readCalls_24 : decode cX11_readCalls 24 = .ok (.bipush 64, 2) := by decide +kernel
theorem dX11_readCalls_26 : decode cX11_readCalls 26 = .ok (.iconst 4, 1) := by decide +kernel
theorem dX11_readCalls_27 : decode cX11_readCalls 27 = .ok (.iload_n 1, 1) := by decide +kernel
theorem dX11_readCalls_28 : decode cX11_readCalls 28 = .ok (.imul, 1) := by decide +kernel
theorem dX11_readCalls_29 : decode cX11_readCalls 29 = .ok (.iadd, 1) := by decide +kernel
theorem dX11_readCalls_30 : decode cX11_readCalls 30 = .ok (.invokevirtual 278, 3) := by decide +kernel
theorem dX11_readCalls_33 : decode cX11_readCalls 33 = .ok (.iconst (-1), 1) := by decide +kernel
theorem dX11_readCalls_34 : decode cX11_readCalls 34 = .ok (.if_icmp .ne 5, 3) := by decide +kernel
theorem dX11_readCalls_37 : decode cX11_readCalls 37 = .ok (.iconst (-1), 1) := by decide +kernel
theorem dX11_readCalls_38 : decode cX11_readCalls 38 = .ok (.ireturn, 1) := by decide +kernel
theorem dX11_readCalls_39 : decode cX11_readCalls 39 = .ok (.iload_n 1, 1) := by decide +kernel
theorem dX11_readCalls_40 : decode cX11_readCalls 40 = .ok (.iconst 1, 1) := by decide +kernel
theorem dX11_readCalls_41 : decode cX11_readCalls 41 = .ok (.iadd, 1) := by decide +kernel
theorem dX11_readCalls_42 : decode cX11_readCalls 42 = .ok (.istore_n 1, 1) := by decide +kernel
theorem dX11_readCalls_43 : decode cX11_readCalls 43 = .ok (.goto (-41), 3) := by decide +kernel
theorem dX11_readCalls_46 : decode cX11_readCalls 46 = .ok (.aload_n 0, 1) := by decide +kernel
theorem dX11_readCalls_47 : decode cX11_readCalls 47 = .ok (.getfield 187, 3) := by decide +kernel
theorem dX11_readCalls_50 : decode cX11_readCalls 50 = .ok (.ifCond .ne 7, 3) := by decide +kernel
theorem dX11_readCalls_53 : decode cX11_readCalls 53 = .ok (.iload_n 1, 1) := by decide +kernel
theorem dX11_readCalls_54 : decode cX11_readCalls 54 = .ok (.goto 8, 3) := by decide +kernel
theorem dX11_readCalls_57 : decode cX11_readCalls 57 = .ok (.aload_n 0, 1) := by decide +kernel
theorem dX11_readCalls_58 : decode cX11_readCalls 58 = .ok (.iconst 1, 1) := by decide +kernel
theorem dX11_readCalls_59 : decode cX11_readCalls 59 = .ok (.invokevirtual 218, 3) := by decide +kernel
theorem dX11_readCalls_62 : decode cX11_readCalls 62 = .ok (.ireturn, 1) := by decide +kernel
def f_X11_readCalls_2  (k2 : Int32 × zHp → Option (Int32 × zHp)) (v1 : Int32) (h : zHp) : Option (Int32 × zHp) := (f_X11_isWord (16 : Int32) h).bind fun x1 => (if x1.1 = 0 then (if (x1.2 0 15) = 0 then some (v1, x1.2) else (f_X11_errs (1 : Int32) x1.2).bind fun x2 => some (x2.1, x2.2)) else (if v1 = (16 : Int32) then (f_X11_errs (3 : Int32) x1.2).bind fun x3 => some (x3.1, x3.2) else (f_X11_readCall ((64 : Int32) + ((4 : Int32) * v1)) x1.2).bind fun x4 => (if x4.1 = (-1 : Int32) then some ((-1 : Int32), x4.2) else zlt (v1 + (1 : Int32)) fun x5 => k2 (x5, x4.2))))
set_option maxHeartbeats 4000000 in
set_option maxRecDepth 100000 in
theorem f_X11_readCalls_2_s  (k2 : Int32 × zHp → Option (Int32 × zHp)) (H2 : ∀ v : Int32 × zHp, Sim wM mX11_readCalls 6 rI 2 [(0, .ref 0), (1, .int v.1)] [] v.2 (k2 v)) (v1 : Int32) (h : zHp) : Sim wM mX11_readCalls 6 rI 2 [(0, .ref 0), (1, .int v1)] [] h (f_X11_readCalls_2 k2 v1 h) := by
  unfold f_X11_readCalls_2
  refine Sim.aload_n 0 dX11_readCalls_2 rfl ?_
  refine Sim.bipush (v := (16 : Int32)) dX11_readCalls_3 rfl ?_
  refine Sim.callV1I (d1 := 0) (s_X11_isWord (16 : Int32) h) dX11_readCalls_5 ml_X11_246 mv_X11_isWord mC (Nat.le_of_ble_eq_true rfl) (Nat.le_of_ble_eq_true rfl) (Nat.le_of_ble_eq_true rfl) (fun x1 => ?_)
  refine Sim.if_eq 46 dX11_readCalls_8 rfl ?_ ?_
  · refine Sim.aload_n 0 dX11_readCalls_46 rfl ?_
    refine Sim.getI fl_X11_187 dX11_readCalls_47 mI_15 ?_
    refine Sim.if_ne 57 dX11_readCalls_50 rfl ?_ ?_
    · refine Sim.iload_n 1 dX11_readCalls_53 rfl ?_
      refine Sim.goto 62 dX11_readCalls_54 rfl ?_
      exact Sim.iret dX11_readCalls_62 rfl
    · refine Sim.aload_n 0 dX11_readCalls_57 rfl ?_
      refine Sim.iconst (v := (1 : Int32)) dX11_readCalls_58 rfl ?_
      refine Sim.callV1I (d1 := 0) (s_X11_errs (1 : Int32) x1.2) dX11_readCalls_59 ml_X11_218 mv_X11_errs mC (Nat.le_of_ble_eq_true rfl) (Nat.le_of_ble_eq_true rfl) (Nat.le_of_ble_eq_true rfl) (fun x2 => ?_)
      exact Sim.iret dX11_readCalls_62 rfl
  · refine Sim.iload_n 1 dX11_readCalls_11 rfl ?_
    refine Sim.bipush (v := (16 : Int32)) dX11_readCalls_12 rfl ?_
    refine Sim.icmp_ne 23 dX11_readCalls_14 rfl ?_ ?_
    · refine Sim.aload_n 0 dX11_readCalls_17 rfl ?_
      refine Sim.iconst (v := (3 : Int32)) dX11_readCalls_18 rfl ?_
      refine Sim.callV1I (d1 := 0) (s_X11_errs (3 : Int32) x1.2) dX11_readCalls_19 ml_X11_218 mv_X11_errs mC (Nat.le_of_ble_eq_true rfl) (Nat.le_of_ble_eq_true rfl) (Nat.le_of_ble_eq_true rfl) (fun x3 => ?_)
      exact Sim.iret dX11_readCalls_22 rfl
    · refine Sim.aload_n 0 dX11_readCalls_23 rfl ?_
      refine Sim.bipush (v := (64 : Int32)) dX11_readCalls_24 rfl ?_
      refine Sim.iconst (v := (4 : Int32)) dX11_readCalls_26 rfl ?_
      refine Sim.iload_n 1 dX11_readCalls_27 rfl ?_
      refine Sim.imul dX11_readCalls_28 ?_
      refine Sim.iadd dX11_readCalls_29 ?_
      refine Sim.callV1I (d1 := 5) (s_X11_readCall ((64 : Int32) + ((4 : Int32) * v1)) x1.2) dX11_readCalls_30 ml_X11_278 mv_X11_readCall mC (Nat.le_of_ble_eq_true rfl) (Nat.le_of_ble_eq_true rfl) (Nat.le_of_ble_eq_true rfl) (fun x4 => ?_)
      refine Sim.iconst (v := (-1 : Int32)) dX11_readCalls_33 rfl ?_
      refine Sim.icmp_ne 39 dX11_readCalls_34 rfl ?_ ?_
      · refine Sim.iconst (v := (-1 : Int32)) dX11_readCalls_37 rfl ?_
        exact Sim.iret dX11_readCalls_38 rfl
      · refine Sim.iload_n 1 dX11_readCalls_39 rfl ?_
        refine Sim.iconst (v := (1 : Int32)) dX11_readCalls_40 rfl ?_
        refine Sim.iadd dX11_readCalls_41 ?_
        refine Sim.lti (fun x5 => ?_)
        refine Sim.istore_n (L' := [(1, .int x5), (0, .ref 0)]) dX11_readCalls_42 (Nat.le_of_ble_eq_true rfl) rfl ?_
        refine Sim.goto 2 dX11_readCalls_43 rfl ?_
        refine Sim.locs [1, 0] rfl ?_
        exact H2 (x5, x4.2)
def f_X11_readCalls_2_lp   (n : Nat) (v : Int32 × zHp) : Option (Int32 × zHp) := zlp (fun k2 v => f_X11_readCalls_2 k2 v.1 v.2) n v
theorem f_X11_readCalls_2_ls  (n : Nat) (v : Int32 × zHp) : Sim wM mX11_readCalls 6 rI 2 [(0, .ref 0), (1, .int v.1)] [] v.2 (f_X11_readCalls_2_lp n v) :=
  Sim.lp (V := Int32 × zHp) (Lf := fun v => [(0, .ref 0), (1, .int v.1)]) (sf := fun v => []) (hf := fun v => v.2) (fun k2 H2 v => f_X11_readCalls_2_s k2 H2 v.1 v.2) n v
def f_X11_readCalls   (h : zHp) : Option (Int32 × zHp) := f_X11_readCalls_2_lp  zN ((0 : Int32), h)
set_option maxHeartbeats 4000000 in
set_option maxRecDepth 100000 in
theorem s_X11_readCalls   (h : zHp) : Fn wM mX11_readCalls 6 rI [.ref 0] h (f_X11_readCalls  h) := by
  refine Fn.of rfl (Nat.le_of_ble_eq_true rfl) ?_
  unfold f_X11_readCalls
  refine Sim.iconst (v := (0 : Int32)) dX11_readCalls_0 rfl ?_
  refine Sim.istore_n (L' := [(1, .int (0 : Int32)), (0, .ref 0)]) dX11_readCalls_1 (Nat.le_of_ble_eq_true rfl) rfl ?_
  refine Sim.locs [1, 0] rfl ?_
  exact f_X11_readCalls_2_ls  zN ((0 : Int32), h)
theorem mv_X11_readCalls : zMV mX11_readCalls 0 := ⟨⟨zTb_in 1598 (by decide +kernel) rfl, zTb_in 148 (by decide +kernel) rfl, ⟨by decide +kernel, by decide +kernel⟩, by decide +kernel⟩, zTb_in 1597 (by decide +kernel) rfl, zTb_in 53 (by decide +kernel) rfl⟩
-- ===== RockingPorchModel.readHouseLine(I)I
abbrev mX11_readHouseLine : zMt := (yX11_readHouseLine, cX11_readHouseLine, 3, some .int)
theorem fl_X11_65 : zF RX11 65 11 37 := ⟨RX11, TX11, 69, rfl, Nat.le_of_ble_eq_true rfl, zTb_in 1336 (by decide +kernel) rfl, in_X11⟩
theorem dX11_readHouseLine_0 : decode cX11_readHouseLine 0 = .ok (.aload_n 0, 1) := by decide +kernel
theorem dX11_readHouseLine_1 : decode cX11_readHouseLine 1 = .ok (.getfield 65, 3) := by decide +kernel
theorem dX11_readHouseLine_4 : decode cX11_readHouseLine 4 = .ok (.iload_n 1, 1) := by decide +kernel
theorem dX11_readHouseLine_5 : decode cX11_readHouseLine 5 = .ok (.aload_n 0, 1) := by decide +kernel
theorem dX11_readHouseLine_6 : decode cX11_readHouseLine 6 = .ok (.bipush 16, 2) := by decide +kernel
theorem dX11_readHouseLine_8 : decode cX11_readHouseLine 8 = .ok (.iconst 0, 1) := by decide +kernel
theorem dX11_readHouseLine_9 : decode cX11_readHouseLine 9 = .ok (.sipush 999, 3) := by decide +kernel
theorem dX11_readHouseLine_12 : decode cX11_readHouseLine 12 = .ok (.invokevirtual 271, 3) := by decide +kernel
theorem dX11_readHouseLine_15 : decode cX11_readHouseLine 15 = .ok (.iastore, 1) := by decide +kernel
theorem dX11_readHouseLine_16 : decode cX11_readHouseLine 16 = .ok (.aload_n 0, 1) := by decide +kernel
theorem dX11_readHouseLine_17 : decode cX11_readHouseLine 17 = .ok (.getfield 65, 3) := by decide +kernel
theorem dX11_readHouseLine_20 : decode cX11_readHouseLine 20 = .ok (.iload_n 1, 1) := by decide +kernel
theorem dX11_readHouseLine_21 : decode cX11_readHouseLine 21 = .ok (.iaload, 1) := by decide +kernel
theorem dX11_readHouseLine_22 : decode cX11_readHouseLine 22 = .ok (.iconst (-1), 1) := by decide +kernel
theorem dX11_readHouseLine_23 : decode cX11_readHouseLine 23 = .ok (.if_icmp .ne 5, 3) := by decide +kernel
theorem dX11_readHouseLine_26 : decode cX11_readHouseLine 26 = .ok (.iconst (-1), 1) := by decide +kernel
theorem dX11_readHouseLine_27 : decode cX11_readHouseLine 27 = .ok (.ireturn, 1) := by decide +kernel
theorem dX11_readHouseLine_28 : decode cX11_readHouseLine 28 = .ok (.aload_n 0, 1) := by decide +kernel
theorem dX11_readHouseLine_29 : decode cX11_readHouseLine 29 = .ok (.bipush 22, 2) := by decide +kernel
theorem dX11_readHouseLine_31 : decode cX11_readHouseLine 31 = .ok (.invokevirtual 246, 3) := by decide +kernel
theorem dX11_readHouseLine_34 : decode cX11_readHouseLine 34 = .ok (.ifCond .eq 7, 3) := by decide +kernel
theorem dX11_readHouseLine_37 : decode cX11_readHouseLine 37 = .ok (.iconst 0, 1) := by decide +kernel
theorem dX11_readHouseLine_38 : decode cX11_readHouseLine 38 = .ok (.goto 30, 3) := by decide +kernel
theorem dX11_readHouseLine_41 : decode cX11_readHouseLine 41 = .ok (.aload_n 0, 1) := by decide +kernel
theorem dX11_readHouseLine_42 : decode cX11_readHouseLine 42 = .ok (.bipush 13, 2) := by decide +kernel
theorem dX11_readHouseLine_44 : decode cX11_readHouseLine 44 = .ok (.invokevirtual 246, 3) := by decide +kernel
theorem dX11_readHouseLine_47 : decode cX11_readHouseLine 47 = .ok (.ifCond .eq 7, 3) := by decide +kernel
theorem dX11_readHouseLine_50 : decode cX11_readHouseLine 50 = .ok (.iconst 1, 1) := by decide +kernel
theorem dX11_readHouseLine_51 : decode cX11_readHouseLine 51 = .ok (.goto 17, 3) := by decide +kernel
theorem dX11_readHouseLine_54 : decode cX11_readHouseLine 54 = .ok (.aload_n 0, 1) := by decide +kernel
theorem dX11_readHouseLine_55 : decode cX11_readHouseLine 55 = .ok (.bipush 23, 2) := by decide +kernel
theorem dX11_readHouseLine_57 : decode cX11_readHouseLine 57 = .ok (.invokevirtual 246, 3) := by decide +kernel
theorem dX11_readHouseLine_60 : decode cX11_readHouseLine 60 = .ok (.ifCond .eq 7, 3) := by decide +kernel
theorem dX11_readHouseLine_63 : decode cX11_readHouseLine 63 = .ok (.iconst 2, 1) := by decide +kernel
theorem dX11_readHouseLine_64 : decode cX11_readHouseLine 64 = .ok (.goto 4, 3) := by decide +kernel
theorem dX11_readHouseLine_67 : decode cX11_readHouseLine 67 = .ok (.iconst (-1), 1) := by decide +kernel
theorem dX11_readHouseLine_68 : decode cX11_readHouseLine 68 = .ok (.istore_n 2, 1) := by decide +kernel
theorem dX11_readHouseLine_69 : decode cX11_readHouseLine 69 = .ok (.iload_n 2, 1) := by decide +kernel
theorem dX11_readHouseLine_70 : decode cX11_readHouseLine 70 = .ok (.iconst (-1), 1) := by decide +kernel
theorem dX11_readHouseLine_71 : decode cX11_readHouseLine 71 = .ok (.if_icmp .ne 9, 3) := by decide +kernel
theorem dX11_readHouseLine_74 : decode cX11_readHouseLine 74 = .ok (.aload_n 0, 1) := by decide +kernel
theorem dX11_readHouseLine_75 : decode cX11_readHouseLine 75 = .ok (.iconst 1, 1) := by decide +kernel
theorem dX11_readHouseLine_76 : decode cX11_readHouseLine 76 = .ok (.invokevirtual 218, 3) := by decide +kernel
theorem dX11_readHouseLine_79 : decode cX11_readHouseLine 79 = .ok (.ireturn, 1) := by decide +kernel
theorem dX11_readHouseLine_80 : decode cX11_readHouseLine 80 = .ok (.aload_n 0, 1) := by decide +kernel
theorem dX11_readHouseLine_81 : decode cX11_readHouseLine 81 = .ok (.invokevirtual 224, 3) := by decide +kernel
theorem dX11_readHouseLine_84 : decode cX11_readHouseLine 84 = .ok (.aload_n 0, 1) := by decide +kernel
theorem dX11_readHouseLine_85 : decode cX11_readHouseLine 85 = .ok (.getfield 65, 3) := by decide +kernel
theorem dX11_readHouseLine_88 : decode cX11_readHouseLine 88 = .ok (.iload_n 1, 1) := by decide +kernel
theorem dX11_readHouseLine_89 : decode cX11_readHouseLine 89 = .ok (.iconst 1, 1) := by decide +kernel
theorem dX11_readHouseLine_90 : decode cX11_readHouseLine 90 = .ok (.iadd, 1) := by decide +kernel
theorem dX11_readHouseLine_91 : decode cX11_readHouseLine 91 = .ok (.iload_n 2, 1) := by decide +kernel
theorem dX11_readHouseLine_92 : decode cX11_readHouseLine 92 = .ok (.iastore, 1) := by decide +kernel
theorem dX11_readHouseLine_93 : decode cX11_readHouseLine 93 = .ok (.aload_n 0, 1) := by decide +kernel
theorem dX11_readHouseLine_94 : decode cX11_readHouseLine 94 = .ok (.getfield 65, 3) := by decide +kernel
theorem dX11_readHouseLine_97 : decode cX11_readHouseLine 97 = .ok (.iload_n 1, 1) := by decide +kernel
theorem dX11_readHouseLine_98 : decode cX11_readHouseLine 98 = .ok (.iconst 2, 1) := by decide +kernel
theorem dX11_readHouseLine_99 : decode cX11_readHouseLine 99 = .ok (.iadd, 1) := by decide +kernel
theorem dX11_readHouseLine_100 : decode cX11_readHouseLine 100 = .ok (.iload_n 2, 1) := by decide +kernel
theorem dX11_readHouseLine_101 : decode cX11_readHouseLine 101 = .ok (.iconst 2, 1) := by decide +kernel
theorem dX11_readHouseLine_102 : decode cX11_readHouseLine 102 = .ok (.if_icmp .ne 7, 3) := by decide +kernel
theorem dX11_readHouseLine_105 : decode cX11_readHouseLine 105 = .ok (.iconst 0, 1) := by decide +kernel
theorem dX11_readHouseLine_106 : decode cX11_readHouseLine 106 = .ok (.goto 23, 3) := by decide +kernel
theorem dX11_readHouseLine_109 : decode cX11_readHouseLine 109 = .ok (.aload_n 0, 1) := by decide +kernel
theorem dX11_readHouseLine_110 : decode cX11_readHouseLine 110 = .ok (.iconst 0, 1) := by decide +kernel
theorem dX11_readHouseLine_111 : decode cX11_readHouseLine 111 = .ok (.iload_n 2, 1) := by decide +kernel
theorem dX11_readHouseLine_112 : decode cX11_readHouseLine 112 = .ok (.ifCond .ne 12, 3) := by decide +kernel
theorem dX11_readHouseLine_115 : decode cX11_readHouseLine 115 = .ok (.aload_n 0, 1) := by decide +kernel
theorem dX11_readHouseLine_116 : decode cX11_readHouseLine 116 = .ok (.getfield 140, 3) := by decide +kernel
theorem dX11_readHouseLine_119 : decode cX11_readHouseLine 119 = .ok (.iconst 1, 1) := by decide +kernel
theorem dX11_readHouseLine_120 : decode cX11_readHouseLine 120 = .ok (.isub, 1) := by decide +kernel
theorem dX11_readHouseLine_121 : decode cX11_readHouseLine 121 = .ok (.goto 5, 3) := by decide +kernel
theorem dX11_readHouseLine_124 : decode cX11_readHouseLine 124 = .ok (.bipush 9, 2) := by decide +kernel
theorem dX11_readHouseLine_126 : decode cX11_readHouseLine 126 = .ok (.invokevirtual 268, 3) := by decide +kernel
theorem dX11_readHouseLine_129 : decode cX11_readHouseLine 129 = .ok (.iastore, 1) := by decide +kernel
theorem dX11_readHouseLine_130 : decode cX11_readHouseLine 130 = .ok (.aload_n 0, 1) := by decide +kernel
theorem dX11_readHouseLine_131 : decode cX11_readHouseLine 131 = .ok (.getfield 65, 3) := by decide +kernel
theorem dX11_readHouseLine_134 : decode cX11_readHouseLine 134 = .ok (.iload_n 1, 1) := by decide +kernel
theorem dX11_readHouseLine_135 : decode cX11_readHouseLine 135 = .ok (.iconst 2, 1) := by decide +kernel
theorem dX11_readHouseLine_136 : decode cX11_readHouseLine 136 = .ok (.iadd, 1) := by decide +kernel
theorem dX11_readHouseLine_137 : decode cX11_readHouseLine 137 = .ok (.iaload, 1) := by decide +kernel
theorem dX11_readHouseLine_138 : decode cX11_readHouseLine 138 = .ok (.iconst (-1), 1) := by decide +kernel
theorem dX11_readHouseLine_139 : decode cX11_readHouseLine 139 = .ok (.if_icmp .ne 7, 3) := by decide +kernel
theorem dX11_readHouseLine_142 : decode cX11_readHouseLine 142 = .ok (.iconst (-1), 1) := by decide +kernel
theorem dX11_readHouseLine_143 : decode cX11_readHouseLine 143 = .ok (.goto 9, 3) := by decide +kernel
theorem dX11_readHouseLine_146 : decode cX11_readHouseLine 146 = .ok (.aload_n 0, 1) := by decide +kernel
theorem dX11_readHouseLine_147 : decode cX11_readHouseLine 147 = .ok (.bipush 59, 2) := by decide +kernel
theorem dX11_readHouseLine_149 : decode cX11_readHouseLine 149 = .ok (.invokevirtual 275, 3) := by decide +kernel
theorem dX11_readHouseLine_152 : decode cX11_readHouseLine 152 = .ok (.ireturn, 1) := by decide +kernel
def f_X11_readHouseLine_129   (v1 : Int32) (s0 : Int32) (s1 : Int32) (h : zHp) : Option (Int32 × zHp) := zix s1 96 (zlt (zst h 18 s1.toNatClampNeg s0) fun h1 => zix (v1 + (2 : Int32)) 96 ((if (h1 18 (v1 + (2 : Int32)).toNatClampNeg) = (-1 : Int32) then some ((-1 : Int32), h1) else (f_X11_readMark (59 : Int32) h1).bind fun x2 => some (x2.1, x2.2))))
set_option maxHeartbeats 4000000 in
set_option maxRecDepth 100000 in
theorem f_X11_readHouseLine_129_s  (v1 : Int32) (s0 : Int32) (s1 : Int32) (h : zHp) : Sim wM mX11_readHouseLine 5 rI 129 [(0, .ref 0), (1, .int v1)] [.int s0, .int s1, .ref 18] h (f_X11_readHouseLine_129 v1 s0 s1 h) := by
  unfold f_X11_readHouseLine_129
  refine Sim.iast (n := 96) dX11_readHouseLine_129 mA_18 ?_
  refine Sim.lth (fun h1 => ?_)
  refine Sim.aload_n 0 dX11_readHouseLine_130 rfl ?_
  refine Sim.getR (j := 18) fl_X11_65 dX11_readHouseLine_131 mR_37 ?_
  refine Sim.iload_n 1 dX11_readHouseLine_134 rfl ?_
  refine Sim.iconst (v := (2 : Int32)) dX11_readHouseLine_135 rfl ?_
  refine Sim.iadd dX11_readHouseLine_136 ?_
  refine Sim.iald (n := 96) dX11_readHouseLine_137 mA_18 ?_
  refine Sim.iconst (v := (-1 : Int32)) dX11_readHouseLine_138 rfl ?_
  refine Sim.icmp_ne 146 dX11_readHouseLine_139 rfl ?_ ?_
  · refine Sim.iconst (v := (-1 : Int32)) dX11_readHouseLine_142 rfl ?_
    refine Sim.goto 152 dX11_readHouseLine_143 rfl ?_
    exact Sim.iret dX11_readHouseLine_152 rfl
  · refine Sim.aload_n 0 dX11_readHouseLine_146 rfl ?_
    refine Sim.bipush (v := (59 : Int32)) dX11_readHouseLine_147 rfl ?_
    refine Sim.callV1I (d1 := 3) (s_X11_readMark (59 : Int32) h1) dX11_readHouseLine_149 ml_X11_275 mv_X11_readMark mC (Nat.le_of_ble_eq_true rfl) (Nat.le_of_ble_eq_true rfl) (Nat.le_of_ble_eq_true rfl) (fun x2 => ?_)
    exact Sim.iret dX11_readHouseLine_152 rfl
def f_X11_readHouseLine_68   (v1 : Int32) (s0 : Int32) (h : zHp) : Option (Int32 × zHp) := (if s0 = (-1 : Int32) then (f_X11_errs (1 : Int32) h).bind fun x1 => some (x1.1, x1.2) else (f_X11_reads h).bind fun x2 => zix (v1 + (1 : Int32)) 96 (zlt (zst x2 18 (v1 + (1 : Int32)).toNatClampNeg s0) fun h3 => (if s0 = (2 : Int32) then f_X11_readHouseLine_129 v1 (0 : Int32) (v1 + (2 : Int32)) h3 else (if s0 = 0 then (f_X11_readNumber (0 : Int32) ((h3 0 6) - (1 : Int32)) h3).bind fun x4 => f_X11_readHouseLine_129 v1 x4.1 (v1 + (2 : Int32)) x4.2 else (f_X11_readNumber (0 : Int32) (9 : Int32) h3).bind fun x5 => f_X11_readHouseLine_129 v1 x5.1 (v1 + (2 : Int32)) x5.2))))
set_option maxHeartbeats 4000000 in
set_option maxRecDepth 100000 in
theorem f_X11_readHouseLine_68_s  (v1 : Int32) (s0 : Int32) (h : zHp) : Sim wM mX11_readHouseLine 5 rI 68 [(0, .ref 0), (1, .int v1)] [.int s0] h (f_X11_readHouseLine_68 v1 s0 h) := by
  unfold f_X11_readHouseLine_68
  refine Sim.istore_n (L' := [(2, .int s0), (0, .ref 0), (1, .int v1)]) dX11_readHouseLine_68 (Nat.le_of_ble_eq_true rfl) rfl ?_
  refine Sim.iload_n 0 dX11_readHouseLine_69 rfl ?_
  refine Sim.iconst (v := (-1 : Int32)) dX11_readHouseLine_70 rfl ?_
  refine Sim.icmp_ne 80 dX11_readHouseLine_71 rfl ?_ ?_
  · refine Sim.aload_n 1 dX11_readHouseLine_74 rfl ?_
    refine Sim.iconst (v := (1 : Int32)) dX11_readHouseLine_75 rfl ?_
    refine Sim.callV1I (d1 := 0) (s_X11_errs (1 : Int32) h) dX11_readHouseLine_76 ml_X11_218 mv_X11_errs mC (Nat.le_of_ble_eq_true rfl) (Nat.le_of_ble_eq_true rfl) (Nat.le_of_ble_eq_true rfl) (fun x1 => ?_)
    exact Sim.iret dX11_readHouseLine_79 rfl
  · refine Sim.aload_n 1 dX11_readHouseLine_80 rfl ?_
    refine Sim.callV0U (d1 := 2) (s_X11_reads h) dX11_readHouseLine_81 ml_X11_224 mv_X11_reads mC (Nat.le_of_ble_eq_true rfl) (Nat.le_of_ble_eq_true rfl) (Nat.le_of_ble_eq_true rfl) (fun x2 => ?_)
    refine Sim.aload_n 1 dX11_readHouseLine_84 rfl ?_
    refine Sim.getR (j := 18) fl_X11_65 dX11_readHouseLine_85 mR_37 ?_
    refine Sim.iload_n 2 dX11_readHouseLine_88 rfl ?_
    refine Sim.iconst (v := (1 : Int32)) dX11_readHouseLine_89 rfl ?_
    refine Sim.iadd dX11_readHouseLine_90 ?_
    refine Sim.iload_n 0 dX11_readHouseLine_91 rfl ?_
    refine Sim.iast (n := 96) dX11_readHouseLine_92 mA_18 ?_
    refine Sim.lth (fun h3 => ?_)
    refine Sim.aload_n 1 dX11_readHouseLine_93 rfl ?_
    refine Sim.getR (j := 18) fl_X11_65 dX11_readHouseLine_94 mR_37 ?_
    refine Sim.iload_n 2 dX11_readHouseLine_97 rfl ?_
    refine Sim.iconst (v := (2 : Int32)) dX11_readHouseLine_98 rfl ?_
    refine Sim.iadd dX11_readHouseLine_99 ?_
    refine Sim.iload_n 0 dX11_readHouseLine_100 rfl ?_
    refine Sim.iconst (v := (2 : Int32)) dX11_readHouseLine_101 rfl ?_
    refine Sim.icmp_ne 109 dX11_readHouseLine_102 rfl ?_ ?_
    · refine Sim.iconst (v := (0 : Int32)) dX11_readHouseLine_105 rfl ?_
      refine Sim.goto 129 dX11_readHouseLine_106 rfl ?_
      refine Sim.locs [1, 2] rfl ?_
      exact f_X11_readHouseLine_129_s v1 (0 : Int32) (v1 + (2 : Int32)) h3
    · refine Sim.aload_n 1 dX11_readHouseLine_109 rfl ?_
      refine Sim.iconst (v := (0 : Int32)) dX11_readHouseLine_110 rfl ?_
      refine Sim.iload_n 0 dX11_readHouseLine_111 rfl ?_
      refine Sim.if_ne 124 dX11_readHouseLine_112 rfl ?_ ?_
      · refine Sim.aload_n 1 dX11_readHouseLine_115 rfl ?_
        refine Sim.getI fl_X11_140 dX11_readHouseLine_116 mI_6 ?_
        refine Sim.iconst (v := (1 : Int32)) dX11_readHouseLine_119 rfl ?_
        refine Sim.isub dX11_readHouseLine_120 ?_
        refine Sim.goto 126 dX11_readHouseLine_121 rfl ?_
        refine Sim.callV2I (d1 := 3) (s_X11_readNumber (0 : Int32) ((h3 0 6) - (1 : Int32)) h3) dX11_readHouseLine_126 ml_X11_268 mv_X11_readNumber mC (Nat.le_of_ble_eq_true rfl) (Nat.le_of_ble_eq_true rfl) (Nat.le_of_ble_eq_true rfl) (fun x4 => ?_)
        refine Sim.locs [1, 2] rfl ?_
        exact f_X11_readHouseLine_129_s v1 x4.1 (v1 + (2 : Int32)) x4.2
      · refine Sim.bipush (v := (9 : Int32)) dX11_readHouseLine_124 rfl ?_
        refine Sim.callV2I (d1 := 3) (s_X11_readNumber (0 : Int32) (9 : Int32) h3) dX11_readHouseLine_126 ml_X11_268 mv_X11_readNumber mC (Nat.le_of_ble_eq_true rfl) (Nat.le_of_ble_eq_true rfl) (Nat.le_of_ble_eq_true rfl) (fun x5 => ?_)
        refine Sim.locs [1, 2] rfl ?_
        exact f_X11_readHouseLine_129_s v1 x5.1 (v1 + (2 : Int32)) x5.2
def f_X11_readHouseLine  (a1 : Int32) (h : zHp) : Option (Int32 × zHp) := (f_X11_readTold (16 : Int32) (0 : Int32) (999 : Int32) h).bind fun x1 => zix a1 96 (zlt (zst x1.2 18 a1.toNatClampNeg x1.1) fun h2 => zix a1 96 ((if (h2 18 a1.toNatClampNeg) = (-1 : Int32) then some ((-1 : Int32), h2) else (f_X11_isWord (22 : Int32) h2).bind fun x3 => (if x3.1 = 0 then (f_X11_isWord (13 : Int32) x3.2).bind fun x4 => (if x4.1 = 0 then (f_X11_isWord (23 : Int32) x4.2).bind fun x5 => (if x5.1 = 0 then f_X11_readHouseLine_68 a1 (-1 : Int32) x5.2 else f_X11_readHouseLine_68 a1 (2 : Int32) x5.2) else f_X11_readHouseLine_68 a1 (1 : Int32) x4.2) else f_X11_readHouseLine_68 a1 (0 : Int32) x3.2))))
set_option maxHeartbeats 4000000 in
set_option maxRecDepth 100000 in
theorem s_X11_readHouseLine  (a1 : Int32) (h : zHp) : Fn wM mX11_readHouseLine 5 rI [.ref 0, .int a1] h (f_X11_readHouseLine a1 h) := by
  refine Fn.of rfl (Nat.le_of_ble_eq_true rfl) ?_
  unfold f_X11_readHouseLine
  refine Sim.aload_n 0 dX11_readHouseLine_0 rfl ?_
  refine Sim.getR (j := 18) fl_X11_65 dX11_readHouseLine_1 mR_37 ?_
  refine Sim.iload_n 1 dX11_readHouseLine_4 rfl ?_
  refine Sim.aload_n 0 dX11_readHouseLine_5 rfl ?_
  refine Sim.bipush (v := (16 : Int32)) dX11_readHouseLine_6 rfl ?_
  refine Sim.iconst (v := (0 : Int32)) dX11_readHouseLine_8 rfl ?_
  refine Sim.sipush (v := (999 : Int32)) dX11_readHouseLine_9 rfl ?_
  refine Sim.callV3I (d1 := 4) (s_X11_readTold (16 : Int32) (0 : Int32) (999 : Int32) h) dX11_readHouseLine_12 ml_X11_271 mv_X11_readTold mC (Nat.le_of_ble_eq_true rfl) (Nat.le_of_ble_eq_true rfl) (Nat.le_of_ble_eq_true rfl) (fun x1 => ?_)
  refine Sim.iast (n := 96) dX11_readHouseLine_15 mA_18 ?_
  refine Sim.lth (fun h2 => ?_)
  refine Sim.aload_n 0 dX11_readHouseLine_16 rfl ?_
  refine Sim.getR (j := 18) fl_X11_65 dX11_readHouseLine_17 mR_37 ?_
  refine Sim.iload_n 1 dX11_readHouseLine_20 rfl ?_
  refine Sim.iald (n := 96) dX11_readHouseLine_21 mA_18 ?_
  refine Sim.iconst (v := (-1 : Int32)) dX11_readHouseLine_22 rfl ?_
  refine Sim.icmp_ne 28 dX11_readHouseLine_23 rfl ?_ ?_
  · refine Sim.iconst (v := (-1 : Int32)) dX11_readHouseLine_26 rfl ?_
    exact Sim.iret dX11_readHouseLine_27 rfl
  · refine Sim.aload_n 0 dX11_readHouseLine_28 rfl ?_
    refine Sim.bipush (v := (22 : Int32)) dX11_readHouseLine_29 rfl ?_
    refine Sim.callV1I (d1 := 0) (s_X11_isWord (22 : Int32) h2) dX11_readHouseLine_31 ml_X11_246 mv_X11_isWord mC (Nat.le_of_ble_eq_true rfl) (Nat.le_of_ble_eq_true rfl) (Nat.le_of_ble_eq_true rfl) (fun x3 => ?_)
    refine Sim.if_eq 41 dX11_readHouseLine_34 rfl ?_ ?_
    · refine Sim.aload_n 0 dX11_readHouseLine_41 rfl ?_
      refine Sim.bipush (v := (13 : Int32)) dX11_readHouseLine_42 rfl ?_
      refine Sim.callV1I (d1 := 0) (s_X11_isWord (13 : Int32) x3.2) dX11_readHouseLine_44 ml_X11_246 mv_X11_isWord mC (Nat.le_of_ble_eq_true rfl) (Nat.le_of_ble_eq_true rfl) (Nat.le_of_ble_eq_true rfl) (fun x4 => ?_)
      refine Sim.if_eq 54 dX11_readHouseLine_47 rfl ?_ ?_
      · refine Sim.aload_n 0 dX11_readHouseLine_54 rfl ?_
        refine Sim.bipush (v := (23 : Int32)) dX11_readHouseLine_55 rfl ?_
        refine Sim.callV1I (d1 := 0) (s_X11_isWord (23 : Int32) x4.2) dX11_readHouseLine_57 ml_X11_246 mv_X11_isWord mC (Nat.le_of_ble_eq_true rfl) (Nat.le_of_ble_eq_true rfl) (Nat.le_of_ble_eq_true rfl) (fun x5 => ?_)
        refine Sim.if_eq 67 dX11_readHouseLine_60 rfl ?_ ?_
        · refine Sim.iconst (v := (-1 : Int32)) dX11_readHouseLine_67 rfl ?_
          exact f_X11_readHouseLine_68_s a1 (-1 : Int32) x5.2
        · refine Sim.iconst (v := (2 : Int32)) dX11_readHouseLine_63 rfl ?_
          refine Sim.goto 68 dX11_readHouseLine_64 rfl ?_
          exact f_X11_readHouseLine_68_s a1 (2 : Int32) x5.2
      · refine Sim.iconst (v := (1 : Int32)) dX11_readHouseLine_50 rfl ?_
        refine Sim.goto 68 dX11_readHouseLine_51 rfl ?_
        exact f_X11_readHouseLine_68_s a1 (1 : Int32) x4.2
    · refine Sim.iconst (v := (0 : Int32)) dX11_readHouseLine_37 rfl ?_
      refine Sim.goto 68 dX11_readHouseLine_38 rfl ?_
      exact f_X11_readHouseLine_68_s a1 (0 : Int32) x3.2
theorem mv_X11_readHouseLine : zMV mX11_readHouseLine 1 := ⟨⟨zTb_in 1634 (by decide +kernel) rfl, zTb_in 148 (by decide +kernel) rfl, ⟨by decide +kernel, by decide +kernel⟩, by decide +kernel⟩, zTb_in 1633 (by decide +kernel) rfl, zTb_in 62 (by decide +kernel) rfl⟩
-- ===== RockingPorchModel.readHouse()I
abbrev mX11_readHouse : zMt := (yX11_readHouse, cX11_readHouse, 2, some .int)
theorem ml_X11_281 : Cond.methodLink RX11 281 yX11_readHouseLine ∈ zTb := zTb_in 1631 (by decide +kernel) rfl
theorem dX11_readHouse_0 : decode cX11_readHouse 0 = .ok (.iconst 0, 1) := by decide +kernel
theorem dX11_readHouse_1 : decode cX11_readHouse 1 = .ok (.istore_n 1, 1) := by decide +kernel
theorem dX11_readHouse_2 : decode cX11_readHouse 2 = .ok (.aload_n 0, 1) := by decide +kernel
theorem dX11_readHouse_3 : decode cX11_readHouse 3 = .ok (.bipush 16, 2) := by decide +kernel
theorem dX11_readHouse_5 : decode cX11_readHouse 5 = .ok (.invokevirtual 246, 3) := by decide +kernel
theorem dX11_readHouse_8 : decode cX11_readHouse 8 = .ok (.ifCond .eq 38, 3) := by decide +kernel
theorem dX11_readHouse_11 : decode cX11_readHouse 11 = .ok (.iload_n 1, 1) := by decide +kernel
theorem dX11_readHouse_12 : decode cX11_readHouse 12 = .ok (.bipush 16, 2) := by decide +kernel
theorem dX11_readHouse_14 : decode cX11_readHouse 14 = .ok (.if_icmp .ne 9, 3) := by decide +kernel
theorem dX11_readHouse_17 : decode cX11_readHouse 17 = .ok (.aload_n 0, 1) := by decide +kernel
theorem dX11_readHouse_18 : decode cX11_readHouse 18 = .ok (.iconst 3, 1) := by decide +kernel
theorem dX11_readHouse_19 : decode cX11_readHouse 19 = .ok (.invokevirtual 218, 3) := by decide +kernel
theorem dX11_readHouse_22 : decode cX11_readHouse 22 = .ok (.ireturn, 1) := by decide +kernel
theorem dX11_readHouse_23 : decode cX11_readHouse 23 = .ok (.aload_n 0, 1) := by decide +kernel
theorem dX11_readHouse_24 : decode cX11_readHouse 24 = .ok (.bipush 48, 2) := by decide +kernel
theorem dX11_readHouse_26 : decode cX11_readHouse 26 = .ok (.iconst 3, 1) := by decide +kernel
theorem dX11_readHouse_27 : decode cX11_readHouse 27 = .ok (.iload_n 1, 1) := by decide +kernel
theorem dX11_readHouse_28 : decode cX11_readHouse 28 = .ok (.imul, 1) := by decide +kernel
theorem dX11_readHouse_29 : decode cX11_readHouse 29 = .ok (.iadd, 1) := by decide +kernel
theorem dX11_readHouse_30 : decode cX11_readHouse 30 = .ok (.invokevirtual 281, 3) := by decide +kernel
theorem dX11_readHouse_33 : decode cX11_readHouse 33 = .ok (.iconst (-1), 1) := by decide +kernel
theorem dX11_readHouse_34 : decode cX11_readHouse 34 = .ok (.if_icmp .ne 5, 3) := by decide +kernel
theorem dX11_readHouse_37 : decode cX11_readHouse 37 = .ok (.iconst (-1), 1) := by decide +kernel
theorem dX11_readHouse_38 : decode cX11_readHouse 38 = .ok (.ireturn, 1) := by decide +kernel
theorem dX11_readHouse_39 : decode cX11_readHouse 39 = .ok (.iload_n 1, 1) := by decide +kernel
theorem dX11_readHouse_40 : decode cX11_readHouse 40 = .ok (.iconst 1, 1) := by decide +kernel
theorem dX11_readHouse_41 : decode cX11_readHouse 41 = .ok (.iadd, 1) := by decide +kernel
theorem dX11_readHouse_42 : decode cX11_readHouse 42 = .ok (.istore_n 1, 1) := by decide +kernel
theorem dX11_readHouse_43 : decode cX11_readHouse 43 = .ok (.goto (-41), 3) := by decide +kernel
theorem dX11_readHouse_46 : decode cX11_readHouse 46 = .ok (.aload_n 0, 1) := by decide +kernel
theorem dX11_readHouse_47 : decode cX11_readHouse 47 = .ok (.getfield 187, 3) := by decide +kernel
theorem dX11_readHouse_50 : decode cX11_readHouse 50 = .ok (.ifCond .ne 7, 3) := by decide +kernel
theorem dX11_readHouse_53 : decode cX11_readHouse 53 = .ok (.iload_n 1, 1) := by decide +kernel
theorem dX11_readHouse_54 : decode cX11_readHouse 54 = .ok (.goto 8, 3) := by decide +kernel
theorem dX11_readHouse_57 : decode cX11_readHouse 57 = .ok (.aload_n 0, 1) := by decide +kernel
theorem dX11_readHouse_58 : decode cX11_readHouse 58 = .ok (.iconst 1, 1) := by decide +kernel
theorem dX11_readHouse_59 : decode cX11_readHouse 59 = .ok (.invokevirtual 218, 3) := by decide +kernel
theorem dX11_readHouse_62 : decode cX11_readHouse 62 = .ok (.ireturn, 1) := by decide +kernel
def f_X11_readHouse_2  (k2 : Int32 × zHp → Option (Int32 × zHp)) (v1 : Int32) (h : zHp) : Option (Int32 × zHp) := (f_X11_isWord (16 : Int32) h).bind fun x1 => (if x1.1 = 0 then (if (x1.2 0 15) = 0 then some (v1, x1.2) else (f_X11_errs (1 : Int32) x1.2).bind fun x2 => some (x2.1, x2.2)) else (if v1 = (16 : Int32) then (f_X11_errs (3 : Int32) x1.2).bind fun x3 => some (x3.1, x3.2) else (f_X11_readHouseLine ((48 : Int32) + ((3 : Int32) * v1)) x1.2).bind fun x4 => (if x4.1 = (-1 : Int32) then some ((-1 : Int32), x4.2) else zlt (v1 + (1 : Int32)) fun x5 => k2 (x5, x4.2))))
set_option maxHeartbeats 4000000 in
set_option maxRecDepth 100000 in
theorem f_X11_readHouse_2_s  (k2 : Int32 × zHp → Option (Int32 × zHp)) (H2 : ∀ v : Int32 × zHp, Sim wM mX11_readHouse 6 rI 2 [(0, .ref 0), (1, .int v.1)] [] v.2 (k2 v)) (v1 : Int32) (h : zHp) : Sim wM mX11_readHouse 6 rI 2 [(0, .ref 0), (1, .int v1)] [] h (f_X11_readHouse_2 k2 v1 h) := by
  unfold f_X11_readHouse_2
  refine Sim.aload_n 0 dX11_readHouse_2 rfl ?_
  refine Sim.bipush (v := (16 : Int32)) dX11_readHouse_3 rfl ?_
  refine Sim.callV1I (d1 := 0) (s_X11_isWord (16 : Int32) h) dX11_readHouse_5 ml_X11_246 mv_X11_isWord mC (Nat.le_of_ble_eq_true rfl) (Nat.le_of_ble_eq_true rfl) (Nat.le_of_ble_eq_true rfl) (fun x1 => ?_)
  refine Sim.if_eq 46 dX11_readHouse_8 rfl ?_ ?_
  · refine Sim.aload_n 0 dX11_readHouse_46 rfl ?_
    refine Sim.getI fl_X11_187 dX11_readHouse_47 mI_15 ?_
    refine Sim.if_ne 57 dX11_readHouse_50 rfl ?_ ?_
    · refine Sim.iload_n 1 dX11_readHouse_53 rfl ?_
      refine Sim.goto 62 dX11_readHouse_54 rfl ?_
      exact Sim.iret dX11_readHouse_62 rfl
    · refine Sim.aload_n 0 dX11_readHouse_57 rfl ?_
      refine Sim.iconst (v := (1 : Int32)) dX11_readHouse_58 rfl ?_
      refine Sim.callV1I (d1 := 0) (s_X11_errs (1 : Int32) x1.2) dX11_readHouse_59 ml_X11_218 mv_X11_errs mC (Nat.le_of_ble_eq_true rfl) (Nat.le_of_ble_eq_true rfl) (Nat.le_of_ble_eq_true rfl) (fun x2 => ?_)
      exact Sim.iret dX11_readHouse_62 rfl
  · refine Sim.iload_n 1 dX11_readHouse_11 rfl ?_
    refine Sim.bipush (v := (16 : Int32)) dX11_readHouse_12 rfl ?_
    refine Sim.icmp_ne 23 dX11_readHouse_14 rfl ?_ ?_
    · refine Sim.aload_n 0 dX11_readHouse_17 rfl ?_
      refine Sim.iconst (v := (3 : Int32)) dX11_readHouse_18 rfl ?_
      refine Sim.callV1I (d1 := 0) (s_X11_errs (3 : Int32) x1.2) dX11_readHouse_19 ml_X11_218 mv_X11_errs mC (Nat.le_of_ble_eq_true rfl) (Nat.le_of_ble_eq_true rfl) (Nat.le_of_ble_eq_true rfl) (fun x3 => ?_)
      exact Sim.iret dX11_readHouse_22 rfl
    · refine Sim.aload_n 0 dX11_readHouse_23 rfl ?_
      refine Sim.bipush (v := (48 : Int32)) dX11_readHouse_24 rfl ?_
      refine Sim.iconst (v := (3 : Int32)) dX11_readHouse_26 rfl ?_
      refine Sim.iload_n 1 dX11_readHouse_27 rfl ?_
      refine Sim.imul dX11_readHouse_28 ?_
      refine Sim.iadd dX11_readHouse_29 ?_
      refine Sim.callV1I (d1 := 5) (s_X11_readHouseLine ((48 : Int32) + ((3 : Int32) * v1)) x1.2) dX11_readHouse_30 ml_X11_281 mv_X11_readHouseLine mC (Nat.le_of_ble_eq_true rfl) (Nat.le_of_ble_eq_true rfl) (Nat.le_of_ble_eq_true rfl) (fun x4 => ?_)
      refine Sim.iconst (v := (-1 : Int32)) dX11_readHouse_33 rfl ?_
      refine Sim.icmp_ne 39 dX11_readHouse_34 rfl ?_ ?_
      · refine Sim.iconst (v := (-1 : Int32)) dX11_readHouse_37 rfl ?_
        exact Sim.iret dX11_readHouse_38 rfl
      · refine Sim.iload_n 1 dX11_readHouse_39 rfl ?_
        refine Sim.iconst (v := (1 : Int32)) dX11_readHouse_40 rfl ?_
        refine Sim.iadd dX11_readHouse_41 ?_
        refine Sim.lti (fun x5 => ?_)
        refine Sim.istore_n (L' := [(1, .int x5), (0, .ref 0)]) dX11_readHouse_42 (Nat.le_of_ble_eq_true rfl) rfl ?_
        refine Sim.goto 2 dX11_readHouse_43 rfl ?_
        refine Sim.locs [1, 0] rfl ?_
        exact H2 (x5, x4.2)
def f_X11_readHouse_2_lp   (n : Nat) (v : Int32 × zHp) : Option (Int32 × zHp) := zlp (fun k2 v => f_X11_readHouse_2 k2 v.1 v.2) n v
theorem f_X11_readHouse_2_ls  (n : Nat) (v : Int32 × zHp) : Sim wM mX11_readHouse 6 rI 2 [(0, .ref 0), (1, .int v.1)] [] v.2 (f_X11_readHouse_2_lp n v) :=
  Sim.lp (V := Int32 × zHp) (Lf := fun v => [(0, .ref 0), (1, .int v.1)]) (sf := fun v => []) (hf := fun v => v.2) (fun k2 H2 v => f_X11_readHouse_2_s k2 H2 v.1 v.2) n v
def f_X11_readHouse   (h : zHp) : Option (Int32 × zHp) := f_X11_readHouse_2_lp  zN ((0 : Int32), h)
set_option maxHeartbeats 4000000 in
set_option maxRecDepth 100000 in
theorem s_X11_readHouse   (h : zHp) : Fn wM mX11_readHouse 6 rI [.ref 0] h (f_X11_readHouse  h) := by
  refine Fn.of rfl (Nat.le_of_ble_eq_true rfl) ?_
  unfold f_X11_readHouse
  refine Sim.iconst (v := (0 : Int32)) dX11_readHouse_0 rfl ?_
  refine Sim.istore_n (L' := [(1, .int (0 : Int32)), (0, .ref 0)]) dX11_readHouse_1 (Nat.le_of_ble_eq_true rfl) rfl ?_
  refine Sim.locs [1, 0] rfl ?_
  exact f_X11_readHouse_2_ls  zN ((0 : Int32), h)
theorem mv_X11_readHouse : zMV mX11_readHouse 0 := ⟨⟨zTb_in 1630 (by decide +kernel) rfl, zTb_in 148 (by decide +kernel) rfl, ⟨by decide +kernel, by decide +kernel⟩, by decide +kernel⟩, zTb_in 1629 (by decide +kernel) rfl, zTb_in 61 (by decide +kernel) rfl⟩
-- ===== RockingPorchModel.readKinOne()I
abbrev mX11_readKinOne : zMt := (yX11_readKinOne, cX11_readKinOne, 3, some .int)
theorem fl_X11_68 : zF RX11 68 11 39 := ⟨RX11, TX11, 69, rfl, Nat.le_of_ble_eq_true rfl, zTb_in 1338 (by decide +kernel) rfl, in_X11⟩
theorem dX11_readKinOne_0 : decode cX11_readKinOne 0 = .ok (.aload_n 0, 1) := by decide +kernel
theorem dX11_readKinOne_1 : decode cX11_readKinOne 1 = .ok (.bipush 17, 2) := by decide +kernel
theorem dX11_readKinOne_3 : decode cX11_readKinOne 3 = .ok (.iconst 0, 1) := by decide +kernel
theorem dX11_readKinOne_4 : decode cX11_readKinOne 4 = .ok (.aload_n 0, 1) := by decide +kernel
theorem dX11_readKinOne_5 : decode cX11_readKinOne 5 = .ok (.getfield 143, 3) := by decide +kernel
theorem dX11_readKinOne_8 : decode cX11_readKinOne 8 = .ok (.iconst 1, 1) := by decide +kernel
theorem dX11_readKinOne_9 : decode cX11_readKinOne 9 = .ok (.isub, 1) := by decide +kernel
theorem dX11_readKinOne_10 : decode cX11_readKinOne 10 = .ok (.invokevirtual 271, 3) := by decide +kernel
theorem dX11_readKinOne_13 : decode cX11_readKinOne 13 = .ok (.istore_n 1, 1) := by decide +kernel
theorem dX11_readKinOne_14 : decode cX11_readKinOne 14 = .ok (.iload_n 1, 1) := by decide +kernel
theorem dX11_readKinOne_15 : decode cX11_readKinOne 15 = .ok (.iconst (-1), 1) := by decide +kernel
theorem dX11_readKinOne_16 : decode cX11_readKinOne 16 = .ok (.if_icmp .ne 5, 3) := by decide +kernel
theorem dX11_readKinOne_19 : decode cX11_readKinOne 19 = .ok (.iconst (-1), 1) := by decide +kernel
theorem dX11_readKinOne_20 : decode cX11_readKinOne 20 = .ok (.ireturn, 1) := by decide +kernel
theorem dX11_readKinOne_21 : decode cX11_readKinOne 21 = .ok (.aload_n 0, 1) := by decide +kernel
theorem dX11_readKinOne_22 : decode cX11_readKinOne 22 = .ok (.bipush 10, 2) := by decide +kernel
theorem dX11_readKinOne_24 : decode cX11_readKinOne 24 = .ok (.invokevirtual 246, 3) := by decide +kernel
theorem dX11_readKinOne_27 : decode cX11_readKinOne 27 = .ok (.ifCond .ne 9, 3) := by decide +kernel
theorem dX11_readKinOne_30 : decode cX11_readKinOne 30 = .ok (.aload_n 0, 1) := by decide +kernel
theorem dX11_readKinOne_31 : decode cX11_readKinOne 31 = .ok (.iconst 1, 1) := by decide +kernel
theorem dX11_readKinOne_32 : decode cX11_readKinOne 32 = .ok (.invokevirtual 218, 3) := by decide +kernel
theorem dX11_readKinOne_35 : decode cX11_readKinOne 35 = .ok (.ireturn, 1) := by decide +kernel
theorem dX11_readKinOne_36 : decode cX11_readKinOne 36 = .ok (.aload_n 0, 1) := by decide +kernel
theorem dX11_readKinOne_37 : decode cX11_readKinOne 37 = .ok (.invokevirtual 224, 3) := by decide +kernel
theorem dX11_readKinOne_40 : decode cX11_readKinOne 40 = .ok (.aload_n 0, 1) := by decide +kernel
theorem dX11_readKinOne_41 : decode cX11_readKinOne 41 = .ok (.getfield 187, 3) := by decide +kernel
theorem dX11_readKinOne_44 : decode cX11_readKinOne 44 = .ok (.iconst 3, 1) := by decide +kernel
theorem dX11_readKinOne_45 : decode cX11_readKinOne 45 = .ok (.if_icmp .ne 17, 3) := by decide +kernel
theorem dX11_readKinOne_48 : decode cX11_readKinOne 48 = .ok (.aload_n 0, 1) := by decide +kernel
theorem dX11_readKinOne_49 : decode cX11_readKinOne 49 = .ok (.getfield 190, 3) := by decide +kernel
theorem dX11_readKinOne_52 : decode cX11_readKinOne 52 = .ok (.iload_n 1, 1) := by decide +kernel
theorem dX11_readKinOne_53 : decode cX11_readKinOne 53 = .ok (.if_icmp .ne 9, 3) := by decide +kernel
theorem dX11_readKinOne_56 : decode cX11_readKinOne 56 = .ok (.aload_n 0, 1) := by decide +kernel
theorem dX11_readKinOne_57 : decode cX11_readKinOne 57 = .ok (.iconst 2, 1) := by decide +kernel
theorem dX11_readKinOne_58 : decode cX11_readKinOne 58 = .ok (.invokevirtual 218, 3) := by decide +kernel
theorem dX11_readKinOne_61 : decode cX11_readKinOne 61 = .ok (.ireturn, 1) := by decide +kernel
theorem dX11_readKinOne_62 : decode cX11_readKinOne 62 = .ok (.aload_n 0, 1) := by decide +kernel
theorem dX11_readKinOne_63 : decode cX11_readKinOne 63 = .ok (.iconst 0, 1) := by decide +kernel
theorem dX11_readKinOne_64 : decode cX11_readKinOne 64 = .ok (.aload_n 0, 1) := by decide +kernel
theorem dX11_readKinOne_65 : decode cX11_readKinOne 65 = .ok (.getfield 143, 3) := by decide +kernel
theorem dX11_readKinOne_68 : decode cX11_readKinOne 68 = .ok (.iconst 1, 1) := by decide +kernel
theorem dX11_readKinOne_69 : decode cX11_readKinOne 69 = .ok (.isub, 1) := by decide +kernel
theorem dX11_readKinOne_70 : decode cX11_readKinOne 70 = .ok (.invokevirtual 268, 3) := by decide +kernel
theorem dX11_readKinOne_73 : decode cX11_readKinOne 73 = .ok (.istore_n 2, 1) := by decide +kernel
theorem dX11_readKinOne_74 : decode cX11_readKinOne 74 = .ok (.iload_n 2, 1) := by decide +kernel
theorem dX11_readKinOne_75 : decode cX11_readKinOne 75 = .ok (.iconst (-1), 1) := by decide +kernel
theorem dX11_readKinOne_76 : decode cX11_readKinOne 76 = .ok (.if_icmp .ne 5, 3) := by decide +kernel
theorem dX11_readKinOne_79 : decode cX11_readKinOne 79 = .ok (.iconst (-1), 1) := by decide +kernel
theorem dX11_readKinOne_80 : decode cX11_readKinOne 80 = .ok (.ireturn, 1) := by decide +kernel
theorem dX11_readKinOne_81 : decode cX11_readKinOne 81 = .ok (.aload_n 0, 1) := by decide +kernel
theorem dX11_readKinOne_82 : decode cX11_readKinOne 82 = .ok (.getfield 68, 3) := by decide +kernel
theorem dX11_readKinOne_85 : decode cX11_readKinOne 85 = .ok (.bipush 14, 2) := by decide +kernel
theorem dX11_readKinOne_87 : decode cX11_readKinOne 87 = .ok (.iload_n 2, 1) := by decide +kernel
theorem dX11_readKinOne_88 : decode cX11_readKinOne 88 = .ok (.iadd, 1) := by decide +kernel
theorem dX11_readKinOne_89 : decode cX11_readKinOne 89 = .ok (.aload_n 0, 1) := by decide +kernel
theorem dX11_readKinOne_90 : decode cX11_readKinOne 90 = .ok (.getfield 68, 3) := by decide +kernel
theorem dX11_readKinOne_93 : decode cX11_readKinOne 93 = .ok (.bipush 14, 2) := by decide +kernel
theorem dX11_readKinOne_95 : decode cX11_readKinOne 95 = .ok (.iload_n 2, 1) := by decide +kernel
theorem dX11_readKinOne_96 : decode cX11_readKinOne 96 = .ok (.iadd, 1) := by decide +kernel
theorem dX11_readKinOne_97 : decode cX11_readKinOne 97 = .ok (.iaload, 1) := by decide +kernel
theorem dX11_readKinOne_98 : decode cX11_readKinOne 98 = .ok (.iconst 1, 1) := by decide +kernel
theorem dX11_readKinOne_99 : decode cX11_readKinOne 99 = .ok (.iload_n 1, 1) := by decide +kernel
theorem dX11_readKinOne_100 : decode cX11_readKinOne 100 = .ok (.ishl, 1) := by decide +kernel
theorem dX11_readKinOne_101 : decode cX11_readKinOne 101 = .ok (.ior, 1) := by decide +kernel
theorem dX11_readKinOne_102 : decode cX11_readKinOne 102 = .ok (.iastore, 1) := by decide +kernel
theorem dX11_readKinOne_103 : decode cX11_readKinOne 103 = .ok (.aload_n 0, 1) := by decide +kernel
theorem dX11_readKinOne_104 : decode cX11_readKinOne 104 = .ok (.bipush 59, 2) := by decide +kernel
theorem dX11_readKinOne_106 : decode cX11_readKinOne 106 = .ok (.invokevirtual 275, 3) := by decide +kernel
theorem dX11_readKinOne_109 : decode cX11_readKinOne 109 = .ok (.ireturn, 1) := by decide +kernel
def f_X11_readKinOne_62   (v1 : Int32) (h : zHp) : Option (Int32 × zHp) := (f_X11_readNumber (0 : Int32) ((h 0 7) - (1 : Int32)) h).bind fun x1 => (if x1.1 = (-1 : Int32) then some ((-1 : Int32), x1.2) else zix ((14 : Int32) + x1.1) 28 (zix ((14 : Int32) + x1.1) 28 (zlt (zst x1.2 19 ((14 : Int32) + x1.1).toNatClampNeg ((x1.2 19 ((14 : Int32) + x1.1).toNatClampNeg) ||| ((1 : Int32) <<< (v1 &&& 31)))) fun h2 => (f_X11_readMark (59 : Int32) h2).bind fun x3 => some (x3.1, x3.2))))
set_option maxHeartbeats 4000000 in
set_option maxRecDepth 100000 in
theorem f_X11_readKinOne_62_s  (v1 : Int32) (h : zHp) : Sim wM mX11_readKinOne 5 rI 62 [(0, .ref 0), (1, .int v1)] [] h (f_X11_readKinOne_62 v1 h) := by
  unfold f_X11_readKinOne_62
  refine Sim.aload_n 0 dX11_readKinOne_62 rfl ?_
  refine Sim.iconst (v := (0 : Int32)) dX11_readKinOne_63 rfl ?_
  refine Sim.aload_n 0 dX11_readKinOne_64 rfl ?_
  refine Sim.getI fl_X11_143 dX11_readKinOne_65 mI_7 ?_
  refine Sim.iconst (v := (1 : Int32)) dX11_readKinOne_68 rfl ?_
  refine Sim.isub dX11_readKinOne_69 ?_
  refine Sim.callV2I (d1 := 3) (s_X11_readNumber (0 : Int32) ((h 0 7) - (1 : Int32)) h) dX11_readKinOne_70 ml_X11_268 mv_X11_readNumber mC (Nat.le_of_ble_eq_true rfl) (Nat.le_of_ble_eq_true rfl) (Nat.le_of_ble_eq_true rfl) (fun x1 => ?_)
  refine Sim.istore_n (L' := [(2, .int x1.1), (0, .ref 0), (1, .int v1)]) dX11_readKinOne_73 (Nat.le_of_ble_eq_true rfl) rfl ?_
  refine Sim.iload_n 0 dX11_readKinOne_74 rfl ?_
  refine Sim.iconst (v := (-1 : Int32)) dX11_readKinOne_75 rfl ?_
  refine Sim.icmp_ne 81 dX11_readKinOne_76 rfl ?_ ?_
  · refine Sim.iconst (v := (-1 : Int32)) dX11_readKinOne_79 rfl ?_
    exact Sim.iret dX11_readKinOne_80 rfl
  · refine Sim.aload_n 1 dX11_readKinOne_81 rfl ?_
    refine Sim.getR (j := 19) fl_X11_68 dX11_readKinOne_82 mR_39 ?_
    refine Sim.bipush (v := (14 : Int32)) dX11_readKinOne_85 rfl ?_
    refine Sim.iload_n 0 dX11_readKinOne_87 rfl ?_
    refine Sim.iadd dX11_readKinOne_88 ?_
    refine Sim.aload_n 1 dX11_readKinOne_89 rfl ?_
    refine Sim.getR (j := 19) fl_X11_68 dX11_readKinOne_90 mR_39 ?_
    refine Sim.bipush (v := (14 : Int32)) dX11_readKinOne_93 rfl ?_
    refine Sim.iload_n 0 dX11_readKinOne_95 rfl ?_
    refine Sim.iadd dX11_readKinOne_96 ?_
    refine Sim.iald (n := 28) dX11_readKinOne_97 mA_19 ?_
    refine Sim.iconst (v := (1 : Int32)) dX11_readKinOne_98 rfl ?_
    refine Sim.iload_n 2 dX11_readKinOne_99 rfl ?_
    refine Sim.ishl dX11_readKinOne_100 ?_
    refine Sim.ior dX11_readKinOne_101 ?_
    refine Sim.iast (n := 28) dX11_readKinOne_102 mA_19 ?_
    refine Sim.lth (fun h2 => ?_)
    refine Sim.aload_n 1 dX11_readKinOne_103 rfl ?_
    refine Sim.bipush (v := (59 : Int32)) dX11_readKinOne_104 rfl ?_
    refine Sim.callV1I (d1 := 3) (s_X11_readMark (59 : Int32) h2) dX11_readKinOne_106 ml_X11_275 mv_X11_readMark mC (Nat.le_of_ble_eq_true rfl) (Nat.le_of_ble_eq_true rfl) (Nat.le_of_ble_eq_true rfl) (fun x3 => ?_)
    exact Sim.iret dX11_readKinOne_109 rfl
def f_X11_readKinOne   (h : zHp) : Option (Int32 × zHp) := (f_X11_readTold (17 : Int32) (0 : Int32) ((h 0 7) - (1 : Int32)) h).bind fun x1 => (if x1.1 = (-1 : Int32) then some ((-1 : Int32), x1.2) else (f_X11_isWord (10 : Int32) x1.2).bind fun x2 => (if x2.1 = 0 then (f_X11_errs (1 : Int32) x2.2).bind fun x3 => some (x3.1, x3.2) else (f_X11_reads x2.2).bind fun x4 => (if (x4 0 15) = (3 : Int32) then (if (x4 0 16) = x1.1 then (f_X11_errs (2 : Int32) x4).bind fun x5 => some (x5.1, x5.2) else f_X11_readKinOne_62 x1.1 x4) else f_X11_readKinOne_62 x1.1 x4)))
set_option maxHeartbeats 4000000 in
set_option maxRecDepth 100000 in
theorem s_X11_readKinOne   (h : zHp) : Fn wM mX11_readKinOne 5 rI [.ref 0] h (f_X11_readKinOne  h) := by
  refine Fn.of rfl (Nat.le_of_ble_eq_true rfl) ?_
  unfold f_X11_readKinOne
  refine Sim.aload_n 0 dX11_readKinOne_0 rfl ?_
  refine Sim.bipush (v := (17 : Int32)) dX11_readKinOne_1 rfl ?_
  refine Sim.iconst (v := (0 : Int32)) dX11_readKinOne_3 rfl ?_
  refine Sim.aload_n 0 dX11_readKinOne_4 rfl ?_
  refine Sim.getI fl_X11_143 dX11_readKinOne_5 mI_7 ?_
  refine Sim.iconst (v := (1 : Int32)) dX11_readKinOne_8 rfl ?_
  refine Sim.isub dX11_readKinOne_9 ?_
  refine Sim.callV3I (d1 := 4) (s_X11_readTold (17 : Int32) (0 : Int32) ((h 0 7) - (1 : Int32)) h) dX11_readKinOne_10 ml_X11_271 mv_X11_readTold mC (Nat.le_of_ble_eq_true rfl) (Nat.le_of_ble_eq_true rfl) (Nat.le_of_ble_eq_true rfl) (fun x1 => ?_)
  refine Sim.istore_n (L' := [(1, .int x1.1), (0, .ref 0)]) dX11_readKinOne_13 (Nat.le_of_ble_eq_true rfl) rfl ?_
  refine Sim.iload_n 0 dX11_readKinOne_14 rfl ?_
  refine Sim.iconst (v := (-1 : Int32)) dX11_readKinOne_15 rfl ?_
  refine Sim.icmp_ne 21 dX11_readKinOne_16 rfl ?_ ?_
  · refine Sim.iconst (v := (-1 : Int32)) dX11_readKinOne_19 rfl ?_
    exact Sim.iret dX11_readKinOne_20 rfl
  · refine Sim.aload_n 1 dX11_readKinOne_21 rfl ?_
    refine Sim.bipush (v := (10 : Int32)) dX11_readKinOne_22 rfl ?_
    refine Sim.callV1I (d1 := 0) (s_X11_isWord (10 : Int32) x1.2) dX11_readKinOne_24 ml_X11_246 mv_X11_isWord mC (Nat.le_of_ble_eq_true rfl) (Nat.le_of_ble_eq_true rfl) (Nat.le_of_ble_eq_true rfl) (fun x2 => ?_)
    refine Sim.if_ne 36 dX11_readKinOne_27 rfl ?_ ?_
    · refine Sim.aload_n 1 dX11_readKinOne_30 rfl ?_
      refine Sim.iconst (v := (1 : Int32)) dX11_readKinOne_31 rfl ?_
      refine Sim.callV1I (d1 := 0) (s_X11_errs (1 : Int32) x2.2) dX11_readKinOne_32 ml_X11_218 mv_X11_errs mC (Nat.le_of_ble_eq_true rfl) (Nat.le_of_ble_eq_true rfl) (Nat.le_of_ble_eq_true rfl) (fun x3 => ?_)
      exact Sim.iret dX11_readKinOne_35 rfl
    · refine Sim.aload_n 1 dX11_readKinOne_36 rfl ?_
      refine Sim.callV0U (d1 := 2) (s_X11_reads x2.2) dX11_readKinOne_37 ml_X11_224 mv_X11_reads mC (Nat.le_of_ble_eq_true rfl) (Nat.le_of_ble_eq_true rfl) (Nat.le_of_ble_eq_true rfl) (fun x4 => ?_)
      refine Sim.aload_n 1 dX11_readKinOne_40 rfl ?_
      refine Sim.getI fl_X11_187 dX11_readKinOne_41 mI_15 ?_
      refine Sim.iconst (v := (3 : Int32)) dX11_readKinOne_44 rfl ?_
      refine Sim.icmp_ne 62 dX11_readKinOne_45 rfl ?_ ?_
      · refine Sim.aload_n 1 dX11_readKinOne_48 rfl ?_
        refine Sim.getI fl_X11_190 dX11_readKinOne_49 mI_16 ?_
        refine Sim.iload_n 0 dX11_readKinOne_52 rfl ?_
        refine Sim.icmp_ne 62 dX11_readKinOne_53 rfl ?_ ?_
        · refine Sim.aload_n 1 dX11_readKinOne_56 rfl ?_
          refine Sim.iconst (v := (2 : Int32)) dX11_readKinOne_57 rfl ?_
          refine Sim.callV1I (d1 := 0) (s_X11_errs (2 : Int32) x4) dX11_readKinOne_58 ml_X11_218 mv_X11_errs mC (Nat.le_of_ble_eq_true rfl) (Nat.le_of_ble_eq_true rfl) (Nat.le_of_ble_eq_true rfl) (fun x5 => ?_)
          exact Sim.iret dX11_readKinOne_61 rfl
        · refine Sim.locs [1, 0] rfl ?_
          exact f_X11_readKinOne_62_s x1.1 x4
      · refine Sim.locs [1, 0] rfl ?_
        exact f_X11_readKinOne_62_s x1.1 x4
theorem mv_X11_readKinOne : zMV mX11_readKinOne 0 := ⟨⟨zTb_in 1642 (by decide +kernel) rfl, zTb_in 148 (by decide +kernel) rfl, ⟨by decide +kernel, by decide +kernel⟩, by decide +kernel⟩, zTb_in 1641 (by decide +kernel) rfl, zTb_in 64 (by decide +kernel) rfl⟩
-- ===== RockingPorchModel.readKin()I
abbrev mX11_readKin : zMt := (yX11_readKin, cX11_readKin, 2, some .int)
theorem ml_X11_284 : Cond.methodLink RX11 284 yX11_readKinOne ∈ zTb := zTb_in 1639 (by decide +kernel) rfl
theorem dX11_readKin_0 : decode cX11_readKin 0 = .ok (.iconst 0, 1) := by decide +kernel
theorem dX11_readKin_1 : decode cX11_readKin 1 = .ok (.istore_n 1, 1) := by decide +kernel
theorem dX11_readKin_2 : decode cX11_readKin 2 = .ok (.iload_n 1, 1) := by decide +kernel
theorem dX11_readKin_3 : decode cX11_readKin 3 = .ok (.bipush 14, 2) := by decide +kernel
theorem dX11_readKin_5 : decode cX11_readKin 5 = .ok (.if_icmp .ge 19, 3) := by decide +kernel
theorem dX11_readKin_8 : decode cX11_readKin 8 = .ok (.aload_n 0, 1) := by decide +kernel
theorem dX11_readKin_9 : decode cX11_readKin 9 = .ok (.getfield 68, 3) := by decide +kernel
theorem dX11_readKin_12 : decode cX11_readKin 12 = .ok (.bipush 14, 2) := by decide +kernel
theorem dX11_readKin_14 : decode cX11_readKin 14 = .ok (.iload_n 1, 1) := by decide +kernel
theorem dX11_readKin_15 : decode cX11_readKin 15 = .ok (.iadd, 1) := by decide +kernel
theorem dX11_readKin_16 : decode cX11_readKin 16 = .ok (.iconst 0, 1) := by decide +kernel
theorem dX11_readKin_17 : decode cX11_readKin 17 = .ok (.iastore, 1) := by decide +kernel
theorem dX11_readKin_18 : decode cX11_readKin 18 = .ok (.iinc 1 1, 3) := by decide +kernel
theorem dX11_readKin_21 : decode cX11_readKin 21 = .ok (.goto (-19), 3) := by decide +kernel
theorem dX11_readKin_24 : decode cX11_readKin 24 = .ok (.iconst 0, 1) := by decide +kernel
theorem dX11_readKin_25 : decode cX11_readKin 25 = .ok (.istore_n 1, 1) := by decide +kernel
theorem dX11_readKin_26 : decode cX11_readKin 26 = .ok (.aload_n 0, 1) := by decide +kernel
theorem dX11_readKin_27 : decode cX11_readKin 27 = .ok (.bipush 17, 2) := by decide +kernel
theorem dX11_readKin_29 : decode cX11_readKin 29 = .ok (.invokevirtual 246, 3) := by decide +kernel
theorem dX11_readKin_32 : decode cX11_readKin 32 = .ok (.ifCond .eq 32, 3) := by decide +kernel
theorem dX11_readKin_35 : decode cX11_readKin 35 = .ok (.iload_n 1, 1) := by decide +kernel
theorem dX11_readKin_36 : decode cX11_readKin 36 = .ok (.bipush 16, 2) := by decide +kernel
theorem dX11_readKin_38 : decode cX11_readKin 38 = .ok (.if_icmp .ne 9, 3) := by decide +kernel
theorem dX11_readKin_41 : decode cX11_readKin 41 = .ok (.aload_n 0, 1) := by decide +kernel
theorem dX11_readKin_42 : decode cX11_readKin 42 = .ok (.iconst 3, 1) := by decide +kernel
theorem dX11_readKin_43 : decode cX11_readKin 43 = .ok (.invokevirtual 218, 3) := by decide +kernel
theorem dX11_readKin_46 : decode cX11_readKin 46 = .ok (.ireturn, 1) := by decide +kernel
theorem dX11_readKin_47 : decode cX11_readKin 47 = .ok (.aload_n 0, 1) := by decide +kernel
theorem dX11_readKin_48 : decode cX11_readKin 48 = .ok (.invokevirtual 284, 3) := by decide +kernel
theorem dX11_readKin_51 : decode cX11_readKin 51 = .ok (.iconst (-1), 1) := by decide +kernel
theorem dX11_readKin_52 : decode cX11_readKin 52 = .ok (.if_icmp .ne 5, 3) := by decide +kernel
theorem dX11_readKin_55 : decode cX11_readKin 55 = .ok (.iconst (-1), 1) := by decide +kernel
theorem dX11_readKin_56 : decode cX11_readKin 56 = .ok (.ireturn, 1) := by decide +kernel
theorem dX11_readKin_57 : decode cX11_readKin 57 = .ok (.iload_n 1, 1) := by decide +kernel
theorem dX11_readKin_58 : decode cX11_readKin 58 = .ok (.iconst 1, 1) := by decide +kernel
theorem dX11_readKin_59 : decode cX11_readKin 59 = .ok (.iadd, 1) := by decide +kernel
theorem dX11_readKin_60 : decode cX11_readKin 60 = .ok (.istore_n 1, 1) := by decide +kernel
theorem dX11_readKin_61 : decode cX11_readKin 61 = .ok (.goto (-35), 3) := by decide +kernel
theorem dX11_readKin_64 : decode cX11_readKin 64 = .ok (.aload_n 0, 1) := by decide +kernel
theorem dX11_readKin_65 : decode cX11_readKin 65 = .ok (.getfield 187, 3) := by decide +kernel
theorem dX11_readKin_68 : decode cX11_readKin 68 = .ok (.ifCond .ne 7, 3) := by decide +kernel
theorem dX11_readKin_71 : decode cX11_readKin 71 = .ok (.iload_n 1, 1) := by decide +kernel
theorem dX11_readKin_72 : decode cX11_readKin 72 = .ok (.goto 8, 3) := by decide +kernel
theorem dX11_readKin_75 : decode cX11_readKin 75 = .ok (.aload_n 0, 1) := by decide +kernel
theorem dX11_readKin_76 : decode cX11_readKin 76 = .ok (.iconst 1, 1) := by decide +kernel
theorem dX11_readKin_77 : decode cX11_readKin 77 = .ok (.invokevirtual 218, 3) := by decide +kernel
theorem dX11_readKin_80 : decode cX11_readKin 80 = .ok (.ireturn, 1) := by decide +kernel
def f_X11_readKin_26  (k26 : Int32 × zHp → Option (Int32 × zHp)) (v1 : Int32) (h : zHp) : Option (Int32 × zHp) := (f_X11_isWord (17 : Int32) h).bind fun x1 => (if x1.1 = 0 then (if (x1.2 0 15) = 0 then some (v1, x1.2) else (f_X11_errs (1 : Int32) x1.2).bind fun x2 => some (x2.1, x2.2)) else (if v1 = (16 : Int32) then (f_X11_errs (3 : Int32) x1.2).bind fun x3 => some (x3.1, x3.2) else (f_X11_readKinOne x1.2).bind fun x4 => (if x4.1 = (-1 : Int32) then some ((-1 : Int32), x4.2) else zlt (v1 + (1 : Int32)) fun x5 => k26 (x5, x4.2))))
set_option maxHeartbeats 4000000 in
set_option maxRecDepth 100000 in
theorem f_X11_readKin_26_s  (k26 : Int32 × zHp → Option (Int32 × zHp)) (H26 : ∀ v : Int32 × zHp, Sim wM mX11_readKin 6 rI 26 [(0, .ref 0), (1, .int v.1)] [] v.2 (k26 v)) (v1 : Int32) (h : zHp) : Sim wM mX11_readKin 6 rI 26 [(0, .ref 0), (1, .int v1)] [] h (f_X11_readKin_26 k26 v1 h) := by
  unfold f_X11_readKin_26
  refine Sim.aload_n 0 dX11_readKin_26 rfl ?_
  refine Sim.bipush (v := (17 : Int32)) dX11_readKin_27 rfl ?_
  refine Sim.callV1I (d1 := 0) (s_X11_isWord (17 : Int32) h) dX11_readKin_29 ml_X11_246 mv_X11_isWord mC (Nat.le_of_ble_eq_true rfl) (Nat.le_of_ble_eq_true rfl) (Nat.le_of_ble_eq_true rfl) (fun x1 => ?_)
  refine Sim.if_eq 64 dX11_readKin_32 rfl ?_ ?_
  · refine Sim.aload_n 0 dX11_readKin_64 rfl ?_
    refine Sim.getI fl_X11_187 dX11_readKin_65 mI_15 ?_
    refine Sim.if_ne 75 dX11_readKin_68 rfl ?_ ?_
    · refine Sim.iload_n 1 dX11_readKin_71 rfl ?_
      refine Sim.goto 80 dX11_readKin_72 rfl ?_
      exact Sim.iret dX11_readKin_80 rfl
    · refine Sim.aload_n 0 dX11_readKin_75 rfl ?_
      refine Sim.iconst (v := (1 : Int32)) dX11_readKin_76 rfl ?_
      refine Sim.callV1I (d1 := 0) (s_X11_errs (1 : Int32) x1.2) dX11_readKin_77 ml_X11_218 mv_X11_errs mC (Nat.le_of_ble_eq_true rfl) (Nat.le_of_ble_eq_true rfl) (Nat.le_of_ble_eq_true rfl) (fun x2 => ?_)
      exact Sim.iret dX11_readKin_80 rfl
  · refine Sim.iload_n 1 dX11_readKin_35 rfl ?_
    refine Sim.bipush (v := (16 : Int32)) dX11_readKin_36 rfl ?_
    refine Sim.icmp_ne 47 dX11_readKin_38 rfl ?_ ?_
    · refine Sim.aload_n 0 dX11_readKin_41 rfl ?_
      refine Sim.iconst (v := (3 : Int32)) dX11_readKin_42 rfl ?_
      refine Sim.callV1I (d1 := 0) (s_X11_errs (3 : Int32) x1.2) dX11_readKin_43 ml_X11_218 mv_X11_errs mC (Nat.le_of_ble_eq_true rfl) (Nat.le_of_ble_eq_true rfl) (Nat.le_of_ble_eq_true rfl) (fun x3 => ?_)
      exact Sim.iret dX11_readKin_46 rfl
    · refine Sim.aload_n 0 dX11_readKin_47 rfl ?_
      refine Sim.callV0I (d1 := 5) (s_X11_readKinOne x1.2) dX11_readKin_48 ml_X11_284 mv_X11_readKinOne mC (Nat.le_of_ble_eq_true rfl) (Nat.le_of_ble_eq_true rfl) (Nat.le_of_ble_eq_true rfl) (fun x4 => ?_)
      refine Sim.iconst (v := (-1 : Int32)) dX11_readKin_51 rfl ?_
      refine Sim.icmp_ne 57 dX11_readKin_52 rfl ?_ ?_
      · refine Sim.iconst (v := (-1 : Int32)) dX11_readKin_55 rfl ?_
        exact Sim.iret dX11_readKin_56 rfl
      · refine Sim.iload_n 1 dX11_readKin_57 rfl ?_
        refine Sim.iconst (v := (1 : Int32)) dX11_readKin_58 rfl ?_
        refine Sim.iadd dX11_readKin_59 ?_
        refine Sim.lti (fun x5 => ?_)
        refine Sim.istore_n (L' := [(1, .int x5), (0, .ref 0)]) dX11_readKin_60 (Nat.le_of_ble_eq_true rfl) rfl ?_
        refine Sim.goto 26 dX11_readKin_61 rfl ?_
        refine Sim.locs [1, 0] rfl ?_
        exact H26 (x5, x4.2)
def f_X11_readKin_26_lp   (n : Nat) (v : Int32 × zHp) : Option (Int32 × zHp) := zlp (fun k26 v => f_X11_readKin_26 k26 v.1 v.2) n v
theorem f_X11_readKin_26_ls  (n : Nat) (v : Int32 × zHp) : Sim wM mX11_readKin 6 rI 26 [(0, .ref 0), (1, .int v.1)] [] v.2 (f_X11_readKin_26_lp n v) :=
  Sim.lp (V := Int32 × zHp) (Lf := fun v => [(0, .ref 0), (1, .int v.1)]) (sf := fun v => []) (hf := fun v => v.2) (fun k26 H26 v => f_X11_readKin_26_s k26 H26 v.1 v.2) n v
def f_X11_readKin_2  (k2 : Int32 × zHp → Option (Int32 × zHp)) (v1 : Int32) (h : zHp) : Option (Int32 × zHp) := (if v1 < (14 : Int32) then zix ((14 : Int32) + v1) 28 (zlt (zst h 19 ((14 : Int32) + v1).toNatClampNeg (0 : Int32)) fun h1 => k2 ((v1 + (1 : Int32)), h1)) else f_X11_readKin_26_lp  zN ((0 : Int32), h))
set_option maxHeartbeats 4000000 in
set_option maxRecDepth 100000 in
theorem f_X11_readKin_2_s  (k2 : Int32 × zHp → Option (Int32 × zHp)) (H2 : ∀ v : Int32 × zHp, Sim wM mX11_readKin 6 rI 2 [(0, .ref 0), (1, .int v.1)] [] v.2 (k2 v)) (v1 : Int32) (h : zHp) : Sim wM mX11_readKin 6 rI 2 [(0, .ref 0), (1, .int v1)] [] h (f_X11_readKin_2 k2 v1 h) := by
  unfold f_X11_readKin_2
  refine Sim.iload_n 1 dX11_readKin_2 rfl ?_
  refine Sim.bipush (v := (14 : Int32)) dX11_readKin_3 rfl ?_
  refine Sim.icmp_ge 24 dX11_readKin_5 rfl ?_ ?_
  · refine Sim.aload_n 0 dX11_readKin_8 rfl ?_
    refine Sim.getR (j := 19) fl_X11_68 dX11_readKin_9 mR_39 ?_
    refine Sim.bipush (v := (14 : Int32)) dX11_readKin_12 rfl ?_
    refine Sim.iload_n 1 dX11_readKin_14 rfl ?_
    refine Sim.iadd dX11_readKin_15 ?_
    refine Sim.iconst (v := (0 : Int32)) dX11_readKin_16 rfl ?_
    refine Sim.iast (n := 28) dX11_readKin_17 mA_19 ?_
    refine Sim.lth (fun h1 => ?_)
    refine Sim.iinc (L' := [(1, .int (v1 + (1 : Int32))), (0, .ref 0)]) 1 dX11_readKin_18 rfl rfl (Nat.le_of_ble_eq_true rfl) rfl ?_
    refine Sim.goto 2 dX11_readKin_21 rfl ?_
    refine Sim.locs [1, 0] rfl ?_
    exact H2 ((v1 + (1 : Int32)), h1)
  · refine Sim.iconst (v := (0 : Int32)) dX11_readKin_24 rfl ?_
    refine Sim.istore_n (L' := [(1, .int (0 : Int32)), (0, .ref 0)]) dX11_readKin_25 (Nat.le_of_ble_eq_true rfl) rfl ?_
    refine Sim.locs [1, 0] rfl ?_
    exact f_X11_readKin_26_ls  zN ((0 : Int32), h)
def f_X11_readKin_2_lp   (n : Nat) (v : Int32 × zHp) : Option (Int32 × zHp) := zlp (fun k2 v => f_X11_readKin_2 k2 v.1 v.2) n v
theorem f_X11_readKin_2_ls  (n : Nat) (v : Int32 × zHp) : Sim wM mX11_readKin 6 rI 2 [(0, .ref 0), (1, .int v.1)] [] v.2 (f_X11_readKin_2_lp n v) :=
  Sim.lp (V := Int32 × zHp) (Lf := fun v => [(0, .ref 0), (1, .int v.1)]) (sf := fun v => []) (hf := fun v => v.2) (fun k2 H2 v => f_X11_readKin_2_s k2 H2 v.1 v.2) n v
def f_X11_readKin   (h : zHp) : Option (Int32 × zHp) := f_X11_readKin_2_lp  zN ((0 : Int32), h)
set_option maxHeartbeats 4000000 in
set_option maxRecDepth 100000 in
theorem s_X11_readKin   (h : zHp) : Fn wM mX11_readKin 6 rI [.ref 0] h (f_X11_readKin  h) := by
  refine Fn.of rfl (Nat.le_of_ble_eq_true rfl) ?_
  unfold f_X11_readKin
  refine Sim.iconst (v := (0 : Int32)) dX11_readKin_0 rfl ?_
  refine Sim.istore_n (L' := [(1, .int (0 : Int32)), (0, .ref 0)]) dX11_readKin_1 (Nat.le_of_ble_eq_true rfl) rfl ?_
  refine Sim.locs [1, 0] rfl ?_
  exact f_X11_readKin_2_ls  zN ((0 : Int32), h)
theorem mv_X11_readKin : zMV mX11_readKin 0 := ⟨⟨zTb_in 1638 (by decide +kernel) rfl, zTb_in 148 (by decide +kernel) rfl, ⟨by decide +kernel, by decide +kernel⟩, by decide +kernel⟩, zTb_in 1637 (by decide +kernel) rfl, zTb_in 63 (by decide +kernel) rfl⟩
-- ===== RockingPorchModel.readsText(I)I
abbrev mX11_readsText : zMt := (yX11_readsText, cX11_readsText, 2, some .int)
theorem fp_X11_265 : zFp RX11 265 11 25 .int := ⟨RX11, TX11, 69, tyX11, rfl, Nat.le_of_ble_eq_true rfl, zTb_in 1324 (by decide +kernel) rfl, in_X11, tyX11_ok, nmX11, rfl, rfl⟩
theorem ml_X11_287 : Cond.methodLink RX11 287 yX11_readCalls ∈ zTb := zTb_in 1595 (by decide +kernel) rfl
theorem ml_X11_290 : Cond.methodLink RX11 290 yX11_readHouse ∈ zTb := zTb_in 1627 (by decide +kernel) rfl
theorem ml_X11_293 : Cond.methodLink RX11 293 yX11_readKin ∈ zTb := zTb_in 1635 (by decide +kernel) rfl
theorem ml_X11_296 : Cond.methodLink RX11 296 yX11_readLaw ∈ zTb := zTb_in 1643 (by decide +kernel) rfl
theorem dX11_readsText_0 : decode cX11_readsText 0 = .ok (.aload_n 0, 1) := by decide +kernel
theorem dX11_readsText_1 : decode cX11_readsText 1 = .ok (.iconst 0, 1) := by decide +kernel
theorem dX11_readsText_2 : decode cX11_readsText 2 = .ok (.putfield 265, 3) := by decide +kernel
theorem dX11_readsText_5 : decode cX11_readsText 5 = .ok (.aload_n 0, 1) := by decide +kernel
theorem dX11_readsText_6 : decode cX11_readsText 6 = .ok (.invokevirtual 224, 3) := by decide +kernel
theorem dX11_readsText_9 : decode cX11_readsText 9 = .ok (.iload_n 1, 1) := by decide +kernel
theorem dX11_readsText_10 : decode cX11_readsText 10 = .ok (.iconst 1, 1) := by decide +kernel
theorem dX11_readsText_11 : decode cX11_readsText 11 = .ok (.if_icmp .ne 8, 3) := by decide +kernel
theorem dX11_readsText_14 : decode cX11_readsText 14 = .ok (.aload_n 0, 1) := by decide +kernel
theorem dX11_readsText_15 : decode cX11_readsText 15 = .ok (.invokevirtual 287, 3) := by decide +kernel
theorem dX11_readsText_18 : decode cX11_readsText 18 = .ok (.ireturn, 1) := by decide +kernel
theorem dX11_readsText_19 : decode cX11_readsText 19 = .ok (.iload_n 1, 1) := by decide +kernel
theorem dX11_readsText_20 : decode cX11_readsText 20 = .ok (.iconst 2, 1) := by decide +kernel
theorem dX11_readsText_21 : decode cX11_readsText 21 = .ok (.if_icmp .ne 8, 3) := by decide +kernel
theorem dX11_readsText_24 : decode cX11_readsText 24 = .ok (.aload_n 0, 1) := by decide +kernel
theorem dX11_readsText_25 : decode cX11_readsText 25 = .ok (.invokevirtual 290, 3) := by decide +kernel
theorem dX11_readsText_28 : decode cX11_readsText 28 = .ok (.ireturn, 1) := by decide +kernel
theorem dX11_readsText_29 : decode cX11_readsText 29 = .ok (.iload_n 1, 1) := by decide +kernel
theorem dX11_readsText_30 : decode cX11_readsText 30 = .ok (.iconst 3, 1) := by decide +kernel
theorem dX11_readsText_31 : decode cX11_readsText 31 = .ok (.if_icmp .ne 10, 3) := by decide +kernel
theorem dX11_readsText_34 : decode cX11_readsText 34 = .ok (.aload_n 0, 1) := by decide +kernel
theorem dX11_readsText_35 : decode cX11_readsText 35 = .ok (.invokevirtual 293, 3) := by decide +kernel
theorem dX11_readsText_38 : decode cX11_readsText 38 = .ok (.goto 7, 3) := by decide +kernel
theorem dX11_readsText_41 : decode cX11_readsText 41 = .ok (.aload_n 0, 1) := by decide +kernel
theorem dX11_readsText_42 : decode cX11_readsText 42 = .ok (.invokevirtual 296, 3) := by decide +kernel
theorem dX11_readsText_45 : decode cX11_readsText 45 = .ok (.ireturn, 1) := by decide +kernel
def f_X11_readsText  (a1 : Int32) (h : zHp) : Option (Int32 × zHp) := zlt (zst h 0 25 (0 : Int32)) fun h1 => (f_X11_reads h1).bind fun x2 => (if a1 = (1 : Int32) then (f_X11_readCalls x2).bind fun x3 => some (x3.1, x3.2) else (if a1 = (2 : Int32) then (f_X11_readHouse x2).bind fun x4 => some (x4.1, x4.2) else (if a1 = (3 : Int32) then (f_X11_readKin x2).bind fun x5 => some (x5.1, x5.2) else (f_X11_readLaw x2).bind fun x6 => some (x6.1, x6.2))))
set_option maxHeartbeats 4000000 in
set_option maxRecDepth 100000 in
theorem s_X11_readsText  (a1 : Int32) (h : zHp) : Fn wM mX11_readsText 9 rI [.ref 0, .int a1] h (f_X11_readsText a1 h) := by
  refine Fn.of rfl (Nat.le_of_ble_eq_true rfl) ?_
  unfold f_X11_readsText
  refine Sim.aload_n 0 dX11_readsText_0 rfl ?_
  refine Sim.iconst (v := (0 : Int32)) dX11_readsText_1 rfl ?_
  refine Sim.put fp_X11_265 dX11_readsText_2 mI_25 rfl rfl ?_
  refine Sim.lth (fun h1 => ?_)
  refine Sim.aload_n 0 dX11_readsText_5 rfl ?_
  refine Sim.callV0U (d1 := 2) (s_X11_reads h1) dX11_readsText_6 ml_X11_224 mv_X11_reads mC (Nat.le_of_ble_eq_true rfl) (Nat.le_of_ble_eq_true rfl) (Nat.le_of_ble_eq_true rfl) (fun x2 => ?_)
  refine Sim.iload_n 1 dX11_readsText_9 rfl ?_
  refine Sim.iconst (v := (1 : Int32)) dX11_readsText_10 rfl ?_
  refine Sim.icmp_ne 19 dX11_readsText_11 rfl ?_ ?_
  · refine Sim.aload_n 0 dX11_readsText_14 rfl ?_
    refine Sim.callV0I (d1 := 6) (s_X11_readCalls x2) dX11_readsText_15 ml_X11_287 mv_X11_readCalls mC (Nat.le_of_ble_eq_true rfl) (Nat.le_of_ble_eq_true rfl) (Nat.le_of_ble_eq_true rfl) (fun x3 => ?_)
    exact Sim.iret dX11_readsText_18 rfl
  · refine Sim.iload_n 1 dX11_readsText_19 rfl ?_
    refine Sim.iconst (v := (2 : Int32)) dX11_readsText_20 rfl ?_
    refine Sim.icmp_ne 29 dX11_readsText_21 rfl ?_ ?_
    · refine Sim.aload_n 0 dX11_readsText_24 rfl ?_
      refine Sim.callV0I (d1 := 6) (s_X11_readHouse x2) dX11_readsText_25 ml_X11_290 mv_X11_readHouse mC (Nat.le_of_ble_eq_true rfl) (Nat.le_of_ble_eq_true rfl) (Nat.le_of_ble_eq_true rfl) (fun x4 => ?_)
      exact Sim.iret dX11_readsText_28 rfl
    · refine Sim.iload_n 1 dX11_readsText_29 rfl ?_
      refine Sim.iconst (v := (3 : Int32)) dX11_readsText_30 rfl ?_
      refine Sim.icmp_ne 41 dX11_readsText_31 rfl ?_ ?_
      · refine Sim.aload_n 0 dX11_readsText_34 rfl ?_
        refine Sim.callV0I (d1 := 6) (s_X11_readKin x2) dX11_readsText_35 ml_X11_293 mv_X11_readKin mC (Nat.le_of_ble_eq_true rfl) (Nat.le_of_ble_eq_true rfl) (Nat.le_of_ble_eq_true rfl) (fun x5 => ?_)
        refine Sim.goto 45 dX11_readsText_38 rfl ?_
        exact Sim.iret dX11_readsText_45 rfl
      · refine Sim.aload_n 0 dX11_readsText_41 rfl ?_
        refine Sim.callV0I (d1 := 8) (s_X11_readLaw x2) dX11_readsText_42 ml_X11_296 mv_X11_readLaw mC (Nat.le_of_ble_eq_true rfl) (Nat.le_of_ble_eq_true rfl) (Nat.le_of_ble_eq_true rfl) (fun x6 => ?_)
        exact Sim.iret dX11_readsText_45 rfl
theorem mv_X11_readsText : zMV mX11_readsText 1 := ⟨⟨zTb_in 1570 (by decide +kernel) rfl, zTb_in 148 (by decide +kernel) rfl, ⟨by decide +kernel, by decide +kernel⟩, by decide +kernel⟩, zTb_in 1569 (by decide +kernel) rfl, zTb_in 46 (by decide +kernel) rfl⟩
-- ===== RockingPorchModel.takesOther(II)V
abbrev mX11_takesOther : zMt := (yX11_takesOther, cX11_takesOther, 4, none)
theorem fp_X11_299 : zFp RX11 299 11 38 .int := ⟨RX11, TX11, 69, tyX11, rfl, Nat.le_of_ble_eq_true rfl, zTb_in 1337 (by decide +kernel) rfl, in_X11, tyX11_ok, nmX11, rfl, rfl⟩
theorem fp_X11_302 : zFp RX11 302 11 34 .int := ⟨RX11, TX11, 69, tyX11, rfl, Nat.le_of_ble_eq_true rfl, zTb_in 1333 (by decide +kernel) rfl, in_X11, tyX11_ok, nmX11, rfl, rfl⟩
theorem fp_X11_305 : zFp RX11 305 11 36 .int := ⟨RX11, TX11, 69, tyX11, rfl, Nat.le_of_ble_eq_true rfl, zTb_in 1335 (by decide +kernel) rfl, in_X11, tyX11_ok, nmX11, rfl, rfl⟩
theorem dX11_takesOther_0 : decode cX11_takesOther 0 = .ok (.iload_n 1, 1) := by decide +kernel
theorem dX11_takesOther_1 : decode cX11_takesOther 1 = .ok (.iconst 3, 1) := by decide +kernel
theorem dX11_takesOther_2 : decode cX11_takesOther 2 = .ok (.if_icmp .ne 38, 3) := by decide +kernel
theorem dX11_takesOther_5 : decode cX11_takesOther 5 = .ok (.iconst 0, 1) := by decide +kernel
theorem dX11_takesOther_6 : decode cX11_takesOther 6 = .ok (.istore_n 3, 1) := by decide +kernel
theorem dX11_takesOther_7 : decode cX11_takesOther 7 = .ok (.iload_n 3, 1) := by decide +kernel
theorem dX11_takesOther_8 : decode cX11_takesOther 8 = .ok (.bipush 14, 2) := by decide +kernel
theorem dX11_takesOther_10 : decode cX11_takesOther 10 = .ok (.if_icmp .ge 24, 3) := by decide +kernel
theorem dX11_takesOther_13 : decode cX11_takesOther 13 = .ok (.aload_n 0, 1) := by decide +kernel
theorem dX11_takesOther_14 : decode cX11_takesOther 14 = .ok (.getfield 68, 3) := by decide +kernel
theorem dX11_takesOther_17 : decode cX11_takesOther 17 = .ok (.iload_n 3, 1) := by decide +kernel
theorem dX11_takesOther_18 : decode cX11_takesOther 18 = .ok (.aload_n 0, 1) := by decide +kernel
theorem dX11_takesOther_19 : decode cX11_takesOther 19 = .ok (.getfield 68, 3) := by decide +kernel
theorem dX11_takesOther_22 : decode cX11_takesOther 22 = .ok (.bipush 14, 2) := by decide +kernel
theorem dX11_takesOther_24 : decode cX11_takesOther 24 = .ok (.iload_n 3, 1) := by decide +kernel
theorem dX11_takesOther_25 : decode cX11_takesOther 25 = .ok (.iadd, 1) := by decide +kernel
theorem dX11_takesOther_26 : decode cX11_takesOther 26 = .ok (.iaload, 1) := by decide +kernel
theorem dX11_takesOther_27 : decode cX11_takesOther 27 = .ok (.iastore, 1) := by decide +kernel
theorem dX11_takesOther_28 : decode cX11_takesOther 28 = .ok (.iinc 3 1, 3) := by decide +kernel
theorem dX11_takesOther_31 : decode cX11_takesOther 31 = .ok (.goto (-24), 3) := by decide +kernel
theorem dX11_takesOther_34 : decode cX11_takesOther 34 = .ok (.aload_n 0, 1) := by decide +kernel
theorem dX11_takesOther_35 : decode cX11_takesOther 35 = .ok (.iload_n 2, 1) := by decide +kernel
theorem dX11_takesOther_36 : decode cX11_takesOther 36 = .ok (.putfield 299, 3) := by decide +kernel
theorem dX11_takesOther_39 : decode cX11_takesOther 39 = .ok (.return_, 1) := by decide +kernel
theorem dX11_takesOther_40 : decode cX11_takesOther 40 = .ok (.iconst 0, 1) := by decide +kernel
theorem dX11_takesOther_41 : decode cX11_takesOther 41 = .ok (.istore_n 3, 1) := by decide +kernel
theorem dX11_takesOther_42 : decode cX11_takesOther 42 = .ok (.iload_n 3, 1) := by decide +kernel
theorem dX11_takesOther_43 : decode cX11_takesOther 43 = .ok (.iconst 4, 1) := by decide +kernel
theorem dX11_takesOther_44 : decode cX11_takesOther 44 = .ok (.iload_n 2, 1) := by decide +kernel
theorem dX11_takesOther_45 : decode cX11_takesOther 45 = .ok (.imul, 1) := by decide +kernel
theorem dX11_takesOther_46 : decode cX11_takesOther 46 = .ok (.if_icmp .ge 29, 3) := by decide +kernel
theorem dX11_takesOther_49 : decode cX11_takesOther 49 = .ok (.iload_n 1, 1) := by decide +kernel
theorem dX11_takesOther_50 : decode cX11_takesOther 50 = .ok (.iconst 1, 1) := by decide +kernel
theorem dX11_takesOther_51 : decode cX11_takesOther 51 = .ok (.if_icmp .ne 24, 3) := by decide +kernel
theorem dX11_takesOther_54 : decode cX11_takesOther 54 = .ok (.aload_n 0, 1) := by decide +kernel
theorem dX11_takesOther_55 : decode cX11_takesOther 55 = .ok (.getfield 62, 3) := by decide +kernel
theorem dX11_takesOther_58 : decode cX11_takesOther 58 = .ok (.iload_n 3, 1) := by decide +kernel
theorem dX11_takesOther_59 : decode cX11_takesOther 59 = .ok (.aload_n 0, 1) := by decide +kernel
theorem dX11_takesOther_60 : decode cX11_takesOther 60 = .ok (.getfield 62, 3) := by decide +kernel
theorem dX11_takesOther_63 : decode cX11_takesOther 63 = .ok (.bipush 64, 2) := by decide +kernel
theorem dX11_takesOther_65 : decode cX11_takesOther 65 = .ok (.iload_n 3, 1) := by decide +kernel
theorem dX11_takesOther_66 : decode cX11_takesOther 66 = .ok (.iadd, 1) := by decide +kernel
theorem dX11_takesOther_67 : decode cX11_takesOther 67 = .ok (.iaload, 1) := by decide +kernel
theorem dX11_takesOther_68 : decode cX11_takesOther 68 = .ok (.iastore, 1) := by decide +kernel
theorem dX11_takesOther_69 : decode cX11_takesOther 69 = .ok (.iinc 3 1, 3) := by decide +kernel
theorem dX11_takesOther_72 : decode cX11_takesOther 72 = .ok (.goto (-30), 3) := by decide +kernel
theorem dX11_takesOther_75 : decode cX11_takesOther 75 = .ok (.iconst 0, 1) := by decide +kernel
theorem dX11_takesOther_76 : decode cX11_takesOther 76 = .ok (.istore_n 3, 1) := by decide +kernel
theorem dX11_takesOther_77 : decode cX11_takesOther 77 = .ok (.iload_n 3, 1) := by decide +kernel
theorem dX11_takesOther_78 : decode cX11_takesOther 78 = .ok (.iconst 3, 1) := by decide +kernel
theorem dX11_takesOther_79 : decode cX11_takesOther 79 = .ok (.iload_n 2, 1) := by decide +kernel
theorem dX11_takesOther_80 : decode cX11_takesOther 80 = .ok (.imul, 1) := by decide +kernel
theorem dX11_takesOther_81 : decode cX11_takesOther 81 = .ok (.if_icmp .ge 29, 3) := by decide +kernel
theorem dX11_takesOther_84 : decode cX11_takesOther 84 = .ok (.iload_n 1, 1) := by decide +kernel
theorem dX11_takesOther_85 : decode cX11_takesOther 85 = .ok (.iconst 2, 1) := by decide +kernel
theorem dX11_takesOther_86 : decode cX11_takesOther 86 = .ok (.if_icmp .ne 24, 3) := by decide +kernel
theorem dX11_takesOther_89 : decode cX11_takesOther 89 = .ok (.aload_n 0, 1) := by decide +kernel
theorem dX11_takesOther_90 : decode cX11_takesOther 90 = .ok (.getfield 65, 3) := by decide +kernel
theorem dX11_takesOther_93 : decode cX11_takesOther 93 = .ok (.iload_n 3, 1) := by decide +kernel
theorem dX11_takesOther_94 : decode cX11_takesOther 94 = .ok (.aload_n 0, 1) := by decide +kernel
theorem dX11_takesOther_95 : decode cX11_takesOther 95 = .ok (.getfield 65, 3) := by decide +kernel
theorem dX11_takesOther_98 : decode cX11_takesOther 98 = .ok (.bipush 48, 2) := by decide +kernel
theorem dX11_takesOther_100 : decode cX11_takesOther 100 = .ok (.iload_n 3, 1) := by decide +kernel
theorem dX11_takesOther_101 : decode cX11_takesOther 101 = .ok (.iadd, 1) := by decide +kernel
theorem dX11_takesOther_102 : decode cX11_takesOther 102 = .ok (.iaload, 1) := by decide +kernel
theorem dX11_takesOther_103 : decode cX11_takesOther 103 = .ok (.iastore, 1) := by decide +kernel
theorem dX11_takesOther_104 : decode cX11_takesOther 104 = .ok (.iinc 3 1, 3) := by decide +kernel
theorem dX11_takesOther_107 : decode cX11_takesOther 107 = .ok (.goto (-30), 3) := by decide +kernel
theorem dX11_takesOther_110 : decode cX11_takesOther 110 = .ok (.iload_n 1, 1) := by decide +kernel
theorem dX11_takesOther_111 : decode cX11_takesOther 111 = .ok (.iconst 1, 1) := by decide +kernel
theorem dX11_takesOther_112 : decode cX11_takesOther 112 = .ok (.if_icmp .ne 8, 3) := by decide +kernel
theorem dX11_takesOther_115 : decode cX11_takesOther 115 = .ok (.aload_n 0, 1) := by decide +kernel
theorem dX11_takesOther_116 : decode cX11_takesOther 116 = .ok (.iload_n 2, 1) := by decide +kernel
theorem dX11_takesOther_117 : decode cX11_takesOther 117 = .ok (.putfield 302, 3) := by decide +kernel
theorem dX11_takesOther_120 : decode cX11_takesOther 120 = .ok (.iload_n 1, 1) := by decide +kernel
theorem dX11_takesOther_121 : decode cX11_takesOther 121 = .ok (.iconst 2, 1) := by decide +kernel
theorem dX11_takesOther_122 : decode cX11_takesOther 122 = .ok (.if_icmp .ne 8, 3) := by decide +kernel
theorem dX11_takesOther_125 : decode cX11_takesOther 125 = .ok (.aload_n 0, 1) := by decide +kernel
theorem dX11_takesOther_126 : decode cX11_takesOther 126 = .ok (.iload_n 2, 1) := by decide +kernel
theorem dX11_takesOther_127 : decode cX11_takesOther 127 = .ok (.putfield 305, 3) := by decide +kernel
theorem dX11_takesOther_130 : decode cX11_takesOther 130 = .ok (.aload_n 0, 1) := by decide +kernel
theorem dX11_takesOther_131 : decode cX11_takesOther 131 = .ok (.iconst 0, 1) := by decide +kernel
theorem dX11_takesOther_132 : decode cX11_takesOther 132 = .ok (.putfield 131, 3) := by decide +kernel
theorem dX11_takesOther_135 : decode cX11_takesOther 135 = .ok (.return_, 1) := by decide +kernel
def f_X11_takesOther_120   (v1 : Int32) (v2 : Int32) (h : zHp) : Option (zHp) := (if v1 = (2 : Int32) then zlt (zst h 0 36 v2) fun h1 => zlt (zst h1 0 3 (0 : Int32)) fun h2 => some h2 else zlt (zst h 0 3 (0 : Int32)) fun h3 => some h3)
set_option maxHeartbeats 4000000 in
set_option maxRecDepth 100000 in
theorem f_X11_takesOther_120_s  (v1 : Int32) (v2 : Int32) (h : zHp) : Sim wM mX11_takesOther 0 rV 120 [(0, .ref 0), (1, .int v1), (2, .int v2)] [] h (f_X11_takesOther_120 v1 v2 h) := by
  unfold f_X11_takesOther_120
  refine Sim.iload_n 1 dX11_takesOther_120 rfl ?_
  refine Sim.iconst (v := (2 : Int32)) dX11_takesOther_121 rfl ?_
  refine Sim.icmp_ne 130 dX11_takesOther_122 rfl ?_ ?_
  · refine Sim.aload_n 0 dX11_takesOther_125 rfl ?_
    refine Sim.iload_n 2 dX11_takesOther_126 rfl ?_
    refine Sim.put fp_X11_305 dX11_takesOther_127 mI_36 rfl rfl ?_
    refine Sim.lth (fun h1 => ?_)
    refine Sim.aload_n 0 dX11_takesOther_130 rfl ?_
    refine Sim.iconst (v := (0 : Int32)) dX11_takesOther_131 rfl ?_
    refine Sim.put fp_X11_131 dX11_takesOther_132 mI_3 rfl rfl ?_
    refine Sim.lth (fun h2 => ?_)
    exact Sim.vret dX11_takesOther_135 rfl
  · refine Sim.aload_n 0 dX11_takesOther_130 rfl ?_
    refine Sim.iconst (v := (0 : Int32)) dX11_takesOther_131 rfl ?_
    refine Sim.put fp_X11_131 dX11_takesOther_132 mI_3 rfl rfl ?_
    refine Sim.lth (fun h3 => ?_)
    exact Sim.vret dX11_takesOther_135 rfl
def f_X11_takesOther_110   (v1 : Int32) (v2 : Int32) (h : zHp) : Option (zHp) := (if v1 = (1 : Int32) then zlt (zst h 0 34 v2) fun h1 => f_X11_takesOther_120 v1 v2 h1 else f_X11_takesOther_120 v1 v2 h)
set_option maxHeartbeats 4000000 in
set_option maxRecDepth 100000 in
theorem f_X11_takesOther_110_s  (v1 : Int32) (v2 : Int32) (h : zHp) : Sim wM mX11_takesOther 0 rV 110 [(0, .ref 0), (1, .int v1), (2, .int v2)] [] h (f_X11_takesOther_110 v1 v2 h) := by
  unfold f_X11_takesOther_110
  refine Sim.iload_n 1 dX11_takesOther_110 rfl ?_
  refine Sim.iconst (v := (1 : Int32)) dX11_takesOther_111 rfl ?_
  refine Sim.icmp_ne 120 dX11_takesOther_112 rfl ?_ ?_
  · refine Sim.aload_n 0 dX11_takesOther_115 rfl ?_
    refine Sim.iload_n 2 dX11_takesOther_116 rfl ?_
    refine Sim.put fp_X11_302 dX11_takesOther_117 mI_34 rfl rfl ?_
    refine Sim.lth (fun h1 => ?_)
    exact f_X11_takesOther_120_s v1 v2 h1
  · exact f_X11_takesOther_120_s v1 v2 h
def f_X11_takesOther_77  (k77 : Int32 × Int32 × Int32 × zHp → Option (zHp)) (v1 : Int32) (v2 : Int32) (v3 : Int32) (h : zHp) : Option (zHp) := (if v3 < ((3 : Int32) * v2) then (if v1 = (2 : Int32) then zix ((48 : Int32) + v3) 96 (zix v3 96 (zlt (zst h 18 v3.toNatClampNeg (h 18 ((48 : Int32) + v3).toNatClampNeg)) fun h1 => k77 (v1, v2, (v3 + (1 : Int32)), h1))) else f_X11_takesOther_110 v1 v2 h) else f_X11_takesOther_110 v1 v2 h)
set_option maxHeartbeats 4000000 in
set_option maxRecDepth 100000 in
theorem f_X11_takesOther_77_s  (k77 : Int32 × Int32 × Int32 × zHp → Option (zHp)) (H77 : ∀ v : Int32 × Int32 × Int32 × zHp, Sim wM mX11_takesOther 0 rV 77 [(0, .ref 0), (1, .int v.1), (2, .int v.2.1), (3, .int v.2.2.1)] [] v.2.2.2 (k77 v)) (v1 : Int32) (v2 : Int32) (v3 : Int32) (h : zHp) : Sim wM mX11_takesOther 0 rV 77 [(0, .ref 0), (1, .int v1), (2, .int v2), (3, .int v3)] [] h (f_X11_takesOther_77 k77 v1 v2 v3 h) := by
  unfold f_X11_takesOther_77
  refine Sim.iload_n 3 dX11_takesOther_77 rfl ?_
  refine Sim.iconst (v := (3 : Int32)) dX11_takesOther_78 rfl ?_
  refine Sim.iload_n 2 dX11_takesOther_79 rfl ?_
  refine Sim.imul dX11_takesOther_80 ?_
  refine Sim.icmp_ge 110 dX11_takesOther_81 rfl ?_ ?_
  · refine Sim.iload_n 1 dX11_takesOther_84 rfl ?_
    refine Sim.iconst (v := (2 : Int32)) dX11_takesOther_85 rfl ?_
    refine Sim.icmp_ne 110 dX11_takesOther_86 rfl ?_ ?_
    · refine Sim.aload_n 0 dX11_takesOther_89 rfl ?_
      refine Sim.getR (j := 18) fl_X11_65 dX11_takesOther_90 mR_37 ?_
      refine Sim.iload_n 3 dX11_takesOther_93 rfl ?_
      refine Sim.aload_n 0 dX11_takesOther_94 rfl ?_
      refine Sim.getR (j := 18) fl_X11_65 dX11_takesOther_95 mR_37 ?_
      refine Sim.bipush (v := (48 : Int32)) dX11_takesOther_98 rfl ?_
      refine Sim.iload_n 3 dX11_takesOther_100 rfl ?_
      refine Sim.iadd dX11_takesOther_101 ?_
      refine Sim.iald (n := 96) dX11_takesOther_102 mA_18 ?_
      refine Sim.iast (n := 96) dX11_takesOther_103 mA_18 ?_
      refine Sim.lth (fun h1 => ?_)
      refine Sim.iinc (L' := [(3, .int (v3 + (1 : Int32))), (0, .ref 0), (1, .int v1), (2, .int v2)]) 3 dX11_takesOther_104 rfl rfl (Nat.le_of_ble_eq_true rfl) rfl ?_
      refine Sim.goto 77 dX11_takesOther_107 rfl ?_
      refine Sim.locs [1, 2, 3, 0] rfl ?_
      exact H77 (v1, v2, (v3 + (1 : Int32)), h1)
    · refine Sim.locs [0, 1, 2] rfl ?_
      exact f_X11_takesOther_110_s v1 v2 h
  · refine Sim.locs [0, 1, 2] rfl ?_
    exact f_X11_takesOther_110_s v1 v2 h
def f_X11_takesOther_77_lp   (n : Nat) (v : Int32 × Int32 × Int32 × zHp) : Option (zHp) := zlp (fun k77 v => f_X11_takesOther_77 k77 v.1 v.2.1 v.2.2.1 v.2.2.2) n v
theorem f_X11_takesOther_77_ls  (n : Nat) (v : Int32 × Int32 × Int32 × zHp) : Sim wM mX11_takesOther 0 rV 77 [(0, .ref 0), (1, .int v.1), (2, .int v.2.1), (3, .int v.2.2.1)] [] v.2.2.2 (f_X11_takesOther_77_lp n v) :=
  Sim.lp (V := Int32 × Int32 × Int32 × zHp) (Lf := fun v => [(0, .ref 0), (1, .int v.1), (2, .int v.2.1), (3, .int v.2.2.1)]) (sf := fun v => []) (hf := fun v => v.2.2.2) (fun k77 H77 v => f_X11_takesOther_77_s k77 H77 v.1 v.2.1 v.2.2.1 v.2.2.2) n v
def f_X11_takesOther_42  (k42 : Int32 × Int32 × Int32 × zHp → Option (zHp)) (v1 : Int32) (v2 : Int32) (v3 : Int32) (h : zHp) : Option (zHp) := (if v3 < ((4 : Int32) * v2) then (if v1 = (1 : Int32) then zix ((64 : Int32) + v3) 128 (zix v3 128 (zlt (zst h 17 v3.toNatClampNeg (h 17 ((64 : Int32) + v3).toNatClampNeg)) fun h1 => k42 (v1, v2, (v3 + (1 : Int32)), h1))) else f_X11_takesOther_77_lp  zN (v1, v2, (0 : Int32), h)) else f_X11_takesOther_77_lp  zN (v1, v2, (0 : Int32), h))
set_option maxHeartbeats 4000000 in
set_option maxRecDepth 100000 in
theorem f_X11_takesOther_42_s  (k42 : Int32 × Int32 × Int32 × zHp → Option (zHp)) (H42 : ∀ v : Int32 × Int32 × Int32 × zHp, Sim wM mX11_takesOther 0 rV 42 [(0, .ref 0), (1, .int v.1), (2, .int v.2.1), (3, .int v.2.2.1)] [] v.2.2.2 (k42 v)) (v1 : Int32) (v2 : Int32) (v3 : Int32) (h : zHp) : Sim wM mX11_takesOther 0 rV 42 [(0, .ref 0), (1, .int v1), (2, .int v2), (3, .int v3)] [] h (f_X11_takesOther_42 k42 v1 v2 v3 h) := by
  unfold f_X11_takesOther_42
  refine Sim.iload_n 3 dX11_takesOther_42 rfl ?_
  refine Sim.iconst (v := (4 : Int32)) dX11_takesOther_43 rfl ?_
  refine Sim.iload_n 2 dX11_takesOther_44 rfl ?_
  refine Sim.imul dX11_takesOther_45 ?_
  refine Sim.icmp_ge 75 dX11_takesOther_46 rfl ?_ ?_
  · refine Sim.iload_n 1 dX11_takesOther_49 rfl ?_
    refine Sim.iconst (v := (1 : Int32)) dX11_takesOther_50 rfl ?_
    refine Sim.icmp_ne 75 dX11_takesOther_51 rfl ?_ ?_
    · refine Sim.aload_n 0 dX11_takesOther_54 rfl ?_
      refine Sim.getR (j := 17) fl_X11_62 dX11_takesOther_55 mR_35 ?_
      refine Sim.iload_n 3 dX11_takesOther_58 rfl ?_
      refine Sim.aload_n 0 dX11_takesOther_59 rfl ?_
      refine Sim.getR (j := 17) fl_X11_62 dX11_takesOther_60 mR_35 ?_
      refine Sim.bipush (v := (64 : Int32)) dX11_takesOther_63 rfl ?_
      refine Sim.iload_n 3 dX11_takesOther_65 rfl ?_
      refine Sim.iadd dX11_takesOther_66 ?_
      refine Sim.iald (n := 128) dX11_takesOther_67 mA_17 ?_
      refine Sim.iast (n := 128) dX11_takesOther_68 mA_17 ?_
      refine Sim.lth (fun h1 => ?_)
      refine Sim.iinc (L' := [(3, .int (v3 + (1 : Int32))), (0, .ref 0), (1, .int v1), (2, .int v2)]) 3 dX11_takesOther_69 rfl rfl (Nat.le_of_ble_eq_true rfl) rfl ?_
      refine Sim.goto 42 dX11_takesOther_72 rfl ?_
      refine Sim.locs [1, 2, 3, 0] rfl ?_
      exact H42 (v1, v2, (v3 + (1 : Int32)), h1)
    · refine Sim.iconst (v := (0 : Int32)) dX11_takesOther_75 rfl ?_
      refine Sim.istore_n (L' := [(3, .int (0 : Int32)), (0, .ref 0), (1, .int v1), (2, .int v2)]) dX11_takesOther_76 (Nat.le_of_ble_eq_true rfl) rfl ?_
      refine Sim.locs [1, 2, 3, 0] rfl ?_
      exact f_X11_takesOther_77_ls  zN (v1, v2, (0 : Int32), h)
  · refine Sim.iconst (v := (0 : Int32)) dX11_takesOther_75 rfl ?_
    refine Sim.istore_n (L' := [(3, .int (0 : Int32)), (0, .ref 0), (1, .int v1), (2, .int v2)]) dX11_takesOther_76 (Nat.le_of_ble_eq_true rfl) rfl ?_
    refine Sim.locs [1, 2, 3, 0] rfl ?_
    exact f_X11_takesOther_77_ls  zN (v1, v2, (0 : Int32), h)
def f_X11_takesOther_42_lp   (n : Nat) (v : Int32 × Int32 × Int32 × zHp) : Option (zHp) := zlp (fun k42 v => f_X11_takesOther_42 k42 v.1 v.2.1 v.2.2.1 v.2.2.2) n v
theorem f_X11_takesOther_42_ls  (n : Nat) (v : Int32 × Int32 × Int32 × zHp) : Sim wM mX11_takesOther 0 rV 42 [(0, .ref 0), (1, .int v.1), (2, .int v.2.1), (3, .int v.2.2.1)] [] v.2.2.2 (f_X11_takesOther_42_lp n v) :=
  Sim.lp (V := Int32 × Int32 × Int32 × zHp) (Lf := fun v => [(0, .ref 0), (1, .int v.1), (2, .int v.2.1), (3, .int v.2.2.1)]) (sf := fun v => []) (hf := fun v => v.2.2.2) (fun k42 H42 v => f_X11_takesOther_42_s k42 H42 v.1 v.2.1 v.2.2.1 v.2.2.2) n v
def f_X11_takesOther_7  (k7 : Int32 × Int32 × zHp → Option (zHp)) (v2 : Int32) (v3 : Int32) (h : zHp) : Option (zHp) := (if v3 < (14 : Int32) then zix ((14 : Int32) + v3) 28 (zix v3 28 (zlt (zst h 19 v3.toNatClampNeg (h 19 ((14 : Int32) + v3).toNatClampNeg)) fun h1 => k7 (v2, (v3 + (1 : Int32)), h1))) else zlt (zst h 0 38 v2) fun h2 => some h2)
set_option maxHeartbeats 4000000 in
set_option maxRecDepth 100000 in
theorem f_X11_takesOther_7_s  (k7 : Int32 × Int32 × zHp → Option (zHp)) (H7 : ∀ v : Int32 × Int32 × zHp, Sim wM mX11_takesOther 0 rV 7 [(0, .ref 0), (2, .int v.1), (3, .int v.2.1)] [] v.2.2 (k7 v)) (v2 : Int32) (v3 : Int32) (h : zHp) : Sim wM mX11_takesOther 0 rV 7 [(0, .ref 0), (2, .int v2), (3, .int v3)] [] h (f_X11_takesOther_7 k7 v2 v3 h) := by
  unfold f_X11_takesOther_7
  refine Sim.iload_n 2 dX11_takesOther_7 rfl ?_
  refine Sim.bipush (v := (14 : Int32)) dX11_takesOther_8 rfl ?_
  refine Sim.icmp_ge 34 dX11_takesOther_10 rfl ?_ ?_
  · refine Sim.aload_n 0 dX11_takesOther_13 rfl ?_
    refine Sim.getR (j := 19) fl_X11_68 dX11_takesOther_14 mR_39 ?_
    refine Sim.iload_n 2 dX11_takesOther_17 rfl ?_
    refine Sim.aload_n 0 dX11_takesOther_18 rfl ?_
    refine Sim.getR (j := 19) fl_X11_68 dX11_takesOther_19 mR_39 ?_
    refine Sim.bipush (v := (14 : Int32)) dX11_takesOther_22 rfl ?_
    refine Sim.iload_n 2 dX11_takesOther_24 rfl ?_
    refine Sim.iadd dX11_takesOther_25 ?_
    refine Sim.iald (n := 28) dX11_takesOther_26 mA_19 ?_
    refine Sim.iast (n := 28) dX11_takesOther_27 mA_19 ?_
    refine Sim.lth (fun h1 => ?_)
    refine Sim.iinc (L' := [(3, .int (v3 + (1 : Int32))), (0, .ref 0), (2, .int v2)]) 2 dX11_takesOther_28 rfl rfl (Nat.le_of_ble_eq_true rfl) rfl ?_
    refine Sim.goto 7 dX11_takesOther_31 rfl ?_
    refine Sim.locs [1, 2, 0] rfl ?_
    exact H7 (v2, (v3 + (1 : Int32)), h1)
  · refine Sim.aload_n 0 dX11_takesOther_34 rfl ?_
    refine Sim.iload_n 1 dX11_takesOther_35 rfl ?_
    refine Sim.put fp_X11_299 dX11_takesOther_36 mI_38 rfl rfl ?_
    refine Sim.lth (fun h2 => ?_)
    exact Sim.vret dX11_takesOther_39 rfl
def f_X11_takesOther_7_lp   (n : Nat) (v : Int32 × Int32 × zHp) : Option (zHp) := zlp (fun k7 v => f_X11_takesOther_7 k7 v.1 v.2.1 v.2.2) n v
theorem f_X11_takesOther_7_ls  (n : Nat) (v : Int32 × Int32 × zHp) : Sim wM mX11_takesOther 0 rV 7 [(0, .ref 0), (2, .int v.1), (3, .int v.2.1)] [] v.2.2 (f_X11_takesOther_7_lp n v) :=
  Sim.lp (V := Int32 × Int32 × zHp) (Lf := fun v => [(0, .ref 0), (2, .int v.1), (3, .int v.2.1)]) (sf := fun v => []) (hf := fun v => v.2.2) (fun k7 H7 v => f_X11_takesOther_7_s k7 H7 v.1 v.2.1 v.2.2) n v
def f_X11_takesOther  (a1 : Int32) (a2 : Int32) (h : zHp) : Option (zHp) := (if a1 = (3 : Int32) then f_X11_takesOther_7_lp  zN (a2, (0 : Int32), h) else f_X11_takesOther_42_lp  zN (a1, a2, (0 : Int32), h))
set_option maxHeartbeats 4000000 in
set_option maxRecDepth 100000 in
theorem s_X11_takesOther  (a1 : Int32) (a2 : Int32) (h : zHp) : Fn wM mX11_takesOther 0 rV [.ref 0, .int a1, .int a2] h (f_X11_takesOther a1 a2 h) := by
  refine Fn.of rfl (Nat.le_of_ble_eq_true rfl) ?_
  unfold f_X11_takesOther
  refine Sim.iload_n 1 dX11_takesOther_0 rfl ?_
  refine Sim.iconst (v := (3 : Int32)) dX11_takesOther_1 rfl ?_
  refine Sim.icmp_ne 40 dX11_takesOther_2 rfl ?_ ?_
  · refine Sim.iconst (v := (0 : Int32)) dX11_takesOther_5 rfl ?_
    refine Sim.istore_n (L' := [(3, .int (0 : Int32)), (0, .ref 0), (1, .int a1), (2, .int a2)]) dX11_takesOther_6 (Nat.le_of_ble_eq_true rfl) rfl ?_
    refine Sim.locs [1, 3, 0] rfl ?_
    exact f_X11_takesOther_7_ls  zN (a2, (0 : Int32), h)
  · refine Sim.iconst (v := (0 : Int32)) dX11_takesOther_40 rfl ?_
    refine Sim.istore_n (L' := [(3, .int (0 : Int32)), (0, .ref 0), (1, .int a1), (2, .int a2)]) dX11_takesOther_41 (Nat.le_of_ble_eq_true rfl) rfl ?_
    refine Sim.locs [1, 2, 3, 0] rfl ?_
    exact f_X11_takesOther_42_ls  zN (a1, a2, (0 : Int32), h)
theorem mv_X11_takesOther : zMV mX11_takesOther 2 := ⟨⟨zTb_in 1694 (by decide +kernel) rfl, zTb_in 148 (by decide +kernel) rfl, ⟨by decide +kernel, by decide +kernel⟩, by decide +kernel⟩, zTb_in 1693 (by decide +kernel) rfl, zTb_in 77 (by decide +kernel) rfl⟩
-- ===== RockingPorchModel.text(I)I
abbrev mX11_text : zMt := (yX11_text, cX11_text, 3, some .int)
theorem fl_X11_206 : zF RX11 206 11 30 := ⟨RX11, TX11, 69, rfl, Nat.le_of_ble_eq_true rfl, zTb_in 1329 (by decide +kernel) rfl, in_X11⟩
theorem fl_X11_209 : zF RX11 209 11 31 := ⟨RX11, TX11, 69, rfl, Nat.le_of_ble_eq_true rfl, zTb_in 1330 (by decide +kernel) rfl, in_X11⟩
theorem fp_X11_308 : zFp RX11 308 11 32 .int := ⟨RX11, TX11, 69, tyX11, rfl, Nat.le_of_ble_eq_true rfl, zTb_in 1331 (by decide +kernel) rfl, in_X11, tyX11_ok, nmX11, rfl, rfl⟩
theorem fp_X11_58 : zFp RX11 58 11 33 .int := ⟨RX11, TX11, 69, tyX11, rfl, Nat.le_of_ble_eq_true rfl, zTb_in 1332 (by decide +kernel) rfl, in_X11, tyX11_ok, nmX11, rfl, rfl⟩
theorem ml_X11_311 : Cond.methodLink RX11 311 yX11_readsText ∈ zTb := zTb_in 1567 (by decide +kernel) rfl
theorem ml_X11_314 : Cond.methodLink RX11 314 yX11_takesLaw ∈ zTb := zTb_in 1687 (by decide +kernel) rfl
theorem ml_X11_317 : Cond.methodLink RX11 317 yX11_takesOther ∈ zTb := zTb_in 1691 (by decide +kernel) rfl
theorem dX11_text_0 : decode cX11_text 0 = .ok (.aload_n 0, 1) := by decide +kernel
theorem dX11_text_1 : decode cX11_text 1 = .ok (.iconst 0, 1) := by decide +kernel
theorem dX11_text_2 : decode cX11_text 2 = .ok (.putfield 128, 3) := by decide +kernel
theorem dX11_text_5 : decode cX11_text 5 = .ok (.aload_n 0, 1) := by decide +kernel
theorem dX11_text_6 : decode cX11_text 6 = .ok (.iconst 0, 1) := by decide +kernel
theorem dX11_text_7 : decode cX11_text 7 = .ok (.putfield 308, 3) := by decide +kernel
theorem dX11_text_10 : decode cX11_text 10 = .ok (.aload_n 0, 1) := by decide +kernel
theorem dX11_text_11 : decode cX11_text 11 = .ok (.iconst (-1), 1) := by decide +kernel
theorem dX11_text_12 : decode cX11_text 12 = .ok (.putfield 58, 3) := by decide +kernel
theorem dX11_text_15 : decode cX11_text 15 = .ok (.aload_n 0, 1) := by decide +kernel
theorem dX11_text_16 : decode cX11_text 16 = .ok (.iconst 0, 1) := by decide +kernel
theorem dX11_text_17 : decode cX11_text 17 = .ok (.putfield 178, 3) := by decide +kernel
theorem dX11_text_20 : decode cX11_text 20 = .ok (.aload_n 0, 1) := by decide +kernel
theorem dX11_text_21 : decode cX11_text 21 = .ok (.iconst 0, 1) := by decide +kernel
theorem dX11_text_22 : decode cX11_text 22 = .ok (.putfield 212, 3) := by decide +kernel
theorem dX11_text_25 : decode cX11_text 25 = .ok (.aload_n 0, 1) := by decide +kernel
theorem dX11_text_26 : decode cX11_text 26 = .ok (.iconst 0, 1) := by decide +kernel
theorem dX11_text_27 : decode cX11_text 27 = .ok (.putfield 243, 3) := by decide +kernel
theorem dX11_text_30 : decode cX11_text 30 = .ok (.iconst (-1), 1) := by decide +kernel
theorem dX11_text_31 : decode cX11_text 31 = .ok (.istore_n 2, 1) := by decide +kernel
theorem dX11_text_32 : decode cX11_text 32 = .ok (.aload_n 0, 1) := by decide +kernel
theorem dX11_text_33 : decode cX11_text 33 = .ok (.iload_n 1, 1) := by decide +kernel
theorem dX11_text_34 : decode cX11_text 34 = .ok (.iconst 0, 1) := by decide +kernel
theorem dX11_text_35 : decode cX11_text 35 = .ok (.iconst 3, 1) := by decide +kernel
theorem dX11_text_36 : decode cX11_text 36 = .ok (.invokevirtual 154, 3) := by decide +kernel
theorem dX11_text_39 : decode cX11_text 39 = .ok (.ifCond .eq 30, 3) := by decide +kernel
theorem dX11_text_42 : decode cX11_text 42 = .ok (.aload_n 0, 1) := by decide +kernel
theorem dX11_text_43 : decode cX11_text 43 = .ok (.iload_n 1, 1) := by decide +kernel
theorem dX11_text_44 : decode cX11_text 44 = .ok (.invokevirtual 311, 3) := by decide +kernel
theorem dX11_text_47 : decode cX11_text 47 = .ok (.istore_n 2, 1) := by decide +kernel
theorem dX11_text_48 : decode cX11_text 48 = .ok (.iload_n 2, 1) := by decide +kernel
theorem dX11_text_49 : decode cX11_text 49 = .ok (.iconst (-1), 1) := by decide +kernel
theorem dX11_text_50 : decode cX11_text 50 = .ok (.if_icmp .ne 19, 3) := by decide +kernel
theorem dX11_text_53 : decode cX11_text 53 = .ok (.aload_n 0, 1) := by decide +kernel
theorem dX11_text_54 : decode cX11_text 54 = .ok (.aload_n 0, 1) := by decide +kernel
theorem dX11_text_55 : decode cX11_text 55 = .ok (.getfield 206, 3) := by decide +kernel
theorem dX11_text_58 : decode cX11_text 58 = .ok (.putfield 308, 3) := by decide +kernel
theorem dX11_text_61 : decode cX11_text 61 = .ok (.aload_n 0, 1) := by decide +kernel
theorem dX11_text_62 : decode cX11_text 62 = .ok (.aload_n 0, 1) := by decide +kernel
theorem dX11_text_63 : decode cX11_text 63 = .ok (.getfield 209, 3) := by decide +kernel
theorem dX11_text_66 : decode cX11_text 66 = .ok (.putfield 58, 3) := by decide +kernel
theorem dX11_text_69 : decode cX11_text 69 = .ok (.aload_n 0, 1) := by decide +kernel
theorem dX11_text_70 : decode cX11_text 70 = .ok (.iconst 0, 1) := by decide +kernel
theorem dX11_text_71 : decode cX11_text 71 = .ok (.putfield 171, 3) := by decide +kernel
theorem dX11_text_74 : decode cX11_text 74 = .ok (.iload_n 2, 1) := by decide +kernel
theorem dX11_text_75 : decode cX11_text 75 = .ok (.iconst (-1), 1) := by decide +kernel
theorem dX11_text_76 : decode cX11_text 76 = .ok (.if_icmp .ne 5, 3) := by decide +kernel
theorem dX11_text_79 : decode cX11_text 79 = .ok (.iconst (-1), 1) := by decide +kernel
theorem dX11_text_80 : decode cX11_text 80 = .ok (.ireturn, 1) := by decide +kernel
theorem dX11_text_81 : decode cX11_text 81 = .ok (.iload_n 1, 1) := by decide +kernel
theorem dX11_text_82 : decode cX11_text 82 = .ok (.ifCond .ne 11, 3) := by decide +kernel
theorem dX11_text_85 : decode cX11_text 85 = .ok (.aload_n 0, 1) := by decide +kernel
theorem dX11_text_86 : decode cX11_text 86 = .ok (.iload_n 2, 1) := by decide +kernel
theorem dX11_text_87 : decode cX11_text 87 = .ok (.invokevirtual 314, 3) := by decide +kernel
theorem dX11_text_90 : decode cX11_text 90 = .ok (.goto 9, 3) := by decide +kernel
theorem dX11_text_93 : decode cX11_text 93 = .ok (.aload_n 0, 1) := by decide +kernel
theorem dX11_text_94 : decode cX11_text 94 = .ok (.iload_n 1, 1) := by decide +kernel
theorem dX11_text_95 : decode cX11_text 95 = .ok (.iload_n 2, 1) := by decide +kernel
theorem dX11_text_96 : decode cX11_text 96 = .ok (.invokevirtual 317, 3) := by decide +kernel
theorem dX11_text_99 : decode cX11_text 99 = .ok (.iload_n 2, 1) := by decide +kernel
theorem dX11_text_100 : decode cX11_text 100 = .ok (.ireturn, 1) := by decide +kernel
def f_X11_text_69   (v1 : Int32) (v2 : Int32) (h : zHp) : Option (Int32 × zHp) := zlt (zst h 0 12 (0 : Int32)) fun h1 => (if v2 = (-1 : Int32) then some ((-1 : Int32), h1) else (if v1 = 0 then (f_X11_takesLaw v2 h1).bind fun x2 => some (v2, x2) else (f_X11_takesOther v1 v2 h1).bind fun x3 => some (v2, x3)))
set_option maxHeartbeats 4000000 in
set_option maxRecDepth 100000 in
theorem f_X11_text_69_s  (v1 : Int32) (v2 : Int32) (h : zHp) : Sim wM mX11_text 10 rI 69 [(0, .ref 0), (1, .int v1), (2, .int v2)] [] h (f_X11_text_69 v1 v2 h) := by
  unfold f_X11_text_69
  refine Sim.aload_n 0 dX11_text_69 rfl ?_
  refine Sim.iconst (v := (0 : Int32)) dX11_text_70 rfl ?_
  refine Sim.put fp_X11_171 dX11_text_71 mI_12 rfl rfl ?_
  refine Sim.lth (fun h1 => ?_)
  refine Sim.iload_n 2 dX11_text_74 rfl ?_
  refine Sim.iconst (v := (-1 : Int32)) dX11_text_75 rfl ?_
  refine Sim.icmp_ne 81 dX11_text_76 rfl ?_ ?_
  · refine Sim.iconst (v := (-1 : Int32)) dX11_text_79 rfl ?_
    exact Sim.iret dX11_text_80 rfl
  · refine Sim.iload_n 1 dX11_text_81 rfl ?_
    refine Sim.if_ne 93 dX11_text_82 rfl ?_ ?_
    · refine Sim.aload_n 0 dX11_text_85 rfl ?_
      refine Sim.iload_n 2 dX11_text_86 rfl ?_
      refine Sim.callV1U (d1 := 0) (s_X11_takesLaw v2 h1) dX11_text_87 ml_X11_314 mv_X11_takesLaw mC (Nat.le_of_ble_eq_true rfl) (Nat.le_of_ble_eq_true rfl) (Nat.le_of_ble_eq_true rfl) (fun x2 => ?_)
      refine Sim.goto 99 dX11_text_90 rfl ?_
      refine Sim.iload_n 2 dX11_text_99 rfl ?_
      exact Sim.iret dX11_text_100 rfl
    · refine Sim.aload_n 0 dX11_text_93 rfl ?_
      refine Sim.iload_n 1 dX11_text_94 rfl ?_
      refine Sim.iload_n 2 dX11_text_95 rfl ?_
      refine Sim.callV2U (d1 := 0) (s_X11_takesOther v1 v2 h1) dX11_text_96 ml_X11_317 mv_X11_takesOther mC (Nat.le_of_ble_eq_true rfl) (Nat.le_of_ble_eq_true rfl) (Nat.le_of_ble_eq_true rfl) (fun x3 => ?_)
      refine Sim.iload_n 2 dX11_text_99 rfl ?_
      exact Sim.iret dX11_text_100 rfl
def f_X11_text  (a1 : Int32) (h : zHp) : Option (Int32 × zHp) := zlt (zst h 0 0 (0 : Int32)) fun h1 => zlt (zst h1 0 32 (0 : Int32)) fun h2 => zlt (zst h2 0 33 (-1 : Int32)) fun h3 => zlt (zst h3 0 13 (0 : Int32)) fun h4 => zlt (zst h4 0 26 (0 : Int32)) fun h5 => zlt (zst h5 0 27 (0 : Int32)) fun h6 => (f_X11_isIn a1 (0 : Int32) (3 : Int32) h6).bind fun x7 => (if x7.1 = 0 then f_X11_text_69 a1 (-1 : Int32) x7.2 else (f_X11_readsText a1 x7.2).bind fun x8 => (if x8.1 = (-1 : Int32) then zlt (zst x8.2 0 32 (x8.2 0 30)) fun h9 => zlt (zst h9 0 33 (h9 0 31)) fun h10 => f_X11_text_69 a1 x8.1 h10 else f_X11_text_69 a1 x8.1 x8.2))
set_option maxHeartbeats 4000000 in
set_option maxRecDepth 100000 in
theorem s_X11_text  (a1 : Int32) (h : zHp) : Fn wM mX11_text 10 rI [.ref 0, .int a1] h (f_X11_text a1 h) := by
  refine Fn.of rfl (Nat.le_of_ble_eq_true rfl) ?_
  unfold f_X11_text
  refine Sim.aload_n 0 dX11_text_0 rfl ?_
  refine Sim.iconst (v := (0 : Int32)) dX11_text_1 rfl ?_
  refine Sim.put fp_X11_128 dX11_text_2 mI_0 rfl rfl ?_
  refine Sim.lth (fun h1 => ?_)
  refine Sim.aload_n 0 dX11_text_5 rfl ?_
  refine Sim.iconst (v := (0 : Int32)) dX11_text_6 rfl ?_
  refine Sim.put fp_X11_308 dX11_text_7 mI_32 rfl rfl ?_
  refine Sim.lth (fun h2 => ?_)
  refine Sim.aload_n 0 dX11_text_10 rfl ?_
  refine Sim.iconst (v := (-1 : Int32)) dX11_text_11 rfl ?_
  refine Sim.put fp_X11_58 dX11_text_12 mI_33 rfl rfl ?_
  refine Sim.lth (fun h3 => ?_)
  refine Sim.aload_n 0 dX11_text_15 rfl ?_
  refine Sim.iconst (v := (0 : Int32)) dX11_text_16 rfl ?_
  refine Sim.put fp_X11_178 dX11_text_17 mI_13 rfl rfl ?_
  refine Sim.lth (fun h4 => ?_)
  refine Sim.aload_n 0 dX11_text_20 rfl ?_
  refine Sim.iconst (v := (0 : Int32)) dX11_text_21 rfl ?_
  refine Sim.put fp_X11_212 dX11_text_22 mI_26 rfl rfl ?_
  refine Sim.lth (fun h5 => ?_)
  refine Sim.aload_n 0 dX11_text_25 rfl ?_
  refine Sim.iconst (v := (0 : Int32)) dX11_text_26 rfl ?_
  refine Sim.put fp_X11_243 dX11_text_27 mI_27 rfl rfl ?_
  refine Sim.lth (fun h6 => ?_)
  refine Sim.iconst (v := (-1 : Int32)) dX11_text_30 rfl ?_
  refine Sim.istore_n (L' := [(2, .int (-1 : Int32)), (0, .ref 0), (1, .int a1)]) dX11_text_31 (Nat.le_of_ble_eq_true rfl) rfl ?_
  refine Sim.aload_n 1 dX11_text_32 rfl ?_
  refine Sim.iload_n 2 dX11_text_33 rfl ?_
  refine Sim.iconst (v := (0 : Int32)) dX11_text_34 rfl ?_
  refine Sim.iconst (v := (3 : Int32)) dX11_text_35 rfl ?_
  refine Sim.callV3I (d1 := 0) (s_X11_isIn a1 (0 : Int32) (3 : Int32) h6) dX11_text_36 ml_X11_154 mv_X11_isIn mC (Nat.le_of_ble_eq_true rfl) (Nat.le_of_ble_eq_true rfl) (Nat.le_of_ble_eq_true rfl) (fun x7 => ?_)
  refine Sim.if_eq 69 dX11_text_39 rfl ?_ ?_
  · refine Sim.locs [1, 2, 0] rfl ?_
    exact f_X11_text_69_s a1 (-1 : Int32) x7.2
  · refine Sim.aload_n 1 dX11_text_42 rfl ?_
    refine Sim.iload_n 2 dX11_text_43 rfl ?_
    refine Sim.callV1I (d1 := 9) (s_X11_readsText a1 x7.2) dX11_text_44 ml_X11_311 mv_X11_readsText mC (Nat.le_of_ble_eq_true rfl) (Nat.le_of_ble_eq_true rfl) (Nat.le_of_ble_eq_true rfl) (fun x8 => ?_)
    refine Sim.istore_n (L' := [(2, .int x8.1), (0, .ref 0), (1, .int a1)]) dX11_text_47 (Nat.le_of_ble_eq_true rfl) rfl ?_
    refine Sim.iload_n 0 dX11_text_48 rfl ?_
    refine Sim.iconst (v := (-1 : Int32)) dX11_text_49 rfl ?_
    refine Sim.icmp_ne 69 dX11_text_50 rfl ?_ ?_
    · refine Sim.aload_n 1 dX11_text_53 rfl ?_
      refine Sim.aload_n 1 dX11_text_54 rfl ?_
      refine Sim.getI fl_X11_206 dX11_text_55 mI_30 ?_
      refine Sim.put fp_X11_308 dX11_text_58 mI_32 rfl rfl ?_
      refine Sim.lth (fun h9 => ?_)
      refine Sim.aload_n 1 dX11_text_61 rfl ?_
      refine Sim.aload_n 1 dX11_text_62 rfl ?_
      refine Sim.getI fl_X11_209 dX11_text_63 mI_31 ?_
      refine Sim.put fp_X11_58 dX11_text_66 mI_33 rfl rfl ?_
      refine Sim.lth (fun h10 => ?_)
      refine Sim.locs [1, 2, 0] rfl ?_
      exact f_X11_text_69_s a1 x8.1 h10
    · refine Sim.locs [1, 2, 0] rfl ?_
      exact f_X11_text_69_s a1 x8.1 x8.2
theorem mv_X11_text : zMV mX11_text 1 := ⟨⟨zTb_in 1566 (by decide +kernel) rfl, zTb_in 148 (by decide +kernel) rfl, ⟨by decide +kernel, by decide +kernel⟩, by decide +kernel⟩, zTb_in 1564 (by decide +kernel) rfl, zTb_in 1565 (by decide +kernel) rfl⟩
-- ===== RockingPorchModel.fault(I)I
abbrev mX11_fault : zMt := (yX11_fault, cX11_fault, 2, some .int)
theorem fl_X11_308 : zF RX11 308 11 32 := ⟨RX11, TX11, 69, rfl, Nat.le_of_ble_eq_true rfl, zTb_in 1331 (by decide +kernel) rfl, in_X11⟩
theorem fl_X11_58 : zF RX11 58 11 33 := ⟨RX11, TX11, 69, rfl, Nat.le_of_ble_eq_true rfl, zTb_in 1332 (by decide +kernel) rfl, in_X11⟩
theorem dX11_fault_0 : decode cX11_fault 0 = .ok (.aload_n 0, 1) := by decide +kernel
theorem dX11_fault_1 : decode cX11_fault 1 = .ok (.iconst 0, 1) := by decide +kernel
theorem dX11_fault_2 : decode cX11_fault 2 = .ok (.putfield 128, 3) := by decide +kernel
theorem dX11_fault_5 : decode cX11_fault 5 = .ok (.iload_n 1, 1) := by decide +kernel
theorem dX11_fault_6 : decode cX11_fault 6 = .ok (.ifCond .ne 10, 3) := by decide +kernel
theorem dX11_fault_9 : decode cX11_fault 9 = .ok (.aload_n 0, 1) := by decide +kernel
theorem dX11_fault_10 : decode cX11_fault 10 = .ok (.getfield 308, 3) := by decide +kernel
theorem dX11_fault_13 : decode cX11_fault 13 = .ok (.goto 16, 3) := by decide +kernel
theorem dX11_fault_16 : decode cX11_fault 16 = .ok (.iload_n 1, 1) := by decide +kernel
theorem dX11_fault_17 : decode cX11_fault 17 = .ok (.iconst 1, 1) := by decide +kernel
theorem dX11_fault_18 : decode cX11_fault 18 = .ok (.if_icmp .ne 10, 3) := by decide +kernel
theorem dX11_fault_21 : decode cX11_fault 21 = .ok (.aload_n 0, 1) := by decide +kernel
theorem dX11_fault_22 : decode cX11_fault 22 = .ok (.getfield 58, 3) := by decide +kernel
theorem dX11_fault_25 : decode cX11_fault 25 = .ok (.goto 4, 3) := by decide +kernel
theorem dX11_fault_28 : decode cX11_fault 28 = .ok (.iconst (-1), 1) := by decide +kernel
theorem dX11_fault_29 : decode cX11_fault 29 = .ok (.ireturn, 1) := by decide +kernel
def f_X11_fault  (a1 : Int32) (h : zHp) : Option (Int32 × zHp) := zlt (zst h 0 0 (0 : Int32)) fun h1 => (if a1 = 0 then some ((h1 0 32), h1) else (if a1 = (1 : Int32) then some ((h1 0 33), h1) else some ((-1 : Int32), h1)))
set_option maxHeartbeats 4000000 in
set_option maxRecDepth 100000 in
theorem s_X11_fault  (a1 : Int32) (h : zHp) : Fn wM mX11_fault 0 rI [.ref 0, .int a1] h (f_X11_fault a1 h) := by
  refine Fn.of rfl (Nat.le_of_ble_eq_true rfl) ?_
  unfold f_X11_fault
  refine Sim.aload_n 0 dX11_fault_0 rfl ?_
  refine Sim.iconst (v := (0 : Int32)) dX11_fault_1 rfl ?_
  refine Sim.put fp_X11_128 dX11_fault_2 mI_0 rfl rfl ?_
  refine Sim.lth (fun h1 => ?_)
  refine Sim.iload_n 1 dX11_fault_5 rfl ?_
  refine Sim.if_ne 16 dX11_fault_6 rfl ?_ ?_
  · refine Sim.aload_n 0 dX11_fault_9 rfl ?_
    refine Sim.getI fl_X11_308 dX11_fault_10 mI_32 ?_
    refine Sim.goto 29 dX11_fault_13 rfl ?_
    exact Sim.iret dX11_fault_29 rfl
  · refine Sim.iload_n 1 dX11_fault_16 rfl ?_
    refine Sim.iconst (v := (1 : Int32)) dX11_fault_17 rfl ?_
    refine Sim.icmp_ne 28 dX11_fault_18 rfl ?_ ?_
    · refine Sim.aload_n 0 dX11_fault_21 rfl ?_
      refine Sim.getI fl_X11_58 dX11_fault_22 mI_33 ?_
      refine Sim.goto 29 dX11_fault_25 rfl ?_
      exact Sim.iret dX11_fault_29 rfl
    · refine Sim.iconst (v := (-1 : Int32)) dX11_fault_28 rfl ?_
      exact Sim.iret dX11_fault_29 rfl
theorem mv_X11_fault : zMV mX11_fault 1 := ⟨⟨zTb_in 1698 (by decide +kernel) rfl, zTb_in 148 (by decide +kernel) rfl, ⟨by decide +kernel, by decide +kernel⟩, by decide +kernel⟩, zTb_in 1696 (by decide +kernel) rfl, zTb_in 1697 (by decide +kernel) rfl⟩
-- ===== RockingPorchModel.twoOf(III)I
abbrev mX11_twoOf : zMt := (yX11_twoOf, cX11_twoOf, 4, some .int)
theorem dX11_twoOf_0 : decode cX11_twoOf 0 = .ok (.iload_n 1, 1) := by decide +kernel
theorem dX11_twoOf_1 : decode cX11_twoOf 1 = .ok (.iconst 2, 1) := by decide +kernel
theorem dX11_twoOf_2 : decode cX11_twoOf 2 = .ok (.if_icmp .ne 7, 3) := by decide +kernel
theorem dX11_twoOf_5 : decode cX11_twoOf 5 = .ok (.iload_n 2, 1) := by decide +kernel
theorem dX11_twoOf_6 : decode cX11_twoOf 6 = .ok (.iload_n 3, 1) := by decide +kernel
theorem dX11_twoOf_7 : decode cX11_twoOf 7 = .ok (.iadd, 1) := by decide +kernel
theorem dX11_twoOf_8 : decode cX11_twoOf 8 = .ok (.ireturn, 1) := by decide +kernel
theorem dX11_twoOf_9 : decode cX11_twoOf 9 = .ok (.iload_n 1, 1) := by decide +kernel
theorem dX11_twoOf_10 : decode cX11_twoOf 10 = .ok (.iconst 3, 1) := by decide +kernel
theorem dX11_twoOf_11 : decode cX11_twoOf 11 = .ok (.if_icmp .ne 7, 3) := by decide +kernel
theorem dX11_twoOf_14 : decode cX11_twoOf 14 = .ok (.iload_n 2, 1) := by decide +kernel
theorem dX11_twoOf_15 : decode cX11_twoOf 15 = .ok (.iload_n 3, 1) := by decide +kernel
theorem dX11_twoOf_16 : decode cX11_twoOf 16 = .ok (.isub, 1) := by decide +kernel
theorem dX11_twoOf_17 : decode cX11_twoOf 17 = .ok (.ireturn, 1) := by decide +kernel
theorem dX11_twoOf_18 : decode cX11_twoOf 18 = .ok (.iload_n 1, 1) := by decide +kernel
theorem dX11_twoOf_19 : decode cX11_twoOf 19 = .ok (.iconst 4, 1) := by decide +kernel
theorem dX11_twoOf_20 : decode cX11_twoOf 20 = .ok (.if_icmp .ne 7, 3) := by decide +kernel
theorem dX11_twoOf_23 : decode cX11_twoOf 23 = .ok (.iload_n 2, 1) := by decide +kernel
theorem dX11_twoOf_24 : decode cX11_twoOf 24 = .ok (.iload_n 3, 1) := by decide +kernel
theorem dX11_twoOf_25 : decode cX11_twoOf 25 = .ok (.imul, 1) := by decide +kernel
theorem dX11_twoOf_26 : decode cX11_twoOf 26 = .ok (.ireturn, 1) := by decide +kernel
theorem dX11_twoOf_27 : decode cX11_twoOf 27 = .ok (.iload_n 1, 1) := by decide +kernel
theorem dX11_twoOf_28 : decode cX11_twoOf 28 = .ok (.iconst 5, 1) := by decide +kernel
theorem dX11_twoOf_29 : decode cX11_twoOf 29 = .ok (.if_icmp .ne 7, 3) := by decide +kernel
theorem dX11_twoOf_32 : decode cX11_twoOf 32 = .ok (.iload_n 2, 1) := by decide +kernel
theorem dX11_twoOf_33 : decode cX11_twoOf 33 = .ok (.iload_n 3, 1) := by decide +kernel
theorem dX11_twoOf_34 : decode cX11_twoOf 34 = .ok (.idiv, 1) := by decide +kernel
theorem dX11_twoOf_35 : decode cX11_twoOf 35 = .ok (.ireturn, 1) := by decide +kernel
theorem dX11_twoOf_36 : decode cX11_twoOf 36 = .ok (.iload_n 1, 1) := by decide +kernel
theorem dX11_twoOf_37 : decode cX11_twoOf 37 = .ok (.bipush 6, 2) := by decide +kernel
theorem dX11_twoOf_39 : decode cX11_twoOf 39 = .ok (.if_icmp .ne 14, 3) := by decide +kernel
theorem dX11_twoOf_42 : decode cX11_twoOf 42 = .ok (.iload_n 2, 1) := by decide +kernel
theorem dX11_twoOf_43 : decode cX11_twoOf 43 = .ok (.iload_n 3, 1) := by decide +kernel
theorem dX11_twoOf_44 : decode cX11_twoOf 44 = .ok (.if_icmp .ge 7, 3) := by decide +kernel
theorem dX11_twoOf_47 : decode cX11_twoOf 47 = .ok (.iconst 1, 1) := by decide +kernel
theorem dX11_twoOf_48 : decode cX11_twoOf 48 = .ok (.goto 4, 3) := by decide +kernel
theorem dX11_twoOf_51 : decode cX11_twoOf 51 = .ok (.iconst 0, 1) := by decide +kernel
theorem dX11_twoOf_52 : decode cX11_twoOf 52 = .ok (.ireturn, 1) := by decide +kernel
theorem dX11_twoOf_53 : decode cX11_twoOf 53 = .ok (.iload_n 1, 1) := by decide +kernel
theorem dX11_twoOf_54 : decode cX11_twoOf 54 = .ok (.bipush 7, 2) := by decide +kernel
theorem dX11_twoOf_56 : decode cX11_twoOf 56 = .ok (.if_icmp .ne 14, 3) := by decide +kernel
theorem dX11_twoOf_59 : decode cX11_twoOf 59 = .ok (.iload_n 2, 1) := by decide +kernel
theorem dX11_twoOf_60 : decode cX11_twoOf 60 = .ok (.iload_n 3, 1) := by decide +kernel
theorem dX11_twoOf_61 : decode cX11_twoOf 61 = .ok (.if_icmp .ne 7, 3) := by decide +kernel
theorem dX11_twoOf_64 : decode cX11_twoOf 64 = .ok (.iconst 1, 1) := by decide +kernel
theorem dX11_twoOf_65 : decode cX11_twoOf 65 = .ok (.goto 4, 3) := by decide +kernel
theorem dX11_twoOf_68 : decode cX11_twoOf 68 = .ok (.iconst 0, 1) := by decide +kernel
theorem dX11_twoOf_69 : decode cX11_twoOf 69 = .ok (.ireturn, 1) := by decide +kernel
theorem dX11_twoOf_70 : decode cX11_twoOf 70 = .ok (.iload_n 1, 1) := by decide +kernel
theorem dX11_twoOf_71 : decode cX11_twoOf 71 = .ok (.bipush 8, 2) := by decide +kernel
theorem dX11_twoOf_73 : decode cX11_twoOf 73 = .ok (.if_icmp .ne 14, 3) := by decide +kernel
theorem dX11_twoOf_76 : decode cX11_twoOf 76 = .ok (.iload_n 2, 1) := by decide +kernel
theorem dX11_twoOf_77 : decode cX11_twoOf 77 = .ok (.iload_n 3, 1) := by decide +kernel
theorem dX11_twoOf_78 : decode cX11_twoOf 78 = .ok (.if_icmp .le 7, 3) := by decide +kernel
theorem dX11_twoOf_81 : decode cX11_twoOf 81 = .ok (.iconst 1, 1) := by decide +kernel
theorem dX11_twoOf_82 : decode cX11_twoOf 82 = .ok (.goto 4, 3) := by decide +kernel
theorem dX11_twoOf_85 : decode cX11_twoOf 85 = .ok (.iconst 0, 1) := by decide +kernel
theorem dX11_twoOf_86 : decode cX11_twoOf 86 = .ok (.ireturn, 1) := by decide +kernel
theorem dX11_twoOf_87 : decode cX11_twoOf 87 = .ok (.iload_n 1, 1) := by decide +kernel
theorem dX11_twoOf_88 : decode cX11_twoOf 88 = .ok (.bipush 10, 2) := by decide +kernel
theorem dX11_twoOf_90 : decode cX11_twoOf 90 = .ok (.if_icmp .ne 9, 3) := by decide +kernel
theorem dX11_twoOf_93 : decode cX11_twoOf 93 = .ok (.iload_n 2, 1) := by decide +kernel
theorem dX11_twoOf_94 : decode cX11_twoOf 94 = .ok (.iload_n 3, 1) := by decide +kernel
theorem dX11_twoOf_95 : decode cX11_twoOf 95 = .ok (.imul, 1) := by decide +kernel
theorem dX11_twoOf_96 : decode cX11_twoOf 96 = .ok (.goto 14, 3) := by decide +kernel
theorem dX11_twoOf_99 : decode cX11_twoOf 99 = .ok (.iload_n 2, 1) := by decide +kernel
theorem dX11_twoOf_100 : decode cX11_twoOf 100 = .ok (.iload_n 3, 1) := by decide +kernel
theorem dX11_twoOf_101 : decode cX11_twoOf 101 = .ok (.iadd, 1) := by decide +kernel
theorem dX11_twoOf_102 : decode cX11_twoOf 102 = .ok (.ifCond .le 7, 3) := by decide +kernel
theorem dX11_twoOf_105 : decode cX11_twoOf 105 = .ok (.iconst 1, 1) := by decide +kernel
theorem dX11_twoOf_106 : decode cX11_twoOf 106 = .ok (.goto 4, 3) := by decide +kernel
theorem dX11_twoOf_109 : decode cX11_twoOf 109 = .ok (.iconst 0, 1) := by decide +kernel
theorem dX11_twoOf_110 : decode cX11_twoOf 110 = .ok (.ireturn, 1) := by decide +kernel
def f_X11_twoOf  (a1 : Int32) (a2 : Int32) (a3 : Int32) (h : zHp) : Option (Int32 × zHp) := (if a1 = (2 : Int32) then some ((a2 + a3), h) else (if a1 = (3 : Int32) then some ((a2 - a3), h) else (if a1 = (4 : Int32) then some ((a2 * a3), h) else (if a1 = (5 : Int32) then zdz a3 (some ((a2 / a3), h)) else (if a1 = (6 : Int32) then (if a2 < a3 then some ((1 : Int32), h) else some ((0 : Int32), h)) else (if a1 = (7 : Int32) then (if a2 = a3 then some ((1 : Int32), h) else some ((0 : Int32), h)) else (if a1 = (8 : Int32) then (if a3 < a2 then some ((1 : Int32), h) else some ((0 : Int32), h)) else (if a1 = (10 : Int32) then some ((a2 * a3), h) else (if 0 < (a2 + a3) then some ((1 : Int32), h) else some ((0 : Int32), h))))))))))
set_option maxHeartbeats 4000000 in
set_option maxRecDepth 100000 in
theorem s_X11_twoOf  (a1 : Int32) (a2 : Int32) (a3 : Int32) (h : zHp) : Fn wM mX11_twoOf 0 rI [.ref 0, .int a1, .int a2, .int a3] h (f_X11_twoOf a1 a2 a3 h) := by
  refine Fn.of rfl (Nat.le_of_ble_eq_true rfl) ?_
  unfold f_X11_twoOf
  refine Sim.iload_n 1 dX11_twoOf_0 rfl ?_
  refine Sim.iconst (v := (2 : Int32)) dX11_twoOf_1 rfl ?_
  refine Sim.icmp_ne 9 dX11_twoOf_2 rfl ?_ ?_
  · refine Sim.iload_n 2 dX11_twoOf_5 rfl ?_
    refine Sim.iload_n 3 dX11_twoOf_6 rfl ?_
    refine Sim.iadd dX11_twoOf_7 ?_
    exact Sim.iret dX11_twoOf_8 rfl
  · refine Sim.iload_n 1 dX11_twoOf_9 rfl ?_
    refine Sim.iconst (v := (3 : Int32)) dX11_twoOf_10 rfl ?_
    refine Sim.icmp_ne 18 dX11_twoOf_11 rfl ?_ ?_
    · refine Sim.iload_n 2 dX11_twoOf_14 rfl ?_
      refine Sim.iload_n 3 dX11_twoOf_15 rfl ?_
      refine Sim.isub dX11_twoOf_16 ?_
      exact Sim.iret dX11_twoOf_17 rfl
    · refine Sim.iload_n 1 dX11_twoOf_18 rfl ?_
      refine Sim.iconst (v := (4 : Int32)) dX11_twoOf_19 rfl ?_
      refine Sim.icmp_ne 27 dX11_twoOf_20 rfl ?_ ?_
      · refine Sim.iload_n 2 dX11_twoOf_23 rfl ?_
        refine Sim.iload_n 3 dX11_twoOf_24 rfl ?_
        refine Sim.imul dX11_twoOf_25 ?_
        exact Sim.iret dX11_twoOf_26 rfl
      · refine Sim.iload_n 1 dX11_twoOf_27 rfl ?_
        refine Sim.iconst (v := (5 : Int32)) dX11_twoOf_28 rfl ?_
        refine Sim.icmp_ne 36 dX11_twoOf_29 rfl ?_ ?_
        · refine Sim.iload_n 2 dX11_twoOf_32 rfl ?_
          refine Sim.iload_n 3 dX11_twoOf_33 rfl ?_
          refine Sim.idiv dX11_twoOf_34 ?_
          exact Sim.iret dX11_twoOf_35 rfl
        · refine Sim.iload_n 1 dX11_twoOf_36 rfl ?_
          refine Sim.bipush (v := (6 : Int32)) dX11_twoOf_37 rfl ?_
          refine Sim.icmp_ne 53 dX11_twoOf_39 rfl ?_ ?_
          · refine Sim.iload_n 2 dX11_twoOf_42 rfl ?_
            refine Sim.iload_n 3 dX11_twoOf_43 rfl ?_
            refine Sim.icmp_ge 51 dX11_twoOf_44 rfl ?_ ?_
            · refine Sim.iconst (v := (1 : Int32)) dX11_twoOf_47 rfl ?_
              refine Sim.goto 52 dX11_twoOf_48 rfl ?_
              exact Sim.iret dX11_twoOf_52 rfl
            · refine Sim.iconst (v := (0 : Int32)) dX11_twoOf_51 rfl ?_
              exact Sim.iret dX11_twoOf_52 rfl
          · refine Sim.iload_n 1 dX11_twoOf_53 rfl ?_
            refine Sim.bipush (v := (7 : Int32)) dX11_twoOf_54 rfl ?_
            refine Sim.icmp_ne 70 dX11_twoOf_56 rfl ?_ ?_
            · refine Sim.iload_n 2 dX11_twoOf_59 rfl ?_
              refine Sim.iload_n 3 dX11_twoOf_60 rfl ?_
              refine Sim.icmp_ne 68 dX11_twoOf_61 rfl ?_ ?_
              · refine Sim.iconst (v := (1 : Int32)) dX11_twoOf_64 rfl ?_
                refine Sim.goto 69 dX11_twoOf_65 rfl ?_
                exact Sim.iret dX11_twoOf_69 rfl
              · refine Sim.iconst (v := (0 : Int32)) dX11_twoOf_68 rfl ?_
                exact Sim.iret dX11_twoOf_69 rfl
            · refine Sim.iload_n 1 dX11_twoOf_70 rfl ?_
              refine Sim.bipush (v := (8 : Int32)) dX11_twoOf_71 rfl ?_
              refine Sim.icmp_ne 87 dX11_twoOf_73 rfl ?_ ?_
              · refine Sim.iload_n 2 dX11_twoOf_76 rfl ?_
                refine Sim.iload_n 3 dX11_twoOf_77 rfl ?_
                refine Sim.icmp_le 85 dX11_twoOf_78 rfl ?_ ?_
                · refine Sim.iconst (v := (1 : Int32)) dX11_twoOf_81 rfl ?_
                  refine Sim.goto 86 dX11_twoOf_82 rfl ?_
                  exact Sim.iret dX11_twoOf_86 rfl
                · refine Sim.iconst (v := (0 : Int32)) dX11_twoOf_85 rfl ?_
                  exact Sim.iret dX11_twoOf_86 rfl
              · refine Sim.iload_n 1 dX11_twoOf_87 rfl ?_
                refine Sim.bipush (v := (10 : Int32)) dX11_twoOf_88 rfl ?_
                refine Sim.icmp_ne 99 dX11_twoOf_90 rfl ?_ ?_
                · refine Sim.iload_n 2 dX11_twoOf_93 rfl ?_
                  refine Sim.iload_n 3 dX11_twoOf_94 rfl ?_
                  refine Sim.imul dX11_twoOf_95 ?_
                  refine Sim.goto 110 dX11_twoOf_96 rfl ?_
                  exact Sim.iret dX11_twoOf_110 rfl
                · refine Sim.iload_n 2 dX11_twoOf_99 rfl ?_
                  refine Sim.iload_n 3 dX11_twoOf_100 rfl ?_
                  refine Sim.iadd dX11_twoOf_101 ?_
                  refine Sim.if_le 109 dX11_twoOf_102 rfl ?_ ?_
                  · refine Sim.iconst (v := (1 : Int32)) dX11_twoOf_105 rfl ?_
                    refine Sim.goto 110 dX11_twoOf_106 rfl ?_
                    exact Sim.iret dX11_twoOf_110 rfl
                  · refine Sim.iconst (v := (0 : Int32)) dX11_twoOf_109 rfl ?_
                    exact Sim.iret dX11_twoOf_110 rfl
theorem mv_X11_twoOf : zMV mX11_twoOf 3 := ⟨⟨zTb_in 1766 (by decide +kernel) rfl, zTb_in 148 (by decide +kernel) rfl, ⟨by decide +kernel, by decide +kernel⟩, by decide +kernel⟩, zTb_in 1765 (by decide +kernel) rfl, zTb_in 93 (by decide +kernel) rfl⟩
-- ===== RockingPorchModel.runs(III)I
abbrev mX11_runs : zMt := (yX11_runs, cX11_runs, 6, some .int)
theorem fl_X11_71 : zF RX11 71 11 40 := ⟨RX11, TX11, 69, rfl, Nat.le_of_ble_eq_true rfl, zTb_in 1339 (by decide +kernel) rfl, in_X11⟩
theorem fl_X11_74 : zF RX11 74 11 41 := ⟨RX11, TX11, 69, rfl, Nat.le_of_ble_eq_true rfl, zTb_in 1340 (by decide +kernel) rfl, in_X11⟩
theorem ml_X11_320 : Cond.methodLink RX11 320 yX11_twoOf ∈ zTb := zTb_in 1763 (by decide +kernel) rfl
theorem dX11_runs_0 : decode cX11_runs 0 = .ok (.iconst 0, 1) := by decide +kernel
theorem dX11_runs_1 : decode cX11_runs 1 = .ok (.istore 4, 2) := by decide +kernel
theorem dX11_runs_3 : decode cX11_runs 3 = .ok (.sipush 400, 3) := by decide +kernel
theorem dX11_runs_6 : decode cX11_runs 6 = .ok (.iload_n 1, 1) := by decide +kernel
theorem dX11_runs_7 : decode cX11_runs 7 = .ok (.imul, 1) := by decide +kernel
theorem dX11_runs_8 : decode cX11_runs 8 = .ok (.iload_n 2, 1) := by decide +kernel
theorem dX11_runs_9 : decode cX11_runs 9 = .ok (.iadd, 1) := by decide +kernel
theorem dX11_runs_10 : decode cX11_runs 10 = .ok (.istore 5, 2) := by decide +kernel
theorem dX11_runs_12 : decode cX11_runs 12 = .ok (.iload 5, 2) := by decide +kernel
theorem dX11_runs_14 : decode cX11_runs 14 = .ok (.sipush 400, 3) := by decide +kernel
theorem dX11_runs_17 : decode cX11_runs 17 = .ok (.iload_n 1, 1) := by decide +kernel
theorem dX11_runs_18 : decode cX11_runs 18 = .ok (.imul, 1) := by decide +kernel
theorem dX11_runs_19 : decode cX11_runs 19 = .ok (.iload_n 3, 1) := by decide +kernel
theorem dX11_runs_20 : decode cX11_runs 20 = .ok (.iadd, 1) := by decide +kernel
theorem dX11_runs_21 : decode cX11_runs 21 = .ok (.if_icmp .ge 155, 3) := by decide +kernel
theorem dX11_runs_24 : decode cX11_runs 24 = .ok (.aload_n 0, 1) := by decide +kernel
theorem dX11_runs_25 : decode cX11_runs 25 = .ok (.getfield 49, 3) := by decide +kernel
theorem dX11_runs_28 : decode cX11_runs 28 = .ok (.iload 5, 2) := by decide +kernel
theorem dX11_runs_30 : decode cX11_runs 30 = .ok (.iaload, 1) := by decide +kernel
theorem dX11_runs_31 : decode cX11_runs 31 = .ok (.ifCond .eq 14, 3) := by decide +kernel
theorem dX11_runs_34 : decode cX11_runs 34 = .ok (.aload_n 0, 1) := by decide +kernel
theorem dX11_runs_35 : decode cX11_runs 35 = .ok (.getfield 49, 3) := by decide +kernel
theorem dX11_runs_38 : decode cX11_runs 38 = .ok (.iload 5, 2) := by decide +kernel
theorem dX11_runs_40 : decode cX11_runs 40 = .ok (.iaload, 1) := by decide +kernel
theorem dX11_runs_41 : decode cX11_runs 41 = .ok (.iconst 1, 1) := by decide +kernel
theorem dX11_runs_42 : decode cX11_runs 42 = .ok (.if_icmp .ne 51, 3) := by decide +kernel
theorem dX11_runs_45 : decode cX11_runs 45 = .ok (.aload_n 0, 1) := by decide +kernel
theorem dX11_runs_46 : decode cX11_runs 46 = .ok (.getfield 74, 3) := by decide +kernel
theorem dX11_runs_49 : decode cX11_runs 49 = .ok (.iload 4, 2) := by decide +kernel
theorem dX11_runs_51 : decode cX11_runs 51 = .ok (.aload_n 0, 1) := by decide +kernel
theorem dX11_runs_52 : decode cX11_runs 52 = .ok (.getfield 49, 3) := by decide +kernel
theorem dX11_runs_55 : decode cX11_runs 55 = .ok (.iload 5, 2) := by decide +kernel
theorem dX11_runs_57 : decode cX11_runs 57 = .ok (.iaload, 1) := by decide +kernel
theorem dX11_runs_58 : decode cX11_runs 58 = .ok (.ifCond .ne 13, 3) := by decide +kernel
theorem dX11_runs_61 : decode cX11_runs 61 = .ok (.aload_n 0, 1) := by decide +kernel
theorem dX11_runs_62 : decode cX11_runs 62 = .ok (.getfield 52, 3) := by decide +kernel
theorem dX11_runs_65 : decode cX11_runs 65 = .ok (.iload 5, 2) := by decide +kernel
theorem dX11_runs_67 : decode cX11_runs 67 = .ok (.iaload, 1) := by decide +kernel
theorem dX11_runs_68 : decode cX11_runs 68 = .ok (.goto 15, 3) := by decide +kernel
theorem dX11_runs_71 : decode cX11_runs 71 = .ok (.aload_n 0, 1) := by decide +kernel
theorem dX11_runs_72 : decode cX11_runs 72 = .ok (.getfield 71, 3) := by decide +kernel
theorem dX11_runs_75 : decode cX11_runs 75 = .ok (.aload_n 0, 1) := by decide +kernel
theorem dX11_runs_76 : decode cX11_runs 76 = .ok (.getfield 52, 3) := by decide +kernel
theorem dX11_runs_79 : decode cX11_runs 79 = .ok (.iload 5, 2) := by decide +kernel
theorem dX11_runs_81 : decode cX11_runs 81 = .ok (.iaload, 1) := by decide +kernel
theorem dX11_runs_82 : decode cX11_runs 82 = .ok (.iaload, 1) := by decide +kernel
theorem dX11_runs_83 : decode cX11_runs 83 = .ok (.iastore, 1) := by decide +kernel
theorem dX11_runs_84 : decode cX11_runs 84 = .ok (.iload 4, 2) := by decide +kernel
theorem dX11_runs_86 : decode cX11_runs 86 = .ok (.iconst 1, 1) := by decide +kernel
theorem dX11_runs_87 : decode cX11_runs 87 = .ok (.iadd, 1) := by decide +kernel
theorem dX11_runs_88 : decode cX11_runs 88 = .ok (.istore 4, 2) := by decide +kernel
theorem dX11_runs_90 : decode cX11_runs 90 = .ok (.goto 80, 3) := by decide +kernel
theorem dX11_runs_93 : decode cX11_runs 93 = .ok (.aload_n 0, 1) := by decide +kernel
theorem dX11_runs_94 : decode cX11_runs 94 = .ok (.getfield 49, 3) := by decide +kernel
theorem dX11_runs_97 : decode cX11_runs 97 = .ok (.iload 5, 2) := by decide +kernel
theorem dX11_runs_99 : decode cX11_runs 99 = .ok (.iaload, 1) := by decide +kernel
theorem dX11_runs_100 : decode cX11_runs 100 = .ok (.bipush 9, 2) := by decide +kernel
theorem dX11_runs_102 : decode cX11_runs 102 = .ok (.if_icmp .ne 26, 3) := by decide +kernel
theorem dX11_runs_105 : decode cX11_runs 105 = .ok (.aload_n 0, 1) := by decide +kernel
theorem dX11_runs_106 : decode cX11_runs 106 = .ok (.getfield 74, 3) := by decide +kernel
theorem dX11_runs_109 : decode cX11_runs 109 = .ok (.iload 4, 2) := by decide +kernel
theorem dX11_runs_111 : decode cX11_runs 111 = .ok (.iconst 1, 1) := by decide +kernel
theorem dX11_runs_112 : decode cX11_runs 112 = .ok (.isub, 1) := by decide +kernel
theorem dX11_runs_113 : decode cX11_runs 113 = .ok (.iconst 1, 1) := by decide +kernel
theorem dX11_runs_114 : decode cX11_runs 114 = .ok (.aload_n 0, 1) := by decide +kernel
theorem dX11_runs_115 : decode cX11_runs 115 = .ok (.getfield 74, 3) := by decide +kernel
theorem dX11_runs_118 : decode cX11_runs 118 = .ok (.iload 4, 2) := by decide +kernel
theorem dX11_runs_120 : decode cX11_runs 120 = .ok (.iconst 1, 1) := by decide +kernel
theorem dX11_runs_121 : decode cX11_runs 121 = .ok (.isub, 1) := by decide +kernel
theorem dX11_runs_122 : decode cX11_runs 122 = .ok (.iaload, 1) := by decide +kernel
theorem dX11_runs_123 : decode cX11_runs 123 = .ok (.isub, 1) := by decide +kernel
theorem dX11_runs_124 : decode cX11_runs 124 = .ok (.iastore, 1) := by decide +kernel
theorem dX11_runs_125 : decode cX11_runs 125 = .ok (.goto 45, 3) := by decide +kernel
theorem dX11_runs_128 : decode cX11_runs 128 = .ok (.iload 4, 2) := by decide +kernel
theorem dX11_runs_130 : decode cX11_runs 130 = .ok (.iconst 1, 1) := by decide +kernel
theorem dX11_runs_131 : decode cX11_runs 131 = .ok (.isub, 1) := by decide +kernel
theorem dX11_runs_132 : decode cX11_runs 132 = .ok (.istore 4, 2) := by decide +kernel
theorem dX11_runs_134 : decode cX11_runs 134 = .ok (.aload_n 0, 1) := by decide +kernel
theorem dX11_runs_135 : decode cX11_runs 135 = .ok (.getfield 74, 3) := by decide +kernel
theorem dX11_runs_138 : decode cX11_runs 138 = .ok (.iload 4, 2) := by decide +kernel
theorem dX11_runs_140 : decode cX11_runs 140 = .ok (.iconst 1, 1) := by decide +kernel
theorem dX11_runs_141 : decode cX11_runs 141 = .ok (.isub, 1) := by decide +kernel
theorem dX11_runs_142 : decode cX11_runs 142 = .ok (.aload_n 0, 1) := by decide +kernel
theorem dX11_runs_143 : decode cX11_runs 143 = .ok (.aload_n 0, 1) := by decide +kernel
theorem dX11_runs_144 : decode cX11_runs 144 = .ok (.getfield 49, 3) := by decide +kernel
theorem dX11_runs_147 : decode cX11_runs 147 = .ok (.iload 5, 2) := by decide +kernel
theorem dX11_runs_149 : decode cX11_runs 149 = .ok (.iaload, 1) := by decide +kernel
theorem dX11_runs_150 : decode cX11_runs 150 = .ok (.aload_n 0, 1) := by decide +kernel
theorem dX11_runs_151 : decode cX11_runs 151 = .ok (.getfield 74, 3) := by decide +kernel
theorem dX11_runs_154 : decode cX11_runs 154 = .ok (.iload 4, 2) := by decide +kernel
theorem dX11_runs_156 : decode cX11_runs 156 = .ok (.iconst 1, 1) := by decide +kernel
theorem dX11_runs_157 : decode cX11_runs 157 = .ok (.isub, 1) := by decide +kernel
theorem dX11_runs_158 : decode cX11_runs 158 = .ok (.iaload, 1) := by decide +kernel
theorem dX11_runs_159 : decode cX11_runs 159 = .ok (.aload_n 0, 1) := by decide +kernel
theorem dX11_runs_160 : decode cX11_runs 160 = .ok (.getfield 74, 3) := by decide +kernel
theorem dX11_runs_163 : decode cX11_runs 163 = .ok (.iload 4, 2) := by decide +kernel
theorem dX11_runs_165 : decode cX11_runs 165 = .ok (.iaload, 1) := by decide +kernel
theorem dX11_runs_166 : decode cX11_runs 166 = .ok (.invokevirtual 320, 3) := by decide +kernel
theorem dX11_runs_169 : decode cX11_runs 169 = .ok (.iastore, 1) := by decide +kernel
theorem dX11_runs_170 : decode cX11_runs 170 = .ok (.iinc 5 1, 3) := by decide +kernel
theorem dX11_runs_173 : decode cX11_runs 173 = .ok (.goto (-161), 3) := by decide +kernel
theorem dX11_runs_176 : decode cX11_runs 176 = .ok (.aload_n 0, 1) := by decide +kernel
theorem dX11_runs_177 : decode cX11_runs 177 = .ok (.getfield 74, 3) := by decide +kernel
theorem dX11_runs_180 : decode cX11_runs 180 = .ok (.iconst 0, 1) := by decide +kernel
theorem dX11_runs_181 : decode cX11_runs 181 = .ok (.iaload, 1) := by decide +kernel
theorem dX11_runs_182 : decode cX11_runs 182 = .ok (.ireturn, 1) := by decide +kernel
def f_X11_runs_83  (k12 : Int32 × Int32 × Int32 × Int32 × zHp → Option (Int32 × zHp)) (v1 : Int32) (v3 : Int32) (v4 : Int32) (v5 : Int32) (s0 : Int32) (s1 : Int32) (h : zHp) : Option (Int32 × zHp) := zix s1 420 (zlt (zst h 21 s1.toNatClampNeg s0) fun h1 => zlt (v4 + (1 : Int32)) fun x2 => k12 (v1, v3, x2, (v5 + (1 : Int32)), h1))
set_option maxHeartbeats 4000000 in
set_option maxRecDepth 100000 in
theorem f_X11_runs_83_s  (k12 : Int32 × Int32 × Int32 × Int32 × zHp → Option (Int32 × zHp)) (H12 : ∀ v : Int32 × Int32 × Int32 × Int32 × zHp, Sim wM mX11_runs 1 rI 12 [(0, .ref 0), (1, .int v.1), (3, .int v.2.1), (4, .int v.2.2.1), (5, .int v.2.2.2.1)] [] v.2.2.2.2 (k12 v)) (v1 : Int32) (v3 : Int32) (v4 : Int32) (v5 : Int32) (s0 : Int32) (s1 : Int32) (h : zHp) : Sim wM mX11_runs 1 rI 83 [(0, .ref 0), (1, .int v1), (3, .int v3), (4, .int v4), (5, .int v5)] [.int s0, .int s1, .ref 21] h (f_X11_runs_83 k12 v1 v3 v4 v5 s0 s1 h) := by
  unfold f_X11_runs_83
  refine Sim.iast (n := 420) dX11_runs_83 mA_21 ?_
  refine Sim.lth (fun h1 => ?_)
  refine Sim.iload 3 dX11_runs_84 rfl ?_
  refine Sim.iconst (v := (1 : Int32)) dX11_runs_86 rfl ?_
  refine Sim.iadd dX11_runs_87 ?_
  refine Sim.lti (fun x2 => ?_)
  refine Sim.istore (L' := [(4, .int x2), (0, .ref 0), (1, .int v1), (3, .int v3), (5, .int v5)]) dX11_runs_88 (Nat.le_of_ble_eq_true rfl) rfl ?_
  refine Sim.goto 170 dX11_runs_90 rfl ?_
  refine Sim.iinc (L' := [(5, .int (v5 + (1 : Int32))), (4, .int x2), (0, .ref 0), (1, .int v1), (3, .int v3)]) 4 dX11_runs_170 rfl rfl (Nat.le_of_ble_eq_true rfl) rfl ?_
  refine Sim.goto 12 dX11_runs_173 rfl ?_
  refine Sim.locs [2, 3, 4, 1, 0] rfl ?_
  exact H12 (v1, v3, x2, (v5 + (1 : Int32)), h1)
def f_X11_runs_45  (k12 : Int32 × Int32 × Int32 × Int32 × zHp → Option (Int32 × zHp)) (v1 : Int32) (v3 : Int32) (v4 : Int32) (v5 : Int32) (h : zHp) : Option (Int32 × zHp) := zix v5 1200 ((if (h 14 v5.toNatClampNeg) = 0 then zix v5 1200 (f_X11_runs_83 k12 v1 v3 v4 v5 (h 15 v5.toNatClampNeg) v4 h) else zix v5 1200 (zix (h 15 v5.toNatClampNeg) 9 (f_X11_runs_83 k12 v1 v3 v4 v5 (h 20 (h 15 v5.toNatClampNeg).toNatClampNeg) v4 h))))
set_option maxHeartbeats 4000000 in
set_option maxRecDepth 100000 in
theorem f_X11_runs_45_s  (k12 : Int32 × Int32 × Int32 × Int32 × zHp → Option (Int32 × zHp)) (H12 : ∀ v : Int32 × Int32 × Int32 × Int32 × zHp, Sim wM mX11_runs 1 rI 12 [(0, .ref 0), (1, .int v.1), (3, .int v.2.1), (4, .int v.2.2.1), (5, .int v.2.2.2.1)] [] v.2.2.2.2 (k12 v)) (v1 : Int32) (v3 : Int32) (v4 : Int32) (v5 : Int32) (h : zHp) : Sim wM mX11_runs 1 rI 45 [(0, .ref 0), (1, .int v1), (3, .int v3), (4, .int v4), (5, .int v5)] [] h (f_X11_runs_45 k12 v1 v3 v4 v5 h) := by
  unfold f_X11_runs_45
  refine Sim.aload_n 0 dX11_runs_45 rfl ?_
  refine Sim.getR (j := 21) fl_X11_74 dX11_runs_46 mR_41 ?_
  refine Sim.iload 3 dX11_runs_49 rfl ?_
  refine Sim.aload_n 0 dX11_runs_51 rfl ?_
  refine Sim.getR (j := 14) fl_X11_49 dX11_runs_52 mR_23 ?_
  refine Sim.iload 4 dX11_runs_55 rfl ?_
  refine Sim.iald (n := 1200) dX11_runs_57 mA_14 ?_
  refine Sim.if_ne 71 dX11_runs_58 rfl ?_ ?_
  · refine Sim.aload_n 0 dX11_runs_61 rfl ?_
    refine Sim.getR (j := 15) fl_X11_52 dX11_runs_62 mR_24 ?_
    refine Sim.iload 4 dX11_runs_65 rfl ?_
    refine Sim.iald (n := 1200) dX11_runs_67 mA_15 ?_
    refine Sim.goto 83 dX11_runs_68 rfl ?_
    exact f_X11_runs_83_s k12 H12 v1 v3 v4 v5 (h 15 v5.toNatClampNeg) v4 h
  · refine Sim.aload_n 0 dX11_runs_71 rfl ?_
    refine Sim.getR (j := 20) fl_X11_71 dX11_runs_72 mR_40 ?_
    refine Sim.aload_n 0 dX11_runs_75 rfl ?_
    refine Sim.getR (j := 15) fl_X11_52 dX11_runs_76 mR_24 ?_
    refine Sim.iload 4 dX11_runs_79 rfl ?_
    refine Sim.iald (n := 1200) dX11_runs_81 mA_15 ?_
    refine Sim.iald (n := 9) dX11_runs_82 mA_20 ?_
    exact f_X11_runs_83_s k12 H12 v1 v3 v4 v5 (h 20 (h 15 v5.toNatClampNeg).toNatClampNeg) v4 h
def f_X11_runs_12  (k12 : Int32 × Int32 × Int32 × Int32 × zHp → Option (Int32 × zHp)) (v1 : Int32) (v3 : Int32) (v4 : Int32) (v5 : Int32) (h : zHp) : Option (Int32 × zHp) := (if v5 < (((400 : Int32) * v1) + v3) then zix v5 1200 ((if (h 14 v5.toNatClampNeg) = 0 then f_X11_runs_45 k12 v1 v3 v4 v5 h else zix v5 1200 ((if (h 14 v5.toNatClampNeg) = (1 : Int32) then f_X11_runs_45 k12 v1 v3 v4 v5 h else zix v5 1200 ((if (h 14 v5.toNatClampNeg) = (9 : Int32) then zix (v4 - (1 : Int32)) 420 (zix (v4 - (1 : Int32)) 420 (zlt (zst h 21 (v4 - (1 : Int32)).toNatClampNeg ((1 : Int32) - (h 21 (v4 - (1 : Int32)).toNatClampNeg))) fun h1 => k12 (v1, v3, v4, (v5 + (1 : Int32)), h1))) else zlt (v4 - (1 : Int32)) fun x2 => zix v5 1200 (zix (x2 - (1 : Int32)) 420 (zix x2 420 ((f_X11_twoOf (h 14 v5.toNatClampNeg) (h 21 (x2 - (1 : Int32)).toNatClampNeg) (h 21 x2.toNatClampNeg) h).bind fun x3 => zix (x2 - (1 : Int32)) 420 (zlt (zst x3.2 21 (x2 - (1 : Int32)).toNatClampNeg x3.1) fun h4 => k12 (v1, v3, x2, (v5 + (1 : Int32)), h4))))))))))) else zix (0 : Int32) 420 (some ((h 21 (0 : Int32).toNatClampNeg), h)))
set_option maxHeartbeats 4000000 in
set_option maxRecDepth 100000 in
theorem f_X11_runs_12_s  (k12 : Int32 × Int32 × Int32 × Int32 × zHp → Option (Int32 × zHp)) (H12 : ∀ v : Int32 × Int32 × Int32 × Int32 × zHp, Sim wM mX11_runs 1 rI 12 [(0, .ref 0), (1, .int v.1), (3, .int v.2.1), (4, .int v.2.2.1), (5, .int v.2.2.2.1)] [] v.2.2.2.2 (k12 v)) (v1 : Int32) (v3 : Int32) (v4 : Int32) (v5 : Int32) (h : zHp) : Sim wM mX11_runs 1 rI 12 [(0, .ref 0), (1, .int v1), (3, .int v3), (4, .int v4), (5, .int v5)] [] h (f_X11_runs_12 k12 v1 v3 v4 v5 h) := by
  unfold f_X11_runs_12
  refine Sim.iload 4 dX11_runs_12 rfl ?_
  refine Sim.sipush (v := (400 : Int32)) dX11_runs_14 rfl ?_
  refine Sim.iload_n 1 dX11_runs_17 rfl ?_
  refine Sim.imul dX11_runs_18 ?_
  refine Sim.iload_n 2 dX11_runs_19 rfl ?_
  refine Sim.iadd dX11_runs_20 ?_
  refine Sim.icmp_ge 176 dX11_runs_21 rfl ?_ ?_
  · refine Sim.aload_n 0 dX11_runs_24 rfl ?_
    refine Sim.getR (j := 14) fl_X11_49 dX11_runs_25 mR_23 ?_
    refine Sim.iload 4 dX11_runs_28 rfl ?_
    refine Sim.iald (n := 1200) dX11_runs_30 mA_14 ?_
    refine Sim.if_eq 45 dX11_runs_31 rfl ?_ ?_
    · exact f_X11_runs_45_s k12 H12 v1 v3 v4 v5 h
    · refine Sim.aload_n 0 dX11_runs_34 rfl ?_
      refine Sim.getR (j := 14) fl_X11_49 dX11_runs_35 mR_23 ?_
      refine Sim.iload 4 dX11_runs_38 rfl ?_
      refine Sim.iald (n := 1200) dX11_runs_40 mA_14 ?_
      refine Sim.iconst (v := (1 : Int32)) dX11_runs_41 rfl ?_
      refine Sim.icmp_ne 93 dX11_runs_42 rfl ?_ ?_
      · exact f_X11_runs_45_s k12 H12 v1 v3 v4 v5 h
      · refine Sim.aload_n 0 dX11_runs_93 rfl ?_
        refine Sim.getR (j := 14) fl_X11_49 dX11_runs_94 mR_23 ?_
        refine Sim.iload 4 dX11_runs_97 rfl ?_
        refine Sim.iald (n := 1200) dX11_runs_99 mA_14 ?_
        refine Sim.bipush (v := (9 : Int32)) dX11_runs_100 rfl ?_
        refine Sim.icmp_ne 128 dX11_runs_102 rfl ?_ ?_
        · refine Sim.aload_n 0 dX11_runs_105 rfl ?_
          refine Sim.getR (j := 21) fl_X11_74 dX11_runs_106 mR_41 ?_
          refine Sim.iload 3 dX11_runs_109 rfl ?_
          refine Sim.iconst (v := (1 : Int32)) dX11_runs_111 rfl ?_
          refine Sim.isub dX11_runs_112 ?_
          refine Sim.iconst (v := (1 : Int32)) dX11_runs_113 rfl ?_
          refine Sim.aload_n 0 dX11_runs_114 rfl ?_
          refine Sim.getR (j := 21) fl_X11_74 dX11_runs_115 mR_41 ?_
          refine Sim.iload 3 dX11_runs_118 rfl ?_
          refine Sim.iconst (v := (1 : Int32)) dX11_runs_120 rfl ?_
          refine Sim.isub dX11_runs_121 ?_
          refine Sim.iald (n := 420) dX11_runs_122 mA_21 ?_
          refine Sim.isub dX11_runs_123 ?_
          refine Sim.iast (n := 420) dX11_runs_124 mA_21 ?_
          refine Sim.lth (fun h1 => ?_)
          refine Sim.goto 170 dX11_runs_125 rfl ?_
          refine Sim.iinc (L' := [(5, .int (v5 + (1 : Int32))), (0, .ref 0), (1, .int v1), (3, .int v3), (4, .int v4)]) 4 dX11_runs_170 rfl rfl (Nat.le_of_ble_eq_true rfl) rfl ?_
          refine Sim.goto 12 dX11_runs_173 rfl ?_
          refine Sim.locs [1, 2, 3, 4, 0] rfl ?_
          exact H12 (v1, v3, v4, (v5 + (1 : Int32)), h1)
        · refine Sim.iload 3 dX11_runs_128 rfl ?_
          refine Sim.iconst (v := (1 : Int32)) dX11_runs_130 rfl ?_
          refine Sim.isub dX11_runs_131 ?_
          refine Sim.lti (fun x2 => ?_)
          refine Sim.istore (L' := [(4, .int x2), (0, .ref 0), (1, .int v1), (3, .int v3), (5, .int v5)]) dX11_runs_132 (Nat.le_of_ble_eq_true rfl) rfl ?_
          refine Sim.aload_n 1 dX11_runs_134 rfl ?_
          refine Sim.getR (j := 21) fl_X11_74 dX11_runs_135 mR_41 ?_
          refine Sim.iload 0 dX11_runs_138 rfl ?_
          refine Sim.iconst (v := (1 : Int32)) dX11_runs_140 rfl ?_
          refine Sim.isub dX11_runs_141 ?_
          refine Sim.aload_n 1 dX11_runs_142 rfl ?_
          refine Sim.aload_n 1 dX11_runs_143 rfl ?_
          refine Sim.getR (j := 14) fl_X11_49 dX11_runs_144 mR_23 ?_
          refine Sim.iload 4 dX11_runs_147 rfl ?_
          refine Sim.iald (n := 1200) dX11_runs_149 mA_14 ?_
          refine Sim.aload_n 1 dX11_runs_150 rfl ?_
          refine Sim.getR (j := 21) fl_X11_74 dX11_runs_151 mR_41 ?_
          refine Sim.iload 0 dX11_runs_154 rfl ?_
          refine Sim.iconst (v := (1 : Int32)) dX11_runs_156 rfl ?_
          refine Sim.isub dX11_runs_157 ?_
          refine Sim.iald (n := 420) dX11_runs_158 mA_21 ?_
          refine Sim.aload_n 1 dX11_runs_159 rfl ?_
          refine Sim.getR (j := 21) fl_X11_74 dX11_runs_160 mR_41 ?_
          refine Sim.iload 0 dX11_runs_163 rfl ?_
          refine Sim.iald (n := 420) dX11_runs_165 mA_21 ?_
          refine Sim.callV3I (d1 := 0) (s_X11_twoOf (h 14 v5.toNatClampNeg) (h 21 (x2 - (1 : Int32)).toNatClampNeg) (h 21 x2.toNatClampNeg) h) dX11_runs_166 ml_X11_320 mv_X11_twoOf mC (Nat.le_of_ble_eq_true rfl) (Nat.le_of_ble_eq_true rfl) (Nat.le_of_ble_eq_true rfl) (fun x3 => ?_)
          refine Sim.iast (n := 420) dX11_runs_169 mA_21 ?_
          refine Sim.lth (fun h4 => ?_)
          refine Sim.iinc (L' := [(5, .int (v5 + (1 : Int32))), (4, .int x2), (0, .ref 0), (1, .int v1), (3, .int v3)]) 4 dX11_runs_170 rfl rfl (Nat.le_of_ble_eq_true rfl) rfl ?_
          refine Sim.goto 12 dX11_runs_173 rfl ?_
          refine Sim.locs [2, 3, 4, 1, 0] rfl ?_
          exact H12 (v1, v3, x2, (v5 + (1 : Int32)), h4)
  · refine Sim.aload_n 0 dX11_runs_176 rfl ?_
    refine Sim.getR (j := 21) fl_X11_74 dX11_runs_177 mR_41 ?_
    refine Sim.iconst (v := (0 : Int32)) dX11_runs_180 rfl ?_
    refine Sim.iald (n := 420) dX11_runs_181 mA_21 ?_
    exact Sim.iret dX11_runs_182 rfl
def f_X11_runs_12_lp   (n : Nat) (v : Int32 × Int32 × Int32 × Int32 × zHp) : Option (Int32 × zHp) := zlp (fun k12 v => f_X11_runs_12 k12 v.1 v.2.1 v.2.2.1 v.2.2.2.1 v.2.2.2.2) n v
theorem f_X11_runs_12_ls  (n : Nat) (v : Int32 × Int32 × Int32 × Int32 × zHp) : Sim wM mX11_runs 1 rI 12 [(0, .ref 0), (1, .int v.1), (3, .int v.2.1), (4, .int v.2.2.1), (5, .int v.2.2.2.1)] [] v.2.2.2.2 (f_X11_runs_12_lp n v) :=
  Sim.lp (V := Int32 × Int32 × Int32 × Int32 × zHp) (Lf := fun v => [(0, .ref 0), (1, .int v.1), (3, .int v.2.1), (4, .int v.2.2.1), (5, .int v.2.2.2.1)]) (sf := fun v => []) (hf := fun v => v.2.2.2.2) (fun k12 H12 v => f_X11_runs_12_s k12 H12 v.1 v.2.1 v.2.2.1 v.2.2.2.1 v.2.2.2.2) n v
def f_X11_runs  (a1 : Int32) (a2 : Int32) (a3 : Int32) (h : zHp) : Option (Int32 × zHp) := zlt (((400 : Int32) * a1) + a2) fun x1 => f_X11_runs_12_lp  zN (a1, a3, (0 : Int32), x1, h)
set_option maxHeartbeats 4000000 in
set_option maxRecDepth 100000 in
theorem s_X11_runs  (a1 : Int32) (a2 : Int32) (a3 : Int32) (h : zHp) : Fn wM mX11_runs 1 rI [.ref 0, .int a1, .int a2, .int a3] h (f_X11_runs a1 a2 a3 h) := by
  refine Fn.of rfl (Nat.le_of_ble_eq_true rfl) ?_
  unfold f_X11_runs
  refine Sim.iconst (v := (0 : Int32)) dX11_runs_0 rfl ?_
  refine Sim.istore (L' := [(4, .int (0 : Int32)), (0, .ref 0), (1, .int a1), (2, .int a2), (3, .int a3)]) dX11_runs_1 (Nat.le_of_ble_eq_true rfl) rfl ?_
  refine Sim.sipush (v := (400 : Int32)) dX11_runs_3 rfl ?_
  refine Sim.iload_n 2 dX11_runs_6 rfl ?_
  refine Sim.imul dX11_runs_7 ?_
  refine Sim.iload_n 3 dX11_runs_8 rfl ?_
  refine Sim.iadd dX11_runs_9 ?_
  refine Sim.lti (fun x1 => ?_)
  refine Sim.istore (L' := [(5, .int x1), (4, .int (0 : Int32)), (0, .ref 0), (1, .int a1), (2, .int a2), (3, .int a3)]) dX11_runs_10 (Nat.le_of_ble_eq_true rfl) rfl ?_
  refine Sim.locs [2, 3, 5, 1, 0] rfl ?_
  exact f_X11_runs_12_ls  zN (a1, a3, (0 : Int32), x1, h)
theorem mv_X11_runs : zMV mX11_runs 3 := ⟨⟨zTb_in 1762 (by decide +kernel) rfl, zTb_in 148 (by decide +kernel) rfl, ⟨by decide +kernel, by decide +kernel⟩, by decide +kernel⟩, zTb_in 1761 (by decide +kernel) rfl, zTb_in 92 (by decide +kernel) rfl⟩
-- ===== RockingPorchModel.lineOf(I)I
abbrev mX11_lineOf : zMt := (yX11_lineOf, cX11_lineOf, 3, some .int)
theorem ml_X11_323 : Cond.methodLink RX11 323 yX11_runs ∈ zTb := zTb_in 1759 (by decide +kernel) rfl
theorem dX11_lineOf_0 : decode cX11_lineOf 0 = .ok (.iconst 0, 1) := by decide +kernel
theorem dX11_lineOf_1 : decode cX11_lineOf 1 = .ok (.istore_n 2, 1) := by decide +kernel
theorem dX11_lineOf_2 : decode cX11_lineOf 2 = .ok (.iload_n 2, 1) := by decide +kernel
theorem dX11_lineOf_3 : decode cX11_lineOf 3 = .ok (.aload_n 0, 1) := by decide +kernel
theorem dX11_lineOf_4 : decode cX11_lineOf 4 = .ok (.getfield 34, 3) := by decide +kernel
theorem dX11_lineOf_7 : decode cX11_lineOf 7 = .ok (.iconst 0, 1) := by decide +kernel
theorem dX11_lineOf_8 : decode cX11_lineOf 8 = .ok (.iaload, 1) := by decide +kernel
theorem dX11_lineOf_9 : decode cX11_lineOf 9 = .ok (.if_icmp .ge 56, 3) := by decide +kernel
theorem dX11_lineOf_12 : decode cX11_lineOf 12 = .ok (.aload_n 0, 1) := by decide +kernel
theorem dX11_lineOf_13 : decode cX11_lineOf 13 = .ok (.getfield 37, 3) := by decide +kernel
theorem dX11_lineOf_16 : decode cX11_lineOf 16 = .ok (.iload_n 2, 1) := by decide +kernel
theorem dX11_lineOf_17 : decode cX11_lineOf 17 = .ok (.iaload, 1) := by decide +kernel
theorem dX11_lineOf_18 : decode cX11_lineOf 18 = .ok (.iload_n 1, 1) := by decide +kernel
theorem dX11_lineOf_19 : decode cX11_lineOf 19 = .ok (.if_icmp .ne 40, 3) := by decide +kernel
theorem dX11_lineOf_22 : decode cX11_lineOf 22 = .ok (.aload_n 0, 1) := by decide +kernel
theorem dX11_lineOf_23 : decode cX11_lineOf 23 = .ok (.getfield 43, 3) := by decide +kernel
theorem dX11_lineOf_26 : decode cX11_lineOf 26 = .ok (.iload_n 2, 1) := by decide +kernel
theorem dX11_lineOf_27 : decode cX11_lineOf 27 = .ok (.iaload, 1) := by decide +kernel
theorem dX11_lineOf_28 : decode cX11_lineOf 28 = .ok (.aload_n 0, 1) := by decide +kernel
theorem dX11_lineOf_29 : decode cX11_lineOf 29 = .ok (.getfield 46, 3) := by decide +kernel
theorem dX11_lineOf_32 : decode cX11_lineOf 32 = .ok (.iload_n 2, 1) := by decide +kernel
theorem dX11_lineOf_33 : decode cX11_lineOf 33 = .ok (.iaload, 1) := by decide +kernel
theorem dX11_lineOf_34 : decode cX11_lineOf 34 = .ok (.if_icmp .eq 23, 3) := by decide +kernel
theorem dX11_lineOf_37 : decode cX11_lineOf 37 = .ok (.aload_n 0, 1) := by decide +kernel
theorem dX11_lineOf_38 : decode cX11_lineOf 38 = .ok (.iconst 0, 1) := by decide +kernel
theorem dX11_lineOf_39 : decode cX11_lineOf 39 = .ok (.aload_n 0, 1) := by decide +kernel
theorem dX11_lineOf_40 : decode cX11_lineOf 40 = .ok (.getfield 43, 3) := by decide +kernel
theorem dX11_lineOf_43 : decode cX11_lineOf 43 = .ok (.iload_n 2, 1) := by decide +kernel
theorem dX11_lineOf_44 : decode cX11_lineOf 44 = .ok (.iaload, 1) := by decide +kernel
theorem dX11_lineOf_45 : decode cX11_lineOf 45 = .ok (.aload_n 0, 1) := by decide +kernel
theorem dX11_lineOf_46 : decode cX11_lineOf 46 = .ok (.getfield 46, 3) := by decide +kernel
theorem dX11_lineOf_49 : decode cX11_lineOf 49 = .ok (.iload_n 2, 1) := by decide +kernel
theorem dX11_lineOf_50 : decode cX11_lineOf 50 = .ok (.iaload, 1) := by decide +kernel
theorem dX11_lineOf_51 : decode cX11_lineOf 51 = .ok (.invokevirtual 323, 3) := by decide +kernel
theorem dX11_lineOf_54 : decode cX11_lineOf 54 = .ok (.ifCond .eq 5, 3) := by decide +kernel
theorem dX11_lineOf_57 : decode cX11_lineOf 57 = .ok (.iload_n 2, 1) := by decide +kernel
theorem dX11_lineOf_58 : decode cX11_lineOf 58 = .ok (.ireturn, 1) := by decide +kernel
theorem dX11_lineOf_59 : decode cX11_lineOf 59 = .ok (.iinc 2 1, 3) := by decide +kernel
theorem dX11_lineOf_62 : decode cX11_lineOf 62 = .ok (.goto (-60), 3) := by decide +kernel
theorem dX11_lineOf_65 : decode cX11_lineOf 65 = .ok (.iconst (-1), 1) := by decide +kernel
theorem dX11_lineOf_66 : decode cX11_lineOf 66 = .ok (.ireturn, 1) := by decide +kernel
def f_X11_lineOf_2  (k2 : Int32 × Int32 × zHp → Option (Int32 × zHp)) (v1 : Int32) (v2 : Int32) (h : zHp) : Option (Int32 × zHp) := zix (0 : Int32) 2 ((if v2 < (h 9 (0 : Int32).toNatClampNeg) then zix v2 48 ((if (h 10 v2.toNatClampNeg) = v1 then zix v2 48 (zix v2 48 ((if (h 12 v2.toNatClampNeg) = (h 13 v2.toNatClampNeg) then some (v2, h) else zix v2 48 (zix v2 48 ((f_X11_runs (0 : Int32) (h 12 v2.toNatClampNeg) (h 13 v2.toNatClampNeg) h).bind fun x1 => (if x1.1 = 0 then k2 (v1, (v2 + (1 : Int32)), x1.2) else some (v2, x1.2))))))) else k2 (v1, (v2 + (1 : Int32)), h))) else some ((-1 : Int32), h)))
set_option maxHeartbeats 4000000 in
set_option maxRecDepth 100000 in
theorem f_X11_lineOf_2_s  (k2 : Int32 × Int32 × zHp → Option (Int32 × zHp)) (H2 : ∀ v : Int32 × Int32 × zHp, Sim wM mX11_lineOf 2 rI 2 [(0, .ref 0), (1, .int v.1), (2, .int v.2.1)] [] v.2.2 (k2 v)) (v1 : Int32) (v2 : Int32) (h : zHp) : Sim wM mX11_lineOf 2 rI 2 [(0, .ref 0), (1, .int v1), (2, .int v2)] [] h (f_X11_lineOf_2 k2 v1 v2 h) := by
  unfold f_X11_lineOf_2
  refine Sim.iload_n 2 dX11_lineOf_2 rfl ?_
  refine Sim.aload_n 0 dX11_lineOf_3 rfl ?_
  refine Sim.getR (j := 9) fl_X11_34 dX11_lineOf_4 mR_18 ?_
  refine Sim.iconst (v := (0 : Int32)) dX11_lineOf_7 rfl ?_
  refine Sim.iald (n := 2) dX11_lineOf_8 mA_9 ?_
  refine Sim.icmp_ge 65 dX11_lineOf_9 rfl ?_ ?_
  · refine Sim.aload_n 0 dX11_lineOf_12 rfl ?_
    refine Sim.getR (j := 10) fl_X11_37 dX11_lineOf_13 mR_19 ?_
    refine Sim.iload_n 2 dX11_lineOf_16 rfl ?_
    refine Sim.iald (n := 48) dX11_lineOf_17 mA_10 ?_
    refine Sim.iload_n 1 dX11_lineOf_18 rfl ?_
    refine Sim.icmp_ne 59 dX11_lineOf_19 rfl ?_ ?_
    · refine Sim.aload_n 0 dX11_lineOf_22 rfl ?_
      refine Sim.getR (j := 12) fl_X11_43 dX11_lineOf_23 mR_21 ?_
      refine Sim.iload_n 2 dX11_lineOf_26 rfl ?_
      refine Sim.iald (n := 48) dX11_lineOf_27 mA_12 ?_
      refine Sim.aload_n 0 dX11_lineOf_28 rfl ?_
      refine Sim.getR (j := 13) fl_X11_46 dX11_lineOf_29 mR_22 ?_
      refine Sim.iload_n 2 dX11_lineOf_32 rfl ?_
      refine Sim.iald (n := 48) dX11_lineOf_33 mA_13 ?_
      refine Sim.icmp_eq 57 dX11_lineOf_34 rfl ?_ ?_
      · refine Sim.iload_n 2 dX11_lineOf_57 rfl ?_
        exact Sim.iret dX11_lineOf_58 rfl
      · refine Sim.aload_n 0 dX11_lineOf_37 rfl ?_
        refine Sim.iconst (v := (0 : Int32)) dX11_lineOf_38 rfl ?_
        refine Sim.aload_n 0 dX11_lineOf_39 rfl ?_
        refine Sim.getR (j := 12) fl_X11_43 dX11_lineOf_40 mR_21 ?_
        refine Sim.iload_n 2 dX11_lineOf_43 rfl ?_
        refine Sim.iald (n := 48) dX11_lineOf_44 mA_12 ?_
        refine Sim.aload_n 0 dX11_lineOf_45 rfl ?_
        refine Sim.getR (j := 13) fl_X11_46 dX11_lineOf_46 mR_22 ?_
        refine Sim.iload_n 2 dX11_lineOf_49 rfl ?_
        refine Sim.iald (n := 48) dX11_lineOf_50 mA_13 ?_
        refine Sim.callV3I (d1 := 1) (s_X11_runs (0 : Int32) (h 12 v2.toNatClampNeg) (h 13 v2.toNatClampNeg) h) dX11_lineOf_51 ml_X11_323 mv_X11_runs mC (Nat.le_of_ble_eq_true rfl) (Nat.le_of_ble_eq_true rfl) (Nat.le_of_ble_eq_true rfl) (fun x1 => ?_)
        refine Sim.if_eq 59 dX11_lineOf_54 rfl ?_ ?_
        · refine Sim.iinc (L' := [(2, .int (v2 + (1 : Int32))), (0, .ref 0), (1, .int v1)]) 2 dX11_lineOf_59 rfl rfl (Nat.le_of_ble_eq_true rfl) rfl ?_
          refine Sim.goto 2 dX11_lineOf_62 rfl ?_
          refine Sim.locs [1, 2, 0] rfl ?_
          exact H2 (v1, (v2 + (1 : Int32)), x1.2)
        · refine Sim.iload_n 2 dX11_lineOf_57 rfl ?_
          exact Sim.iret dX11_lineOf_58 rfl
    · refine Sim.iinc (L' := [(2, .int (v2 + (1 : Int32))), (0, .ref 0), (1, .int v1)]) 2 dX11_lineOf_59 rfl rfl (Nat.le_of_ble_eq_true rfl) rfl ?_
      refine Sim.goto 2 dX11_lineOf_62 rfl ?_
      refine Sim.locs [1, 2, 0] rfl ?_
      exact H2 (v1, (v2 + (1 : Int32)), h)
  · refine Sim.iconst (v := (-1 : Int32)) dX11_lineOf_65 rfl ?_
    exact Sim.iret dX11_lineOf_66 rfl
def f_X11_lineOf_2_lp   (n : Nat) (v : Int32 × Int32 × zHp) : Option (Int32 × zHp) := zlp (fun k2 v => f_X11_lineOf_2 k2 v.1 v.2.1 v.2.2) n v
theorem f_X11_lineOf_2_ls  (n : Nat) (v : Int32 × Int32 × zHp) : Sim wM mX11_lineOf 2 rI 2 [(0, .ref 0), (1, .int v.1), (2, .int v.2.1)] [] v.2.2 (f_X11_lineOf_2_lp n v) :=
  Sim.lp (V := Int32 × Int32 × zHp) (Lf := fun v => [(0, .ref 0), (1, .int v.1), (2, .int v.2.1)]) (sf := fun v => []) (hf := fun v => v.2.2) (fun k2 H2 v => f_X11_lineOf_2_s k2 H2 v.1 v.2.1 v.2.2) n v
def f_X11_lineOf  (a1 : Int32) (h : zHp) : Option (Int32 × zHp) := f_X11_lineOf_2_lp  zN (a1, (0 : Int32), h)
set_option maxHeartbeats 4000000 in
set_option maxRecDepth 100000 in
theorem s_X11_lineOf  (a1 : Int32) (h : zHp) : Fn wM mX11_lineOf 2 rI [.ref 0, .int a1] h (f_X11_lineOf a1 h) := by
  refine Fn.of rfl (Nat.le_of_ble_eq_true rfl) ?_
  unfold f_X11_lineOf
  refine Sim.iconst (v := (0 : Int32)) dX11_lineOf_0 rfl ?_
  refine Sim.istore_n (L' := [(2, .int (0 : Int32)), (0, .ref 0), (1, .int a1)]) dX11_lineOf_1 (Nat.le_of_ble_eq_true rfl) rfl ?_
  refine Sim.locs [1, 2, 0] rfl ?_
  exact f_X11_lineOf_2_ls  zN (a1, (0 : Int32), h)
theorem mv_X11_lineOf : zMV mX11_lineOf 1 := ⟨⟨zTb_in 1758 (by decide +kernel) rfl, zTb_in 148 (by decide +kernel) rfl, ⟨by decide +kernel, by decide +kernel⟩, by decide +kernel⟩, zTb_in 1757 (by decide +kernel) rfl, zTb_in 91 (by decide +kernel) rfl⟩
