-- ===== java/lang/Integer.bitCount(I)I
abbrev mJ6_bitCount_0f7a4 : zMt := (yJ6_bitCount_0f7a4, cJ6_bitCount_0f7a4, 1, some .int)
theorem ct_J6_265 : Cond.constant RJ6 265 (1431655765 : Int32) ∈ zTb := zTb_in 665 (by decide +kernel) rfl
theorem ct_J6_266 : Cond.constant RJ6 266 (858993459 : Int32) ∈ zTb := zTb_in 666 (by decide +kernel) rfl
theorem ct_J6_267 : Cond.constant RJ6 267 (252645135 : Int32) ∈ zTb := zTb_in 667 (by decide +kernel) rfl
theorem dJ6_bitCount_0f7a4_0 : decode cJ6_bitCount_0f7a4 0 = .ok (.iload_n 0, 1) := by decide +kernel
theorem dJ6_bitCount_0f7a4_1 : decode cJ6_bitCount_0f7a4 1 = .ok (.iload_n 0, 1) := by decide +kernel
theorem dJ6_bitCount_0f7a4_2 : decode cJ6_bitCount_0f7a4 2 = .ok (.iconst 1, 1) := by decide +kernel
theorem dJ6_bitCount_0f7a4_3 : decode cJ6_bitCount_0f7a4 3 = .ok (.iushr, 1) := by decide +kernel
theorem dJ6_bitCount_0f7a4_4 : decode cJ6_bitCount_0f7a4 4 = .ok (.ldc_w 265, 3) := by decide +kernel
theorem dJ6_bitCount_0f7a4_7 : decode cJ6_bitCount_0f7a4 7 = .ok (.iand, 1) := by decide +kernel
theorem dJ6_bitCount_0f7a4_8 : decode cJ6_bitCount_0f7a4 8 = .ok (.isub, 1) := by decide +kernel
theorem dJ6_bitCount_0f7a4_9 : decode cJ6_bitCount_0f7a4 9 = .ok (.istore_n 0, 1) := by decide +kernel
theorem dJ6_bitCount_0f7a4_10 : decode cJ6_bitCount_0f7a4 10 = .ok (.iload_n 0, 1) := by decide +kernel
theorem dJ6_bitCount_0f7a4_11 : decode cJ6_bitCount_0f7a4 11 = .ok (.ldc_w 266, 3) := by decide +kernel
theorem dJ6_bitCount_0f7a4_14 : decode cJ6_bitCount_0f7a4 14 = .ok (.iand, 1) := by decide +kernel
theorem dJ6_bitCount_0f7a4_15 : decode cJ6_bitCount_0f7a4 15 = .ok (.iload_n 0, 1) := by decide +kernel
theorem dJ6_bitCount_0f7a4_16 : decode cJ6_bitCount_0f7a4 16 = .ok (.iconst 2, 1) := by decide +kernel
theorem dJ6_bitCount_0f7a4_17 : decode cJ6_bitCount_0f7a4 17 = .ok (.iushr, 1) := by decide +kernel
theorem dJ6_bitCount_0f7a4_18 : decode cJ6_bitCount_0f7a4 18 = .ok (.ldc_w 266, 3) := by decide +kernel
theorem dJ6_bitCount_0f7a4_21 : decode cJ6_bitCount_0f7a4 21 = .ok (.iand, 1) := by decide +kernel
theorem dJ6_bitCount_0f7a4_22 : decode cJ6_bitCount_0f7a4 22 = .ok (.iadd, 1) := by decide +kernel
theorem dJ6_bitCount_0f7a4_23 : decode cJ6_bitCount_0f7a4 23 = .ok (.istore_n 0, 1) := by decide +kernel
theorem dJ6_bitCount_0f7a4_24 : decode cJ6_bitCount_0f7a4 24 = .ok (.iload_n 0, 1) := by decide +kernel
theorem dJ6_bitCount_0f7a4_25 : decode cJ6_bitCount_0f7a4 25 = .ok (.iload_n 0, 1) := by decide +kernel
theorem dJ6_bitCount_0f7a4_26 : decode cJ6_bitCount_0f7a4 26 = .ok (.iconst 4, 1) := by decide +kernel
theorem dJ6_bitCount_0f7a4_27 : decode cJ6_bitCount_0f7a4 27 = .ok (.iushr, 1) := by decide +kernel
theorem dJ6_bitCount_0f7a4_28 : decode cJ6_bitCount_0f7a4 28 = .ok (.iadd, 1) := by decide +kernel
theorem dJ6_bitCount_0f7a4_29 : decode cJ6_bitCount_0f7a4 29 = .ok (.ldc_w 267, 3) := by decide +kernel
theorem dJ6_bitCount_0f7a4_32 : decode cJ6_bitCount_0f7a4 32 = .ok (.iand, 1) := by decide +kernel
theorem dJ6_bitCount_0f7a4_33 : decode cJ6_bitCount_0f7a4 33 = .ok (.istore_n 0, 1) := by decide +kernel
theorem dJ6_bitCount_0f7a4_34 : decode cJ6_bitCount_0f7a4 34 = .ok (.iload_n 0, 1) := by decide +kernel
theorem dJ6_bitCount_0f7a4_35 : decode cJ6_bitCount_0f7a4 35 = .ok (.iload_n 0, 1) := by decide +kernel
theorem dJ6_bitCount_0f7a4_36 : decode cJ6_bitCount_0f7a4 36 = .ok (.bipush 8, 2) := by decide +kernel
theorem dJ6_bitCount_0f7a4_38 : decode cJ6_bitCount_0f7a4 38 = .ok (.iushr, 1) := by decide +kernel
theorem dJ6_bitCount_0f7a4_39 : decode cJ6_bitCount_0f7a4 39 = .ok (.iadd, 1) := by decide +kernel
theorem dJ6_bitCount_0f7a4_40 : decode cJ6_bitCount_0f7a4 40 = .ok (.istore_n 0, 1) := by decide +kernel
theorem dJ6_bitCount_0f7a4_41 : decode cJ6_bitCount_0f7a4 41 = .ok (.iload_n 0, 1) := by decide +kernel
theorem dJ6_bitCount_0f7a4_42 : decode cJ6_bitCount_0f7a4 42 = .ok (.iload_n 0, 1) := by decide +kernel
theorem dJ6_bitCount_0f7a4_43 : decode cJ6_bitCount_0f7a4 43 = .ok (.bipush 16, 2) := by decide +kernel
theorem dJ6_bitCount_0f7a4_45 : decode cJ6_bitCount_0f7a4 45 = .ok (.iushr, 1) := by decide +kernel
theorem dJ6_bitCount_0f7a4_46 : decode cJ6_bitCount_0f7a4 46 = .ok (.iadd, 1) := by decide +kernel
theorem dJ6_bitCount_0f7a4_47 : decode cJ6_bitCount_0f7a4 47 = .ok (.istore_n 0, 1) := by decide +kernel
theorem dJ6_bitCount_0f7a4_48 : decode cJ6_bitCount_0f7a4 48 = .ok (.iload_n 0, 1) := by decide +kernel
theorem dJ6_bitCount_0f7a4_49 : decode cJ6_bitCount_0f7a4 49 = .ok (.bipush 63, 2) := by decide +kernel
theorem dJ6_bitCount_0f7a4_51 : decode cJ6_bitCount_0f7a4 51 = .ok (.iand, 1) := by decide +kernel
theorem dJ6_bitCount_0f7a4_52 : decode cJ6_bitCount_0f7a4 52 = .ok (.ireturn, 1) := by decide +kernel
def f_J6_bitCount_0f7a4  (a1 : Int32) (h : zHp) : Option (Int32 × zHp) := zlt (a1 - (((a1.toUInt32 >>> ((1 : Int32).toUInt32 &&& Int32.toUInt32 31)).toInt32) &&& (1431655765 : Int32))) fun x1 => zlt ((x1 &&& (858993459 : Int32)) + (((x1.toUInt32 >>> ((2 : Int32).toUInt32 &&& Int32.toUInt32 31)).toInt32) &&& (858993459 : Int32))) fun x2 => zlt ((x2 + ((x2.toUInt32 >>> ((4 : Int32).toUInt32 &&& Int32.toUInt32 31)).toInt32)) &&& (252645135 : Int32)) fun x3 => zlt (x3 + ((x3.toUInt32 >>> ((8 : Int32).toUInt32 &&& Int32.toUInt32 31)).toInt32)) fun x4 => zlt (x4 + ((x4.toUInt32 >>> ((16 : Int32).toUInt32 &&& Int32.toUInt32 31)).toInt32)) fun x5 => some ((x5 &&& (63 : Int32)), h)
set_option maxHeartbeats 4000000 in
set_option maxRecDepth 100000 in
theorem s_J6_bitCount_0f7a4  (a1 : Int32) (h : zHp) : Fn wX mJ6_bitCount_0f7a4 0 rI [.int a1] h (f_J6_bitCount_0f7a4 a1 h) := by
  refine Fn.of rfl (Nat.le_of_ble_eq_true rfl) ?_
  unfold f_J6_bitCount_0f7a4
  refine Sim.iload_n 0 dJ6_bitCount_0f7a4_0 rfl ?_
  refine Sim.iload_n 0 dJ6_bitCount_0f7a4_1 rfl ?_
  refine Sim.iconst (v := (1 : Int32)) dJ6_bitCount_0f7a4_2 rfl ?_
  refine Sim.iushr dJ6_bitCount_0f7a4_3 ?_
  refine Sim.ldc_w (v := (1431655765 : Int32)) dJ6_bitCount_0f7a4_4 ct_J6_265 ?_
  refine Sim.iand dJ6_bitCount_0f7a4_7 ?_
  refine Sim.isub dJ6_bitCount_0f7a4_8 ?_
  refine Sim.lti (fun x1 => ?_)
  refine Sim.istore_n (L' := [(0, .int x1)]) dJ6_bitCount_0f7a4_9 (Nat.le_of_ble_eq_true rfl) rfl ?_
  refine Sim.iload_n 0 dJ6_bitCount_0f7a4_10 rfl ?_
  refine Sim.ldc_w (v := (858993459 : Int32)) dJ6_bitCount_0f7a4_11 ct_J6_266 ?_
  refine Sim.iand dJ6_bitCount_0f7a4_14 ?_
  refine Sim.iload_n 0 dJ6_bitCount_0f7a4_15 rfl ?_
  refine Sim.iconst (v := (2 : Int32)) dJ6_bitCount_0f7a4_16 rfl ?_
  refine Sim.iushr dJ6_bitCount_0f7a4_17 ?_
  refine Sim.ldc_w (v := (858993459 : Int32)) dJ6_bitCount_0f7a4_18 ct_J6_266 ?_
  refine Sim.iand dJ6_bitCount_0f7a4_21 ?_
  refine Sim.iadd dJ6_bitCount_0f7a4_22 ?_
  refine Sim.lti (fun x2 => ?_)
  refine Sim.istore_n (L' := [(0, .int x2)]) dJ6_bitCount_0f7a4_23 (Nat.le_of_ble_eq_true rfl) rfl ?_
  refine Sim.iload_n 0 dJ6_bitCount_0f7a4_24 rfl ?_
  refine Sim.iload_n 0 dJ6_bitCount_0f7a4_25 rfl ?_
  refine Sim.iconst (v := (4 : Int32)) dJ6_bitCount_0f7a4_26 rfl ?_
  refine Sim.iushr dJ6_bitCount_0f7a4_27 ?_
  refine Sim.iadd dJ6_bitCount_0f7a4_28 ?_
  refine Sim.ldc_w (v := (252645135 : Int32)) dJ6_bitCount_0f7a4_29 ct_J6_267 ?_
  refine Sim.iand dJ6_bitCount_0f7a4_32 ?_
  refine Sim.lti (fun x3 => ?_)
  refine Sim.istore_n (L' := [(0, .int x3)]) dJ6_bitCount_0f7a4_33 (Nat.le_of_ble_eq_true rfl) rfl ?_
  refine Sim.iload_n 0 dJ6_bitCount_0f7a4_34 rfl ?_
  refine Sim.iload_n 0 dJ6_bitCount_0f7a4_35 rfl ?_
  refine Sim.bipush (v := (8 : Int32)) dJ6_bitCount_0f7a4_36 rfl ?_
  refine Sim.iushr dJ6_bitCount_0f7a4_38 ?_
  refine Sim.iadd dJ6_bitCount_0f7a4_39 ?_
  refine Sim.lti (fun x4 => ?_)
  refine Sim.istore_n (L' := [(0, .int x4)]) dJ6_bitCount_0f7a4_40 (Nat.le_of_ble_eq_true rfl) rfl ?_
  refine Sim.iload_n 0 dJ6_bitCount_0f7a4_41 rfl ?_
  refine Sim.iload_n 0 dJ6_bitCount_0f7a4_42 rfl ?_
  refine Sim.bipush (v := (16 : Int32)) dJ6_bitCount_0f7a4_43 rfl ?_
  refine Sim.iushr dJ6_bitCount_0f7a4_45 ?_
  refine Sim.iadd dJ6_bitCount_0f7a4_46 ?_
  refine Sim.lti (fun x5 => ?_)
  refine Sim.istore_n (L' := [(0, .int x5)]) dJ6_bitCount_0f7a4_47 (Nat.le_of_ble_eq_true rfl) rfl ?_
  refine Sim.iload_n 0 dJ6_bitCount_0f7a4_48 rfl ?_
  refine Sim.bipush (v := (63 : Int32)) dJ6_bitCount_0f7a4_49 rfl ?_
  refine Sim.iand dJ6_bitCount_0f7a4_51 ?_
  exact Sim.iret dJ6_bitCount_0f7a4_52 rfl
theorem mv_J6_bitCount_0f7a4 : zMS mJ6_bitCount_0f7a4 1 := ⟨⟨zTb_in 664 (by decide +kernel) rfl, zTb_in 151 (by decide +kernel) rfl, ⟨by decide +kernel, by decide +kernel⟩, by decide +kernel⟩, zTb_in 663 (by decide +kernel) rfl⟩
-- ===== java/lang/String.coder()B
abbrev mJ0_coder_7d493 : zMt := (yJ0_coder_7d493, cJ0_coder_7d493, 1, some .byte)
theorem fs_J0_15 : Cond.fieldLink RJ0 15 "java/lang/String" "coder" "B" ∈ zTb := zTb_in 2043 (by decide +kernel) rfl
theorem fs_J0_38 : Cond.fieldLink RJ0 38 "java/lang/String" "COMPACT_STRINGS" "Z" ∈ zTb := zTb_in 796 (by decide +kernel) rfl
theorem dJ0_coder_7d493_0 : decode cJ0_coder_7d493 0 = .ok (.getstatic 38, 3) := by decide +kernel
theorem dJ0_coder_7d493_3 : decode cJ0_coder_7d493 3 = .ok (.ifCond .eq 10, 3) := by decide +kernel
theorem dJ0_coder_7d493_6 : decode cJ0_coder_7d493 6 = .ok (.aload_n 0, 1) := by decide +kernel
theorem dJ0_coder_7d493_7 : decode cJ0_coder_7d493 7 = .ok (.getfield 15, 3) := by decide +kernel
theorem dJ0_coder_7d493_10 : decode cJ0_coder_7d493 10 = .ok (.goto 4, 3) := by decide +kernel
theorem dJ0_coder_7d493_13 : decode cJ0_coder_7d493 13 = .ok (.iconst 1, 1) := by decide +kernel
theorem dJ0_coder_7d493_14 : decode cJ0_coder_7d493 14 = .ok (.ireturn, 1) := by decide +kernel
def f_J0_coder_7d493 (i : Nat)  (h : zHp) : Option (Int32 × zHp) := (if (1 : Int32) = 0 then some ((1 : Int32), h) else some ((0 : Int32), h))
set_option maxHeartbeats 4000000 in
set_option maxRecDepth 100000 in
theorem s_J0_coder_7d493 (i : Nat) (hi : i < 2)  (h : zHp) : Fn wX mJ0_coder_7d493 0 rI [.ref (1000 + i)] h (f_J0_coder_7d493 i h) := by
  refine Fn.of rfl (Nat.le_of_ble_eq_true rfl) ?_
  unfold f_J0_coder_7d493
  refine Sim.getsC fs_J0_38 dJ0_coder_7d493_0 ?_
  refine Sim.if_eq 13 dJ0_coder_7d493_3 rfl ?_ ?_
  · refine Sim.iconst (v := (1 : Int32)) dJ0_coder_7d493_13 rfl ?_
    exact Sim.nret dJ0_coder_7d493_14 rfl rfl
  · refine Sim.aload_n 0 dJ0_coder_7d493_6 rfl ?_
    refine Sim.getSc (i := i) hi fs_J0_15 dJ0_coder_7d493_7 ?_
    refine Sim.goto 14 dJ0_coder_7d493_10 rfl ?_
    exact Sim.nret dJ0_coder_7d493_14 rfl rfl
theorem mv_J0_coder_7d493 : zMV mJ0_coder_7d493 0 := ⟨⟨zTb_in 805 (by decide +kernel) rfl, zTb_in 152 (by decide +kernel) rfl, ⟨by decide +kernel, by decide +kernel⟩, by decide +kernel⟩, zTb_in 803 (by decide +kernel) rfl, zTb_in 804 (by decide +kernel) rfl⟩
-- ===== java/lang/String.length()I
abbrev mJ0_length_8abf5 : zMt := (yJ0_length_8abf5, cJ0_length_8abf5, 1, some .int)
theorem fs_J0_9 : Cond.fieldLink RJ0 9 "java/lang/String" "value" "[B" ∈ zTb := zTb_in 2044 (by decide +kernel) rfl
theorem ml_J0_335 : Cond.methodLink RJ0 335 yJ0_coder_7d493 ∈ zTb := zTb_in 802 (by decide +kernel) rfl
theorem dJ0_length_8abf5_0 : decode cJ0_length_8abf5 0 = .ok (.aload_n 0, 1) := by decide +kernel
theorem dJ0_length_8abf5_1 : decode cJ0_length_8abf5 1 = .ok (.getfield 9, 3) := by decide +kernel
theorem dJ0_length_8abf5_4 : decode cJ0_length_8abf5 4 = .ok (.arraylength, 1) := by decide +kernel
theorem dJ0_length_8abf5_5 : decode cJ0_length_8abf5 5 = .ok (.aload_n 0, 1) := by decide +kernel
theorem dJ0_length_8abf5_6 : decode cJ0_length_8abf5 6 = .ok (.invokevirtual 335, 3) := by decide +kernel
theorem dJ0_length_8abf5_9 : decode cJ0_length_8abf5 9 = .ok (.ishr, 1) := by decide +kernel
theorem dJ0_length_8abf5_10 : decode cJ0_length_8abf5 10 = .ok (.ireturn, 1) := by decide +kernel
def f_J0_length_8abf5 (i : Nat)  (h : zHp) : Option (Int32 × zHp) := (f_J0_coder_7d493 i h).bind fun x1 => some (((Int32.ofNat (zLn.getD i 0)) >>> (x1.1 &&& 31)), x1.2)
set_option maxHeartbeats 4000000 in
set_option maxRecDepth 100000 in
theorem s_J0_length_8abf5 (i : Nat) (hi : i < 2)  (h : zHp) : Fn wX mJ0_length_8abf5 1 rI [.ref (1000 + i)] h (f_J0_length_8abf5 i h) := by
  refine Fn.of rfl (Nat.le_of_ble_eq_true rfl) ?_
  unfold f_J0_length_8abf5
  refine Sim.aload_n 0 dJ0_length_8abf5_0 rfl ?_
  refine Sim.getSv (i := i) hi fs_J0_9 dJ0_length_8abf5_1 ?_
  refine Sim.alenS (i := i) hi dJ0_length_8abf5_4 ?_
  refine Sim.aload_n 0 dJ0_length_8abf5_5 rfl ?_
  refine Sim.callT0I (i := i) (d1 := 0) (s_J0_coder_7d493 i hi h) dJ0_length_8abf5_6 ml_J0_335 mv_J0_coder_7d493 hi rfl (Nat.le_of_ble_eq_true rfl) (Nat.le_of_ble_eq_true rfl) (Nat.le_of_ble_eq_true rfl) (fun x1 => ?_)
  refine Sim.ishr dJ0_length_8abf5_9 ?_
  exact Sim.iret dJ0_length_8abf5_10 rfl
theorem mv_J0_length_8abf5 : zMV mJ0_length_8abf5 0 := ⟨⟨zTb_in 801 (by decide +kernel) rfl, zTb_in 152 (by decide +kernel) rfl, ⟨by decide +kernel, by decide +kernel⟩, by decide +kernel⟩, zTb_in 799 (by decide +kernel) rfl, zTb_in 800 (by decide +kernel) rfl⟩
-- ===== java/lang/String.isLatin1()Z
abbrev mJ0_isLatin1_aae02 : zMt := (yJ0_isLatin1_aae02, cJ0_isLatin1_aae02, 1, some .boolean)
theorem dJ0_isLatin1_aae02_0 : decode cJ0_isLatin1_aae02 0 = .ok (.getstatic 38, 3) := by decide +kernel
theorem dJ0_isLatin1_aae02_3 : decode cJ0_isLatin1_aae02 3 = .ok (.ifCond .eq 14, 3) := by decide +kernel
theorem dJ0_isLatin1_aae02_6 : decode cJ0_isLatin1_aae02 6 = .ok (.aload_n 0, 1) := by decide +kernel
theorem dJ0_isLatin1_aae02_7 : decode cJ0_isLatin1_aae02 7 = .ok (.getfield 15, 3) := by decide +kernel
theorem dJ0_isLatin1_aae02_10 : decode cJ0_isLatin1_aae02 10 = .ok (.ifCond .ne 7, 3) := by decide +kernel
theorem dJ0_isLatin1_aae02_13 : decode cJ0_isLatin1_aae02 13 = .ok (.iconst 1, 1) := by decide +kernel
theorem dJ0_isLatin1_aae02_14 : decode cJ0_isLatin1_aae02 14 = .ok (.goto 4, 3) := by decide +kernel
theorem dJ0_isLatin1_aae02_17 : decode cJ0_isLatin1_aae02 17 = .ok (.iconst 0, 1) := by decide +kernel
theorem dJ0_isLatin1_aae02_18 : decode cJ0_isLatin1_aae02 18 = .ok (.ireturn, 1) := by decide +kernel
def f_J0_isLatin1_aae02 (i : Nat)  (h : zHp) : Option (Int32 × zHp) := (if (1 : Int32) = 0 then some ((0 : Int32), h) else (if (0 : Int32) = 0 then some ((1 : Int32), h) else some ((0 : Int32), h)))
set_option maxHeartbeats 4000000 in
set_option maxRecDepth 100000 in
theorem s_J0_isLatin1_aae02 (i : Nat) (hi : i < 2)  (h : zHp) : Fn wX mJ0_isLatin1_aae02 0 rI [.ref (1000 + i)] h (f_J0_isLatin1_aae02 i h) := by
  refine Fn.of rfl (Nat.le_of_ble_eq_true rfl) ?_
  unfold f_J0_isLatin1_aae02
  refine Sim.getsC fs_J0_38 dJ0_isLatin1_aae02_0 ?_
  refine Sim.if_eq 17 dJ0_isLatin1_aae02_3 rfl ?_ ?_
  · refine Sim.iconst (v := (0 : Int32)) dJ0_isLatin1_aae02_17 rfl ?_
    exact Sim.nret dJ0_isLatin1_aae02_18 rfl rfl
  · refine Sim.aload_n 0 dJ0_isLatin1_aae02_6 rfl ?_
    refine Sim.getSc (i := i) hi fs_J0_15 dJ0_isLatin1_aae02_7 ?_
    refine Sim.if_ne 17 dJ0_isLatin1_aae02_10 rfl ?_ ?_
    · refine Sim.iconst (v := (1 : Int32)) dJ0_isLatin1_aae02_13 rfl ?_
      refine Sim.goto 18 dJ0_isLatin1_aae02_14 rfl ?_
      exact Sim.nret dJ0_isLatin1_aae02_18 rfl rfl
    · refine Sim.iconst (v := (0 : Int32)) dJ0_isLatin1_aae02_17 rfl ?_
      exact Sim.nret dJ0_isLatin1_aae02_18 rfl rfl
theorem mv_J0_isLatin1_aae02 : zMV mJ0_isLatin1_aae02 0 := ⟨⟨zTb_in 795 (by decide +kernel) rfl, zTb_in 152 (by decide +kernel) rfl, ⟨by decide +kernel, by decide +kernel⟩, by decide +kernel⟩, zTb_in 793 (by decide +kernel) rfl, zTb_in 794 (by decide +kernel) rfl⟩
-- ===== jdk/internal/util/Preconditions.checkIndex(IILjava/util/function/BiFunction;)I
abbrev mJ3_checkIndex_8e157 : zMt := (yJ3_checkIndex_8e157, cJ3_checkIndex_8e157, 3, some .int)
theorem dJ3_checkIndex_8e157_0 : decode cJ3_checkIndex_8e157 0 = .ok (.iload_n 0, 1) := by decide +kernel
theorem dJ3_checkIndex_8e157_1 : decode cJ3_checkIndex_8e157 1 = .ok (.ifCond .lt 8, 3) := by decide +kernel
theorem dJ3_checkIndex_8e157_4 : decode cJ3_checkIndex_8e157 4 = .ok (.iload_n 0, 1) := by decide +kernel
theorem dJ3_checkIndex_8e157_5 : decode cJ3_checkIndex_8e157 5 = .ok (.iload_n 1, 1) := by decide +kernel
theorem dJ3_checkIndex_8e157_6 : decode cJ3_checkIndex_8e157 6 = .ok (.if_icmp .lt 10, 3) := by decide +kernel
theorem dJ3_checkIndex_8e157_16 : decode cJ3_checkIndex_8e157 16 = .ok (.iload_n 0, 1) := by decide +kernel
theorem dJ3_checkIndex_8e157_17 : decode cJ3_checkIndex_8e157 17 = .ok (.ireturn, 1) := by decide +kernel
def f_J3_checkIndex_8e157  (a1 : Int32) (a2 : Int32) (h : zHp) : Option (Int32 × zHp) := (if a1 < 0 then none else (if a1 < a2 then some (a1, h) else none))
set_option maxHeartbeats 4000000 in
set_option maxRecDepth 100000 in
theorem s_J3_checkIndex_8e157 (fv : Value) (hfv : fv = .null ∨ fv = .ref 1020) (a1 : Int32) (a2 : Int32) (h : zHp) : Fn wX mJ3_checkIndex_8e157 0 rI [.int a1, .int a2, fv] h (f_J3_checkIndex_8e157 a1 a2 h) := by
  refine Fn.of rfl (by rcases hfv with rfl | rfl <;> exact Nat.le_of_ble_eq_true rfl) ?_
  unfold f_J3_checkIndex_8e157
  refine Sim.iload_n 0 dJ3_checkIndex_8e157_0 rfl ?_
  refine Sim.if_lt 9 dJ3_checkIndex_8e157_1 rfl ?_ ?_
  · exact Sim.non
  · refine Sim.iload_n 0 dJ3_checkIndex_8e157_4 rfl ?_
    refine Sim.iload_n 1 dJ3_checkIndex_8e157_5 rfl ?_
    refine Sim.icmp_lt 16 dJ3_checkIndex_8e157_6 rfl ?_ ?_
    · refine Sim.iload_n 0 dJ3_checkIndex_8e157_16 rfl ?_
      exact Sim.iret dJ3_checkIndex_8e157_17 rfl
    · exact Sim.non
theorem mv_J3_checkIndex_8e157 : zMS mJ3_checkIndex_8e157 3 := ⟨⟨zTb_in 888 (by decide +kernel) rfl, zTb_in 155 (by decide +kernel) rfl, ⟨by decide +kernel, by decide +kernel⟩, by decide +kernel⟩, zTb_in 887 (by decide +kernel) rfl⟩
-- ===== java/lang/String.checkIndex(II)V
abbrev mJ0_checkIndex_df160 : zMt := (yJ0_checkIndex_df160, cJ0_checkIndex_df160, 2, none)
theorem fs_J0_1053 : Cond.fieldLink RJ0 1053 "jdk/internal/util/Preconditions" "SIOOBE_FORMATTER" "Ljava/util/function/BiFunction;" ∈ zTb := zTb_in 835 (by decide +kernel) rfl
theorem ml_J0_1059 : Cond.methodLink RJ0 1059 yJ3_checkIndex_8e157 ∈ zTb := zTb_in 886 (by decide +kernel) rfl
theorem dJ0_checkIndex_df160_0 : decode cJ0_checkIndex_df160 0 = .ok (.iload_n 0, 1) := by decide +kernel
theorem dJ0_checkIndex_df160_1 : decode cJ0_checkIndex_df160 1 = .ok (.iload_n 1, 1) := by decide +kernel
theorem dJ0_checkIndex_df160_2 : decode cJ0_checkIndex_df160 2 = .ok (.getstatic 1053, 3) := by decide +kernel
theorem dJ0_checkIndex_df160_5 : decode cJ0_checkIndex_df160 5 = .ok (.invokestatic 1059, 3) := by decide +kernel
theorem dJ0_checkIndex_df160_8 : decode cJ0_checkIndex_df160 8 = .ok (.pop, 1) := by decide +kernel
theorem dJ0_checkIndex_df160_9 : decode cJ0_checkIndex_df160 9 = .ok (.return_, 1) := by decide +kernel
def f_J0_checkIndex_df160  (a1 : Int32) (a2 : Int32) (h : zHp) : Option (zHp) := (f_J3_checkIndex_8e157 a1 a2 h).bind fun x1 => some x1.2
set_option maxHeartbeats 4000000 in
set_option maxRecDepth 100000 in
theorem s_J0_checkIndex_df160  (a1 : Int32) (a2 : Int32) (h : zHp) : Fn wX mJ0_checkIndex_df160 1 rV [.int a1, .int a2] h (f_J0_checkIndex_df160 a1 a2 h) := by
  refine Fn.of rfl (Nat.le_of_ble_eq_true rfl) ?_
  unfold f_J0_checkIndex_df160
  refine Sim.iload_n 0 dJ0_checkIndex_df160_0 rfl ?_
  refine Sim.iload_n 1 dJ0_checkIndex_df160_1 rfl ?_
  refine Sim.getsF fs_J0_1053 dJ0_checkIndex_df160_2 ?_ ?_
  · refine Sim.callS3I (d1 := 0) (s_J3_checkIndex_8e157 .null (Or.inl rfl) a1 a2 h) dJ0_checkIndex_df160_5 ml_J0_1059 mv_J3_checkIndex_8e157 (Nat.le_of_ble_eq_true rfl) (Nat.le_of_ble_eq_true rfl) (Nat.le_of_ble_eq_true rfl) (fun x1 => ?_)
    refine Sim.pop dJ0_checkIndex_df160_8 rfl ?_
    exact Sim.vret dJ0_checkIndex_df160_9 rfl
  · refine Sim.callS3I (d1 := 0) (s_J3_checkIndex_8e157 (.ref 1020) (Or.inr rfl) a1 a2 h) dJ0_checkIndex_df160_5 ml_J0_1059 mv_J3_checkIndex_8e157 (Nat.le_of_ble_eq_true rfl) (Nat.le_of_ble_eq_true rfl) (Nat.le_of_ble_eq_true rfl) (fun x1 => ?_)
    refine Sim.pop dJ0_checkIndex_df160_8 rfl ?_
    exact Sim.vret dJ0_checkIndex_df160_9 rfl
theorem mv_J0_checkIndex_df160 : zMS mJ0_checkIndex_df160 2 := ⟨⟨zTb_in 885 (by decide +kernel) rfl, zTb_in 152 (by decide +kernel) rfl, ⟨by decide +kernel, by decide +kernel⟩, by decide +kernel⟩, zTb_in 884 (by decide +kernel) rfl⟩
-- ===== java/lang/StringLatin1.charAt([BI)C
abbrev mJ1_charAt_3b067 : zMt := (yJ1_charAt_3b067, cJ1_charAt_3b067, 2, some .char)
theorem ml_J1_9 : Cond.methodLink RJ1 9 yJ0_checkIndex_df160 ∈ zTb := zTb_in 883 (by decide +kernel) rfl
theorem dJ1_charAt_3b067_0 : decode cJ1_charAt_3b067 0 = .ok (.iload_n 1, 1) := by decide +kernel
theorem dJ1_charAt_3b067_1 : decode cJ1_charAt_3b067 1 = .ok (.aload_n 0, 1) := by decide +kernel
theorem dJ1_charAt_3b067_2 : decode cJ1_charAt_3b067 2 = .ok (.arraylength, 1) := by decide +kernel
theorem dJ1_charAt_3b067_3 : decode cJ1_charAt_3b067 3 = .ok (.invokestatic 9, 3) := by decide +kernel
theorem dJ1_charAt_3b067_6 : decode cJ1_charAt_3b067 6 = .ok (.aload_n 0, 1) := by decide +kernel
theorem dJ1_charAt_3b067_7 : decode cJ1_charAt_3b067 7 = .ok (.iload_n 1, 1) := by decide +kernel
theorem dJ1_charAt_3b067_8 : decode cJ1_charAt_3b067 8 = .ok (.baload, 1) := by decide +kernel
theorem dJ1_charAt_3b067_9 : decode cJ1_charAt_3b067 9 = .ok (.sipush 255, 3) := by decide +kernel
theorem dJ1_charAt_3b067_12 : decode cJ1_charAt_3b067 12 = .ok (.iand, 1) := by decide +kernel
theorem dJ1_charAt_3b067_13 : decode cJ1_charAt_3b067 13 = .ok (.i2c, 1) := by decide +kernel
theorem dJ1_charAt_3b067_14 : decode cJ1_charAt_3b067 14 = .ok (.ireturn, 1) := by decide +kernel
def f_J1_charAt_3b067 (i : Nat) (a2 : Int32) (h : zHp) : Option (Int32 × zHp) := (f_J0_checkIndex_df160 a2 (Int32.ofNat (zLn.getD i 0)) h).bind fun x1 => zix a2 (zLn.getD i 0) (zzc ((((([zBs, zBw].getD i []).getD a2.toNatClampNeg 0) &&& (255 : Int32)).toUInt32 % 65536).toInt32) (some (((((([zBs, zBw].getD i []).getD a2.toNatClampNeg 0) &&& (255 : Int32)).toUInt32 % 65536).toInt32), x1)))
set_option maxHeartbeats 4000000 in
set_option maxRecDepth 100000 in
theorem s_J1_charAt_3b067 (i : Nat) (hi : i < 2) (a2 : Int32) (h : zHp) : Fn wX mJ1_charAt_3b067 2 rI [.ref (1010 + i), .int a2] h (f_J1_charAt_3b067 i a2 h) := by
  refine Fn.of rfl (Nat.le_of_ble_eq_true rfl) ?_
  unfold f_J1_charAt_3b067
  refine Sim.iload_n 1 dJ1_charAt_3b067_0 rfl ?_
  refine Sim.aload_n 0 dJ1_charAt_3b067_1 rfl ?_
  refine Sim.alenS (i := i) hi dJ1_charAt_3b067_2 ?_
  refine Sim.callS2U (d1 := 1) (s_J0_checkIndex_df160 a2 (Int32.ofNat (zLn.getD i 0)) h) dJ1_charAt_3b067_3 ml_J1_9 mv_J0_checkIndex_df160 (Nat.le_of_ble_eq_true rfl) (Nat.le_of_ble_eq_true rfl) (Nat.le_of_ble_eq_true rfl) (fun x1 => ?_)
  refine Sim.aload_n 0 dJ1_charAt_3b067_6 rfl ?_
  refine Sim.iload_n 1 dJ1_charAt_3b067_7 rfl ?_
  refine Sim.balS (i := i) hi dJ1_charAt_3b067_8 ?_
  refine Sim.sipush (v := (255 : Int32)) dJ1_charAt_3b067_9 rfl ?_
  refine Sim.iand dJ1_charAt_3b067_12 ?_
  refine Sim.i2c dJ1_charAt_3b067_13 ?_
  exact Sim.cret dJ1_charAt_3b067_14 rfl
theorem mv_J1_charAt_3b067 : zMS mJ1_charAt_3b067 2 := ⟨⟨zTb_in 882 (by decide +kernel) rfl, zTb_in 153 (by decide +kernel) rfl, ⟨by decide +kernel, by decide +kernel⟩, by decide +kernel⟩, zTb_in 881 (by decide +kernel) rfl⟩
-- ===== java/lang/String.charAt(I)C
abbrev mJ0_charAt_5068e : zMt := (yJ0_charAt_5068e, cJ0_charAt_5068e, 2, some .char)
theorem ml_J0_492 : Cond.methodLink RJ0 492 yJ0_isLatin1_aae02 ∈ zTb := zTb_in 792 (by decide +kernel) rfl
theorem ml_J0_495 : Cond.methodLink RJ0 495 yJ1_charAt_3b067 ∈ zTb := zTb_in 880 (by decide +kernel) rfl
theorem dJ0_charAt_5068e_0 : decode cJ0_charAt_5068e 0 = .ok (.aload_n 0, 1) := by decide +kernel
theorem dJ0_charAt_5068e_1 : decode cJ0_charAt_5068e 1 = .ok (.invokevirtual 492, 3) := by decide +kernel
theorem dJ0_charAt_5068e_4 : decode cJ0_charAt_5068e 4 = .ok (.ifCond .eq 12, 3) := by decide +kernel
theorem dJ0_charAt_5068e_7 : decode cJ0_charAt_5068e 7 = .ok (.aload_n 0, 1) := by decide +kernel
theorem dJ0_charAt_5068e_8 : decode cJ0_charAt_5068e 8 = .ok (.getfield 9, 3) := by decide +kernel
theorem dJ0_charAt_5068e_11 : decode cJ0_charAt_5068e 11 = .ok (.iload_n 1, 1) := by decide +kernel
theorem dJ0_charAt_5068e_12 : decode cJ0_charAt_5068e 12 = .ok (.invokestatic 495, 3) := by decide +kernel
theorem dJ0_charAt_5068e_15 : decode cJ0_charAt_5068e 15 = .ok (.ireturn, 1) := by decide +kernel
def f_J0_charAt_5068e (i : Nat) (a1 : Int32) (h : zHp) : Option (Int32 × zHp) := (f_J0_isLatin1_aae02 i h).bind fun x1 => (if x1.1 = 0 then none else (f_J1_charAt_3b067 i a1 x1.2).bind fun x2 => zzc x2.1 (some (x2.1, x2.2)))
set_option maxHeartbeats 4000000 in
set_option maxRecDepth 100000 in
theorem s_J0_charAt_5068e (i : Nat) (hi : i < 2) (a1 : Int32) (h : zHp) : Fn wX mJ0_charAt_5068e 3 rI [.ref (1000 + i), .int a1] h (f_J0_charAt_5068e i a1 h) := by
  refine Fn.of rfl (Nat.le_of_ble_eq_true rfl) ?_
  unfold f_J0_charAt_5068e
  refine Sim.aload_n 0 dJ0_charAt_5068e_0 rfl ?_
  refine Sim.callT0I (i := i) (d1 := 0) (s_J0_isLatin1_aae02 i hi h) dJ0_charAt_5068e_1 ml_J0_492 mv_J0_isLatin1_aae02 hi rfl (Nat.le_of_ble_eq_true rfl) (Nat.le_of_ble_eq_true rfl) (Nat.le_of_ble_eq_true rfl) (fun x1 => ?_)
  refine Sim.if_eq 16 dJ0_charAt_5068e_4 rfl ?_ ?_
  · exact Sim.non
  · refine Sim.aload_n 0 dJ0_charAt_5068e_7 rfl ?_
    refine Sim.getSv (i := i) hi fs_J0_9 dJ0_charAt_5068e_8 ?_
    refine Sim.iload_n 1 dJ0_charAt_5068e_11 rfl ?_
    refine Sim.callS2I (d1 := 2) (s_J1_charAt_3b067 i hi a1 x1.2) dJ0_charAt_5068e_12 ml_J0_495 mv_J1_charAt_3b067 (Nat.le_of_ble_eq_true rfl) (Nat.le_of_ble_eq_true rfl) (Nat.le_of_ble_eq_true rfl) (fun x2 => ?_)
    exact Sim.cret dJ0_charAt_5068e_15 rfl
theorem mv_J0_charAt_5068e : zMV mJ0_charAt_5068e 1 := ⟨⟨zTb_in 879 (by decide +kernel) rfl, zTb_in 152 (by decide +kernel) rfl, ⟨by decide +kernel, by decide +kernel⟩, by decide +kernel⟩, zTb_in 877 (by decide +kernel) rfl, zTb_in 878 (by decide +kernel) rfl⟩
-- ===== java/lang/StringLatin1.canEncode(I)Z
abbrev mJ1_canEncode_9a6ad : zMt := (yJ1_canEncode_9a6ad, cJ1_canEncode_9a6ad, 1, some .boolean)
theorem dJ1_canEncode_9a6ad_0 : decode cJ1_canEncode_9a6ad 0 = .ok (.iload_n 0, 1) := by decide +kernel
theorem dJ1_canEncode_9a6ad_1 : decode cJ1_canEncode_9a6ad 1 = .ok (.ifCond .lt 14, 3) := by decide +kernel
theorem dJ1_canEncode_9a6ad_4 : decode cJ1_canEncode_9a6ad 4 = .ok (.iload_n 0, 1) := by decide +kernel
theorem dJ1_canEncode_9a6ad_5 : decode cJ1_canEncode_9a6ad 5 = .ok (.sipush 255, 3) := by decide +kernel
theorem dJ1_canEncode_9a6ad_8 : decode cJ1_canEncode_9a6ad 8 = .ok (.if_icmp .gt 7, 3) := by decide +kernel
theorem dJ1_canEncode_9a6ad_11 : decode cJ1_canEncode_9a6ad 11 = .ok (.iconst 1, 1) := by decide +kernel
theorem dJ1_canEncode_9a6ad_12 : decode cJ1_canEncode_9a6ad 12 = .ok (.goto 4, 3) := by decide +kernel
theorem dJ1_canEncode_9a6ad_15 : decode cJ1_canEncode_9a6ad 15 = .ok (.iconst 0, 1) := by decide +kernel
theorem dJ1_canEncode_9a6ad_16 : decode cJ1_canEncode_9a6ad 16 = .ok (.ireturn, 1) := by decide +kernel
def f_J1_canEncode_9a6ad  (a1 : Int32) (h : zHp) : Option (Int32 × zHp) := (if a1 < 0 then some ((0 : Int32), h) else (if (255 : Int32) < a1 then some ((0 : Int32), h) else some ((1 : Int32), h)))
set_option maxHeartbeats 4000000 in
set_option maxRecDepth 100000 in
theorem s_J1_canEncode_9a6ad  (a1 : Int32) (h : zHp) : Fn wX mJ1_canEncode_9a6ad 0 rI [.int a1] h (f_J1_canEncode_9a6ad a1 h) := by
  refine Fn.of rfl (Nat.le_of_ble_eq_true rfl) ?_
  unfold f_J1_canEncode_9a6ad
  refine Sim.iload_n 0 dJ1_canEncode_9a6ad_0 rfl ?_
  refine Sim.if_lt 15 dJ1_canEncode_9a6ad_1 rfl ?_ ?_
  · refine Sim.iconst (v := (0 : Int32)) dJ1_canEncode_9a6ad_15 rfl ?_
    exact Sim.nret dJ1_canEncode_9a6ad_16 rfl rfl
  · refine Sim.iload_n 0 dJ1_canEncode_9a6ad_4 rfl ?_
    refine Sim.sipush (v := (255 : Int32)) dJ1_canEncode_9a6ad_5 rfl ?_
    refine Sim.icmp_gt 15 dJ1_canEncode_9a6ad_8 rfl ?_ ?_
    · refine Sim.iconst (v := (0 : Int32)) dJ1_canEncode_9a6ad_15 rfl ?_
      exact Sim.nret dJ1_canEncode_9a6ad_16 rfl rfl
    · refine Sim.iconst (v := (1 : Int32)) dJ1_canEncode_9a6ad_11 rfl ?_
      refine Sim.goto 16 dJ1_canEncode_9a6ad_12 rfl ?_
      exact Sim.nret dJ1_canEncode_9a6ad_16 rfl rfl
theorem mv_J1_canEncode_9a6ad : zMS mJ1_canEncode_9a6ad 1 := ⟨⟨zTb_in 811 (by decide +kernel) rfl, zTb_in 153 (by decide +kernel) rfl, ⟨by decide +kernel, by decide +kernel⟩, by decide +kernel⟩, zTb_in 810 (by decide +kernel) rfl⟩
-- ===== java/lang/StringLatin1.indexOfChar([BIII)I
abbrev mJ1_indexOfChar_4cfef : zMt := (yJ1_indexOfChar_4cfef, cJ1_indexOfChar_4cfef, 6, some .int)
theorem dJ1_indexOfChar_4cfef_0 : decode cJ1_indexOfChar_4cfef 0 = .ok (.iload_n 1, 1) := by decide +kernel
theorem dJ1_indexOfChar_4cfef_1 : decode cJ1_indexOfChar_4cfef 1 = .ok (.i2b, 1) := by decide +kernel
theorem dJ1_indexOfChar_4cfef_2 : decode cJ1_indexOfChar_4cfef 2 = .ok (.istore 4, 2) := by decide +kernel
theorem dJ1_indexOfChar_4cfef_4 : decode cJ1_indexOfChar_4cfef 4 = .ok (.iload_n 2, 1) := by decide +kernel
theorem dJ1_indexOfChar_4cfef_5 : decode cJ1_indexOfChar_4cfef 5 = .ok (.istore 5, 2) := by decide +kernel
theorem dJ1_indexOfChar_4cfef_7 : decode cJ1_indexOfChar_4cfef 7 = .ok (.iload 5, 2) := by decide +kernel
theorem dJ1_indexOfChar_4cfef_9 : decode cJ1_indexOfChar_4cfef 9 = .ok (.iload_n 3, 1) := by decide +kernel
theorem dJ1_indexOfChar_4cfef_10 : decode cJ1_indexOfChar_4cfef 10 = .ok (.if_icmp .ge 21, 3) := by decide +kernel
theorem dJ1_indexOfChar_4cfef_13 : decode cJ1_indexOfChar_4cfef 13 = .ok (.aload_n 0, 1) := by decide +kernel
theorem dJ1_indexOfChar_4cfef_14 : decode cJ1_indexOfChar_4cfef 14 = .ok (.iload 5, 2) := by decide +kernel
theorem dJ1_indexOfChar_4cfef_16 : decode cJ1_indexOfChar_4cfef 16 = .ok (.baload, 1) := by decide +kernel
theorem dJ1_indexOfChar_4cfef_17 : decode cJ1_indexOfChar_4cfef 17 = .ok (.iload 4, 2) := by decide +kernel
theorem dJ1_indexOfChar_4cfef_19 : decode cJ1_indexOfChar_4cfef 19 = .ok (.if_icmp .ne 6, 3) := by decide +kernel
theorem dJ1_indexOfChar_4cfef_22 : decode cJ1_indexOfChar_4cfef 22 = .ok (.iload 5, 2) := by decide +kernel
theorem dJ1_indexOfChar_4cfef_24 : decode cJ1_indexOfChar_4cfef 24 = .ok (.ireturn, 1) := by decide +kernel
theorem dJ1_indexOfChar_4cfef_25 : decode cJ1_indexOfChar_4cfef 25 = .ok (.iinc 5 1, 3) := by decide +kernel
theorem dJ1_indexOfChar_4cfef_28 : decode cJ1_indexOfChar_4cfef 28 = .ok (.goto (-21), 3) := by decide +kernel
theorem dJ1_indexOfChar_4cfef_31 : decode cJ1_indexOfChar_4cfef 31 = .ok (.iconst (-1), 1) := by decide +kernel
theorem dJ1_indexOfChar_4cfef_32 : decode cJ1_indexOfChar_4cfef 32 = .ok (.ireturn, 1) := by decide +kernel
def f_J1_indexOfChar_4cfef_7 (i : Nat) (k7 : Int32 × Int32 × Int32 × zHp → Option (Int32 × zHp)) (v3 : Int32) (v4 : Int32) (v5 : Int32) (h : zHp) : Option (Int32 × zHp) := (if v5 < v3 then zix v5 (zLn.getD i 0) ((if (([zBs, zBw].getD i []).getD v5.toNatClampNeg 0) = v4 then some (v5, h) else k7 (v3, v4, (v5 + (1 : Int32)), h))) else some ((-1 : Int32), h))
set_option maxHeartbeats 4000000 in
set_option maxRecDepth 100000 in
theorem f_J1_indexOfChar_4cfef_7_s (i : Nat) (hi : i < 2) (k7 : Int32 × Int32 × Int32 × zHp → Option (Int32 × zHp)) (H7 : ∀ v : Int32 × Int32 × Int32 × zHp, Sim wX mJ1_indexOfChar_4cfef 0 rI 7 [(0, .ref (1010 + i)), (3, .int v.1), (4, .int v.2.1), (5, .int v.2.2.1)] [] v.2.2.2 (k7 v)) (v3 : Int32) (v4 : Int32) (v5 : Int32) (h : zHp) : Sim wX mJ1_indexOfChar_4cfef 0 rI 7 [(0, .ref (1010 + i)), (3, .int v3), (4, .int v4), (5, .int v5)] [] h (f_J1_indexOfChar_4cfef_7 i k7 v3 v4 v5 h) := by
  unfold f_J1_indexOfChar_4cfef_7
  refine Sim.iload 3 dJ1_indexOfChar_4cfef_7 rfl ?_
  refine Sim.iload_n 1 dJ1_indexOfChar_4cfef_9 rfl ?_
  refine Sim.icmp_ge 31 dJ1_indexOfChar_4cfef_10 rfl ?_ ?_
  · refine Sim.aload_n 0 dJ1_indexOfChar_4cfef_13 rfl ?_
    refine Sim.iload 3 dJ1_indexOfChar_4cfef_14 rfl ?_
    refine Sim.balS (i := i) hi dJ1_indexOfChar_4cfef_16 ?_
    refine Sim.iload 2 dJ1_indexOfChar_4cfef_17 rfl ?_
    refine Sim.icmp_ne 25 dJ1_indexOfChar_4cfef_19 rfl ?_ ?_
    · refine Sim.iload 3 dJ1_indexOfChar_4cfef_22 rfl ?_
      exact Sim.iret dJ1_indexOfChar_4cfef_24 rfl
    · refine Sim.iinc (L' := [(5, .int (v5 + (1 : Int32))), (0, .ref (1010 + i)), (3, .int v3), (4, .int v4)]) 3 dJ1_indexOfChar_4cfef_25 rfl rfl (Nat.le_of_ble_eq_true rfl) rfl ?_
      refine Sim.goto 7 dJ1_indexOfChar_4cfef_28 rfl ?_
      refine Sim.locs [1, 2, 3, 0] rfl ?_
      exact H7 (v3, v4, (v5 + (1 : Int32)), h)
  · refine Sim.iconst (v := (-1 : Int32)) dJ1_indexOfChar_4cfef_31 rfl ?_
    exact Sim.iret dJ1_indexOfChar_4cfef_32 rfl
def f_J1_indexOfChar_4cfef_7_lp (i : Nat)  (n : Nat) (v : Int32 × Int32 × Int32 × zHp) : Option (Int32 × zHp) := zlp (fun k7 v => f_J1_indexOfChar_4cfef_7 i k7 v.1 v.2.1 v.2.2.1 v.2.2.2) n v
theorem f_J1_indexOfChar_4cfef_7_ls (i : Nat) (hi : i < 2) (n : Nat) (v : Int32 × Int32 × Int32 × zHp) : Sim wX mJ1_indexOfChar_4cfef 0 rI 7 [(0, .ref (1010 + i)), (3, .int v.1), (4, .int v.2.1), (5, .int v.2.2.1)] [] v.2.2.2 (f_J1_indexOfChar_4cfef_7_lp i n v) :=
  Sim.lp (V := Int32 × Int32 × Int32 × zHp) (Lf := fun v => [(0, .ref (1010 + i)), (3, .int v.1), (4, .int v.2.1), (5, .int v.2.2.1)]) (sf := fun v => []) (hf := fun v => v.2.2.2) (fun k7 H7 v => f_J1_indexOfChar_4cfef_7_s i hi k7 H7 v.1 v.2.1 v.2.2.1 v.2.2.2) n v
def f_J1_indexOfChar_4cfef (i : Nat) (a2 : Int32) (a3 : Int32) (a4 : Int32) (h : zHp) : Option (Int32 × zHp) := zlt (a2.toInt8.toInt32) fun x1 => f_J1_indexOfChar_4cfef_7_lp i zN (a4, x1, a3, h)
set_option maxHeartbeats 4000000 in
set_option maxRecDepth 100000 in
theorem s_J1_indexOfChar_4cfef (i : Nat) (hi : i < 2) (a2 : Int32) (a3 : Int32) (a4 : Int32) (h : zHp) : Fn wX mJ1_indexOfChar_4cfef 0 rI [.ref (1010 + i), .int a2, .int a3, .int a4] h (f_J1_indexOfChar_4cfef i a2 a3 a4 h) := by
  refine Fn.of rfl (Nat.le_of_ble_eq_true rfl) ?_
  unfold f_J1_indexOfChar_4cfef
  refine Sim.iload_n 1 dJ1_indexOfChar_4cfef_0 rfl ?_
  refine Sim.i2b dJ1_indexOfChar_4cfef_1 ?_
  refine Sim.lti (fun x1 => ?_)
  refine Sim.istore (L' := [(4, .int x1), (0, .ref (1010 + i)), (1, .int a2), (2, .int a3), (3, .int a4)]) dJ1_indexOfChar_4cfef_2 (Nat.le_of_ble_eq_true rfl) rfl ?_
  refine Sim.iload_n 3 dJ1_indexOfChar_4cfef_4 rfl ?_
  refine Sim.istore (L' := [(5, .int a3), (4, .int x1), (0, .ref (1010 + i)), (1, .int a2), (2, .int a3), (3, .int a4)]) dJ1_indexOfChar_4cfef_5 (Nat.le_of_ble_eq_true rfl) rfl ?_
  refine Sim.locs [2, 5, 1, 0] rfl ?_
  exact f_J1_indexOfChar_4cfef_7_ls i hi zN (a4, x1, a3, h)
theorem mv_J1_indexOfChar_4cfef : zMS mJ1_indexOfChar_4cfef 4 := ⟨⟨zTb_in 816 (by decide +kernel) rfl, zTb_in 153 (by decide +kernel) rfl, ⟨by decide +kernel, by decide +kernel⟩, by decide +kernel⟩, zTb_in 815 (by decide +kernel) rfl⟩
-- ===== java/lang/StringLatin1.indexOf([BIII)I
abbrev mJ1_indexOf_4cfef : zMt := (yJ1_indexOf_4cfef, cJ1_indexOf_4cfef, 4, some .int)
theorem ml_J1_38 : Cond.methodLink RJ1 38 Lib.Math.min.name ∈ zTb := zTb_in 813 (by decide +kernel) rfl
theorem ml_J1_88 : Cond.methodLink RJ1 88 yJ1_canEncode_9a6ad ∈ zTb := zTb_in 809 (by decide +kernel) rfl
theorem ml_J1_92 : Cond.methodLink RJ1 92 Lib.Math.max.name ∈ zTb := zTb_in 812 (by decide +kernel) rfl
theorem ml_J1_95 : Cond.methodLink RJ1 95 yJ1_indexOfChar_4cfef ∈ zTb := zTb_in 814 (by decide +kernel) rfl
theorem dJ1_indexOf_4cfef_0 : decode cJ1_indexOf_4cfef 0 = .ok (.iload_n 1, 1) := by decide +kernel
theorem dJ1_indexOf_4cfef_1 : decode cJ1_indexOf_4cfef 1 = .ok (.invokestatic 88, 3) := by decide +kernel
theorem dJ1_indexOf_4cfef_4 : decode cJ1_indexOf_4cfef 4 = .ok (.ifCond .ne 5, 3) := by decide +kernel
theorem dJ1_indexOf_4cfef_7 : decode cJ1_indexOf_4cfef 7 = .ok (.iconst (-1), 1) := by decide +kernel
theorem dJ1_indexOf_4cfef_8 : decode cJ1_indexOf_4cfef 8 = .ok (.ireturn, 1) := by decide +kernel
theorem dJ1_indexOf_4cfef_9 : decode cJ1_indexOf_4cfef 9 = .ok (.iload_n 2, 1) := by decide +kernel
theorem dJ1_indexOf_4cfef_10 : decode cJ1_indexOf_4cfef 10 = .ok (.iconst 0, 1) := by decide +kernel
theorem dJ1_indexOf_4cfef_11 : decode cJ1_indexOf_4cfef 11 = .ok (.invokestatic 92, 3) := by decide +kernel
theorem dJ1_indexOf_4cfef_14 : decode cJ1_indexOf_4cfef 14 = .ok (.istore_n 2, 1) := by decide +kernel
theorem dJ1_indexOf_4cfef_15 : decode cJ1_indexOf_4cfef 15 = .ok (.iload_n 3, 1) := by decide +kernel
theorem dJ1_indexOf_4cfef_16 : decode cJ1_indexOf_4cfef 16 = .ok (.aload_n 0, 1) := by decide +kernel
theorem dJ1_indexOf_4cfef_17 : decode cJ1_indexOf_4cfef 17 = .ok (.arraylength, 1) := by decide +kernel
theorem dJ1_indexOf_4cfef_18 : decode cJ1_indexOf_4cfef 18 = .ok (.invokestatic 38, 3) := by decide +kernel
theorem dJ1_indexOf_4cfef_21 : decode cJ1_indexOf_4cfef 21 = .ok (.istore_n 3, 1) := by decide +kernel
theorem dJ1_indexOf_4cfef_22 : decode cJ1_indexOf_4cfef 22 = .ok (.iload_n 2, 1) := by decide +kernel
theorem dJ1_indexOf_4cfef_23 : decode cJ1_indexOf_4cfef 23 = .ok (.iload_n 3, 1) := by decide +kernel
theorem dJ1_indexOf_4cfef_24 : decode cJ1_indexOf_4cfef 24 = .ok (.if_icmp .lt 5, 3) := by decide +kernel
theorem dJ1_indexOf_4cfef_27 : decode cJ1_indexOf_4cfef 27 = .ok (.iconst (-1), 1) := by decide +kernel
theorem dJ1_indexOf_4cfef_28 : decode cJ1_indexOf_4cfef 28 = .ok (.ireturn, 1) := by decide +kernel
theorem dJ1_indexOf_4cfef_29 : decode cJ1_indexOf_4cfef 29 = .ok (.aload_n 0, 1) := by decide +kernel
theorem dJ1_indexOf_4cfef_30 : decode cJ1_indexOf_4cfef 30 = .ok (.iload_n 1, 1) := by decide +kernel
theorem dJ1_indexOf_4cfef_31 : decode cJ1_indexOf_4cfef 31 = .ok (.iload_n 2, 1) := by decide +kernel
theorem dJ1_indexOf_4cfef_32 : decode cJ1_indexOf_4cfef 32 = .ok (.iload_n 3, 1) := by decide +kernel
theorem dJ1_indexOf_4cfef_33 : decode cJ1_indexOf_4cfef 33 = .ok (.invokestatic 95, 3) := by decide +kernel
theorem dJ1_indexOf_4cfef_36 : decode cJ1_indexOf_4cfef 36 = .ok (.ireturn, 1) := by decide +kernel
def f_J1_indexOf_4cfef (i : Nat) (a2 : Int32) (a3 : Int32) (a4 : Int32) (h : zHp) : Option (Int32 × zHp) := (f_J1_canEncode_9a6ad a2 h).bind fun x1 => (if x1.1 = 0 then some ((-1 : Int32), x1.2) else zlt (if a3 < (0 : Int32) then (0 : Int32) else a3) fun x2 => zlt (if (Int32.ofNat (zLn.getD i 0)) < a4 then (Int32.ofNat (zLn.getD i 0)) else a4) fun x3 => (if x2 < x3 then (f_J1_indexOfChar_4cfef i a2 x2 x3 x1.2).bind fun x4 => some (x4.1, x4.2) else some ((-1 : Int32), x1.2)))
set_option maxHeartbeats 4000000 in
set_option maxRecDepth 100000 in
theorem s_J1_indexOf_4cfef (i : Nat) (hi : i < 2) (a2 : Int32) (a3 : Int32) (a4 : Int32) (h : zHp) : Fn wX mJ1_indexOf_4cfef 1 rI [.ref (1010 + i), .int a2, .int a3, .int a4] h (f_J1_indexOf_4cfef i a2 a3 a4 h) := by
  refine Fn.of rfl (Nat.le_of_ble_eq_true rfl) ?_
  unfold f_J1_indexOf_4cfef
  refine Sim.iload_n 1 dJ1_indexOf_4cfef_0 rfl ?_
  refine Sim.callS1I (d1 := 0) (s_J1_canEncode_9a6ad a2 h) dJ1_indexOf_4cfef_1 ml_J1_88 mv_J1_canEncode_9a6ad (Nat.le_of_ble_eq_true rfl) (Nat.le_of_ble_eq_true rfl) (Nat.le_of_ble_eq_true rfl) (fun x1 => ?_)
  refine Sim.if_ne 9 dJ1_indexOf_4cfef_4 rfl ?_ ?_
  · refine Sim.iconst (v := (-1 : Int32)) dJ1_indexOf_4cfef_7 rfl ?_
    exact Sim.iret dJ1_indexOf_4cfef_8 rfl
  · refine Sim.iload_n 2 dJ1_indexOf_4cfef_9 rfl ?_
    refine Sim.iconst (v := (0 : Int32)) dJ1_indexOf_4cfef_10 rfl ?_
    refine Sim.mmax dJ1_indexOf_4cfef_11 ml_J1_92 ms_max ms_Math mc_max (Nat.le_of_ble_eq_true rfl) (Nat.le_of_ble_eq_true rfl) ?_
    refine Sim.lti (fun x2 => ?_)
    refine Sim.istore_n (L' := [(2, .int x2), (0, .ref (1010 + i)), (1, .int a2), (3, .int a4)]) dJ1_indexOf_4cfef_14 (Nat.le_of_ble_eq_true rfl) rfl ?_
    refine Sim.iload_n 3 dJ1_indexOf_4cfef_15 rfl ?_
    refine Sim.aload_n 1 dJ1_indexOf_4cfef_16 rfl ?_
    refine Sim.alenS (i := i) hi dJ1_indexOf_4cfef_17 ?_
    refine Sim.mmin dJ1_indexOf_4cfef_18 ml_J1_38 ms_min ms_Math mc_min (Nat.le_of_ble_eq_true rfl) (Nat.le_of_ble_eq_true rfl) ?_
    refine Sim.lti (fun x3 => ?_)
    refine Sim.istore_n (L' := [(3, .int x3), (2, .int x2), (0, .ref (1010 + i)), (1, .int a2)]) dJ1_indexOf_4cfef_21 (Nat.le_of_ble_eq_true rfl) rfl ?_
    refine Sim.iload_n 1 dJ1_indexOf_4cfef_22 rfl ?_
    refine Sim.iload_n 0 dJ1_indexOf_4cfef_23 rfl ?_
    refine Sim.icmp_lt 29 dJ1_indexOf_4cfef_24 rfl ?_ ?_
    · refine Sim.aload_n 2 dJ1_indexOf_4cfef_29 rfl ?_
      refine Sim.iload_n 3 dJ1_indexOf_4cfef_30 rfl ?_
      refine Sim.iload_n 1 dJ1_indexOf_4cfef_31 rfl ?_
      refine Sim.iload_n 0 dJ1_indexOf_4cfef_32 rfl ?_
      refine Sim.callS4I (d1 := 0) (s_J1_indexOfChar_4cfef i hi a2 x2 x3 x1.2) dJ1_indexOf_4cfef_33 ml_J1_95 mv_J1_indexOfChar_4cfef (Nat.le_of_ble_eq_true rfl) (Nat.le_of_ble_eq_true rfl) (Nat.le_of_ble_eq_true rfl) (fun x4 => ?_)
      exact Sim.iret dJ1_indexOf_4cfef_36 rfl
    · refine Sim.iconst (v := (-1 : Int32)) dJ1_indexOf_4cfef_27 rfl ?_
      exact Sim.iret dJ1_indexOf_4cfef_28 rfl
theorem mv_J1_indexOf_4cfef : zMS mJ1_indexOf_4cfef 4 := ⟨⟨zTb_in 808 (by decide +kernel) rfl, zTb_in 153 (by decide +kernel) rfl, ⟨by decide +kernel, by decide +kernel⟩, by decide +kernel⟩, zTb_in 807 (by decide +kernel) rfl⟩
-- ===== java/lang/String.indexOf(II)I
abbrev mJ0_indexOf_7cf53 : zMt := (yJ0_indexOf_7cf53, cJ0_indexOf_7cf53, 3, some .int)
theorem ml_J0_505 : Cond.methodLink RJ0 505 yJ0_length_8abf5 ∈ zTb := zTb_in 798 (by decide +kernel) rfl
theorem ml_J0_637 : Cond.methodLink RJ0 637 yJ1_indexOf_4cfef ∈ zTb := zTb_in 806 (by decide +kernel) rfl
theorem dJ0_indexOf_7cf53_0 : decode cJ0_indexOf_7cf53 0 = .ok (.aload_n 0, 1) := by decide +kernel
theorem dJ0_indexOf_7cf53_1 : decode cJ0_indexOf_7cf53 1 = .ok (.invokevirtual 492, 3) := by decide +kernel
theorem dJ0_indexOf_7cf53_4 : decode cJ0_indexOf_7cf53 4 = .ok (.ifCond .eq 19, 3) := by decide +kernel
theorem dJ0_indexOf_7cf53_7 : decode cJ0_indexOf_7cf53 7 = .ok (.aload_n 0, 1) := by decide +kernel
theorem dJ0_indexOf_7cf53_8 : decode cJ0_indexOf_7cf53 8 = .ok (.getfield 9, 3) := by decide +kernel
theorem dJ0_indexOf_7cf53_11 : decode cJ0_indexOf_7cf53 11 = .ok (.iload_n 1, 1) := by decide +kernel
theorem dJ0_indexOf_7cf53_12 : decode cJ0_indexOf_7cf53 12 = .ok (.iload_n 2, 1) := by decide +kernel
theorem dJ0_indexOf_7cf53_13 : decode cJ0_indexOf_7cf53 13 = .ok (.aload_n 0, 1) := by decide +kernel
theorem dJ0_indexOf_7cf53_14 : decode cJ0_indexOf_7cf53 14 = .ok (.invokevirtual 505, 3) := by decide +kernel
theorem dJ0_indexOf_7cf53_17 : decode cJ0_indexOf_7cf53 17 = .ok (.invokestatic 637, 3) := by decide +kernel
theorem dJ0_indexOf_7cf53_20 : decode cJ0_indexOf_7cf53 20 = .ok (.goto 16, 3) := by decide +kernel
theorem dJ0_indexOf_7cf53_36 : decode cJ0_indexOf_7cf53 36 = .ok (.ireturn, 1) := by decide +kernel
def f_J0_indexOf_7cf53 (i : Nat) (a1 : Int32) (a2 : Int32) (h : zHp) : Option (Int32 × zHp) := (f_J0_isLatin1_aae02 i h).bind fun x1 => (if x1.1 = 0 then none else (f_J0_length_8abf5 i x1.2).bind fun x2 => (f_J1_indexOf_4cfef i a1 a2 x2.1 x2.2).bind fun x3 => some (x3.1, x3.2))
set_option maxHeartbeats 4000000 in
set_option maxRecDepth 100000 in
theorem s_J0_indexOf_7cf53 (i : Nat) (hi : i < 2) (a1 : Int32) (a2 : Int32) (h : zHp) : Fn wX mJ0_indexOf_7cf53 2 rI [.ref (1000 + i), .int a1, .int a2] h (f_J0_indexOf_7cf53 i a1 a2 h) := by
  refine Fn.of rfl (Nat.le_of_ble_eq_true rfl) ?_
  unfold f_J0_indexOf_7cf53
  refine Sim.aload_n 0 dJ0_indexOf_7cf53_0 rfl ?_
  refine Sim.callT0I (i := i) (d1 := 0) (s_J0_isLatin1_aae02 i hi h) dJ0_indexOf_7cf53_1 ml_J0_492 mv_J0_isLatin1_aae02 hi rfl (Nat.le_of_ble_eq_true rfl) (Nat.le_of_ble_eq_true rfl) (Nat.le_of_ble_eq_true rfl) (fun x1 => ?_)
  refine Sim.if_eq 23 dJ0_indexOf_7cf53_4 rfl ?_ ?_
  · exact Sim.non
  · refine Sim.aload_n 0 dJ0_indexOf_7cf53_7 rfl ?_
    refine Sim.getSv (i := i) hi fs_J0_9 dJ0_indexOf_7cf53_8 ?_
    refine Sim.iload_n 1 dJ0_indexOf_7cf53_11 rfl ?_
    refine Sim.iload_n 2 dJ0_indexOf_7cf53_12 rfl ?_
    refine Sim.aload_n 0 dJ0_indexOf_7cf53_13 rfl ?_
    refine Sim.callT0I (i := i) (d1 := 1) (s_J0_length_8abf5 i hi x1.2) dJ0_indexOf_7cf53_14 ml_J0_505 mv_J0_length_8abf5 hi rfl (Nat.le_of_ble_eq_true rfl) (Nat.le_of_ble_eq_true rfl) (Nat.le_of_ble_eq_true rfl) (fun x2 => ?_)
    refine Sim.callS4I (d1 := 1) (s_J1_indexOf_4cfef i hi a1 a2 x2.1 x2.2) dJ0_indexOf_7cf53_17 ml_J0_637 mv_J1_indexOf_4cfef (Nat.le_of_ble_eq_true rfl) (Nat.le_of_ble_eq_true rfl) (Nat.le_of_ble_eq_true rfl) (fun x3 => ?_)
    refine Sim.goto 36 dJ0_indexOf_7cf53_20 rfl ?_
    exact Sim.iret dJ0_indexOf_7cf53_36 rfl
theorem mv_J0_indexOf_7cf53 : zMV mJ0_indexOf_7cf53 2 := ⟨⟨zTb_in 791 (by decide +kernel) rfl, zTb_in 152 (by decide +kernel) rfl, ⟨by decide +kernel, by decide +kernel⟩, by decide +kernel⟩, zTb_in 789 (by decide +kernel) rfl, zTb_in 790 (by decide +kernel) rfl⟩
-- ===== java/lang/String.indexOf(I)I
abbrev mJ0_indexOf_0f7a4 : zMt := (yJ0_indexOf_0f7a4, cJ0_indexOf_0f7a4, 2, some .int)
theorem ml_J0_633 : Cond.methodLink RJ0 633 yJ0_indexOf_7cf53 ∈ zTb := zTb_in 788 (by decide +kernel) rfl
theorem dJ0_indexOf_0f7a4_0 : decode cJ0_indexOf_0f7a4 0 = .ok (.aload_n 0, 1) := by decide +kernel
theorem dJ0_indexOf_0f7a4_1 : decode cJ0_indexOf_0f7a4 1 = .ok (.iload_n 1, 1) := by decide +kernel
theorem dJ0_indexOf_0f7a4_2 : decode cJ0_indexOf_0f7a4 2 = .ok (.iconst 0, 1) := by decide +kernel
theorem dJ0_indexOf_0f7a4_3 : decode cJ0_indexOf_0f7a4 3 = .ok (.invokevirtual 633, 3) := by decide +kernel
theorem dJ0_indexOf_0f7a4_6 : decode cJ0_indexOf_0f7a4 6 = .ok (.ireturn, 1) := by decide +kernel
def f_J0_indexOf_0f7a4 (i : Nat) (a1 : Int32) (h : zHp) : Option (Int32 × zHp) := (f_J0_indexOf_7cf53 i a1 (0 : Int32) h).bind fun x1 => some (x1.1, x1.2)
set_option maxHeartbeats 4000000 in
set_option maxRecDepth 100000 in
theorem s_J0_indexOf_0f7a4 (i : Nat) (hi : i < 2) (a1 : Int32) (h : zHp) : Fn wX mJ0_indexOf_0f7a4 3 rI [.ref (1000 + i), .int a1] h (f_J0_indexOf_0f7a4 i a1 h) := by
  refine Fn.of rfl (Nat.le_of_ble_eq_true rfl) ?_
  unfold f_J0_indexOf_0f7a4
  refine Sim.aload_n 0 dJ0_indexOf_0f7a4_0 rfl ?_
  refine Sim.iload_n 1 dJ0_indexOf_0f7a4_1 rfl ?_
  refine Sim.iconst (v := (0 : Int32)) dJ0_indexOf_0f7a4_2 rfl ?_
  refine Sim.callT2I (i := i) (d1 := 2) (s_J0_indexOf_7cf53 i hi a1 (0 : Int32) h) dJ0_indexOf_0f7a4_3 ml_J0_633 mv_J0_indexOf_7cf53 hi rfl (Nat.le_of_ble_eq_true rfl) (Nat.le_of_ble_eq_true rfl) (Nat.le_of_ble_eq_true rfl) (fun x1 => ?_)
  exact Sim.iret dJ0_indexOf_0f7a4_6 rfl
theorem mv_J0_indexOf_0f7a4 : zMV mJ0_indexOf_0f7a4 1 := ⟨⟨zTb_in 787 (by decide +kernel) rfl, zTb_in 152 (by decide +kernel) rfl, ⟨by decide +kernel, by decide +kernel⟩, by decide +kernel⟩, zTb_in 785 (by decide +kernel) rfl, zTb_in 786 (by decide +kernel) rfl⟩
-- ===== RockingPorch$Porch.isChair(I)Z
abbrev mX4_isChair : zMt := (yX4_isChair, cX4_isChair, 2, some .boolean)
theorem fl_X4_36 : zF RX4 36 4 9 := ⟨RX4, TX4, 15, rfl, Nat.le_of_ble_eq_true rfl, zTb_in 203 (by decide +kernel) rfl, in_X4⟩
theorem dX4_isChair_0 : decode cX4_isChair 0 = .ok (.iload_n 1, 1) := by decide +kernel
theorem dX4_isChair_1 : decode cX4_isChair 1 = .ok (.ifCond .lt 21, 3) := by decide +kernel
theorem dX4_isChair_4 : decode cX4_isChair 4 = .ok (.iload_n 1, 1) := by decide +kernel
theorem dX4_isChair_5 : decode cX4_isChair 5 = .ok (.aload_n 0, 1) := by decide +kernel
theorem dX4_isChair_6 : decode cX4_isChair 6 = .ok (.getfield 36, 3) := by decide +kernel
theorem dX4_isChair_9 : decode cX4_isChair 9 = .ok (.if_icmp .ge 13, 3) := by decide +kernel
theorem dX4_isChair_12 : decode cX4_isChair 12 = .ok (.iload_n 1, 1) := by decide +kernel
theorem dX4_isChair_13 : decode cX4_isChair 13 = .ok (.bipush 10, 2) := by decide +kernel
theorem dX4_isChair_15 : decode cX4_isChair 15 = .ok (.if_icmp .ge 7, 3) := by decide +kernel
theorem dX4_isChair_18 : decode cX4_isChair 18 = .ok (.iconst 1, 1) := by decide +kernel
theorem dX4_isChair_19 : decode cX4_isChair 19 = .ok (.goto 4, 3) := by decide +kernel
theorem dX4_isChair_22 : decode cX4_isChair 22 = .ok (.iconst 0, 1) := by decide +kernel
theorem dX4_isChair_23 : decode cX4_isChair 23 = .ok (.ireturn, 1) := by decide +kernel
def f_X4_isChair (o : Nat) (a1 : Int32) (h : zHp) : Option (Int32 × zHp) := (if a1 < 0 then some ((0 : Int32), h) else (if a1 < (h o 9) then (if a1 < (10 : Int32) then some ((1 : Int32), h) else some ((0 : Int32), h)) else some ((0 : Int32), h)))
set_option maxHeartbeats 4000000 in
set_option maxRecDepth 100000 in
theorem s_X4_isChair (o : Nat) (ho : o ∈ xPorch) (a1 : Int32) (h : zHp) : Fn wX mX4_isChair 0 rI [.ref o, .int a1] h (f_X4_isChair o a1 h) := by
  refine Fn.of rfl (Nat.le_of_ble_eq_true rfl) ?_
  unfold f_X4_isChair
  refine Sim.iload_n 1 dX4_isChair_0 rfl ?_
  refine Sim.if_lt 22 dX4_isChair_1 rfl ?_ ?_
  · refine Sim.iconst (v := (0 : Int32)) dX4_isChair_22 rfl ?_
    exact Sim.nret dX4_isChair_23 rfl rfl
  · refine Sim.iload_n 1 dX4_isChair_4 rfl ?_
    refine Sim.aload_n 0 dX4_isChair_5 rfl ?_
    refine Sim.getI fl_X4_36 dX4_isChair_6 (xI_X4_9 _ ho) ?_
    refine Sim.icmp_ge 22 dX4_isChair_9 rfl ?_ ?_
    · refine Sim.iload_n 1 dX4_isChair_12 rfl ?_
      refine Sim.bipush (v := (10 : Int32)) dX4_isChair_13 rfl ?_
      refine Sim.icmp_ge 22 dX4_isChair_15 rfl ?_ ?_
      · refine Sim.iconst (v := (1 : Int32)) dX4_isChair_18 rfl ?_
        refine Sim.goto 23 dX4_isChair_19 rfl ?_
        exact Sim.nret dX4_isChair_23 rfl rfl
      · refine Sim.iconst (v := (0 : Int32)) dX4_isChair_22 rfl ?_
        exact Sim.nret dX4_isChair_23 rfl rfl
    · refine Sim.iconst (v := (0 : Int32)) dX4_isChair_22 rfl ?_
      exact Sim.nret dX4_isChair_23 rfl rfl
theorem mv_X4_isChair : zMV mX4_isChair 1 := ⟨⟨zTb_in 580 (by decide +kernel) rfl, zTb_in 139 (by decide +kernel) rfl, ⟨by decide +kernel, by decide +kernel⟩, by decide +kernel⟩, zTb_in 578 (by decide +kernel) rfl, zTb_in 579 (by decide +kernel) rfl⟩
-- ===== RockingPorch$Porch.isPerson(I)Z
abbrev mX4_isPerson : zMt := (yX4_isPerson, cX4_isPerson, 2, some .boolean)
theorem fl_X4_40 : zF RX4 40 4 10 := ⟨RX4, TX4, 15, rfl, Nat.le_of_ble_eq_true rfl, zTb_in 206 (by decide +kernel) rfl, in_X4⟩
theorem dX4_isPerson_0 : decode cX4_isPerson 0 = .ok (.iload_n 1, 1) := by decide +kernel
theorem dX4_isPerson_1 : decode cX4_isPerson 1 = .ok (.ifCond .lt 21, 3) := by decide +kernel
theorem dX4_isPerson_4 : decode cX4_isPerson 4 = .ok (.iload_n 1, 1) := by decide +kernel
theorem dX4_isPerson_5 : decode cX4_isPerson 5 = .ok (.aload_n 0, 1) := by decide +kernel
theorem dX4_isPerson_6 : decode cX4_isPerson 6 = .ok (.getfield 40, 3) := by decide +kernel
theorem dX4_isPerson_9 : decode cX4_isPerson 9 = .ok (.if_icmp .ge 13, 3) := by decide +kernel
theorem dX4_isPerson_12 : decode cX4_isPerson 12 = .ok (.iload_n 1, 1) := by decide +kernel
theorem dX4_isPerson_13 : decode cX4_isPerson 13 = .ok (.bipush 14, 2) := by decide +kernel
theorem dX4_isPerson_15 : decode cX4_isPerson 15 = .ok (.if_icmp .ge 7, 3) := by decide +kernel
theorem dX4_isPerson_18 : decode cX4_isPerson 18 = .ok (.iconst 1, 1) := by decide +kernel
theorem dX4_isPerson_19 : decode cX4_isPerson 19 = .ok (.goto 4, 3) := by decide +kernel
theorem dX4_isPerson_22 : decode cX4_isPerson 22 = .ok (.iconst 0, 1) := by decide +kernel
theorem dX4_isPerson_23 : decode cX4_isPerson 23 = .ok (.ireturn, 1) := by decide +kernel
def f_X4_isPerson (o : Nat) (a1 : Int32) (h : zHp) : Option (Int32 × zHp) := (if a1 < 0 then some ((0 : Int32), h) else (if a1 < (h o 10) then (if a1 < (14 : Int32) then some ((1 : Int32), h) else some ((0 : Int32), h)) else some ((0 : Int32), h)))
set_option maxHeartbeats 4000000 in
set_option maxRecDepth 100000 in
theorem s_X4_isPerson (o : Nat) (ho : o ∈ xPorch) (a1 : Int32) (h : zHp) : Fn wX mX4_isPerson 0 rI [.ref o, .int a1] h (f_X4_isPerson o a1 h) := by
  refine Fn.of rfl (Nat.le_of_ble_eq_true rfl) ?_
  unfold f_X4_isPerson
  refine Sim.iload_n 1 dX4_isPerson_0 rfl ?_
  refine Sim.if_lt 22 dX4_isPerson_1 rfl ?_ ?_
  · refine Sim.iconst (v := (0 : Int32)) dX4_isPerson_22 rfl ?_
    exact Sim.nret dX4_isPerson_23 rfl rfl
  · refine Sim.iload_n 1 dX4_isPerson_4 rfl ?_
    refine Sim.aload_n 0 dX4_isPerson_5 rfl ?_
    refine Sim.getI fl_X4_40 dX4_isPerson_6 (xI_X4_10 _ ho) ?_
    refine Sim.icmp_ge 22 dX4_isPerson_9 rfl ?_ ?_
    · refine Sim.iload_n 1 dX4_isPerson_12 rfl ?_
      refine Sim.bipush (v := (14 : Int32)) dX4_isPerson_13 rfl ?_
      refine Sim.icmp_ge 22 dX4_isPerson_15 rfl ?_ ?_
      · refine Sim.iconst (v := (1 : Int32)) dX4_isPerson_18 rfl ?_
        refine Sim.goto 23 dX4_isPerson_19 rfl ?_
        exact Sim.nret dX4_isPerson_23 rfl rfl
      · refine Sim.iconst (v := (0 : Int32)) dX4_isPerson_22 rfl ?_
        exact Sim.nret dX4_isPerson_23 rfl rfl
    · refine Sim.iconst (v := (0 : Int32)) dX4_isPerson_22 rfl ?_
      exact Sim.nret dX4_isPerson_23 rfl rfl
theorem mv_X4_isPerson : zMV mX4_isPerson 1 := ⟨⟨zTb_in 584 (by decide +kernel) rfl, zTb_in 139 (by decide +kernel) rfl, ⟨by decide +kernel, by decide +kernel⟩, by decide +kernel⟩, zTb_in 582 (by decide +kernel) rfl, zTb_in 583 (by decide +kernel) rfl⟩
-- ===== RockingPorch$Porch.awaySet()I
abbrev mX4_awaySet : zMt := (yX4_awaySet, cX4_awaySet, 3, some .int)
theorem fl_X4_27 : zF RX4 27 4 6 := ⟨RX4, TX4, 15, rfl, Nat.le_of_ble_eq_true rfl, zTb_in 194 (by decide +kernel) rfl, in_X4⟩
theorem dX4_awaySet_0 : decode cX4_awaySet 0 = .ok (.iconst 0, 1) := by decide +kernel
theorem dX4_awaySet_1 : decode cX4_awaySet 1 = .ok (.istore_n 1, 1) := by decide +kernel
theorem dX4_awaySet_2 : decode cX4_awaySet 2 = .ok (.iconst 0, 1) := by decide +kernel
theorem dX4_awaySet_3 : decode cX4_awaySet 3 = .ok (.istore_n 2, 1) := by decide +kernel
theorem dX4_awaySet_4 : decode cX4_awaySet 4 = .ok (.iload_n 2, 1) := by decide +kernel
theorem dX4_awaySet_5 : decode cX4_awaySet 5 = .ok (.aload_n 0, 1) := by decide +kernel
theorem dX4_awaySet_6 : decode cX4_awaySet 6 = .ok (.getfield 40, 3) := by decide +kernel
theorem dX4_awaySet_9 : decode cX4_awaySet 9 = .ok (.if_icmp .ge 30, 3) := by decide +kernel
theorem dX4_awaySet_12 : decode cX4_awaySet 12 = .ok (.iload_n 2, 1) := by decide +kernel
theorem dX4_awaySet_13 : decode cX4_awaySet 13 = .ok (.bipush 14, 2) := by decide +kernel
theorem dX4_awaySet_15 : decode cX4_awaySet 15 = .ok (.if_icmp .ge 24, 3) := by decide +kernel
theorem dX4_awaySet_18 : decode cX4_awaySet 18 = .ok (.aload_n 0, 1) := by decide +kernel
theorem dX4_awaySet_19 : decode cX4_awaySet 19 = .ok (.getfield 27, 3) := by decide +kernel
theorem dX4_awaySet_22 : decode cX4_awaySet 22 = .ok (.iload_n 2, 1) := by decide +kernel
theorem dX4_awaySet_23 : decode cX4_awaySet 23 = .ok (.iaload, 1) := by decide +kernel
theorem dX4_awaySet_24 : decode cX4_awaySet 24 = .ok (.ifCond .ne 9, 3) := by decide +kernel
theorem dX4_awaySet_27 : decode cX4_awaySet 27 = .ok (.iload_n 1, 1) := by decide +kernel
theorem dX4_awaySet_28 : decode cX4_awaySet 28 = .ok (.iconst 1, 1) := by decide +kernel
theorem dX4_awaySet_29 : decode cX4_awaySet 29 = .ok (.iload_n 2, 1) := by decide +kernel
theorem dX4_awaySet_30 : decode cX4_awaySet 30 = .ok (.ishl, 1) := by decide +kernel
theorem dX4_awaySet_31 : decode cX4_awaySet 31 = .ok (.ior, 1) := by decide +kernel
theorem dX4_awaySet_32 : decode cX4_awaySet 32 = .ok (.istore_n 1, 1) := by decide +kernel
theorem dX4_awaySet_33 : decode cX4_awaySet 33 = .ok (.iinc 2 1, 3) := by decide +kernel
theorem dX4_awaySet_36 : decode cX4_awaySet 36 = .ok (.goto (-32), 3) := by decide +kernel
theorem dX4_awaySet_39 : decode cX4_awaySet 39 = .ok (.iload_n 1, 1) := by decide +kernel
theorem dX4_awaySet_40 : decode cX4_awaySet 40 = .ok (.ireturn, 1) := by decide +kernel
def f_X4_awaySet_4 (o : Nat) (k4 : Int32 × Int32 × zHp → Option (Int32 × zHp)) (v1 : Int32) (v2 : Int32) (h : zHp) : Option (Int32 × zHp) := (if v2 < (h o 10) then (if v2 < (14 : Int32) then zix v2 14 ((if (h (o + 6) v2.toNatClampNeg) = 0 then zlt (v1 ||| ((1 : Int32) <<< (v2 &&& 31))) fun x1 => k4 (x1, (v2 + (1 : Int32)), h) else k4 (v1, (v2 + (1 : Int32)), h))) else some (v1, h)) else some (v1, h))
set_option maxHeartbeats 4000000 in
set_option maxRecDepth 100000 in
theorem f_X4_awaySet_4_s (o : Nat) (ho : o ∈ xPorch) (k4 : Int32 × Int32 × zHp → Option (Int32 × zHp)) (H4 : ∀ v : Int32 × Int32 × zHp, Sim wX mX4_awaySet 0 rI 4 [(0, .ref o), (1, .int v.1), (2, .int v.2.1)] [] v.2.2 (k4 v)) (v1 : Int32) (v2 : Int32) (h : zHp) : Sim wX mX4_awaySet 0 rI 4 [(0, .ref o), (1, .int v1), (2, .int v2)] [] h (f_X4_awaySet_4 o k4 v1 v2 h) := by
  unfold f_X4_awaySet_4
  refine Sim.iload_n 2 dX4_awaySet_4 rfl ?_
  refine Sim.aload_n 0 dX4_awaySet_5 rfl ?_
  refine Sim.getI fl_X4_40 dX4_awaySet_6 (xI_X4_10 _ ho) ?_
  refine Sim.icmp_ge 39 dX4_awaySet_9 rfl ?_ ?_
  · refine Sim.iload_n 2 dX4_awaySet_12 rfl ?_
    refine Sim.bipush (v := (14 : Int32)) dX4_awaySet_13 rfl ?_
    refine Sim.icmp_ge 39 dX4_awaySet_15 rfl ?_ ?_
    · refine Sim.aload_n 0 dX4_awaySet_18 rfl ?_
      refine Sim.getR (j := (o + 6)) fl_X4_27 dX4_awaySet_19 (xR_X4_6 _ ho) ?_
      refine Sim.iload_n 2 dX4_awaySet_22 rfl ?_
      refine Sim.iald (n := 14) dX4_awaySet_23 (xA_X4_6 _ ho) ?_
      refine Sim.if_ne 33 dX4_awaySet_24 rfl ?_ ?_
      · refine Sim.iload_n 1 dX4_awaySet_27 rfl ?_
        refine Sim.iconst (v := (1 : Int32)) dX4_awaySet_28 rfl ?_
        refine Sim.iload_n 2 dX4_awaySet_29 rfl ?_
        refine Sim.ishl dX4_awaySet_30 ?_
        refine Sim.ior dX4_awaySet_31 ?_
        refine Sim.lti (fun x1 => ?_)
        refine Sim.istore_n (L' := [(1, .int x1), (0, .ref o), (2, .int v2)]) dX4_awaySet_32 (Nat.le_of_ble_eq_true rfl) rfl ?_
        refine Sim.iinc (L' := [(2, .int (v2 + (1 : Int32))), (1, .int x1), (0, .ref o)]) 2 dX4_awaySet_33 rfl rfl (Nat.le_of_ble_eq_true rfl) rfl ?_
        refine Sim.goto 4 dX4_awaySet_36 rfl ?_
        refine Sim.locs [2, 1, 0] rfl ?_
        exact H4 (x1, (v2 + (1 : Int32)), h)
      · refine Sim.iinc (L' := [(2, .int (v2 + (1 : Int32))), (0, .ref o), (1, .int v1)]) 2 dX4_awaySet_33 rfl rfl (Nat.le_of_ble_eq_true rfl) rfl ?_
        refine Sim.goto 4 dX4_awaySet_36 rfl ?_
        refine Sim.locs [1, 2, 0] rfl ?_
        exact H4 (v1, (v2 + (1 : Int32)), h)
    · refine Sim.iload_n 1 dX4_awaySet_39 rfl ?_
      exact Sim.iret dX4_awaySet_40 rfl
  · refine Sim.iload_n 1 dX4_awaySet_39 rfl ?_
    exact Sim.iret dX4_awaySet_40 rfl
def f_X4_awaySet_4_lp (o : Nat)  (n : Nat) (v : Int32 × Int32 × zHp) : Option (Int32 × zHp) := zlp (fun k4 v => f_X4_awaySet_4 o k4 v.1 v.2.1 v.2.2) n v
theorem f_X4_awaySet_4_ls (o : Nat) (ho : o ∈ xPorch) (n : Nat) (v : Int32 × Int32 × zHp) : Sim wX mX4_awaySet 0 rI 4 [(0, .ref o), (1, .int v.1), (2, .int v.2.1)] [] v.2.2 (f_X4_awaySet_4_lp o n v) :=
  Sim.lp (V := Int32 × Int32 × zHp) (Lf := fun v => [(0, .ref o), (1, .int v.1), (2, .int v.2.1)]) (sf := fun v => []) (hf := fun v => v.2.2) (fun k4 H4 v => f_X4_awaySet_4_s o ho k4 H4 v.1 v.2.1 v.2.2) n v
def f_X4_awaySet (o : Nat)  (h : zHp) : Option (Int32 × zHp) := f_X4_awaySet_4_lp o zN ((0 : Int32), (0 : Int32), h)
set_option maxHeartbeats 4000000 in
set_option maxRecDepth 100000 in
theorem s_X4_awaySet (o : Nat) (ho : o ∈ xPorch)  (h : zHp) : Fn wX mX4_awaySet 0 rI [.ref o] h (f_X4_awaySet o h) := by
  refine Fn.of rfl (Nat.le_of_ble_eq_true rfl) ?_
  unfold f_X4_awaySet
  refine Sim.iconst (v := (0 : Int32)) dX4_awaySet_0 rfl ?_
  refine Sim.istore_n (L' := [(1, .int (0 : Int32)), (0, .ref o)]) dX4_awaySet_1 (Nat.le_of_ble_eq_true rfl) rfl ?_
  refine Sim.iconst (v := (0 : Int32)) dX4_awaySet_2 rfl ?_
  refine Sim.istore_n (L' := [(2, .int (0 : Int32)), (1, .int (0 : Int32)), (0, .ref o)]) dX4_awaySet_3 (Nat.le_of_ble_eq_true rfl) rfl ?_
  refine Sim.locs [2, 1, 0] rfl ?_
  exact f_X4_awaySet_4_ls o ho zN ((0 : Int32), (0 : Int32), h)
theorem mv_X4_awaySet : zMV mX4_awaySet 0 := ⟨⟨zTb_in 653 (by decide +kernel) rfl, zTb_in 139 (by decide +kernel) rfl, ⟨by decide +kernel, by decide +kernel⟩, by decide +kernel⟩, zTb_in 651 (by decide +kernel) rfl, zTb_in 652 (by decide +kernel) rfl⟩
-- ===== RockingPorch$Lines.cell(II)I
abbrev mX2_cell : zMt := (yX2_cell, cX2_cell, 3, some .int)
theorem fl_X2_15 : zF RX2 15 2 0 := ⟨RX2, TX2, 3, rfl, Nat.le_of_ble_eq_true rfl, zTb_in 257 (by decide +kernel) rfl, in_X2⟩
theorem fl_X2_18 : zF RX2 18 2 1 := ⟨RX2, TX2, 3, rfl, Nat.le_of_ble_eq_true rfl, zTb_in 258 (by decide +kernel) rfl, in_X2⟩
theorem fl_X2_9 : zF RX2 9 2 2 := ⟨RX2, TX2, 3, rfl, Nat.le_of_ble_eq_true rfl, zTb_in 259 (by decide +kernel) rfl, in_X2⟩
theorem dX2_cell_0 : decode cX2_cell 0 = .ok (.iload_n 1, 1) := by decide +kernel
theorem dX2_cell_1 : decode cX2_cell 1 = .ok (.ifCond .lt 28, 3) := by decide +kernel
theorem dX2_cell_4 : decode cX2_cell 4 = .ok (.iload_n 1, 1) := by decide +kernel
theorem dX2_cell_5 : decode cX2_cell 5 = .ok (.aload_n 0, 1) := by decide +kernel
theorem dX2_cell_6 : decode cX2_cell 6 = .ok (.getfield 9, 3) := by decide +kernel
theorem dX2_cell_9 : decode cX2_cell 9 = .ok (.if_icmp .ge 20, 3) := by decide +kernel
theorem dX2_cell_12 : decode cX2_cell 12 = .ok (.iload_n 1, 1) := by decide +kernel
theorem dX2_cell_13 : decode cX2_cell 13 = .ok (.aload_n 0, 1) := by decide +kernel
theorem dX2_cell_14 : decode cX2_cell 14 = .ok (.getfield 15, 3) := by decide +kernel
theorem dX2_cell_17 : decode cX2_cell 17 = .ok (.if_icmp .ge 12, 3) := by decide +kernel
theorem dX2_cell_20 : decode cX2_cell 20 = .ok (.iload_n 2, 1) := by decide +kernel
theorem dX2_cell_21 : decode cX2_cell 21 = .ok (.ifCond .lt 8, 3) := by decide +kernel
theorem dX2_cell_24 : decode cX2_cell 24 = .ok (.iload_n 2, 1) := by decide +kernel
theorem dX2_cell_25 : decode cX2_cell 25 = .ok (.iconst 4, 1) := by decide +kernel
theorem dX2_cell_26 : decode cX2_cell 26 = .ok (.if_icmp .lt 5, 3) := by decide +kernel
theorem dX2_cell_29 : decode cX2_cell 29 = .ok (.iconst (-1), 1) := by decide +kernel
theorem dX2_cell_30 : decode cX2_cell 30 = .ok (.ireturn, 1) := by decide +kernel
theorem dX2_cell_31 : decode cX2_cell 31 = .ok (.aload_n 0, 1) := by decide +kernel
theorem dX2_cell_32 : decode cX2_cell 32 = .ok (.getfield 18, 3) := by decide +kernel
theorem dX2_cell_35 : decode cX2_cell 35 = .ok (.iload_n 1, 1) := by decide +kernel
theorem dX2_cell_36 : decode cX2_cell 36 = .ok (.iconst 4, 1) := by decide +kernel
theorem dX2_cell_37 : decode cX2_cell 37 = .ok (.imul, 1) := by decide +kernel
theorem dX2_cell_38 : decode cX2_cell 38 = .ok (.iload_n 2, 1) := by decide +kernel
theorem dX2_cell_39 : decode cX2_cell 39 = .ok (.iadd, 1) := by decide +kernel
theorem dX2_cell_40 : decode cX2_cell 40 = .ok (.iaload, 1) := by decide +kernel
theorem dX2_cell_41 : decode cX2_cell 41 = .ok (.ireturn, 1) := by decide +kernel
def f_X2_cell (o : Nat) (a1 : Int32) (a2 : Int32) (h : zHp) : Option (Int32 × zHp) := (if a1 < 0 then some ((-1 : Int32), h) else (if a1 < (h o 2) then (if a1 < (h o 0) then (if a2 < 0 then some ((-1 : Int32), h) else (if a2 < (4 : Int32) then zix ((a1 * (4 : Int32)) + a2) (zln wX (o + 1)) (some ((h (o + 1) ((a1 * (4 : Int32)) + a2).toNatClampNeg), h)) else some ((-1 : Int32), h))) else some ((-1 : Int32), h)) else some ((-1 : Int32), h)))
set_option maxHeartbeats 4000000 in
set_option maxRecDepth 100000 in
theorem s_X2_cell (o : Nat) (ho : o ∈ xLines) (a1 : Int32) (a2 : Int32) (h : zHp) : Fn wX mX2_cell 0 rI [.ref o, .int a1, .int a2] h (f_X2_cell o a1 a2 h) := by
  refine Fn.of rfl (Nat.le_of_ble_eq_true rfl) ?_
  unfold f_X2_cell
  refine Sim.iload_n 1 dX2_cell_0 rfl ?_
  refine Sim.if_lt 29 dX2_cell_1 rfl ?_ ?_
  · refine Sim.iconst (v := (-1 : Int32)) dX2_cell_29 rfl ?_
    exact Sim.iret dX2_cell_30 rfl
  · refine Sim.iload_n 1 dX2_cell_4 rfl ?_
    refine Sim.aload_n 0 dX2_cell_5 rfl ?_
    refine Sim.getI fl_X2_9 dX2_cell_6 (xI_X2_2 _ ho) ?_
    refine Sim.icmp_ge 29 dX2_cell_9 rfl ?_ ?_
    · refine Sim.iload_n 1 dX2_cell_12 rfl ?_
      refine Sim.aload_n 0 dX2_cell_13 rfl ?_
      refine Sim.getI fl_X2_15 dX2_cell_14 (xI_X2_0 _ ho) ?_
      refine Sim.icmp_ge 29 dX2_cell_17 rfl ?_ ?_
      · refine Sim.iload_n 2 dX2_cell_20 rfl ?_
        refine Sim.if_lt 29 dX2_cell_21 rfl ?_ ?_
        · refine Sim.iconst (v := (-1 : Int32)) dX2_cell_29 rfl ?_
          exact Sim.iret dX2_cell_30 rfl
        · refine Sim.iload_n 2 dX2_cell_24 rfl ?_
          refine Sim.iconst (v := (4 : Int32)) dX2_cell_25 rfl ?_
          refine Sim.icmp_lt 31 dX2_cell_26 rfl ?_ ?_
          · refine Sim.aload_n 0 dX2_cell_31 rfl ?_
            refine Sim.getR (j := (o + 1)) fl_X2_18 dX2_cell_32 (xR_X2_1 _ ho) ?_
            refine Sim.iload_n 1 dX2_cell_35 rfl ?_
            refine Sim.iconst (v := (4 : Int32)) dX2_cell_36 rfl ?_
            refine Sim.imul dX2_cell_37 ?_
            refine Sim.iload_n 2 dX2_cell_38 rfl ?_
            refine Sim.iadd dX2_cell_39 ?_
            refine Sim.iald (n := (zln wX (o + 1))) dX2_cell_40 (xA_X2_1 _ ho) ?_
            exact Sim.iret dX2_cell_41 rfl
          · refine Sim.iconst (v := (-1 : Int32)) dX2_cell_29 rfl ?_
            exact Sim.iret dX2_cell_30 rfl
      · refine Sim.iconst (v := (-1 : Int32)) dX2_cell_29 rfl ?_
        exact Sim.iret dX2_cell_30 rfl
    · refine Sim.iconst (v := (-1 : Int32)) dX2_cell_29 rfl ?_
      exact Sim.iret dX2_cell_30 rfl
theorem mv_X2_cell : zMV mX2_cell 2 := ⟨⟨zTb_in 661 (by decide +kernel) rfl, zTb_in 140 (by decide +kernel) rfl, ⟨by decide +kernel, by decide +kernel⟩, by decide +kernel⟩, zTb_in 659 (by decide +kernel) rfl, zTb_in 660 (by decide +kernel) rfl⟩
-- ===== RockingPorch$Lines.minders(I)I
abbrev mX2_minders : zMt := (yX2_minders, cX2_minders, 4, some .int)
theorem ml_X2_22 : Cond.methodLink RX2 22 yX2_cell ∈ zTb := zTb_in 658 (by decide +kernel) rfl
theorem dX2_minders_0 : decode cX2_minders 0 = .ok (.iconst 0, 1) := by decide +kernel
theorem dX2_minders_1 : decode cX2_minders 1 = .ok (.istore_n 2, 1) := by decide +kernel
theorem dX2_minders_2 : decode cX2_minders 2 = .ok (.iconst 0, 1) := by decide +kernel
theorem dX2_minders_3 : decode cX2_minders 3 = .ok (.istore_n 3, 1) := by decide +kernel
theorem dX2_minders_4 : decode cX2_minders 4 = .ok (.iload_n 3, 1) := by decide +kernel
theorem dX2_minders_5 : decode cX2_minders 5 = .ok (.aload_n 0, 1) := by decide +kernel
theorem dX2_minders_6 : decode cX2_minders 6 = .ok (.getfield 9, 3) := by decide +kernel
theorem dX2_minders_9 : decode cX2_minders 9 = .ok (.if_icmp .ge 30, 3) := by decide +kernel
theorem dX2_minders_12 : decode cX2_minders 12 = .ok (.aload_n 0, 1) := by decide +kernel
theorem dX2_minders_13 : decode cX2_minders 13 = .ok (.iload_n 3, 1) := by decide +kernel
theorem dX2_minders_14 : decode cX2_minders 14 = .ok (.iconst 3, 1) := by decide +kernel
theorem dX2_minders_15 : decode cX2_minders 15 = .ok (.invokevirtual 22, 3) := by decide +kernel
theorem dX2_minders_18 : decode cX2_minders 18 = .ok (.iload_n 1, 1) := by decide +kernel
theorem dX2_minders_19 : decode cX2_minders 19 = .ok (.if_icmp .ne 14, 3) := by decide +kernel
theorem dX2_minders_22 : decode cX2_minders 22 = .ok (.iload_n 2, 1) := by decide +kernel
theorem dX2_minders_23 : decode cX2_minders 23 = .ok (.iconst 1, 1) := by decide +kernel
theorem dX2_minders_24 : decode cX2_minders 24 = .ok (.aload_n 0, 1) := by decide +kernel
theorem dX2_minders_25 : decode cX2_minders 25 = .ok (.iload_n 3, 1) := by decide +kernel
theorem dX2_minders_26 : decode cX2_minders 26 = .ok (.iconst 2, 1) := by decide +kernel
theorem dX2_minders_27 : decode cX2_minders 27 = .ok (.invokevirtual 22, 3) := by decide +kernel
theorem dX2_minders_30 : decode cX2_minders 30 = .ok (.ishl, 1) := by decide +kernel
theorem dX2_minders_31 : decode cX2_minders 31 = .ok (.ior, 1) := by decide +kernel
theorem dX2_minders_32 : decode cX2_minders 32 = .ok (.istore_n 2, 1) := by decide +kernel
theorem dX2_minders_33 : decode cX2_minders 33 = .ok (.iinc 3 1, 3) := by decide +kernel
theorem dX2_minders_36 : decode cX2_minders 36 = .ok (.goto (-32), 3) := by decide +kernel
theorem dX2_minders_39 : decode cX2_minders 39 = .ok (.iload_n 2, 1) := by decide +kernel
theorem dX2_minders_40 : decode cX2_minders 40 = .ok (.ireturn, 1) := by decide +kernel
def f_X2_minders_4 (o : Nat) (k4 : Int32 × Int32 × Int32 × zHp → Option (Int32 × zHp)) (v1 : Int32) (v2 : Int32) (v3 : Int32) (h : zHp) : Option (Int32 × zHp) := (if v3 < (h o 2) then (f_X2_cell o v3 (3 : Int32) h).bind fun x1 => (if x1.1 = v1 then (f_X2_cell o v3 (2 : Int32) x1.2).bind fun x2 => zlt (v2 ||| ((1 : Int32) <<< (x2.1 &&& 31))) fun x3 => k4 (v1, x3, (v3 + (1 : Int32)), x2.2) else k4 (v1, v2, (v3 + (1 : Int32)), x1.2)) else some (v2, h))
set_option maxHeartbeats 4000000 in
set_option maxRecDepth 100000 in
theorem f_X2_minders_4_s (o : Nat) (ho : o ∈ xLines) (k4 : Int32 × Int32 × Int32 × zHp → Option (Int32 × zHp)) (H4 : ∀ v : Int32 × Int32 × Int32 × zHp, Sim wX mX2_minders 1 rI 4 [(0, .ref o), (1, .int v.1), (2, .int v.2.1), (3, .int v.2.2.1)] [] v.2.2.2 (k4 v)) (v1 : Int32) (v2 : Int32) (v3 : Int32) (h : zHp) : Sim wX mX2_minders 1 rI 4 [(0, .ref o), (1, .int v1), (2, .int v2), (3, .int v3)] [] h (f_X2_minders_4 o k4 v1 v2 v3 h) := by
  unfold f_X2_minders_4
  refine Sim.iload_n 3 dX2_minders_4 rfl ?_
  refine Sim.aload_n 0 dX2_minders_5 rfl ?_
  refine Sim.getI fl_X2_9 dX2_minders_6 (xI_X2_2 _ ho) ?_
  refine Sim.icmp_ge 39 dX2_minders_9 rfl ?_ ?_
  · refine Sim.aload_n 0 dX2_minders_12 rfl ?_
    refine Sim.iload_n 3 dX2_minders_13 rfl ?_
    refine Sim.iconst (v := (3 : Int32)) dX2_minders_14 rfl ?_
    refine Sim.callV2I (d1 := 0) (s_X2_cell o ho v3 (3 : Int32) h) dX2_minders_15 ml_X2_22 mv_X2_cell (xOC_X2 _ ho) (Nat.le_of_ble_eq_true rfl) (Nat.le_of_ble_eq_true rfl) (Nat.le_of_ble_eq_true rfl) (fun x1 => ?_)
    refine Sim.iload_n 1 dX2_minders_18 rfl ?_
    refine Sim.icmp_ne 33 dX2_minders_19 rfl ?_ ?_
    · refine Sim.iload_n 2 dX2_minders_22 rfl ?_
      refine Sim.iconst (v := (1 : Int32)) dX2_minders_23 rfl ?_
      refine Sim.aload_n 0 dX2_minders_24 rfl ?_
      refine Sim.iload_n 3 dX2_minders_25 rfl ?_
      refine Sim.iconst (v := (2 : Int32)) dX2_minders_26 rfl ?_
      refine Sim.callV2I (d1 := 0) (s_X2_cell o ho v3 (2 : Int32) x1.2) dX2_minders_27 ml_X2_22 mv_X2_cell (xOC_X2 _ ho) (Nat.le_of_ble_eq_true rfl) (Nat.le_of_ble_eq_true rfl) (Nat.le_of_ble_eq_true rfl) (fun x2 => ?_)
      refine Sim.ishl dX2_minders_30 ?_
      refine Sim.ior dX2_minders_31 ?_
      refine Sim.lti (fun x3 => ?_)
      refine Sim.istore_n (L' := [(2, .int x3), (0, .ref o), (1, .int v1), (3, .int v3)]) dX2_minders_32 (Nat.le_of_ble_eq_true rfl) rfl ?_
      refine Sim.iinc (L' := [(3, .int (v3 + (1 : Int32))), (2, .int x3), (0, .ref o), (1, .int v1)]) 3 dX2_minders_33 rfl rfl (Nat.le_of_ble_eq_true rfl) rfl ?_
      refine Sim.goto 4 dX2_minders_36 rfl ?_
      refine Sim.locs [2, 3, 1, 0] rfl ?_
      exact H4 (v1, x3, (v3 + (1 : Int32)), x2.2)
    · refine Sim.iinc (L' := [(3, .int (v3 + (1 : Int32))), (0, .ref o), (1, .int v1), (2, .int v2)]) 3 dX2_minders_33 rfl rfl (Nat.le_of_ble_eq_true rfl) rfl ?_
      refine Sim.goto 4 dX2_minders_36 rfl ?_
      refine Sim.locs [1, 2, 3, 0] rfl ?_
      exact H4 (v1, v2, (v3 + (1 : Int32)), x1.2)
  · refine Sim.iload_n 2 dX2_minders_39 rfl ?_
    exact Sim.iret dX2_minders_40 rfl
def f_X2_minders_4_lp (o : Nat)  (n : Nat) (v : Int32 × Int32 × Int32 × zHp) : Option (Int32 × zHp) := zlp (fun k4 v => f_X2_minders_4 o k4 v.1 v.2.1 v.2.2.1 v.2.2.2) n v
theorem f_X2_minders_4_ls (o : Nat) (ho : o ∈ xLines) (n : Nat) (v : Int32 × Int32 × Int32 × zHp) : Sim wX mX2_minders 1 rI 4 [(0, .ref o), (1, .int v.1), (2, .int v.2.1), (3, .int v.2.2.1)] [] v.2.2.2 (f_X2_minders_4_lp o n v) :=
  Sim.lp (V := Int32 × Int32 × Int32 × zHp) (Lf := fun v => [(0, .ref o), (1, .int v.1), (2, .int v.2.1), (3, .int v.2.2.1)]) (sf := fun v => []) (hf := fun v => v.2.2.2) (fun k4 H4 v => f_X2_minders_4_s o ho k4 H4 v.1 v.2.1 v.2.2.1 v.2.2.2) n v
def f_X2_minders (o : Nat) (a1 : Int32) (h : zHp) : Option (Int32 × zHp) := f_X2_minders_4_lp o zN (a1, (0 : Int32), (0 : Int32), h)
set_option maxHeartbeats 4000000 in
set_option maxRecDepth 100000 in
theorem s_X2_minders (o : Nat) (ho : o ∈ xLines) (a1 : Int32) (h : zHp) : Fn wX mX2_minders 1 rI [.ref o, .int a1] h (f_X2_minders o a1 h) := by
  refine Fn.of rfl (Nat.le_of_ble_eq_true rfl) ?_
  unfold f_X2_minders
  refine Sim.iconst (v := (0 : Int32)) dX2_minders_0 rfl ?_
  refine Sim.istore_n (L' := [(2, .int (0 : Int32)), (0, .ref o), (1, .int a1)]) dX2_minders_1 (Nat.le_of_ble_eq_true rfl) rfl ?_
  refine Sim.iconst (v := (0 : Int32)) dX2_minders_2 rfl ?_
  refine Sim.istore_n (L' := [(3, .int (0 : Int32)), (2, .int (0 : Int32)), (0, .ref o), (1, .int a1)]) dX2_minders_3 (Nat.le_of_ble_eq_true rfl) rfl ?_
  refine Sim.locs [2, 3, 1, 0] rfl ?_
  exact f_X2_minders_4_ls o ho zN (a1, (0 : Int32), (0 : Int32), h)
theorem mv_X2_minders : zMV mX2_minders 1 := ⟨⟨zTb_in 657 (by decide +kernel) rfl, zTb_in 140 (by decide +kernel) rfl, ⟨by decide +kernel, by decide +kernel⟩, by decide +kernel⟩, zTb_in 655 (by decide +kernel) rfl, zTb_in 656 (by decide +kernel) rfl⟩
-- ===== RockingPorch$Law.joined(III)I
abbrev mX1_joined : zMt := (yX1_joined, cX1_joined, 3, some .int)
theorem dX1_joined_0 : decode cX1_joined 0 = .ok (.iload_n 0, 1) := by decide +kernel
theorem dX1_joined_1 : decode cX1_joined 1 = .ok (.tableswitch 156 14 33 #[152, 156, 156, 156, 156, 156, 156, 156, 156, 156, 156, 95, 99, 103, 107, 156, 156, 119, 130, 141], 95) := by decide +kernel
theorem dX1_joined_96 : decode cX1_joined 96 = .ok (.iload_n 1, 1) := by decide +kernel
theorem dX1_joined_97 : decode cX1_joined 97 = .ok (.iload_n 2, 1) := by decide +kernel
theorem dX1_joined_98 : decode cX1_joined 98 = .ok (.iadd, 1) := by decide +kernel
theorem dX1_joined_99 : decode cX1_joined 99 = .ok (.ireturn, 1) := by decide +kernel
theorem dX1_joined_100 : decode cX1_joined 100 = .ok (.iload_n 1, 1) := by decide +kernel
theorem dX1_joined_101 : decode cX1_joined 101 = .ok (.iload_n 2, 1) := by decide +kernel
theorem dX1_joined_102 : decode cX1_joined 102 = .ok (.isub, 1) := by decide +kernel
theorem dX1_joined_103 : decode cX1_joined 103 = .ok (.ireturn, 1) := by decide +kernel
theorem dX1_joined_104 : decode cX1_joined 104 = .ok (.iload_n 1, 1) := by decide +kernel
theorem dX1_joined_105 : decode cX1_joined 105 = .ok (.iload_n 2, 1) := by decide +kernel
theorem dX1_joined_106 : decode cX1_joined 106 = .ok (.imul, 1) := by decide +kernel
theorem dX1_joined_107 : decode cX1_joined 107 = .ok (.ireturn, 1) := by decide +kernel
theorem dX1_joined_108 : decode cX1_joined 108 = .ok (.iload_n 2, 1) := by decide +kernel
theorem dX1_joined_109 : decode cX1_joined 109 = .ok (.ifCond .eq 9, 3) := by decide +kernel
theorem dX1_joined_112 : decode cX1_joined 112 = .ok (.iload_n 1, 1) := by decide +kernel
theorem dX1_joined_113 : decode cX1_joined 113 = .ok (.iload_n 2, 1) := by decide +kernel
theorem dX1_joined_114 : decode cX1_joined 114 = .ok (.idiv, 1) := by decide +kernel
theorem dX1_joined_115 : decode cX1_joined 115 = .ok (.goto 4, 3) := by decide +kernel
theorem dX1_joined_118 : decode cX1_joined 118 = .ok (.iconst 0, 1) := by decide +kernel
theorem dX1_joined_119 : decode cX1_joined 119 = .ok (.ireturn, 1) := by decide +kernel
theorem dX1_joined_120 : decode cX1_joined 120 = .ok (.iload_n 1, 1) := by decide +kernel
theorem dX1_joined_121 : decode cX1_joined 121 = .ok (.iload_n 2, 1) := by decide +kernel
theorem dX1_joined_122 : decode cX1_joined 122 = .ok (.if_icmp .ge 7, 3) := by decide +kernel
theorem dX1_joined_125 : decode cX1_joined 125 = .ok (.iconst 1, 1) := by decide +kernel
theorem dX1_joined_126 : decode cX1_joined 126 = .ok (.goto 4, 3) := by decide +kernel
theorem dX1_joined_129 : decode cX1_joined 129 = .ok (.iconst 0, 1) := by decide +kernel
theorem dX1_joined_130 : decode cX1_joined 130 = .ok (.ireturn, 1) := by decide +kernel
theorem dX1_joined_131 : decode cX1_joined 131 = .ok (.iload_n 1, 1) := by decide +kernel
theorem dX1_joined_132 : decode cX1_joined 132 = .ok (.iload_n 2, 1) := by decide +kernel
theorem dX1_joined_133 : decode cX1_joined 133 = .ok (.if_icmp .ne 7, 3) := by decide +kernel
theorem dX1_joined_136 : decode cX1_joined 136 = .ok (.iconst 1, 1) := by decide +kernel
theorem dX1_joined_137 : decode cX1_joined 137 = .ok (.goto 4, 3) := by decide +kernel
theorem dX1_joined_140 : decode cX1_joined 140 = .ok (.iconst 0, 1) := by decide +kernel
theorem dX1_joined_141 : decode cX1_joined 141 = .ok (.ireturn, 1) := by decide +kernel
theorem dX1_joined_142 : decode cX1_joined 142 = .ok (.iload_n 1, 1) := by decide +kernel
theorem dX1_joined_143 : decode cX1_joined 143 = .ok (.iload_n 2, 1) := by decide +kernel
theorem dX1_joined_144 : decode cX1_joined 144 = .ok (.if_icmp .le 7, 3) := by decide +kernel
theorem dX1_joined_147 : decode cX1_joined 147 = .ok (.iconst 1, 1) := by decide +kernel
theorem dX1_joined_148 : decode cX1_joined 148 = .ok (.goto 4, 3) := by decide +kernel
theorem dX1_joined_151 : decode cX1_joined 151 = .ok (.iconst 0, 1) := by decide +kernel
theorem dX1_joined_152 : decode cX1_joined 152 = .ok (.ireturn, 1) := by decide +kernel
theorem dX1_joined_153 : decode cX1_joined 153 = .ok (.iload_n 1, 1) := by decide +kernel
theorem dX1_joined_154 : decode cX1_joined 154 = .ok (.iload_n 2, 1) := by decide +kernel
theorem dX1_joined_155 : decode cX1_joined 155 = .ok (.iand, 1) := by decide +kernel
theorem dX1_joined_156 : decode cX1_joined 156 = .ok (.ireturn, 1) := by decide +kernel
theorem dX1_joined_157 : decode cX1_joined 157 = .ok (.iload_n 1, 1) := by decide +kernel
theorem dX1_joined_158 : decode cX1_joined 158 = .ok (.iload_n 2, 1) := by decide +kernel
theorem dX1_joined_159 : decode cX1_joined 159 = .ok (.ior, 1) := by decide +kernel
theorem dX1_joined_160 : decode cX1_joined 160 = .ok (.ireturn, 1) := by decide +kernel
def f_X1_joined  (a1 : Int32) (a2 : Int32) (a3 : Int32) (h : zHp) : Option (Int32 × zHp) := (if a1 = (14 : Int32) then some ((a2 &&& a3), h) else (if a1 = (15 : Int32) then some ((a2 ||| a3), h) else (if a1 = (16 : Int32) then some ((a2 ||| a3), h) else (if a1 = (17 : Int32) then some ((a2 ||| a3), h) else (if a1 = (18 : Int32) then some ((a2 ||| a3), h) else (if a1 = (19 : Int32) then some ((a2 ||| a3), h) else (if a1 = (20 : Int32) then some ((a2 ||| a3), h) else (if a1 = (21 : Int32) then some ((a2 ||| a3), h) else (if a1 = (22 : Int32) then some ((a2 ||| a3), h) else (if a1 = (23 : Int32) then some ((a2 ||| a3), h) else (if a1 = (24 : Int32) then some ((a2 ||| a3), h) else (if a1 = (25 : Int32) then some ((a2 + a3), h) else (if a1 = (26 : Int32) then some ((a2 - a3), h) else (if a1 = (27 : Int32) then some ((a2 * a3), h) else (if a1 = (28 : Int32) then (if a3 = 0 then some ((0 : Int32), h) else zdz a3 (some ((a2 / a3), h))) else (if a1 = (29 : Int32) then some ((a2 ||| a3), h) else (if a1 = (30 : Int32) then some ((a2 ||| a3), h) else (if a1 = (31 : Int32) then (if a2 < a3 then some ((1 : Int32), h) else some ((0 : Int32), h)) else (if a1 = (32 : Int32) then (if a2 = a3 then some ((1 : Int32), h) else some ((0 : Int32), h)) else (if a1 = (33 : Int32) then (if a3 < a2 then some ((1 : Int32), h) else some ((0 : Int32), h)) else some ((a2 ||| a3), h)))))))))))))))))))))
set_option maxHeartbeats 4000000 in
set_option maxRecDepth 100000 in
theorem s_X1_joined  (a1 : Int32) (a2 : Int32) (a3 : Int32) (h : zHp) : Fn wX mX1_joined 0 rI [.int a1, .int a2, .int a3] h (f_X1_joined a1 a2 a3 h) := by
  refine Fn.of rfl (Nat.le_of_ble_eq_true rfl) ?_
  unfold f_X1_joined
  refine Sim.iload_n 0 dX1_joined_0 rfl ?_
  refine Sim.ite _ (fun q1 => ?_) (fun q1 => ?_)
  · refine Sim.tswIn 153 dX1_joined_1 q1 (by decide) (by decide) rfl rfl ?_
    refine Sim.iload_n 1 dX1_joined_153 rfl ?_
    refine Sim.iload_n 2 dX1_joined_154 rfl ?_
    refine Sim.iand dX1_joined_155 ?_
    exact Sim.iret dX1_joined_156 rfl
  refine Sim.ite _ (fun q2 => ?_) (fun q2 => ?_)
  · refine Sim.tswIn 157 dX1_joined_1 q2 (by decide) (by decide) rfl rfl ?_
    refine Sim.iload_n 1 dX1_joined_157 rfl ?_
    refine Sim.iload_n 2 dX1_joined_158 rfl ?_
    refine Sim.ior dX1_joined_159 ?_
    exact Sim.iret dX1_joined_160 rfl
  refine Sim.ite _ (fun q3 => ?_) (fun q3 => ?_)
  · refine Sim.tswIn 157 dX1_joined_1 q3 (by decide) (by decide) rfl rfl ?_
    refine Sim.iload_n 1 dX1_joined_157 rfl ?_
    refine Sim.iload_n 2 dX1_joined_158 rfl ?_
    refine Sim.ior dX1_joined_159 ?_
    exact Sim.iret dX1_joined_160 rfl
  refine Sim.ite _ (fun q4 => ?_) (fun q4 => ?_)
  · refine Sim.tswIn 157 dX1_joined_1 q4 (by decide) (by decide) rfl rfl ?_
    refine Sim.iload_n 1 dX1_joined_157 rfl ?_
    refine Sim.iload_n 2 dX1_joined_158 rfl ?_
    refine Sim.ior dX1_joined_159 ?_
    exact Sim.iret dX1_joined_160 rfl
  refine Sim.ite _ (fun q5 => ?_) (fun q5 => ?_)
  · refine Sim.tswIn 157 dX1_joined_1 q5 (by decide) (by decide) rfl rfl ?_
    refine Sim.iload_n 1 dX1_joined_157 rfl ?_
    refine Sim.iload_n 2 dX1_joined_158 rfl ?_
    refine Sim.ior dX1_joined_159 ?_
    exact Sim.iret dX1_joined_160 rfl
  refine Sim.ite _ (fun q6 => ?_) (fun q6 => ?_)
  · refine Sim.tswIn 157 dX1_joined_1 q6 (by decide) (by decide) rfl rfl ?_
    refine Sim.iload_n 1 dX1_joined_157 rfl ?_
    refine Sim.iload_n 2 dX1_joined_158 rfl ?_
    refine Sim.ior dX1_joined_159 ?_
    exact Sim.iret dX1_joined_160 rfl
  refine Sim.ite _ (fun q7 => ?_) (fun q7 => ?_)
  · refine Sim.tswIn 157 dX1_joined_1 q7 (by decide) (by decide) rfl rfl ?_
    refine Sim.iload_n 1 dX1_joined_157 rfl ?_
    refine Sim.iload_n 2 dX1_joined_158 rfl ?_
    refine Sim.ior dX1_joined_159 ?_
    exact Sim.iret dX1_joined_160 rfl
  refine Sim.ite _ (fun q8 => ?_) (fun q8 => ?_)
  · refine Sim.tswIn 157 dX1_joined_1 q8 (by decide) (by decide) rfl rfl ?_
    refine Sim.iload_n 1 dX1_joined_157 rfl ?_
    refine Sim.iload_n 2 dX1_joined_158 rfl ?_
    refine Sim.ior dX1_joined_159 ?_
    exact Sim.iret dX1_joined_160 rfl
  refine Sim.ite _ (fun q9 => ?_) (fun q9 => ?_)
  · refine Sim.tswIn 157 dX1_joined_1 q9 (by decide) (by decide) rfl rfl ?_
    refine Sim.iload_n 1 dX1_joined_157 rfl ?_
    refine Sim.iload_n 2 dX1_joined_158 rfl ?_
    refine Sim.ior dX1_joined_159 ?_
    exact Sim.iret dX1_joined_160 rfl
  refine Sim.ite _ (fun q10 => ?_) (fun q10 => ?_)
  · refine Sim.tswIn 157 dX1_joined_1 q10 (by decide) (by decide) rfl rfl ?_
    refine Sim.iload_n 1 dX1_joined_157 rfl ?_
    refine Sim.iload_n 2 dX1_joined_158 rfl ?_
    refine Sim.ior dX1_joined_159 ?_
    exact Sim.iret dX1_joined_160 rfl
  refine Sim.ite _ (fun q11 => ?_) (fun q11 => ?_)
  · refine Sim.tswIn 157 dX1_joined_1 q11 (by decide) (by decide) rfl rfl ?_
    refine Sim.iload_n 1 dX1_joined_157 rfl ?_
    refine Sim.iload_n 2 dX1_joined_158 rfl ?_
    refine Sim.ior dX1_joined_159 ?_
    exact Sim.iret dX1_joined_160 rfl
  refine Sim.ite _ (fun q12 => ?_) (fun q12 => ?_)
  · refine Sim.tswIn 96 dX1_joined_1 q12 (by decide) (by decide) rfl rfl ?_
    refine Sim.iload_n 1 dX1_joined_96 rfl ?_
    refine Sim.iload_n 2 dX1_joined_97 rfl ?_
    refine Sim.iadd dX1_joined_98 ?_
    exact Sim.iret dX1_joined_99 rfl
  refine Sim.ite _ (fun q13 => ?_) (fun q13 => ?_)
  · refine Sim.tswIn 100 dX1_joined_1 q13 (by decide) (by decide) rfl rfl ?_
    refine Sim.iload_n 1 dX1_joined_100 rfl ?_
    refine Sim.iload_n 2 dX1_joined_101 rfl ?_
    refine Sim.isub dX1_joined_102 ?_
    exact Sim.iret dX1_joined_103 rfl
  refine Sim.ite _ (fun q14 => ?_) (fun q14 => ?_)
  · refine Sim.tswIn 104 dX1_joined_1 q14 (by decide) (by decide) rfl rfl ?_
    refine Sim.iload_n 1 dX1_joined_104 rfl ?_
    refine Sim.iload_n 2 dX1_joined_105 rfl ?_
    refine Sim.imul dX1_joined_106 ?_
    exact Sim.iret dX1_joined_107 rfl
  refine Sim.ite _ (fun q15 => ?_) (fun q15 => ?_)
  · refine Sim.tswIn 108 dX1_joined_1 q15 (by decide) (by decide) rfl rfl ?_
    refine Sim.iload_n 2 dX1_joined_108 rfl ?_
    refine Sim.if_eq 118 dX1_joined_109 rfl ?_ ?_
    · refine Sim.iconst (v := (0 : Int32)) dX1_joined_118 rfl ?_
      exact Sim.iret dX1_joined_119 rfl
    · refine Sim.iload_n 1 dX1_joined_112 rfl ?_
      refine Sim.iload_n 2 dX1_joined_113 rfl ?_
      refine Sim.idiv dX1_joined_114 ?_
      refine Sim.goto 119 dX1_joined_115 rfl ?_
      exact Sim.iret dX1_joined_119 rfl
  refine Sim.ite _ (fun q16 => ?_) (fun q16 => ?_)
  · refine Sim.tswIn 157 dX1_joined_1 q16 (by decide) (by decide) rfl rfl ?_
    refine Sim.iload_n 1 dX1_joined_157 rfl ?_
    refine Sim.iload_n 2 dX1_joined_158 rfl ?_
    refine Sim.ior dX1_joined_159 ?_
    exact Sim.iret dX1_joined_160 rfl
  refine Sim.ite _ (fun q17 => ?_) (fun q17 => ?_)
  · refine Sim.tswIn 157 dX1_joined_1 q17 (by decide) (by decide) rfl rfl ?_
    refine Sim.iload_n 1 dX1_joined_157 rfl ?_
    refine Sim.iload_n 2 dX1_joined_158 rfl ?_
    refine Sim.ior dX1_joined_159 ?_
    exact Sim.iret dX1_joined_160 rfl
  refine Sim.ite _ (fun q18 => ?_) (fun q18 => ?_)
  · refine Sim.tswIn 120 dX1_joined_1 q18 (by decide) (by decide) rfl rfl ?_
    refine Sim.iload_n 1 dX1_joined_120 rfl ?_
    refine Sim.iload_n 2 dX1_joined_121 rfl ?_
    refine Sim.icmp_ge 129 dX1_joined_122 rfl ?_ ?_
    · refine Sim.iconst (v := (1 : Int32)) dX1_joined_125 rfl ?_
      refine Sim.goto 130 dX1_joined_126 rfl ?_
      exact Sim.iret dX1_joined_130 rfl
    · refine Sim.iconst (v := (0 : Int32)) dX1_joined_129 rfl ?_
      exact Sim.iret dX1_joined_130 rfl
  refine Sim.ite _ (fun q19 => ?_) (fun q19 => ?_)
  · refine Sim.tswIn 131 dX1_joined_1 q19 (by decide) (by decide) rfl rfl ?_
    refine Sim.iload_n 1 dX1_joined_131 rfl ?_
    refine Sim.iload_n 2 dX1_joined_132 rfl ?_
    refine Sim.icmp_ne 140 dX1_joined_133 rfl ?_ ?_
    · refine Sim.iconst (v := (1 : Int32)) dX1_joined_136 rfl ?_
      refine Sim.goto 141 dX1_joined_137 rfl ?_
      exact Sim.iret dX1_joined_141 rfl
    · refine Sim.iconst (v := (0 : Int32)) dX1_joined_140 rfl ?_
      exact Sim.iret dX1_joined_141 rfl
  refine Sim.ite _ (fun q20 => ?_) (fun q20 => ?_)
  · refine Sim.tswIn 142 dX1_joined_1 q20 (by decide) (by decide) rfl rfl ?_
    refine Sim.iload_n 1 dX1_joined_142 rfl ?_
    refine Sim.iload_n 2 dX1_joined_143 rfl ?_
    refine Sim.icmp_le 151 dX1_joined_144 rfl ?_ ?_
    · refine Sim.iconst (v := (1 : Int32)) dX1_joined_147 rfl ?_
      refine Sim.goto 152 dX1_joined_148 rfl ?_
      exact Sim.iret dX1_joined_152 rfl
    · refine Sim.iconst (v := (0 : Int32)) dX1_joined_151 rfl ?_
      exact Sim.iret dX1_joined_152 rfl
  refine Sim.tswOut 157 dX1_joined_1 (by have aq1 : a1.toInt ≠ 14 := fun w => q1 (Int32.toInt_inj.mp w); have aq2 : a1.toInt ≠ 15 := fun w => q2 (Int32.toInt_inj.mp w); have aq3 : a1.toInt ≠ 16 := fun w => q3 (Int32.toInt_inj.mp w); have aq4 : a1.toInt ≠ 17 := fun w => q4 (Int32.toInt_inj.mp w); have aq5 : a1.toInt ≠ 18 := fun w => q5 (Int32.toInt_inj.mp w); have aq6 : a1.toInt ≠ 19 := fun w => q6 (Int32.toInt_inj.mp w); have aq7 : a1.toInt ≠ 20 := fun w => q7 (Int32.toInt_inj.mp w); have aq8 : a1.toInt ≠ 21 := fun w => q8 (Int32.toInt_inj.mp w); have aq9 : a1.toInt ≠ 22 := fun w => q9 (Int32.toInt_inj.mp w); have aq10 : a1.toInt ≠ 23 := fun w => q10 (Int32.toInt_inj.mp w); have aq11 : a1.toInt ≠ 24 := fun w => q11 (Int32.toInt_inj.mp w); have aq12 : a1.toInt ≠ 25 := fun w => q12 (Int32.toInt_inj.mp w); have aq13 : a1.toInt ≠ 26 := fun w => q13 (Int32.toInt_inj.mp w); have aq14 : a1.toInt ≠ 27 := fun w => q14 (Int32.toInt_inj.mp w); have aq15 : a1.toInt ≠ 28 := fun w => q15 (Int32.toInt_inj.mp w); have aq16 : a1.toInt ≠ 29 := fun w => q16 (Int32.toInt_inj.mp w); have aq17 : a1.toInt ≠ 30 := fun w => q17 (Int32.toInt_inj.mp w); have aq18 : a1.toInt ≠ 31 := fun w => q18 (Int32.toInt_inj.mp w); have aq19 : a1.toInt ≠ 32 := fun w => q19 (Int32.toInt_inj.mp w); have aq20 : a1.toInt ≠ 33 := fun w => q20 (Int32.toInt_inj.mp w); omega) rfl ?_
  refine Sim.iload_n 1 dX1_joined_157 rfl ?_
  refine Sim.iload_n 2 dX1_joined_158 rfl ?_
  refine Sim.ior dX1_joined_159 ?_
  exact Sim.iret dX1_joined_160 rfl
theorem mv_X1_joined : zMS mX1_joined 3 := ⟨⟨zTb_in 681 (by decide +kernel) rfl, zTb_in 141 (by decide +kernel) rfl, ⟨by decide +kernel, by decide +kernel⟩, by decide +kernel⟩, zTb_in 680 (by decide +kernel) rfl⟩
-- ===== RockingPorch$Law.worth(II[I)I
abbrev mX1_worth : zMt := (yX1_worth, cX1_worth, 7, some .int)
theorem fl_X1_24 : zF RX1 24 1 4 := ⟨RX1, TX1, 8, rfl, Nat.le_of_ble_eq_true rfl, zTb_in 281 (by decide +kernel) rfl, in_X1⟩
theorem fl_X1_27 : zF RX1 27 1 5 := ⟨RX1, TX1, 8, rfl, Nat.le_of_ble_eq_true rfl, zTb_in 282 (by decide +kernel) rfl, in_X1⟩
theorem ml_X1_60 : Cond.methodLink RX1 60 Lib.Math.max.name ∈ zTb := zTb_in 676 (by decide +kernel) rfl
theorem ml_X1_63 : Cond.methodLink RX1 63 yX1_joined ∈ zTb := zTb_in 679 (by decide +kernel) rfl
theorem dX1_worth_0 : decode cX1_worth 0 = .ok (.iconst 0, 1) := by decide +kernel
theorem dX1_worth_1 : decode cX1_worth 1 = .ok (.istore 4, 2) := by decide +kernel
theorem dX1_worth_3 : decode cX1_worth 3 = .ok (.iconst 0, 1) := by decide +kernel
theorem dX1_worth_4 : decode cX1_worth 4 = .ok (.iload_n 1, 1) := by decide +kernel
theorem dX1_worth_5 : decode cX1_worth 5 = .ok (.invokestatic 60, 3) := by decide +kernel
theorem dX1_worth_8 : decode cX1_worth 8 = .ok (.istore 5, 2) := by decide +kernel
theorem dX1_worth_10 : decode cX1_worth 10 = .ok (.iload 5, 2) := by decide +kernel
theorem dX1_worth_12 : decode cX1_worth 12 = .ok (.iload_n 2, 1) := by decide +kernel
theorem dX1_worth_13 : decode cX1_worth 13 = .ok (.if_icmp .ge 161, 3) := by decide +kernel
theorem dX1_worth_16 : decode cX1_worth 16 = .ok (.iload 5, 2) := by decide +kernel
theorem dX1_worth_18 : decode cX1_worth 18 = .ok (.sipush 400, 3) := by decide +kernel
theorem dX1_worth_21 : decode cX1_worth 21 = .ok (.if_icmp .ge 153, 3) := by decide +kernel
theorem dX1_worth_24 : decode cX1_worth 24 = .ok (.aload_n 0, 1) := by decide +kernel
theorem dX1_worth_25 : decode cX1_worth 25 = .ok (.getfield 24, 3) := by decide +kernel
theorem dX1_worth_28 : decode cX1_worth 28 = .ok (.iload 5, 2) := by decide +kernel
theorem dX1_worth_30 : decode cX1_worth 30 = .ok (.iaload, 1) := by decide +kernel
theorem dX1_worth_31 : decode cX1_worth 31 = .ok (.iconst (-1), 1) := by decide +kernel
theorem dX1_worth_32 : decode cX1_worth 32 = .ok (.ixor, 1) := by decide +kernel
theorem dX1_worth_33 : decode cX1_worth 33 = .ok (.istore 6, 2) := by decide +kernel
theorem dX1_worth_35 : decode cX1_worth 35 = .ok (.iload 6, 2) := by decide +kernel
theorem dX1_worth_37 : decode cX1_worth 37 = .ok (.ifCond .lt 16, 3) := by decide +kernel
theorem dX1_worth_40 : decode cX1_worth 40 = .ok (.iload 6, 2) := by decide +kernel
theorem dX1_worth_42 : decode cX1_worth 42 = .ok (.iconst 3, 1) := by decide +kernel
theorem dX1_worth_43 : decode cX1_worth 43 = .ok (.if_icmp .lt 51, 3) := by decide +kernel
theorem dX1_worth_46 : decode cX1_worth 46 = .ok (.iload 6, 2) := by decide +kernel
theorem dX1_worth_48 : decode cX1_worth 48 = .ok (.bipush 11, 2) := by decide +kernel
theorem dX1_worth_50 : decode cX1_worth 50 = .ok (.if_icmp .gt 44, 3) := by decide +kernel
theorem dX1_worth_53 : decode cX1_worth 53 = .ok (.iload 4, 2) := by decide +kernel
theorem dX1_worth_55 : decode cX1_worth 55 = .ok (.bipush 26, 2) := by decide +kernel
theorem dX1_worth_57 : decode cX1_worth 57 = .ok (.if_icmp .ge 111, 3) := by decide +kernel
theorem dX1_worth_60 : decode cX1_worth 60 = .ok (.aload_n 0, 1) := by decide +kernel
theorem dX1_worth_61 : decode cX1_worth 61 = .ok (.getfield 27, 3) := by decide +kernel
theorem dX1_worth_64 : decode cX1_worth 64 = .ok (.iload 4, 2) := by decide +kernel
theorem dX1_worth_66 : decode cX1_worth 66 = .ok (.iload 6, 2) := by decide +kernel
theorem dX1_worth_68 : decode cX1_worth 68 = .ok (.ifCond .ge 13, 3) := by decide +kernel
theorem dX1_worth_71 : decode cX1_worth 71 = .ok (.aload_n 0, 1) := by decide +kernel
theorem dX1_worth_72 : decode cX1_worth 72 = .ok (.getfield 24, 3) := by decide +kernel
theorem dX1_worth_75 : decode cX1_worth 75 = .ok (.iload 5, 2) := by decide +kernel
theorem dX1_worth_77 : decode cX1_worth 77 = .ok (.iaload, 1) := by decide +kernel
theorem dX1_worth_78 : decode cX1_worth 78 = .ok (.goto 9, 3) := by decide +kernel
theorem dX1_worth_81 : decode cX1_worth 81 = .ok (.aload_n 3, 1) := by decide +kernel
theorem dX1_worth_82 : decode cX1_worth 82 = .ok (.iload 6, 2) := by decide +kernel
theorem dX1_worth_84 : decode cX1_worth 84 = .ok (.iconst 3, 1) := by decide +kernel
theorem dX1_worth_85 : decode cX1_worth 85 = .ok (.isub, 1) := by decide +kernel
theorem dX1_worth_86 : decode cX1_worth 86 = .ok (.iaload, 1) := by decide +kernel
theorem dX1_worth_87 : decode cX1_worth 87 = .ok (.iastore, 1) := by decide +kernel
theorem dX1_worth_88 : decode cX1_worth 88 = .ok (.iinc 4 1, 3) := by decide +kernel
theorem dX1_worth_91 : decode cX1_worth 91 = .ok (.goto 77, 3) := by decide +kernel
theorem dX1_worth_94 : decode cX1_worth 94 = .ok (.iload 6, 2) := by decide +kernel
theorem dX1_worth_96 : decode cX1_worth 96 = .ok (.bipush 15, 2) := by decide +kernel
theorem dX1_worth_98 : decode cX1_worth 98 = .ok (.if_icmp .ne 31, 3) := by decide +kernel
theorem dX1_worth_101 : decode cX1_worth 101 = .ok (.iload 4, 2) := by decide +kernel
theorem dX1_worth_103 : decode cX1_worth 103 = .ok (.ifCond .le 26, 3) := by decide +kernel
theorem dX1_worth_106 : decode cX1_worth 106 = .ok (.aload_n 0, 1) := by decide +kernel
theorem dX1_worth_107 : decode cX1_worth 107 = .ok (.getfield 27, 3) := by decide +kernel
theorem dX1_worth_110 : decode cX1_worth 110 = .ok (.iload 4, 2) := by decide +kernel
theorem dX1_worth_112 : decode cX1_worth 112 = .ok (.iconst 1, 1) := by decide +kernel
theorem dX1_worth_113 : decode cX1_worth 113 = .ok (.isub, 1) := by decide +kernel
theorem dX1_worth_114 : decode cX1_worth 114 = .ok (.iconst 1, 1) := by decide +kernel
theorem dX1_worth_115 : decode cX1_worth 115 = .ok (.aload_n 0, 1) := by decide +kernel
theorem dX1_worth_116 : decode cX1_worth 116 = .ok (.getfield 27, 3) := by decide +kernel
theorem dX1_worth_119 : decode cX1_worth 119 = .ok (.iload 4, 2) := by decide +kernel
theorem dX1_worth_121 : decode cX1_worth 121 = .ok (.iconst 1, 1) := by decide +kernel
theorem dX1_worth_122 : decode cX1_worth 122 = .ok (.isub, 1) := by decide +kernel
theorem dX1_worth_123 : decode cX1_worth 123 = .ok (.iaload, 1) := by decide +kernel
theorem dX1_worth_124 : decode cX1_worth 124 = .ok (.isub, 1) := by decide +kernel
theorem dX1_worth_125 : decode cX1_worth 125 = .ok (.iastore, 1) := by decide +kernel
theorem dX1_worth_126 : decode cX1_worth 126 = .ok (.goto 42, 3) := by decide +kernel
theorem dX1_worth_129 : decode cX1_worth 129 = .ok (.iload 4, 2) := by decide +kernel
theorem dX1_worth_131 : decode cX1_worth 131 = .ok (.iconst 1, 1) := by decide +kernel
theorem dX1_worth_132 : decode cX1_worth 132 = .ok (.if_icmp .le 36, 3) := by decide +kernel
theorem dX1_worth_135 : decode cX1_worth 135 = .ok (.iinc 4 (-1), 3) := by decide +kernel
theorem dX1_worth_138 : decode cX1_worth 138 = .ok (.aload_n 0, 1) := by decide +kernel
theorem dX1_worth_139 : decode cX1_worth 139 = .ok (.getfield 27, 3) := by decide +kernel
theorem dX1_worth_142 : decode cX1_worth 142 = .ok (.iload 4, 2) := by decide +kernel
theorem dX1_worth_144 : decode cX1_worth 144 = .ok (.iconst 1, 1) := by decide +kernel
theorem dX1_worth_145 : decode cX1_worth 145 = .ok (.isub, 1) := by decide +kernel
theorem dX1_worth_146 : decode cX1_worth 146 = .ok (.iload 6, 2) := by decide +kernel
theorem dX1_worth_148 : decode cX1_worth 148 = .ok (.aload_n 0, 1) := by decide +kernel
theorem dX1_worth_149 : decode cX1_worth 149 = .ok (.getfield 27, 3) := by decide +kernel
theorem dX1_worth_152 : decode cX1_worth 152 = .ok (.iload 4, 2) := by decide +kernel
theorem dX1_worth_154 : decode cX1_worth 154 = .ok (.iconst 1, 1) := by decide +kernel
theorem dX1_worth_155 : decode cX1_worth 155 = .ok (.isub, 1) := by decide +kernel
theorem dX1_worth_156 : decode cX1_worth 156 = .ok (.iaload, 1) := by decide +kernel
theorem dX1_worth_157 : decode cX1_worth 157 = .ok (.aload_n 0, 1) := by decide +kernel
theorem dX1_worth_158 : decode cX1_worth 158 = .ok (.getfield 27, 3) := by decide +kernel
theorem dX1_worth_161 : decode cX1_worth 161 = .ok (.iload 4, 2) := by decide +kernel
theorem dX1_worth_163 : decode cX1_worth 163 = .ok (.iaload, 1) := by decide +kernel
theorem dX1_worth_164 : decode cX1_worth 164 = .ok (.invokestatic 63, 3) := by decide +kernel
theorem dX1_worth_167 : decode cX1_worth 167 = .ok (.iastore, 1) := by decide +kernel
theorem dX1_worth_168 : decode cX1_worth 168 = .ok (.iinc 5 1, 3) := by decide +kernel
theorem dX1_worth_171 : decode cX1_worth 171 = .ok (.goto (-161), 3) := by decide +kernel
theorem dX1_worth_174 : decode cX1_worth 174 = .ok (.iload 4, 2) := by decide +kernel
theorem dX1_worth_176 : decode cX1_worth 176 = .ok (.ifCond .le 12, 3) := by decide +kernel
theorem dX1_worth_179 : decode cX1_worth 179 = .ok (.aload_n 0, 1) := by decide +kernel
theorem dX1_worth_180 : decode cX1_worth 180 = .ok (.getfield 27, 3) := by decide +kernel
theorem dX1_worth_183 : decode cX1_worth 183 = .ok (.iconst 0, 1) := by decide +kernel
theorem dX1_worth_184 : decode cX1_worth 184 = .ok (.iaload, 1) := by decide +kernel
theorem dX1_worth_185 : decode cX1_worth 185 = .ok (.goto 4, 3) := by decide +kernel
theorem dX1_worth_188 : decode cX1_worth 188 = .ok (.iconst 0, 1) := by decide +kernel
theorem dX1_worth_189 : decode cX1_worth 189 = .ok (.ireturn, 1) := by decide +kernel
def f_X1_worth_174 (o : Nat)  (v4 : Int32) (h : zHp) : Option (Int32 × zHp) := (if 0 < v4 then zix (0 : Int32) 26 (some ((h (o + 6) (0 : Int32).toNatClampNeg), h)) else some ((0 : Int32), h))
set_option maxHeartbeats 4000000 in
set_option maxRecDepth 100000 in
theorem f_X1_worth_174_s (o : Nat) (ho : o ∈ xLaw) (v4 : Int32) (h : zHp) : Sim wX mX1_worth 1 rI 174 [(0, .ref o), (4, .int v4)] [] h (f_X1_worth_174 o v4 h) := by
  unfold f_X1_worth_174
  refine Sim.iload 1 dX1_worth_174 rfl ?_
  refine Sim.if_le 188 dX1_worth_176 rfl ?_ ?_
  · refine Sim.aload_n 0 dX1_worth_179 rfl ?_
    refine Sim.getR (j := (o + 6)) fl_X1_27 dX1_worth_180 (xR_X1_5 _ ho) ?_
    refine Sim.iconst (v := (0 : Int32)) dX1_worth_183 rfl ?_
    refine Sim.iald (n := 26) dX1_worth_184 (xA_X1_5 _ ho) ?_
    refine Sim.goto 189 dX1_worth_185 rfl ?_
    exact Sim.iret dX1_worth_189 rfl
  · refine Sim.iconst (v := (0 : Int32)) dX1_worth_188 rfl ?_
    exact Sim.iret dX1_worth_189 rfl
def f_X1_worth_129 (o : Nat) (k10 : Int32 × Int32 × Int32 × zHp → Option (Int32 × zHp)) (v2 : Int32) (v4 : Int32) (v5 : Int32) (v6 : Int32) (h : zHp) : Option (Int32 × zHp) := (if (1 : Int32) < v4 then zix ((v4 + (-1 : Int32)) - (1 : Int32)) 26 (zix (v4 + (-1 : Int32)) 26 ((f_X1_joined v6 (h (o + 6) ((v4 + (-1 : Int32)) - (1 : Int32)).toNatClampNeg) (h (o + 6) (v4 + (-1 : Int32)).toNatClampNeg) h).bind fun x1 => zix ((v4 + (-1 : Int32)) - (1 : Int32)) 26 (zlt (zst x1.2 (o + 6) ((v4 + (-1 : Int32)) - (1 : Int32)).toNatClampNeg x1.1) fun h2 => k10 (v2, (v4 + (-1 : Int32)), (v5 + (1 : Int32)), h2)))) else k10 (v2, v4, (v5 + (1 : Int32)), h))
set_option maxHeartbeats 4000000 in
set_option maxRecDepth 100000 in
theorem f_X1_worth_129_s (o : Nat) (ho : o ∈ xLaw) (k10 : Int32 × Int32 × Int32 × zHp → Option (Int32 × zHp)) (H10 : ∀ v : Int32 × Int32 × Int32 × zHp, Sim wX mX1_worth 1 rI 10 [(0, .ref o), (2, .int v.1), (3, .ref 160), (4, .int v.2.1), (5, .int v.2.2.1)] [] v.2.2.2 (k10 v)) (v2 : Int32) (v4 : Int32) (v5 : Int32) (v6 : Int32) (h : zHp) : Sim wX mX1_worth 1 rI 129 [(0, .ref o), (2, .int v2), (3, .ref 160), (4, .int v4), (5, .int v5), (6, .int v6)] [] h (f_X1_worth_129 o k10 v2 v4 v5 v6 h) := by
  unfold f_X1_worth_129
  refine Sim.iload 3 dX1_worth_129 rfl ?_
  refine Sim.iconst (v := (1 : Int32)) dX1_worth_131 rfl ?_
  refine Sim.icmp_le 168 dX1_worth_132 rfl ?_ ?_
  · refine Sim.iinc (L' := [(4, .int (v4 + (-1 : Int32))), (0, .ref o), (2, .int v2), (3, .ref 160), (5, .int v5), (6, .int v6)]) 3 dX1_worth_135 rfl rfl (Nat.le_of_ble_eq_true rfl) rfl ?_
    refine Sim.aload_n 1 dX1_worth_138 rfl ?_
    refine Sim.getR (j := (o + 6)) fl_X1_27 dX1_worth_139 (xR_X1_5 _ ho) ?_
    refine Sim.iload 0 dX1_worth_142 rfl ?_
    refine Sim.iconst (v := (1 : Int32)) dX1_worth_144 rfl ?_
    refine Sim.isub dX1_worth_145 ?_
    refine Sim.iload 5 dX1_worth_146 rfl ?_
    refine Sim.aload_n 1 dX1_worth_148 rfl ?_
    refine Sim.getR (j := (o + 6)) fl_X1_27 dX1_worth_149 (xR_X1_5 _ ho) ?_
    refine Sim.iload 0 dX1_worth_152 rfl ?_
    refine Sim.iconst (v := (1 : Int32)) dX1_worth_154 rfl ?_
    refine Sim.isub dX1_worth_155 ?_
    refine Sim.iald (n := 26) dX1_worth_156 (xA_X1_5 _ ho) ?_
    refine Sim.aload_n 1 dX1_worth_157 rfl ?_
    refine Sim.getR (j := (o + 6)) fl_X1_27 dX1_worth_158 (xR_X1_5 _ ho) ?_
    refine Sim.iload 0 dX1_worth_161 rfl ?_
    refine Sim.iald (n := 26) dX1_worth_163 (xA_X1_5 _ ho) ?_
    refine Sim.callS3I (d1 := 0) (s_X1_joined v6 (h (o + 6) ((v4 + (-1 : Int32)) - (1 : Int32)).toNatClampNeg) (h (o + 6) (v4 + (-1 : Int32)).toNatClampNeg) h) dX1_worth_164 ml_X1_63 mv_X1_joined (Nat.le_of_ble_eq_true rfl) (Nat.le_of_ble_eq_true rfl) (Nat.le_of_ble_eq_true rfl) (fun x1 => ?_)
    refine Sim.iast (n := 26) dX1_worth_167 (xA_X1_5 _ ho) ?_
    refine Sim.lth (fun h2 => ?_)
    refine Sim.iinc (L' := [(5, .int (v5 + (1 : Int32))), (4, .int (v4 + (-1 : Int32))), (0, .ref o), (2, .int v2), (3, .ref 160), (6, .int v6)]) 4 dX1_worth_168 rfl rfl (Nat.le_of_ble_eq_true rfl) rfl ?_
    refine Sim.goto 10 dX1_worth_171 rfl ?_
    refine Sim.locs [2, 3, 4, 1, 0] rfl ?_
    exact H10 (v2, (v4 + (-1 : Int32)), (v5 + (1 : Int32)), h2)
  · refine Sim.iinc (L' := [(5, .int (v5 + (1 : Int32))), (0, .ref o), (2, .int v2), (3, .ref 160), (4, .int v4), (6, .int v6)]) 4 dX1_worth_168 rfl rfl (Nat.le_of_ble_eq_true rfl) rfl ?_
    refine Sim.goto 10 dX1_worth_171 rfl ?_
    refine Sim.locs [1, 2, 3, 4, 0] rfl ?_
    exact H10 (v2, v4, (v5 + (1 : Int32)), h)
def f_X1_worth_94 (o : Nat) (k10 : Int32 × Int32 × Int32 × zHp → Option (Int32 × zHp)) (v2 : Int32) (v4 : Int32) (v5 : Int32) (v6 : Int32) (h : zHp) : Option (Int32 × zHp) := (if v6 = (15 : Int32) then (if 0 < v4 then zix (v4 - (1 : Int32)) 26 (zix (v4 - (1 : Int32)) 26 (zlt (zst h (o + 6) (v4 - (1 : Int32)).toNatClampNeg ((1 : Int32) - (h (o + 6) (v4 - (1 : Int32)).toNatClampNeg))) fun h1 => k10 (v2, v4, (v5 + (1 : Int32)), h1))) else f_X1_worth_129 o k10 v2 v4 v5 v6 h) else f_X1_worth_129 o k10 v2 v4 v5 v6 h)
set_option maxHeartbeats 4000000 in
set_option maxRecDepth 100000 in
theorem f_X1_worth_94_s (o : Nat) (ho : o ∈ xLaw) (k10 : Int32 × Int32 × Int32 × zHp → Option (Int32 × zHp)) (H10 : ∀ v : Int32 × Int32 × Int32 × zHp, Sim wX mX1_worth 1 rI 10 [(0, .ref o), (2, .int v.1), (3, .ref 160), (4, .int v.2.1), (5, .int v.2.2.1)] [] v.2.2.2 (k10 v)) (v2 : Int32) (v4 : Int32) (v5 : Int32) (v6 : Int32) (h : zHp) : Sim wX mX1_worth 1 rI 94 [(0, .ref o), (2, .int v2), (3, .ref 160), (4, .int v4), (5, .int v5), (6, .int v6)] [] h (f_X1_worth_94 o k10 v2 v4 v5 v6 h) := by
  unfold f_X1_worth_94
  refine Sim.iload 5 dX1_worth_94 rfl ?_
  refine Sim.bipush (v := (15 : Int32)) dX1_worth_96 rfl ?_
  refine Sim.icmp_ne 129 dX1_worth_98 rfl ?_ ?_
  · refine Sim.iload 3 dX1_worth_101 rfl ?_
    refine Sim.if_le 129 dX1_worth_103 rfl ?_ ?_
    · refine Sim.aload_n 0 dX1_worth_106 rfl ?_
      refine Sim.getR (j := (o + 6)) fl_X1_27 dX1_worth_107 (xR_X1_5 _ ho) ?_
      refine Sim.iload 3 dX1_worth_110 rfl ?_
      refine Sim.iconst (v := (1 : Int32)) dX1_worth_112 rfl ?_
      refine Sim.isub dX1_worth_113 ?_
      refine Sim.iconst (v := (1 : Int32)) dX1_worth_114 rfl ?_
      refine Sim.aload_n 0 dX1_worth_115 rfl ?_
      refine Sim.getR (j := (o + 6)) fl_X1_27 dX1_worth_116 (xR_X1_5 _ ho) ?_
      refine Sim.iload 3 dX1_worth_119 rfl ?_
      refine Sim.iconst (v := (1 : Int32)) dX1_worth_121 rfl ?_
      refine Sim.isub dX1_worth_122 ?_
      refine Sim.iald (n := 26) dX1_worth_123 (xA_X1_5 _ ho) ?_
      refine Sim.isub dX1_worth_124 ?_
      refine Sim.iast (n := 26) dX1_worth_125 (xA_X1_5 _ ho) ?_
      refine Sim.lth (fun h1 => ?_)
      refine Sim.goto 168 dX1_worth_126 rfl ?_
      refine Sim.iinc (L' := [(5, .int (v5 + (1 : Int32))), (0, .ref o), (2, .int v2), (3, .ref 160), (4, .int v4), (6, .int v6)]) 4 dX1_worth_168 rfl rfl (Nat.le_of_ble_eq_true rfl) rfl ?_
      refine Sim.goto 10 dX1_worth_171 rfl ?_
      refine Sim.locs [1, 2, 3, 4, 0] rfl ?_
      exact H10 (v2, v4, (v5 + (1 : Int32)), h1)
    · exact f_X1_worth_129_s o ho k10 H10 v2 v4 v5 v6 h
  · exact f_X1_worth_129_s o ho k10 H10 v2 v4 v5 v6 h
def f_X1_worth_87 (o : Nat) (k10 : Int32 × Int32 × Int32 × zHp → Option (Int32 × zHp)) (v2 : Int32) (v4 : Int32) (v5 : Int32) (s0 : Int32) (s1 : Int32) (h : zHp) : Option (Int32 × zHp) := zix s1 26 (zlt (zst h (o + 6) s1.toNatClampNeg s0) fun h1 => k10 (v2, (v4 + (1 : Int32)), (v5 + (1 : Int32)), h1))
set_option maxHeartbeats 4000000 in
set_option maxRecDepth 100000 in
theorem f_X1_worth_87_s (o : Nat) (ho : o ∈ xLaw) (k10 : Int32 × Int32 × Int32 × zHp → Option (Int32 × zHp)) (H10 : ∀ v : Int32 × Int32 × Int32 × zHp, Sim wX mX1_worth 1 rI 10 [(0, .ref o), (2, .int v.1), (3, .ref 160), (4, .int v.2.1), (5, .int v.2.2.1)] [] v.2.2.2 (k10 v)) (v2 : Int32) (v4 : Int32) (v5 : Int32) (s0 : Int32) (s1 : Int32) (h : zHp) : Sim wX mX1_worth 1 rI 87 [(0, .ref o), (2, .int v2), (3, .ref 160), (4, .int v4), (5, .int v5)] [.int s0, .int s1, .ref (o + 6)] h (f_X1_worth_87 o k10 v2 v4 v5 s0 s1 h) := by
  unfold f_X1_worth_87
  refine Sim.iast (n := 26) dX1_worth_87 (xA_X1_5 _ ho) ?_
  refine Sim.lth (fun h1 => ?_)
  refine Sim.iinc (L' := [(4, .int (v4 + (1 : Int32))), (0, .ref o), (2, .int v2), (3, .ref 160), (5, .int v5)]) 3 dX1_worth_88 rfl rfl (Nat.le_of_ble_eq_true rfl) rfl ?_
  refine Sim.goto 168 dX1_worth_91 rfl ?_
  refine Sim.iinc (L' := [(5, .int (v5 + (1 : Int32))), (4, .int (v4 + (1 : Int32))), (0, .ref o), (2, .int v2), (3, .ref 160)]) 4 dX1_worth_168 rfl rfl (Nat.le_of_ble_eq_true rfl) rfl ?_
  refine Sim.goto 10 dX1_worth_171 rfl ?_
  refine Sim.locs [2, 3, 4, 1, 0] rfl ?_
  exact H10 (v2, (v4 + (1 : Int32)), (v5 + (1 : Int32)), h1)
def f_X1_worth_53 (o : Nat) (k10 : Int32 × Int32 × Int32 × zHp → Option (Int32 × zHp)) (v2 : Int32) (v4 : Int32) (v5 : Int32) (v6 : Int32) (h : zHp) : Option (Int32 × zHp) := (if v4 < (26 : Int32) then (if v6 < 0 then zix v5 400 (f_X1_worth_87 o k10 v2 v4 v5 (h (o + 5) v5.toNatClampNeg) v4 h) else zix (v6 - (3 : Int32)) 9 (f_X1_worth_87 o k10 v2 v4 v5 (h 160 (v6 - (3 : Int32)).toNatClampNeg) v4 h)) else k10 (v2, v4, (v5 + (1 : Int32)), h))
set_option maxHeartbeats 4000000 in
set_option maxRecDepth 100000 in
theorem f_X1_worth_53_s (o : Nat) (ho : o ∈ xLaw) (k10 : Int32 × Int32 × Int32 × zHp → Option (Int32 × zHp)) (H10 : ∀ v : Int32 × Int32 × Int32 × zHp, Sim wX mX1_worth 1 rI 10 [(0, .ref o), (2, .int v.1), (3, .ref 160), (4, .int v.2.1), (5, .int v.2.2.1)] [] v.2.2.2 (k10 v)) (v2 : Int32) (v4 : Int32) (v5 : Int32) (v6 : Int32) (h : zHp) : Sim wX mX1_worth 1 rI 53 [(0, .ref o), (2, .int v2), (3, .ref 160), (4, .int v4), (5, .int v5), (6, .int v6)] [] h (f_X1_worth_53 o k10 v2 v4 v5 v6 h) := by
  unfold f_X1_worth_53
  refine Sim.iload 3 dX1_worth_53 rfl ?_
  refine Sim.bipush (v := (26 : Int32)) dX1_worth_55 rfl ?_
  refine Sim.icmp_ge 168 dX1_worth_57 rfl ?_ ?_
  · refine Sim.aload_n 0 dX1_worth_60 rfl ?_
    refine Sim.getR (j := (o + 6)) fl_X1_27 dX1_worth_61 (xR_X1_5 _ ho) ?_
    refine Sim.iload 3 dX1_worth_64 rfl ?_
    refine Sim.iload 5 dX1_worth_66 rfl ?_
    refine Sim.if_ge 81 dX1_worth_68 rfl ?_ ?_
    · refine Sim.aload_n 0 dX1_worth_71 rfl ?_
      refine Sim.getR (j := (o + 5)) fl_X1_24 dX1_worth_72 (xR_X1_4 _ ho) ?_
      refine Sim.iload 4 dX1_worth_75 rfl ?_
      refine Sim.iald (n := 400) dX1_worth_77 (xA_X1_4 _ ho) ?_
      refine Sim.goto 87 dX1_worth_78 rfl ?_
      refine Sim.locs [0, 1, 2, 3, 4] rfl ?_
      exact f_X1_worth_87_s o ho k10 H10 v2 v4 v5 (h (o + 5) v5.toNatClampNeg) v4 h
    · refine Sim.aload_n 2 dX1_worth_81 rfl ?_
      refine Sim.iload 5 dX1_worth_82 rfl ?_
      refine Sim.iconst (v := (3 : Int32)) dX1_worth_84 rfl ?_
      refine Sim.isub dX1_worth_85 ?_
      refine Sim.iald (n := 9) dX1_worth_86 xA_160 ?_
      refine Sim.locs [0, 1, 2, 3, 4] rfl ?_
      exact f_X1_worth_87_s o ho k10 H10 v2 v4 v5 (h 160 (v6 - (3 : Int32)).toNatClampNeg) v4 h
  · refine Sim.iinc (L' := [(5, .int (v5 + (1 : Int32))), (0, .ref o), (2, .int v2), (3, .ref 160), (4, .int v4), (6, .int v6)]) 4 dX1_worth_168 rfl rfl (Nat.le_of_ble_eq_true rfl) rfl ?_
    refine Sim.goto 10 dX1_worth_171 rfl ?_
    refine Sim.locs [1, 2, 3, 4, 0] rfl ?_
    exact H10 (v2, v4, (v5 + (1 : Int32)), h)
def f_X1_worth_10 (o : Nat) (k10 : Int32 × Int32 × Int32 × zHp → Option (Int32 × zHp)) (v2 : Int32) (v4 : Int32) (v5 : Int32) (h : zHp) : Option (Int32 × zHp) := (if v5 < v2 then (if v5 < (400 : Int32) then zix v5 400 (zlt ((h (o + 5) v5.toNatClampNeg) ^^^ (-1 : Int32)) fun x1 => (if x1 < 0 then f_X1_worth_53 o k10 v2 v4 v5 x1 h else (if x1 < (3 : Int32) then f_X1_worth_94 o k10 v2 v4 v5 x1 h else (if (11 : Int32) < x1 then f_X1_worth_94 o k10 v2 v4 v5 x1 h else f_X1_worth_53 o k10 v2 v4 v5 x1 h)))) else f_X1_worth_174 o v4 h) else f_X1_worth_174 o v4 h)
set_option maxHeartbeats 4000000 in
set_option maxRecDepth 100000 in
theorem f_X1_worth_10_s (o : Nat) (ho : o ∈ xLaw) (k10 : Int32 × Int32 × Int32 × zHp → Option (Int32 × zHp)) (H10 : ∀ v : Int32 × Int32 × Int32 × zHp, Sim wX mX1_worth 1 rI 10 [(0, .ref o), (2, .int v.1), (3, .ref 160), (4, .int v.2.1), (5, .int v.2.2.1)] [] v.2.2.2 (k10 v)) (v2 : Int32) (v4 : Int32) (v5 : Int32) (h : zHp) : Sim wX mX1_worth 1 rI 10 [(0, .ref o), (2, .int v2), (3, .ref 160), (4, .int v4), (5, .int v5)] [] h (f_X1_worth_10 o k10 v2 v4 v5 h) := by
  unfold f_X1_worth_10
  refine Sim.iload 4 dX1_worth_10 rfl ?_
  refine Sim.iload_n 1 dX1_worth_12 rfl ?_
  refine Sim.icmp_ge 174 dX1_worth_13 rfl ?_ ?_
  · refine Sim.iload 4 dX1_worth_16 rfl ?_
    refine Sim.sipush (v := (400 : Int32)) dX1_worth_18 rfl ?_
    refine Sim.icmp_ge 174 dX1_worth_21 rfl ?_ ?_
    · refine Sim.aload_n 0 dX1_worth_24 rfl ?_
      refine Sim.getR (j := (o + 5)) fl_X1_24 dX1_worth_25 (xR_X1_4 _ ho) ?_
      refine Sim.iload 4 dX1_worth_28 rfl ?_
      refine Sim.iald (n := 400) dX1_worth_30 (xA_X1_4 _ ho) ?_
      refine Sim.iconst (v := (-1 : Int32)) dX1_worth_31 rfl ?_
      refine Sim.ixor dX1_worth_32 ?_
      refine Sim.lti (fun x1 => ?_)
      refine Sim.istore (L' := [(6, .int x1), (0, .ref o), (2, .int v2), (3, .ref 160), (4, .int v4), (5, .int v5)]) dX1_worth_33 (Nat.le_of_ble_eq_true rfl) rfl ?_
      refine Sim.iload 0 dX1_worth_35 rfl ?_
      refine Sim.if_lt 53 dX1_worth_37 rfl ?_ ?_
      · refine Sim.locs [1, 2, 3, 4, 5, 0] rfl ?_
        exact f_X1_worth_53_s o ho k10 H10 v2 v4 v5 x1 h
      · refine Sim.iload 0 dX1_worth_40 rfl ?_
        refine Sim.iconst (v := (3 : Int32)) dX1_worth_42 rfl ?_
        refine Sim.icmp_lt 94 dX1_worth_43 rfl ?_ ?_
        · refine Sim.locs [1, 2, 3, 4, 5, 0] rfl ?_
          exact f_X1_worth_94_s o ho k10 H10 v2 v4 v5 x1 h
        · refine Sim.iload 0 dX1_worth_46 rfl ?_
          refine Sim.bipush (v := (11 : Int32)) dX1_worth_48 rfl ?_
          refine Sim.icmp_gt 94 dX1_worth_50 rfl ?_ ?_
          · refine Sim.locs [1, 2, 3, 4, 5, 0] rfl ?_
            exact f_X1_worth_94_s o ho k10 H10 v2 v4 v5 x1 h
          · refine Sim.locs [1, 2, 3, 4, 5, 0] rfl ?_
            exact f_X1_worth_53_s o ho k10 H10 v2 v4 v5 x1 h
    · refine Sim.locs [0, 3] rfl ?_
      exact f_X1_worth_174_s o ho v4 h
  · refine Sim.locs [0, 3] rfl ?_
    exact f_X1_worth_174_s o ho v4 h
def f_X1_worth_10_lp (o : Nat)  (n : Nat) (v : Int32 × Int32 × Int32 × zHp) : Option (Int32 × zHp) := zlp (fun k10 v => f_X1_worth_10 o k10 v.1 v.2.1 v.2.2.1 v.2.2.2) n v
theorem f_X1_worth_10_ls (o : Nat) (ho : o ∈ xLaw) (n : Nat) (v : Int32 × Int32 × Int32 × zHp) : Sim wX mX1_worth 1 rI 10 [(0, .ref o), (2, .int v.1), (3, .ref 160), (4, .int v.2.1), (5, .int v.2.2.1)] [] v.2.2.2 (f_X1_worth_10_lp o n v) :=
  Sim.lp (V := Int32 × Int32 × Int32 × zHp) (Lf := fun v => [(0, .ref o), (2, .int v.1), (3, .ref 160), (4, .int v.2.1), (5, .int v.2.2.1)]) (sf := fun v => []) (hf := fun v => v.2.2.2) (fun k10 H10 v => f_X1_worth_10_s o ho k10 H10 v.1 v.2.1 v.2.2.1 v.2.2.2) n v
def f_X1_worth (o : Nat) (a1 : Int32) (a2 : Int32) (h : zHp) : Option (Int32 × zHp) := zlt (if (0 : Int32) < a1 then a1 else (0 : Int32)) fun x1 => f_X1_worth_10_lp o zN (a2, (0 : Int32), x1, h)
set_option maxHeartbeats 4000000 in
set_option maxRecDepth 100000 in
theorem s_X1_worth (o : Nat) (ho : o ∈ xLaw) (a1 : Int32) (a2 : Int32) (h : zHp) : Fn wX mX1_worth 1 rI [.ref o, .int a1, .int a2, .ref 160] h (f_X1_worth o a1 a2 h) := by
  refine Fn.of rfl (Nat.le_of_ble_eq_true rfl) ?_
  unfold f_X1_worth
  refine Sim.iconst (v := (0 : Int32)) dX1_worth_0 rfl ?_
  refine Sim.istore (L' := [(4, .int (0 : Int32)), (0, .ref o), (1, .int a1), (2, .int a2), (3, .ref 160)]) dX1_worth_1 (Nat.le_of_ble_eq_true rfl) rfl ?_
  refine Sim.iconst (v := (0 : Int32)) dX1_worth_3 rfl ?_
  refine Sim.iload_n 2 dX1_worth_4 rfl ?_
  refine Sim.mmax dX1_worth_5 ml_X1_60 ms_max ms_Math mc_max (Nat.le_of_ble_eq_true rfl) (Nat.le_of_ble_eq_true rfl) ?_
  refine Sim.lti (fun x1 => ?_)
  refine Sim.istore (L' := [(5, .int x1), (4, .int (0 : Int32)), (0, .ref o), (1, .int a1), (2, .int a2), (3, .ref 160)]) dX1_worth_8 (Nat.le_of_ble_eq_true rfl) rfl ?_
  refine Sim.locs [2, 4, 5, 1, 0] rfl ?_
  exact f_X1_worth_10_ls o ho zN (a2, (0 : Int32), x1, h)
theorem mv_X1_worth : zMV mX1_worth 3 := ⟨⟨zTb_in 675 (by decide +kernel) rfl, zTb_in 141 (by decide +kernel) rfl, ⟨by decide +kernel, by decide +kernel⟩, by decide +kernel⟩, zTb_in 674 (by decide +kernel) rfl, zTb_in 3 (by decide +kernel) rfl⟩
-- ===== RockingPorch$Law.held(II)I
abbrev mX1_held : zMt := (yX1_held, cX1_held, 3, some .int)
theorem ml_X1_55 : Cond.methodLink RX1 55 Lib.Math.min.name ∈ zTb := zTb_in 685 (by decide +kernel) rfl
theorem dX1_held_0 : decode cX1_held 0 = .ok (.iload_n 0, 1) := by decide +kernel
theorem dX1_held_1 : decode cX1_held 1 = .ok (.ifCond .ne 8, 3) := by decide +kernel
theorem dX1_held_4 : decode cX1_held 4 = .ok (.bipush 99, 2) := by decide +kernel
theorem dX1_held_6 : decode cX1_held 6 = .ok (.goto 16, 3) := by decide +kernel
theorem dX1_held_9 : decode cX1_held 9 = .ok (.iload_n 0, 1) := by decide +kernel
theorem dX1_held_10 : decode cX1_held 10 = .ok (.iconst 1, 1) := by decide +kernel
theorem dX1_held_11 : decode cX1_held 11 = .ok (.if_icmp .ne 8, 3) := by decide +kernel
theorem dX1_held_14 : decode cX1_held 14 = .ok (.bipush 20, 2) := by decide +kernel
theorem dX1_held_16 : decode cX1_held 16 = .ok (.goto 6, 3) := by decide +kernel
theorem dX1_held_19 : decode cX1_held 19 = .ok (.sipush 1000, 3) := by decide +kernel
theorem dX1_held_22 : decode cX1_held 22 = .ok (.istore_n 2, 1) := by decide +kernel
theorem dX1_held_23 : decode cX1_held 23 = .ok (.iconst 0, 1) := by decide +kernel
theorem dX1_held_24 : decode cX1_held 24 = .ok (.iload_n 2, 1) := by decide +kernel
theorem dX1_held_25 : decode cX1_held 25 = .ok (.iload_n 1, 1) := by decide +kernel
theorem dX1_held_26 : decode cX1_held 26 = .ok (.invokestatic 55, 3) := by decide +kernel
theorem dX1_held_29 : decode cX1_held 29 = .ok (.invokestatic 60, 3) := by decide +kernel
theorem dX1_held_32 : decode cX1_held 32 = .ok (.ireturn, 1) := by decide +kernel
def f_X1_held_22   (v1 : Int32) (s0 : Int32) (h : zHp) : Option (Int32 × zHp) := some ((if (0 : Int32) < (if v1 < s0 then v1 else s0) then (if v1 < s0 then v1 else s0) else (0 : Int32)), h)
set_option maxHeartbeats 4000000 in
set_option maxRecDepth 100000 in
theorem f_X1_held_22_s  (v1 : Int32) (s0 : Int32) (h : zHp) : Sim wX mX1_held 1 rI 22 [(1, .int v1)] [.int s0] h (f_X1_held_22 v1 s0 h) := by
  unfold f_X1_held_22
  refine Sim.istore_n (L' := [(2, .int s0), (1, .int v1)]) dX1_held_22 (Nat.le_of_ble_eq_true rfl) rfl ?_
  refine Sim.iconst (v := (0 : Int32)) dX1_held_23 rfl ?_
  refine Sim.iload_n 0 dX1_held_24 rfl ?_
  refine Sim.iload_n 1 dX1_held_25 rfl ?_
  refine Sim.mmin dX1_held_26 ml_X1_55 ms_min ms_Math mc_min (Nat.le_of_ble_eq_true rfl) (Nat.le_of_ble_eq_true rfl) ?_
  refine Sim.mmax dX1_held_29 ml_X1_60 ms_max ms_Math mc_max (Nat.le_of_ble_eq_true rfl) (Nat.le_of_ble_eq_true rfl) ?_
  exact Sim.iret dX1_held_32 rfl
def f_X1_held  (a1 : Int32) (a2 : Int32) (h : zHp) : Option (Int32 × zHp) := (if a1 = 0 then f_X1_held_22 a2 (99 : Int32) h else (if a1 = (1 : Int32) then f_X1_held_22 a2 (20 : Int32) h else f_X1_held_22 a2 (1000 : Int32) h))
set_option maxHeartbeats 4000000 in
set_option maxRecDepth 100000 in
theorem s_X1_held  (a1 : Int32) (a2 : Int32) (h : zHp) : Fn wX mX1_held 1 rI [.int a1, .int a2] h (f_X1_held a1 a2 h) := by
  refine Fn.of rfl (Nat.le_of_ble_eq_true rfl) ?_
  unfold f_X1_held
  refine Sim.iload_n 0 dX1_held_0 rfl ?_
  refine Sim.if_ne 9 dX1_held_1 rfl ?_ ?_
  · refine Sim.bipush (v := (99 : Int32)) dX1_held_4 rfl ?_
    refine Sim.goto 22 dX1_held_6 rfl ?_
    refine Sim.locs [1] rfl ?_
    exact f_X1_held_22_s a2 (99 : Int32) h
  · refine Sim.iload_n 0 dX1_held_9 rfl ?_
    refine Sim.iconst (v := (1 : Int32)) dX1_held_10 rfl ?_
    refine Sim.icmp_ne 19 dX1_held_11 rfl ?_ ?_
    · refine Sim.bipush (v := (20 : Int32)) dX1_held_14 rfl ?_
      refine Sim.goto 22 dX1_held_16 rfl ?_
      refine Sim.locs [1] rfl ?_
      exact f_X1_held_22_s a2 (20 : Int32) h
    · refine Sim.sipush (v := (1000 : Int32)) dX1_held_19 rfl ?_
      refine Sim.locs [1] rfl ?_
      exact f_X1_held_22_s a2 (1000 : Int32) h
theorem mv_X1_held : zMS mX1_held 2 := ⟨⟨zTb_in 684 (by decide +kernel) rfl, zTb_in 141 (by decide +kernel) rfl, ⟨by decide +kernel, by decide +kernel⟩, by decide +kernel⟩, zTb_in 683 (by decide +kernel) rfl⟩
-- ===== RockingPorch$Law.untold(I[I)I
abbrev mX1_untold : zMt := (yX1_untold, cX1_untold, 2, some .int)
theorem dX1_untold_0 : decode cX1_untold 0 = .ok (.iload_n 0, 1) := by decide +kernel
theorem dX1_untold_1 : decode cX1_untold 1 = .ok (.lookupswitch 52 #[(0, 27), (1, 40)], 27) := by decide +kernel
theorem dX1_untold_28 : decode cX1_untold 28 = .ok (.bipush 10, 2) := by decide +kernel
theorem dX1_untold_30 : decode cX1_untold 30 = .ok (.aload_n 1, 1) := by decide +kernel
theorem dX1_untold_31 : decode cX1_untold 31 = .ok (.iconst 2, 1) := by decide +kernel
theorem dX1_untold_32 : decode cX1_untold 32 = .ok (.iaload, 1) := by decide +kernel
theorem dX1_untold_33 : decode cX1_untold 33 = .ok (.imul, 1) := by decide +kernel
theorem dX1_untold_34 : decode cX1_untold 34 = .ok (.iconst 5, 1) := by decide +kernel
theorem dX1_untold_35 : decode cX1_untold 35 = .ok (.aload_n 1, 1) := by decide +kernel
theorem dX1_untold_36 : decode cX1_untold 36 = .ok (.iconst 3, 1) := by decide +kernel
theorem dX1_untold_37 : decode cX1_untold 37 = .ok (.iaload, 1) := by decide +kernel
theorem dX1_untold_38 : decode cX1_untold 38 = .ok (.imul, 1) := by decide +kernel
theorem dX1_untold_39 : decode cX1_untold 39 = .ok (.iadd, 1) := by decide +kernel
theorem dX1_untold_40 : decode cX1_untold 40 = .ok (.ireturn, 1) := by decide +kernel
theorem dX1_untold_41 : decode cX1_untold 41 = .ok (.bipush 10, 2) := by decide +kernel
theorem dX1_untold_43 : decode cX1_untold 43 = .ok (.aload_n 1, 1) := by decide +kernel
theorem dX1_untold_44 : decode cX1_untold 44 = .ok (.iconst 0, 1) := by decide +kernel
theorem dX1_untold_45 : decode cX1_untold 45 = .ok (.iaload, 1) := by decide +kernel
theorem dX1_untold_46 : decode cX1_untold 46 = .ok (.isub, 1) := by decide +kernel
theorem dX1_untold_47 : decode cX1_untold 47 = .ok (.aload_n 1, 1) := by decide +kernel
theorem dX1_untold_48 : decode cX1_untold 48 = .ok (.bipush 6, 2) := by decide +kernel
theorem dX1_untold_50 : decode cX1_untold 50 = .ok (.iaload, 1) := by decide +kernel
theorem dX1_untold_51 : decode cX1_untold 51 = .ok (.isub, 1) := by decide +kernel
theorem dX1_untold_52 : decode cX1_untold 52 = .ok (.ireturn, 1) := by decide +kernel
theorem dX1_untold_53 : decode cX1_untold 53 = .ok (.sipush 900, 3) := by decide +kernel
theorem dX1_untold_56 : decode cX1_untold 56 = .ok (.iconst 5, 1) := by decide +kernel
theorem dX1_untold_57 : decode cX1_untold 57 = .ok (.aload_n 1, 1) := by decide +kernel
theorem dX1_untold_58 : decode cX1_untold 58 = .ok (.iconst 1, 1) := by decide +kernel
theorem dX1_untold_59 : decode cX1_untold 59 = .ok (.iaload, 1) := by decide +kernel
theorem dX1_untold_60 : decode cX1_untold 60 = .ok (.imul, 1) := by decide +kernel
theorem dX1_untold_61 : decode cX1_untold 61 = .ok (.isub, 1) := by decide +kernel
theorem dX1_untold_62 : decode cX1_untold 62 = .ok (.ireturn, 1) := by decide +kernel
def f_X1_untold  (a1 : Int32) (h : zHp) : Option (Int32 × zHp) := (if a1 = (0 : Int32) then zix (2 : Int32) 9 (zix (3 : Int32) 9 (some ((((10 : Int32) * (h 160 (2 : Int32).toNatClampNeg)) + ((5 : Int32) * (h 160 (3 : Int32).toNatClampNeg))), h))) else (if a1 = (1 : Int32) then zix (0 : Int32) 9 (zix (6 : Int32) 9 (some ((((10 : Int32) - (h 160 (0 : Int32).toNatClampNeg)) - (h 160 (6 : Int32).toNatClampNeg)), h))) else zix (1 : Int32) 9 (some (((900 : Int32) - ((5 : Int32) * (h 160 (1 : Int32).toNatClampNeg))), h))))
set_option maxHeartbeats 4000000 in
set_option maxRecDepth 100000 in
theorem s_X1_untold  (a1 : Int32) (h : zHp) : Fn wX mX1_untold 0 rI [.int a1, .ref 160] h (f_X1_untold a1 h) := by
  refine Fn.of rfl (Nat.le_of_ble_eq_true rfl) ?_
  unfold f_X1_untold
  refine Sim.iload_n 0 dX1_untold_0 rfl ?_
  refine Sim.ite _ (fun q1 => ?_) (fun q1 => ?_)
  · refine Sim.lsw (off := 27) 28 dX1_untold_1 rfl (by rw [q1] <;> rfl) rfl ?_
    refine Sim.bipush (v := (10 : Int32)) dX1_untold_28 rfl ?_
    refine Sim.aload_n 1 dX1_untold_30 rfl ?_
    refine Sim.iconst (v := (2 : Int32)) dX1_untold_31 rfl ?_
    refine Sim.iald (n := 9) dX1_untold_32 xA_160 ?_
    refine Sim.imul dX1_untold_33 ?_
    refine Sim.iconst (v := (5 : Int32)) dX1_untold_34 rfl ?_
    refine Sim.aload_n 1 dX1_untold_35 rfl ?_
    refine Sim.iconst (v := (3 : Int32)) dX1_untold_36 rfl ?_
    refine Sim.iald (n := 9) dX1_untold_37 xA_160 ?_
    refine Sim.imul dX1_untold_38 ?_
    refine Sim.iadd dX1_untold_39 ?_
    exact Sim.iret dX1_untold_40 rfl
  refine Sim.ite _ (fun q2 => ?_) (fun q2 => ?_)
  · refine Sim.lsw (off := 40) 41 dX1_untold_1 rfl (by rw [q2] <;> rfl) rfl ?_
    refine Sim.bipush (v := (10 : Int32)) dX1_untold_41 rfl ?_
    refine Sim.aload_n 1 dX1_untold_43 rfl ?_
    refine Sim.iconst (v := (0 : Int32)) dX1_untold_44 rfl ?_
    refine Sim.iald (n := 9) dX1_untold_45 xA_160 ?_
    refine Sim.isub dX1_untold_46 ?_
    refine Sim.aload_n 1 dX1_untold_47 rfl ?_
    refine Sim.bipush (v := (6 : Int32)) dX1_untold_48 rfl ?_
    refine Sim.iald (n := 9) dX1_untold_50 xA_160 ?_
    refine Sim.isub dX1_untold_51 ?_
    exact Sim.iret dX1_untold_52 rfl
  refine Sim.lsw (off := 52) 53 dX1_untold_1 rfl (by have aq1 : a1.toInt ≠ 0 := fun w => q1 (Int32.toInt_inj.mp w); have aq2 : a1.toInt ≠ 1 := fun w => q2 (Int32.toInt_inj.mp w); simp [Op.lookupswitch.offset, aq1, Ne.symm aq1, aq2, Ne.symm aq2]) rfl ?_
  refine Sim.sipush (v := (900 : Int32)) dX1_untold_53 rfl ?_
  refine Sim.iconst (v := (5 : Int32)) dX1_untold_56 rfl ?_
  refine Sim.aload_n 1 dX1_untold_57 rfl ?_
  refine Sim.iconst (v := (1 : Int32)) dX1_untold_58 rfl ?_
  refine Sim.iald (n := 9) dX1_untold_59 xA_160 ?_
  refine Sim.imul dX1_untold_60 ?_
  refine Sim.isub dX1_untold_61 ?_
  exact Sim.iret dX1_untold_62 rfl
theorem mv_X1_untold : zMS mX1_untold 2 := ⟨⟨zTb_in 688 (by decide +kernel) rfl, zTb_in 141 (by decide +kernel) rfl, ⟨by decide +kernel, by decide +kernel⟩, by decide +kernel⟩, zTb_in 687 (by decide +kernel) rfl⟩
-- ===== RockingPorch$Law.tell(I[I)I
abbrev mX1_tell : zMt := (yX1_tell, cX1_tell, 4, some .int)
theorem fl_X1_15 : zF RX1 15 1 1 := ⟨RX1, TX1, 8, rfl, Nat.le_of_ble_eq_true rfl, zTb_in 278 (by decide +kernel) rfl, in_X1⟩
theorem fl_X1_18 : zF RX1 18 1 2 := ⟨RX1, TX1, 8, rfl, Nat.le_of_ble_eq_true rfl, zTb_in 279 (by decide +kernel) rfl, in_X1⟩
theorem fl_X1_21 : zF RX1 21 1 3 := ⟨RX1, TX1, 8, rfl, Nat.le_of_ble_eq_true rfl, zTb_in 280 (by decide +kernel) rfl, in_X1⟩
theorem fl_X1_34 : zF RX1 34 1 7 := ⟨RX1, TX1, 8, rfl, Nat.le_of_ble_eq_true rfl, zTb_in 284 (by decide +kernel) rfl, in_X1⟩
theorem fl_X1_9 : zF RX1 9 1 0 := ⟨RX1, TX1, 8, rfl, Nat.le_of_ble_eq_true rfl, zTb_in 277 (by decide +kernel) rfl, in_X1⟩
theorem ml_X1_43 : Cond.methodLink RX1 43 yX1_worth ∈ zTb := zTb_in 672 (by decide +kernel) rfl
theorem ml_X1_47 : Cond.methodLink RX1 47 yX1_held ∈ zTb := zTb_in 682 (by decide +kernel) rfl
theorem ml_X1_51 : Cond.methodLink RX1 51 yX1_untold ∈ zTb := zTb_in 686 (by decide +kernel) rfl
theorem dX1_tell_0 : decode cX1_tell 0 = .ok (.iconst 0, 1) := by decide +kernel
theorem dX1_tell_1 : decode cX1_tell 1 = .ok (.istore_n 3, 1) := by decide +kernel
theorem dX1_tell_2 : decode cX1_tell 2 = .ok (.iload_n 3, 1) := by decide +kernel
theorem dX1_tell_3 : decode cX1_tell 3 = .ok (.aload_n 0, 1) := by decide +kernel
theorem dX1_tell_4 : decode cX1_tell 4 = .ok (.getfield 34, 3) := by decide +kernel
theorem dX1_tell_7 : decode cX1_tell 7 = .ok (.if_icmp .ge 82, 3) := by decide +kernel
theorem dX1_tell_10 : decode cX1_tell 10 = .ok (.iload_n 3, 1) := by decide +kernel
theorem dX1_tell_11 : decode cX1_tell 11 = .ok (.bipush 16, 2) := by decide +kernel
theorem dX1_tell_13 : decode cX1_tell 13 = .ok (.if_icmp .ge 76, 3) := by decide +kernel
theorem dX1_tell_16 : decode cX1_tell 16 = .ok (.aload_n 0, 1) := by decide +kernel
theorem dX1_tell_17 : decode cX1_tell 17 = .ok (.getfield 9, 3) := by decide +kernel
theorem dX1_tell_20 : decode cX1_tell 20 = .ok (.iload_n 3, 1) := by decide +kernel
theorem dX1_tell_21 : decode cX1_tell 21 = .ok (.iaload, 1) := by decide +kernel
theorem dX1_tell_22 : decode cX1_tell 22 = .ok (.iload_n 1, 1) := by decide +kernel
theorem dX1_tell_23 : decode cX1_tell 23 = .ok (.if_icmp .ne 60, 3) := by decide +kernel
theorem dX1_tell_26 : decode cX1_tell 26 = .ok (.aload_n 0, 1) := by decide +kernel
theorem dX1_tell_27 : decode cX1_tell 27 = .ok (.getfield 18, 3) := by decide +kernel
theorem dX1_tell_30 : decode cX1_tell 30 = .ok (.iload_n 3, 1) := by decide +kernel
theorem dX1_tell_31 : decode cX1_tell 31 = .ok (.iaload, 1) := by decide +kernel
theorem dX1_tell_32 : decode cX1_tell 32 = .ok (.aload_n 0, 1) := by decide +kernel
theorem dX1_tell_33 : decode cX1_tell 33 = .ok (.getfield 21, 3) := by decide +kernel
theorem dX1_tell_36 : decode cX1_tell 36 = .ok (.iload_n 3, 1) := by decide +kernel
theorem dX1_tell_37 : decode cX1_tell 37 = .ok (.iaload, 1) := by decide +kernel
theorem dX1_tell_38 : decode cX1_tell 38 = .ok (.if_icmp .eq 23, 3) := by decide +kernel
theorem dX1_tell_41 : decode cX1_tell 41 = .ok (.aload_n 0, 1) := by decide +kernel
theorem dX1_tell_42 : decode cX1_tell 42 = .ok (.aload_n 0, 1) := by decide +kernel
theorem dX1_tell_43 : decode cX1_tell 43 = .ok (.getfield 18, 3) := by decide +kernel
theorem dX1_tell_46 : decode cX1_tell 46 = .ok (.iload_n 3, 1) := by decide +kernel
theorem dX1_tell_47 : decode cX1_tell 47 = .ok (.iaload, 1) := by decide +kernel
theorem dX1_tell_48 : decode cX1_tell 48 = .ok (.aload_n 0, 1) := by decide +kernel
theorem dX1_tell_49 : decode cX1_tell 49 = .ok (.getfield 21, 3) := by decide +kernel
theorem dX1_tell_52 : decode cX1_tell 52 = .ok (.iload_n 3, 1) := by decide +kernel
theorem dX1_tell_53 : decode cX1_tell 53 = .ok (.iaload, 1) := by decide +kernel
theorem dX1_tell_54 : decode cX1_tell 54 = .ok (.aload_n 2, 1) := by decide +kernel
theorem dX1_tell_55 : decode cX1_tell 55 = .ok (.invokevirtual 43, 3) := by decide +kernel
theorem dX1_tell_58 : decode cX1_tell 58 = .ok (.ifCond .eq 25, 3) := by decide +kernel
theorem dX1_tell_61 : decode cX1_tell 61 = .ok (.iload_n 1, 1) := by decide +kernel
theorem dX1_tell_62 : decode cX1_tell 62 = .ok (.aload_n 0, 1) := by decide +kernel
theorem dX1_tell_63 : decode cX1_tell 63 = .ok (.aload_n 0, 1) := by decide +kernel
theorem dX1_tell_64 : decode cX1_tell 64 = .ok (.getfield 15, 3) := by decide +kernel
theorem dX1_tell_67 : decode cX1_tell 67 = .ok (.iload_n 3, 1) := by decide +kernel
theorem dX1_tell_68 : decode cX1_tell 68 = .ok (.iaload, 1) := by decide +kernel
theorem dX1_tell_69 : decode cX1_tell 69 = .ok (.aload_n 0, 1) := by decide +kernel
theorem dX1_tell_70 : decode cX1_tell 70 = .ok (.getfield 18, 3) := by decide +kernel
theorem dX1_tell_73 : decode cX1_tell 73 = .ok (.iload_n 3, 1) := by decide +kernel
theorem dX1_tell_74 : decode cX1_tell 74 = .ok (.iaload, 1) := by decide +kernel
theorem dX1_tell_75 : decode cX1_tell 75 = .ok (.aload_n 2, 1) := by decide +kernel
theorem dX1_tell_76 : decode cX1_tell 76 = .ok (.invokevirtual 43, 3) := by decide +kernel
theorem dX1_tell_79 : decode cX1_tell 79 = .ok (.invokestatic 47, 3) := by decide +kernel
theorem dX1_tell_82 : decode cX1_tell 82 = .ok (.ireturn, 1) := by decide +kernel
theorem dX1_tell_83 : decode cX1_tell 83 = .ok (.iinc 3 1, 3) := by decide +kernel
theorem dX1_tell_86 : decode cX1_tell 86 = .ok (.goto (-84), 3) := by decide +kernel
theorem dX1_tell_89 : decode cX1_tell 89 = .ok (.iload_n 1, 1) := by decide +kernel
theorem dX1_tell_90 : decode cX1_tell 90 = .ok (.iload_n 1, 1) := by decide +kernel
theorem dX1_tell_91 : decode cX1_tell 91 = .ok (.aload_n 2, 1) := by decide +kernel
theorem dX1_tell_92 : decode cX1_tell 92 = .ok (.invokestatic 51, 3) := by decide +kernel
theorem dX1_tell_95 : decode cX1_tell 95 = .ok (.invokestatic 47, 3) := by decide +kernel
theorem dX1_tell_98 : decode cX1_tell 98 = .ok (.ireturn, 1) := by decide +kernel
def f_X1_tell_89 (o : Nat)  (v1 : Int32) (h : zHp) : Option (Int32 × zHp) := (f_X1_untold v1 h).bind fun x1 => (f_X1_held v1 x1.1 x1.2).bind fun x2 => some (x2.1, x2.2)
set_option maxHeartbeats 4000000 in
set_option maxRecDepth 100000 in
theorem f_X1_tell_89_s (o : Nat) (ho : o ∈ xLaw) (v1 : Int32) (h : zHp) : Sim wX mX1_tell 2 rI 89 [(1, .int v1), (2, .ref 160)] [] h (f_X1_tell_89 o v1 h) := by
  unfold f_X1_tell_89
  refine Sim.iload_n 0 dX1_tell_89 rfl ?_
  refine Sim.iload_n 0 dX1_tell_90 rfl ?_
  refine Sim.aload_n 1 dX1_tell_91 rfl ?_
  refine Sim.callS2I (d1 := 0) (s_X1_untold v1 h) dX1_tell_92 ml_X1_51 mv_X1_untold (Nat.le_of_ble_eq_true rfl) (Nat.le_of_ble_eq_true rfl) (Nat.le_of_ble_eq_true rfl) (fun x1 => ?_)
  refine Sim.callS2I (d1 := 1) (s_X1_held v1 x1.1 x1.2) dX1_tell_95 ml_X1_47 mv_X1_held (Nat.le_of_ble_eq_true rfl) (Nat.le_of_ble_eq_true rfl) (Nat.le_of_ble_eq_true rfl) (fun x2 => ?_)
  exact Sim.iret dX1_tell_98 rfl
def f_X1_tell_61 (o : Nat)  (v1 : Int32) (v3 : Int32) (h : zHp) : Option (Int32 × zHp) := zix v3 16 (zix v3 16 ((f_X1_worth o (h (o + 2) v3.toNatClampNeg) (h (o + 3) v3.toNatClampNeg) h).bind fun x1 => (f_X1_held v1 x1.1 x1.2).bind fun x2 => some (x2.1, x2.2)))
set_option maxHeartbeats 4000000 in
set_option maxRecDepth 100000 in
theorem f_X1_tell_61_s (o : Nat) (ho : o ∈ xLaw) (v1 : Int32) (v3 : Int32) (h : zHp) : Sim wX mX1_tell 2 rI 61 [(0, .ref o), (1, .int v1), (2, .ref 160), (3, .int v3)] [] h (f_X1_tell_61 o v1 v3 h) := by
  unfold f_X1_tell_61
  refine Sim.iload_n 1 dX1_tell_61 rfl ?_
  refine Sim.aload_n 0 dX1_tell_62 rfl ?_
  refine Sim.aload_n 0 dX1_tell_63 rfl ?_
  refine Sim.getR (j := (o + 2)) fl_X1_15 dX1_tell_64 (xR_X1_1 _ ho) ?_
  refine Sim.iload_n 3 dX1_tell_67 rfl ?_
  refine Sim.iald (n := 16) dX1_tell_68 (xA_X1_1 _ ho) ?_
  refine Sim.aload_n 0 dX1_tell_69 rfl ?_
  refine Sim.getR (j := (o + 3)) fl_X1_18 dX1_tell_70 (xR_X1_2 _ ho) ?_
  refine Sim.iload_n 3 dX1_tell_73 rfl ?_
  refine Sim.iald (n := 16) dX1_tell_74 (xA_X1_2 _ ho) ?_
  refine Sim.aload_n 2 dX1_tell_75 rfl ?_
  refine Sim.callV3I (d1 := 1) (s_X1_worth o ho (h (o + 2) v3.toNatClampNeg) (h (o + 3) v3.toNatClampNeg) h) dX1_tell_76 ml_X1_43 mv_X1_worth (xOC_X1 _ ho) (Nat.le_of_ble_eq_true rfl) (Nat.le_of_ble_eq_true rfl) (Nat.le_of_ble_eq_true rfl) (fun x1 => ?_)
  refine Sim.callS2I (d1 := 1) (s_X1_held v1 x1.1 x1.2) dX1_tell_79 ml_X1_47 mv_X1_held (Nat.le_of_ble_eq_true rfl) (Nat.le_of_ble_eq_true rfl) (Nat.le_of_ble_eq_true rfl) (fun x2 => ?_)
  exact Sim.iret dX1_tell_82 rfl
def f_X1_tell_2 (o : Nat) (k2 : Int32 × Int32 × zHp → Option (Int32 × zHp)) (v1 : Int32) (v3 : Int32) (h : zHp) : Option (Int32 × zHp) := (if v3 < (h o 7) then (if v3 < (16 : Int32) then zix v3 16 ((if (h (o + 1) v3.toNatClampNeg) = v1 then zix v3 16 (zix v3 16 ((if (h (o + 3) v3.toNatClampNeg) = (h (o + 4) v3.toNatClampNeg) then f_X1_tell_61 o v1 v3 h else zix v3 16 (zix v3 16 ((f_X1_worth o (h (o + 3) v3.toNatClampNeg) (h (o + 4) v3.toNatClampNeg) h).bind fun x1 => (if x1.1 = 0 then k2 (v1, (v3 + (1 : Int32)), x1.2) else f_X1_tell_61 o v1 v3 x1.2)))))) else k2 (v1, (v3 + (1 : Int32)), h))) else f_X1_tell_89 o v1 h) else f_X1_tell_89 o v1 h)
set_option maxHeartbeats 4000000 in
set_option maxRecDepth 100000 in
theorem f_X1_tell_2_s (o : Nat) (ho : o ∈ xLaw) (k2 : Int32 × Int32 × zHp → Option (Int32 × zHp)) (H2 : ∀ v : Int32 × Int32 × zHp, Sim wX mX1_tell 2 rI 2 [(0, .ref o), (1, .int v.1), (2, .ref 160), (3, .int v.2.1)] [] v.2.2 (k2 v)) (v1 : Int32) (v3 : Int32) (h : zHp) : Sim wX mX1_tell 2 rI 2 [(0, .ref o), (1, .int v1), (2, .ref 160), (3, .int v3)] [] h (f_X1_tell_2 o k2 v1 v3 h) := by
  unfold f_X1_tell_2
  refine Sim.iload_n 3 dX1_tell_2 rfl ?_
  refine Sim.aload_n 0 dX1_tell_3 rfl ?_
  refine Sim.getI fl_X1_34 dX1_tell_4 (xI_X1_7 _ ho) ?_
  refine Sim.icmp_ge 89 dX1_tell_7 rfl ?_ ?_
  · refine Sim.iload_n 3 dX1_tell_10 rfl ?_
    refine Sim.bipush (v := (16 : Int32)) dX1_tell_11 rfl ?_
    refine Sim.icmp_ge 89 dX1_tell_13 rfl ?_ ?_
    · refine Sim.aload_n 0 dX1_tell_16 rfl ?_
      refine Sim.getR (j := (o + 1)) fl_X1_9 dX1_tell_17 (xR_X1_0 _ ho) ?_
      refine Sim.iload_n 3 dX1_tell_20 rfl ?_
      refine Sim.iald (n := 16) dX1_tell_21 (xA_X1_0 _ ho) ?_
      refine Sim.iload_n 1 dX1_tell_22 rfl ?_
      refine Sim.icmp_ne 83 dX1_tell_23 rfl ?_ ?_
      · refine Sim.aload_n 0 dX1_tell_26 rfl ?_
        refine Sim.getR (j := (o + 3)) fl_X1_18 dX1_tell_27 (xR_X1_2 _ ho) ?_
        refine Sim.iload_n 3 dX1_tell_30 rfl ?_
        refine Sim.iald (n := 16) dX1_tell_31 (xA_X1_2 _ ho) ?_
        refine Sim.aload_n 0 dX1_tell_32 rfl ?_
        refine Sim.getR (j := (o + 4)) fl_X1_21 dX1_tell_33 (xR_X1_3 _ ho) ?_
        refine Sim.iload_n 3 dX1_tell_36 rfl ?_
        refine Sim.iald (n := 16) dX1_tell_37 (xA_X1_3 _ ho) ?_
        refine Sim.icmp_eq 61 dX1_tell_38 rfl ?_ ?_
        · exact f_X1_tell_61_s o ho v1 v3 h
        · refine Sim.aload_n 0 dX1_tell_41 rfl ?_
          refine Sim.aload_n 0 dX1_tell_42 rfl ?_
          refine Sim.getR (j := (o + 3)) fl_X1_18 dX1_tell_43 (xR_X1_2 _ ho) ?_
          refine Sim.iload_n 3 dX1_tell_46 rfl ?_
          refine Sim.iald (n := 16) dX1_tell_47 (xA_X1_2 _ ho) ?_
          refine Sim.aload_n 0 dX1_tell_48 rfl ?_
          refine Sim.getR (j := (o + 4)) fl_X1_21 dX1_tell_49 (xR_X1_3 _ ho) ?_
          refine Sim.iload_n 3 dX1_tell_52 rfl ?_
          refine Sim.iald (n := 16) dX1_tell_53 (xA_X1_3 _ ho) ?_
          refine Sim.aload_n 2 dX1_tell_54 rfl ?_
          refine Sim.callV3I (d1 := 1) (s_X1_worth o ho (h (o + 3) v3.toNatClampNeg) (h (o + 4) v3.toNatClampNeg) h) dX1_tell_55 ml_X1_43 mv_X1_worth (xOC_X1 _ ho) (Nat.le_of_ble_eq_true rfl) (Nat.le_of_ble_eq_true rfl) (Nat.le_of_ble_eq_true rfl) (fun x1 => ?_)
          refine Sim.if_eq 83 dX1_tell_58 rfl ?_ ?_
          · refine Sim.iinc (L' := [(3, .int (v3 + (1 : Int32))), (0, .ref o), (1, .int v1), (2, .ref 160)]) 3 dX1_tell_83 rfl rfl (Nat.le_of_ble_eq_true rfl) rfl ?_
            refine Sim.goto 2 dX1_tell_86 rfl ?_
            refine Sim.locs [1, 2, 3, 0] rfl ?_
            exact H2 (v1, (v3 + (1 : Int32)), x1.2)
          · exact f_X1_tell_61_s o ho v1 v3 x1.2
      · refine Sim.iinc (L' := [(3, .int (v3 + (1 : Int32))), (0, .ref o), (1, .int v1), (2, .ref 160)]) 3 dX1_tell_83 rfl rfl (Nat.le_of_ble_eq_true rfl) rfl ?_
        refine Sim.goto 2 dX1_tell_86 rfl ?_
        refine Sim.locs [1, 2, 3, 0] rfl ?_
        exact H2 (v1, (v3 + (1 : Int32)), h)
    · refine Sim.locs [1, 2] rfl ?_
      exact f_X1_tell_89_s o ho v1 h
  · refine Sim.locs [1, 2] rfl ?_
    exact f_X1_tell_89_s o ho v1 h
def f_X1_tell_2_lp (o : Nat)  (n : Nat) (v : Int32 × Int32 × zHp) : Option (Int32 × zHp) := zlp (fun k2 v => f_X1_tell_2 o k2 v.1 v.2.1 v.2.2) n v
theorem f_X1_tell_2_ls (o : Nat) (ho : o ∈ xLaw) (n : Nat) (v : Int32 × Int32 × zHp) : Sim wX mX1_tell 2 rI 2 [(0, .ref o), (1, .int v.1), (2, .ref 160), (3, .int v.2.1)] [] v.2.2 (f_X1_tell_2_lp o n v) :=
  Sim.lp (V := Int32 × Int32 × zHp) (Lf := fun v => [(0, .ref o), (1, .int v.1), (2, .ref 160), (3, .int v.2.1)]) (sf := fun v => []) (hf := fun v => v.2.2) (fun k2 H2 v => f_X1_tell_2_s o ho k2 H2 v.1 v.2.1 v.2.2) n v
def f_X1_tell (o : Nat) (a1 : Int32) (h : zHp) : Option (Int32 × zHp) := f_X1_tell_2_lp o zN (a1, (0 : Int32), h)
set_option maxHeartbeats 4000000 in
set_option maxRecDepth 100000 in
theorem s_X1_tell (o : Nat) (ho : o ∈ xLaw) (a1 : Int32) (h : zHp) : Fn wX mX1_tell 2 rI [.ref o, .int a1, .ref 160] h (f_X1_tell o a1 h) := by
  refine Fn.of rfl (Nat.le_of_ble_eq_true rfl) ?_
  unfold f_X1_tell
  refine Sim.iconst (v := (0 : Int32)) dX1_tell_0 rfl ?_
  refine Sim.istore_n (L' := [(3, .int (0 : Int32)), (0, .ref o), (1, .int a1), (2, .ref 160)]) dX1_tell_1 (Nat.le_of_ble_eq_true rfl) rfl ?_
  refine Sim.locs [1, 2, 3, 0] rfl ?_
  exact f_X1_tell_2_ls o ho zN (a1, (0 : Int32), h)
theorem mv_X1_tell : zMV mX1_tell 2 := ⟨⟨zTb_in 671 (by decide +kernel) rfl, zTb_in 141 (by decide +kernel) rfl, ⟨by decide +kernel, by decide +kernel⟩, by decide +kernel⟩, zTb_in 669 (by decide +kernel) rfl, zTb_in 670 (by decide +kernel) rfl⟩
-- ===== RockingPorch$Doing.ask(LRockingPorch$Porch;III)I
abbrev mX0_ask : zMt := (yX0_ask, cX0_ask, 7, some .int)
theorem fl_X0_15 : zF RX0 15 0 0 := ⟨RX0, TX0, 2, rfl, Nat.le_of_ble_eq_true rfl, zTb_in 484 (by decide +kernel) rfl, in_X0⟩
theorem fl_X0_32 : zF RX0 32 4 1 := ⟨RX4, TX4, 15, rfl, Nat.le_of_ble_eq_true rfl, zTb_in 180 (by decide +kernel) rfl, in_X4⟩
theorem fl_X0_35 : zF RX0 35 4 2 := ⟨RX4, TX4, 15, rfl, Nat.le_of_ble_eq_true rfl, zTb_in 183 (by decide +kernel) rfl, in_X4⟩
theorem fl_X0_38 : zF RX0 38 4 5 := ⟨RX4, TX4, 15, rfl, Nat.le_of_ble_eq_true rfl, zTb_in 192 (by decide +kernel) rfl, in_X4⟩
theorem fl_X0_41 : zF RX0 41 9 5 := ⟨RX9, TX9, 7, rfl, Nat.le_of_ble_eq_true rfl, zTb_in 375 (by decide +kernel) rfl, in_X9⟩
theorem fl_X0_58 : zF RX0 58 4 7 := ⟨RX4, TX4, 15, rfl, Nat.le_of_ble_eq_true rfl, zTb_in 198 (by decide +kernel) rfl, in_X4⟩
theorem fl_X0_61 : zF RX0 61 4 8 := ⟨RX4, TX4, 15, rfl, Nat.le_of_ble_eq_true rfl, zTb_in 201 (by decide +kernel) rfl, in_X4⟩
theorem fl_X0_64 : zF RX0 64 4 11 := ⟨RX4, TX4, 15, rfl, Nat.le_of_ble_eq_true rfl, zTb_in 210 (by decide +kernel) rfl, in_X4⟩
theorem fl_X0_68 : zF RX0 68 4 10 := ⟨RX4, TX4, 15, rfl, Nat.le_of_ble_eq_true rfl, zTb_in 207 (by decide +kernel) rfl, in_X4⟩
theorem fl_X0_71 : zF RX0 71 4 13 := ⟨RX4, TX4, 15, rfl, Nat.le_of_ble_eq_true rfl, zTb_in 215 (by decide +kernel) rfl, in_X4⟩
theorem fl_X0_74 : zF RX0 74 9 2 := ⟨RX9, TX9, 7, rfl, Nat.le_of_ble_eq_true rfl, zTb_in 366 (by decide +kernel) rfl, in_X9⟩
theorem fl_X0_9 : zF RX0 9 0 1 := ⟨RX0, TX0, 2, rfl, Nat.le_of_ble_eq_true rfl, zTb_in 485 (by decide +kernel) rfl, in_X0⟩
theorem ml_X0_19 : Cond.methodLink RX0 19 yX4_isChair ∈ zTb := zTb_in 644 (by decide +kernel) rfl
theorem ml_X0_25 : Cond.methodLink RX0 25 yX4_isPerson ∈ zTb := zTb_in 649 (by decide +kernel) rfl
theorem ml_X0_28 : Cond.methodLink RX0 28 yX4_awaySet ∈ zTb := zTb_in 650 (by decide +kernel) rfl
theorem ml_X0_47 : Cond.methodLink RX0 47 yX2_minders ∈ zTb := zTb_in 654 (by decide +kernel) rfl
theorem ml_X0_53 : Cond.methodLink RX0 53 yJ6_bitCount_0f7a4 ∈ zTb := zTb_in 662 (by decide +kernel) rfl
theorem ml_X0_78 : Cond.methodLink RX0 78 yX1_tell ∈ zTb := zTb_in 668 (by decide +kernel) rfl
theorem dX0_ask_0 : decode cX0_ask 0 = .ok (.aload_n 1, 1) := by decide +kernel
theorem dX0_ask_1 : decode cX0_ask 1 = .ok (.iload_n 3, 1) := by decide +kernel
theorem dX0_ask_2 : decode cX0_ask 2 = .ok (.invokevirtual 19, 3) := by decide +kernel
theorem dX0_ask_5 : decode cX0_ask 5 = .ok (.ifCond .ne 5, 3) := by decide +kernel
theorem dX0_ask_8 : decode cX0_ask 8 = .ok (.iconst 0, 1) := by decide +kernel
theorem dX0_ask_9 : decode cX0_ask 9 = .ok (.ireturn, 1) := by decide +kernel
theorem dX0_ask_10 : decode cX0_ask 10 = .ok (.aload_n 1, 1) := by decide +kernel
theorem dX0_ask_11 : decode cX0_ask 11 = .ok (.iload 4, 2) := by decide +kernel
theorem dX0_ask_13 : decode cX0_ask 13 = .ok (.invokevirtual 25, 3) := by decide +kernel
theorem dX0_ask_16 : decode cX0_ask 16 = .ok (.istore 5, 2) := by decide +kernel
theorem dX0_ask_18 : decode cX0_ask 18 = .ok (.aload_n 1, 1) := by decide +kernel
theorem dX0_ask_19 : decode cX0_ask 19 = .ok (.invokevirtual 28, 3) := by decide +kernel
theorem dX0_ask_22 : decode cX0_ask 22 = .ok (.istore 6, 2) := by decide +kernel
theorem dX0_ask_24 : decode cX0_ask 24 = .ok (.aload_n 0, 1) := by decide +kernel
theorem dX0_ask_25 : decode cX0_ask 25 = .ok (.getfield 9, 3) := by decide +kernel
theorem dX0_ask_28 : decode cX0_ask 28 = .ok (.iconst 0, 1) := by decide +kernel
theorem dX0_ask_29 : decode cX0_ask 29 = .ok (.aload_n 1, 1) := by decide +kernel
theorem dX0_ask_30 : decode cX0_ask 30 = .ok (.getfield 32, 3) := by decide +kernel
theorem dX0_ask_33 : decode cX0_ask 33 = .ok (.iload_n 3, 1) := by decide +kernel
theorem dX0_ask_34 : decode cX0_ask 34 = .ok (.iaload, 1) := by decide +kernel
theorem dX0_ask_35 : decode cX0_ask 35 = .ok (.iastore, 1) := by decide +kernel
theorem dX0_ask_36 : decode cX0_ask 36 = .ok (.aload_n 0, 1) := by decide +kernel
theorem dX0_ask_37 : decode cX0_ask 37 = .ok (.getfield 9, 3) := by decide +kernel
theorem dX0_ask_40 : decode cX0_ask 40 = .ok (.iconst 1, 1) := by decide +kernel
theorem dX0_ask_41 : decode cX0_ask 41 = .ok (.aload_n 1, 1) := by decide +kernel
theorem dX0_ask_42 : decode cX0_ask 42 = .ok (.getfield 35, 3) := by decide +kernel
theorem dX0_ask_45 : decode cX0_ask 45 = .ok (.iload_n 3, 1) := by decide +kernel
theorem dX0_ask_46 : decode cX0_ask 46 = .ok (.iaload, 1) := by decide +kernel
theorem dX0_ask_47 : decode cX0_ask 47 = .ok (.iastore, 1) := by decide +kernel
theorem dX0_ask_48 : decode cX0_ask 48 = .ok (.aload_n 0, 1) := by decide +kernel
theorem dX0_ask_49 : decode cX0_ask 49 = .ok (.getfield 9, 3) := by decide +kernel
theorem dX0_ask_52 : decode cX0_ask 52 = .ok (.iconst 2, 1) := by decide +kernel
theorem dX0_ask_53 : decode cX0_ask 53 = .ok (.iload 5, 2) := by decide +kernel
theorem dX0_ask_55 : decode cX0_ask 55 = .ok (.ifCond .eq 13, 3) := by decide +kernel
theorem dX0_ask_58 : decode cX0_ask 58 = .ok (.aload_n 1, 1) := by decide +kernel
theorem dX0_ask_59 : decode cX0_ask 59 = .ok (.getfield 38, 3) := by decide +kernel
theorem dX0_ask_62 : decode cX0_ask 62 = .ok (.iload 4, 2) := by decide +kernel
theorem dX0_ask_64 : decode cX0_ask 64 = .ok (.iaload, 1) := by decide +kernel
theorem dX0_ask_65 : decode cX0_ask 65 = .ok (.goto 4, 3) := by decide +kernel
theorem dX0_ask_68 : decode cX0_ask 68 = .ok (.iconst 0, 1) := by decide +kernel
theorem dX0_ask_69 : decode cX0_ask 69 = .ok (.iastore, 1) := by decide +kernel
theorem dX0_ask_70 : decode cX0_ask 70 = .ok (.aload_n 0, 1) := by decide +kernel
theorem dX0_ask_71 : decode cX0_ask 71 = .ok (.getfield 9, 3) := by decide +kernel
theorem dX0_ask_74 : decode cX0_ask 74 = .ok (.iconst 3, 1) := by decide +kernel
theorem dX0_ask_75 : decode cX0_ask 75 = .ok (.iload 5, 2) := by decide +kernel
theorem dX0_ask_77 : decode cX0_ask 77 = .ok (.ifCond .eq 26, 3) := by decide +kernel
theorem dX0_ask_80 : decode cX0_ask 80 = .ok (.aload_n 0, 1) := by decide +kernel
theorem dX0_ask_81 : decode cX0_ask 81 = .ok (.getfield 15, 3) := by decide +kernel
theorem dX0_ask_84 : decode cX0_ask 84 = .ok (.getfield 41, 3) := by decide +kernel
theorem dX0_ask_87 : decode cX0_ask 87 = .ok (.iload 4, 2) := by decide +kernel
theorem dX0_ask_89 : decode cX0_ask 89 = .ok (.invokevirtual 47, 3) := by decide +kernel
theorem dX0_ask_92 : decode cX0_ask 92 = .ok (.iload 6, 2) := by decide +kernel
theorem dX0_ask_94 : decode cX0_ask 94 = .ok (.iconst (-1), 1) := by decide +kernel
theorem dX0_ask_95 : decode cX0_ask 95 = .ok (.ixor, 1) := by decide +kernel
theorem dX0_ask_96 : decode cX0_ask 96 = .ok (.iand, 1) := by decide +kernel
theorem dX0_ask_97 : decode cX0_ask 97 = .ok (.invokestatic 53, 3) := by decide +kernel
theorem dX0_ask_100 : decode cX0_ask 100 = .ok (.goto 4, 3) := by decide +kernel
theorem dX0_ask_103 : decode cX0_ask 103 = .ok (.iconst 0, 1) := by decide +kernel
theorem dX0_ask_104 : decode cX0_ask 104 = .ok (.iastore, 1) := by decide +kernel
theorem dX0_ask_105 : decode cX0_ask 105 = .ok (.aload_n 0, 1) := by decide +kernel
theorem dX0_ask_106 : decode cX0_ask 106 = .ok (.getfield 9, 3) := by decide +kernel
theorem dX0_ask_109 : decode cX0_ask 109 = .ok (.iconst 4, 1) := by decide +kernel
theorem dX0_ask_110 : decode cX0_ask 110 = .ok (.iload 5, 2) := by decide +kernel
theorem dX0_ask_112 : decode cX0_ask 112 = .ok (.ifCond .eq 13, 3) := by decide +kernel
theorem dX0_ask_115 : decode cX0_ask 115 = .ok (.aload_n 1, 1) := by decide +kernel
theorem dX0_ask_116 : decode cX0_ask 116 = .ok (.getfield 58, 3) := by decide +kernel
theorem dX0_ask_119 : decode cX0_ask 119 = .ok (.iload 4, 2) := by decide +kernel
theorem dX0_ask_121 : decode cX0_ask 121 = .ok (.iaload, 1) := by decide +kernel
theorem dX0_ask_122 : decode cX0_ask 122 = .ok (.goto 4, 3) := by decide +kernel
theorem dX0_ask_125 : decode cX0_ask 125 = .ok (.iconst 0, 1) := by decide +kernel
theorem dX0_ask_126 : decode cX0_ask 126 = .ok (.iastore, 1) := by decide +kernel
theorem dX0_ask_127 : decode cX0_ask 127 = .ok (.aload_n 0, 1) := by decide +kernel
theorem dX0_ask_128 : decode cX0_ask 128 = .ok (.getfield 9, 3) := by decide +kernel
theorem dX0_ask_131 : decode cX0_ask 131 = .ok (.iconst 5, 1) := by decide +kernel
theorem dX0_ask_132 : decode cX0_ask 132 = .ok (.iload 5, 2) := by decide +kernel
theorem dX0_ask_134 : decode cX0_ask 134 = .ok (.ifCond .eq 13, 3) := by decide +kernel
theorem dX0_ask_137 : decode cX0_ask 137 = .ok (.aload_n 1, 1) := by decide +kernel
theorem dX0_ask_138 : decode cX0_ask 138 = .ok (.getfield 61, 3) := by decide +kernel
theorem dX0_ask_141 : decode cX0_ask 141 = .ok (.iload 4, 2) := by decide +kernel
theorem dX0_ask_143 : decode cX0_ask 143 = .ok (.iaload, 1) := by decide +kernel
theorem dX0_ask_144 : decode cX0_ask 144 = .ok (.goto 4, 3) := by decide +kernel
theorem dX0_ask_147 : decode cX0_ask 147 = .ok (.iconst 0, 1) := by decide +kernel
theorem dX0_ask_148 : decode cX0_ask 148 = .ok (.iastore, 1) := by decide +kernel
theorem dX0_ask_149 : decode cX0_ask 149 = .ok (.aload_n 0, 1) := by decide +kernel
theorem dX0_ask_150 : decode cX0_ask 150 = .ok (.getfield 9, 3) := by decide +kernel
theorem dX0_ask_153 : decode cX0_ask 153 = .ok (.bipush 6, 2) := by decide +kernel
theorem dX0_ask_155 : decode cX0_ask 155 = .ok (.aload_n 1, 1) := by decide +kernel
theorem dX0_ask_156 : decode cX0_ask 156 = .ok (.getfield 64, 3) := by decide +kernel
theorem dX0_ask_159 : decode cX0_ask 159 = .ok (.iastore, 1) := by decide +kernel
theorem dX0_ask_160 : decode cX0_ask 160 = .ok (.aload_n 0, 1) := by decide +kernel
theorem dX0_ask_161 : decode cX0_ask 161 = .ok (.getfield 9, 3) := by decide +kernel
theorem dX0_ask_164 : decode cX0_ask 164 = .ok (.bipush 7, 2) := by decide +kernel
theorem dX0_ask_166 : decode cX0_ask 166 = .ok (.aload_n 1, 1) := by decide +kernel
theorem dX0_ask_167 : decode cX0_ask 167 = .ok (.getfield 68, 3) := by decide +kernel
theorem dX0_ask_170 : decode cX0_ask 170 = .ok (.iload 6, 2) := by decide +kernel
theorem dX0_ask_172 : decode cX0_ask 172 = .ok (.invokestatic 53, 3) := by decide +kernel
theorem dX0_ask_175 : decode cX0_ask 175 = .ok (.isub, 1) := by decide +kernel
theorem dX0_ask_176 : decode cX0_ask 176 = .ok (.iastore, 1) := by decide +kernel
theorem dX0_ask_177 : decode cX0_ask 177 = .ok (.aload_n 0, 1) := by decide +kernel
theorem dX0_ask_178 : decode cX0_ask 178 = .ok (.getfield 9, 3) := by decide +kernel
theorem dX0_ask_181 : decode cX0_ask 181 = .ok (.bipush 8, 2) := by decide +kernel
theorem dX0_ask_183 : decode cX0_ask 183 = .ok (.aload_n 1, 1) := by decide +kernel
theorem dX0_ask_184 : decode cX0_ask 184 = .ok (.getfield 71, 3) := by decide +kernel
theorem dX0_ask_187 : decode cX0_ask 187 = .ok (.iastore, 1) := by decide +kernel
theorem dX0_ask_188 : decode cX0_ask 188 = .ok (.aload_n 0, 1) := by decide +kernel
theorem dX0_ask_189 : decode cX0_ask 189 = .ok (.getfield 15, 3) := by decide +kernel
theorem dX0_ask_192 : decode cX0_ask 192 = .ok (.getfield 74, 3) := by decide +kernel
theorem dX0_ask_195 : decode cX0_ask 195 = .ok (.iload_n 2, 1) := by decide +kernel
theorem dX0_ask_196 : decode cX0_ask 196 = .ok (.aload_n 0, 1) := by decide +kernel
theorem dX0_ask_197 : decode cX0_ask 197 = .ok (.getfield 9, 3) := by decide +kernel
theorem dX0_ask_200 : decode cX0_ask 200 = .ok (.invokevirtual 78, 3) := by decide +kernel
theorem dX0_ask_203 : decode cX0_ask 203 = .ok (.ireturn, 1) := by decide +kernel
def f_X0_ask_148 (b1 : Nat)  (v2 : Int32) (v6 : Int32) (s0 : Int32) (s1 : Int32) (h : zHp) : Option (Int32 × zHp) := zix s1 9 (zlt (zst h 160 s1.toNatClampNeg s0) fun h1 => zix (6 : Int32) 9 (zlt (zst h1 160 (6 : Int32).toNatClampNeg (h1 b1 11)) fun h2 => (f_J6_bitCount_0f7a4 v6 h2).bind fun x3 => zix (7 : Int32) 9 (zlt (zst x3.2 160 (7 : Int32).toNatClampNeg ((h2 b1 10) - x3.1)) fun h4 => zix (8 : Int32) 9 (zlt (zst h4 160 (8 : Int32).toNatClampNeg (h4 b1 13)) fun h5 => (f_X1_tell 13 v2 h5).bind fun x6 => some (x6.1, x6.2)))))
set_option maxHeartbeats 4000000 in
set_option maxRecDepth 100000 in
theorem f_X0_ask_148_s (b1 : Nat) (hb1 : b1 ∈ xPorch) (v2 : Int32) (v6 : Int32) (s0 : Int32) (s1 : Int32) (h : zHp) : Sim wX mX0_ask 3 rI 148 [(0, .ref 159), (1, .ref b1), (2, .int v2), (6, .int v6)] [.int s0, .int s1, .ref 160] h (f_X0_ask_148 b1 v2 v6 s0 s1 h) := by
  unfold f_X0_ask_148
  refine Sim.iast (n := 9) dX0_ask_148 xA_160 ?_
  refine Sim.lth (fun h1 => ?_)
  refine Sim.aload_n 0 dX0_ask_149 rfl ?_
  refine Sim.getR (j := 160) fl_X0_9 dX0_ask_150 xR_159_1 ?_
  refine Sim.bipush (v := (6 : Int32)) dX0_ask_153 rfl ?_
  refine Sim.aload_n 1 dX0_ask_155 rfl ?_
  refine Sim.getI fl_X0_64 dX0_ask_156 (xI_X4_11 _ hb1) ?_
  refine Sim.iast (n := 9) dX0_ask_159 xA_160 ?_
  refine Sim.lth (fun h2 => ?_)
  refine Sim.aload_n 0 dX0_ask_160 rfl ?_
  refine Sim.getR (j := 160) fl_X0_9 dX0_ask_161 xR_159_1 ?_
  refine Sim.bipush (v := (7 : Int32)) dX0_ask_164 rfl ?_
  refine Sim.aload_n 1 dX0_ask_166 rfl ?_
  refine Sim.getI fl_X0_68 dX0_ask_167 (xI_X4_10 _ hb1) ?_
  refine Sim.iload 3 dX0_ask_170 rfl ?_
  refine Sim.callS1I (d1 := 0) (s_J6_bitCount_0f7a4 v6 h2) dX0_ask_172 ml_X0_53 mv_J6_bitCount_0f7a4 (Nat.le_of_ble_eq_true rfl) (Nat.le_of_ble_eq_true rfl) (Nat.le_of_ble_eq_true rfl) (fun x3 => ?_)
  refine Sim.isub dX0_ask_175 ?_
  refine Sim.iast (n := 9) dX0_ask_176 xA_160 ?_
  refine Sim.lth (fun h4 => ?_)
  refine Sim.aload_n 0 dX0_ask_177 rfl ?_
  refine Sim.getR (j := 160) fl_X0_9 dX0_ask_178 xR_159_1 ?_
  refine Sim.bipush (v := (8 : Int32)) dX0_ask_181 rfl ?_
  refine Sim.aload_n 1 dX0_ask_183 rfl ?_
  refine Sim.getI fl_X0_71 dX0_ask_184 (xI_X4_13 _ hb1) ?_
  refine Sim.iast (n := 9) dX0_ask_187 xA_160 ?_
  refine Sim.lth (fun h5 => ?_)
  refine Sim.aload_n 0 dX0_ask_188 rfl ?_
  refine Sim.getR (j := 1) fl_X0_15 dX0_ask_189 xR_159_0 ?_
  refine Sim.getR (j := 13) fl_X0_74 dX0_ask_192 (xR_X9_2 _ xL_X9_1) ?_
  refine Sim.iload_n 2 dX0_ask_195 rfl ?_
  refine Sim.aload_n 0 dX0_ask_196 rfl ?_
  refine Sim.getR (j := 160) fl_X0_9 dX0_ask_197 xR_159_1 ?_
  refine Sim.callV2I (d1 := 2) (s_X1_tell 13 xL_X1_13 v2 h5) dX0_ask_200 ml_X0_78 mv_X1_tell (xOC_X1 _ xL_X1_13) (Nat.le_of_ble_eq_true rfl) (Nat.le_of_ble_eq_true rfl) (Nat.le_of_ble_eq_true rfl) (fun x6 => ?_)
  exact Sim.iret dX0_ask_203 rfl
def f_X0_ask_126 (b1 : Nat)  (v2 : Int32) (v4 : Int32) (v5 : Int32) (v6 : Int32) (s0 : Int32) (s1 : Int32) (h : zHp) : Option (Int32 × zHp) := zix s1 9 (zlt (zst h 160 s1.toNatClampNeg s0) fun h1 => (if v5 = 0 then f_X0_ask_148 b1 v2 v6 (0 : Int32) (5 : Int32) h1 else zix v4 14 (f_X0_ask_148 b1 v2 v6 (h1 (b1 + 8) v4.toNatClampNeg) (5 : Int32) h1)))
set_option maxHeartbeats 4000000 in
set_option maxRecDepth 100000 in
theorem f_X0_ask_126_s (b1 : Nat) (hb1 : b1 ∈ xPorch) (v2 : Int32) (v4 : Int32) (v5 : Int32) (v6 : Int32) (s0 : Int32) (s1 : Int32) (h : zHp) : Sim wX mX0_ask 3 rI 126 [(0, .ref 159), (1, .ref b1), (2, .int v2), (4, .int v4), (5, .int v5), (6, .int v6)] [.int s0, .int s1, .ref 160] h (f_X0_ask_126 b1 v2 v4 v5 v6 s0 s1 h) := by
  unfold f_X0_ask_126
  refine Sim.iast (n := 9) dX0_ask_126 xA_160 ?_
  refine Sim.lth (fun h1 => ?_)
  refine Sim.aload_n 0 dX0_ask_127 rfl ?_
  refine Sim.getR (j := 160) fl_X0_9 dX0_ask_128 xR_159_1 ?_
  refine Sim.iconst (v := (5 : Int32)) dX0_ask_131 rfl ?_
  refine Sim.iload 4 dX0_ask_132 rfl ?_
  refine Sim.if_eq 147 dX0_ask_134 rfl ?_ ?_
  · refine Sim.iconst (v := (0 : Int32)) dX0_ask_147 rfl ?_
    refine Sim.locs [0, 1, 2, 5] rfl ?_
    exact f_X0_ask_148_s b1 hb1 v2 v6 (0 : Int32) (5 : Int32) h1
  · refine Sim.aload_n 1 dX0_ask_137 rfl ?_
    refine Sim.getR (j := (b1 + 8)) fl_X0_61 dX0_ask_138 (xR_X4_8 _ hb1) ?_
    refine Sim.iload 3 dX0_ask_141 rfl ?_
    refine Sim.iald (n := 14) dX0_ask_143 (xA_X4_8 _ hb1) ?_
    refine Sim.goto 148 dX0_ask_144 rfl ?_
    refine Sim.locs [0, 1, 2, 5] rfl ?_
    exact f_X0_ask_148_s b1 hb1 v2 v6 (h1 (b1 + 8) v4.toNatClampNeg) (5 : Int32) h1
def f_X0_ask_104 (b1 : Nat)  (v2 : Int32) (v4 : Int32) (v5 : Int32) (v6 : Int32) (s0 : Int32) (s1 : Int32) (h : zHp) : Option (Int32 × zHp) := zix s1 9 (zlt (zst h 160 s1.toNatClampNeg s0) fun h1 => (if v5 = 0 then f_X0_ask_126 b1 v2 v4 v5 v6 (0 : Int32) (4 : Int32) h1 else zix v4 14 (f_X0_ask_126 b1 v2 v4 v5 v6 (h1 (b1 + 7) v4.toNatClampNeg) (4 : Int32) h1)))
set_option maxHeartbeats 4000000 in
set_option maxRecDepth 100000 in
theorem f_X0_ask_104_s (b1 : Nat) (hb1 : b1 ∈ xPorch) (v2 : Int32) (v4 : Int32) (v5 : Int32) (v6 : Int32) (s0 : Int32) (s1 : Int32) (h : zHp) : Sim wX mX0_ask 3 rI 104 [(0, .ref 159), (1, .ref b1), (2, .int v2), (4, .int v4), (5, .int v5), (6, .int v6)] [.int s0, .int s1, .ref 160] h (f_X0_ask_104 b1 v2 v4 v5 v6 s0 s1 h) := by
  unfold f_X0_ask_104
  refine Sim.iast (n := 9) dX0_ask_104 xA_160 ?_
  refine Sim.lth (fun h1 => ?_)
  refine Sim.aload_n 0 dX0_ask_105 rfl ?_
  refine Sim.getR (j := 160) fl_X0_9 dX0_ask_106 xR_159_1 ?_
  refine Sim.iconst (v := (4 : Int32)) dX0_ask_109 rfl ?_
  refine Sim.iload 4 dX0_ask_110 rfl ?_
  refine Sim.if_eq 125 dX0_ask_112 rfl ?_ ?_
  · refine Sim.iconst (v := (0 : Int32)) dX0_ask_125 rfl ?_
    exact f_X0_ask_126_s b1 hb1 v2 v4 v5 v6 (0 : Int32) (4 : Int32) h1
  · refine Sim.aload_n 1 dX0_ask_115 rfl ?_
    refine Sim.getR (j := (b1 + 7)) fl_X0_58 dX0_ask_116 (xR_X4_7 _ hb1) ?_
    refine Sim.iload 3 dX0_ask_119 rfl ?_
    refine Sim.iald (n := 14) dX0_ask_121 (xA_X4_7 _ hb1) ?_
    refine Sim.goto 126 dX0_ask_122 rfl ?_
    exact f_X0_ask_126_s b1 hb1 v2 v4 v5 v6 (h1 (b1 + 7) v4.toNatClampNeg) (4 : Int32) h1
def f_X0_ask_69 (b1 : Nat)  (v2 : Int32) (v4 : Int32) (v5 : Int32) (v6 : Int32) (s0 : Int32) (s1 : Int32) (h : zHp) : Option (Int32 × zHp) := zix s1 9 (zlt (zst h 160 s1.toNatClampNeg s0) fun h1 => (if v5 = 0 then f_X0_ask_104 b1 v2 v4 v5 v6 (0 : Int32) (3 : Int32) h1 else (f_X2_minders 24 v4 h1).bind fun x2 => (f_J6_bitCount_0f7a4 (x2.1 &&& (v6 ^^^ (-1 : Int32))) x2.2).bind fun x3 => f_X0_ask_104 b1 v2 v4 v5 v6 x3.1 (3 : Int32) x3.2))
set_option maxHeartbeats 4000000 in
set_option maxRecDepth 100000 in
theorem f_X0_ask_69_s (b1 : Nat) (hb1 : b1 ∈ xPorch) (v2 : Int32) (v4 : Int32) (v5 : Int32) (v6 : Int32) (s0 : Int32) (s1 : Int32) (h : zHp) : Sim wX mX0_ask 3 rI 69 [(0, .ref 159), (1, .ref b1), (2, .int v2), (4, .int v4), (5, .int v5), (6, .int v6)] [.int s0, .int s1, .ref 160] h (f_X0_ask_69 b1 v2 v4 v5 v6 s0 s1 h) := by
  unfold f_X0_ask_69
  refine Sim.iast (n := 9) dX0_ask_69 xA_160 ?_
  refine Sim.lth (fun h1 => ?_)
  refine Sim.aload_n 0 dX0_ask_70 rfl ?_
  refine Sim.getR (j := 160) fl_X0_9 dX0_ask_71 xR_159_1 ?_
  refine Sim.iconst (v := (3 : Int32)) dX0_ask_74 rfl ?_
  refine Sim.iload 4 dX0_ask_75 rfl ?_
  refine Sim.if_eq 103 dX0_ask_77 rfl ?_ ?_
  · refine Sim.iconst (v := (0 : Int32)) dX0_ask_103 rfl ?_
    exact f_X0_ask_104_s b1 hb1 v2 v4 v5 v6 (0 : Int32) (3 : Int32) h1
  · refine Sim.aload_n 0 dX0_ask_80 rfl ?_
    refine Sim.getR (j := 1) fl_X0_15 dX0_ask_81 xR_159_0 ?_
    refine Sim.getR (j := 24) fl_X0_41 dX0_ask_84 (xR_X9_5 _ xL_X9_1) ?_
    refine Sim.iload 3 dX0_ask_87 rfl ?_
    refine Sim.callV1I (d1 := 1) (s_X2_minders 24 xL_X2_24 v4 h1) dX0_ask_89 ml_X0_47 mv_X2_minders (xOC_X2 _ xL_X2_24) (Nat.le_of_ble_eq_true rfl) (Nat.le_of_ble_eq_true rfl) (Nat.le_of_ble_eq_true rfl) (fun x2 => ?_)
    refine Sim.iload 5 dX0_ask_92 rfl ?_
    refine Sim.iconst (v := (-1 : Int32)) dX0_ask_94 rfl ?_
    refine Sim.ixor dX0_ask_95 ?_
    refine Sim.iand dX0_ask_96 ?_
    refine Sim.callS1I (d1 := 0) (s_J6_bitCount_0f7a4 (x2.1 &&& (v6 ^^^ (-1 : Int32))) x2.2) dX0_ask_97 ml_X0_53 mv_J6_bitCount_0f7a4 (Nat.le_of_ble_eq_true rfl) (Nat.le_of_ble_eq_true rfl) (Nat.le_of_ble_eq_true rfl) (fun x3 => ?_)
    refine Sim.goto 104 dX0_ask_100 rfl ?_
    exact f_X0_ask_104_s b1 hb1 v2 v4 v5 v6 x3.1 (3 : Int32) x3.2
def f_X0_ask (b1 : Nat) (a2 : Int32) (a3 : Int32) (a4 : Int32) (h : zHp) : Option (Int32 × zHp) := (f_X4_isChair b1 a3 h).bind fun x1 => (if x1.1 = 0 then some ((0 : Int32), x1.2) else (f_X4_isPerson b1 a4 x1.2).bind fun x2 => (f_X4_awaySet b1 x2.2).bind fun x3 => zix a3 10 (zix (0 : Int32) 9 (zlt (zst x3.2 160 (0 : Int32).toNatClampNeg (x3.2 (b1 + 1) a3.toNatClampNeg)) fun h4 => zix a3 10 (zix (1 : Int32) 9 (zlt (zst h4 160 (1 : Int32).toNatClampNeg (h4 (b1 + 2) a3.toNatClampNeg)) fun h5 => (if x2.1 = 0 then f_X0_ask_69 b1 a2 a4 x2.1 x3.1 (0 : Int32) (2 : Int32) h5 else zix a4 14 (f_X0_ask_69 b1 a2 a4 x2.1 x3.1 (h5 (b1 + 5) a4.toNatClampNeg) (2 : Int32) h5)))))))
set_option maxHeartbeats 4000000 in
set_option maxRecDepth 100000 in
theorem s_X0_ask (b1 : Nat) (hb1 : b1 ∈ xPorch) (a2 : Int32) (a3 : Int32) (a4 : Int32) (h : zHp) : Fn wX mX0_ask 3 rI [.ref 159, .ref b1, .int a2, .int a3, .int a4] h (f_X0_ask b1 a2 a3 a4 h) := by
  refine Fn.of rfl (Nat.le_of_ble_eq_true rfl) ?_
  unfold f_X0_ask
  refine Sim.aload_n 1 dX0_ask_0 rfl ?_
  refine Sim.iload_n 3 dX0_ask_1 rfl ?_
  refine Sim.callV1I (d1 := 0) (s_X4_isChair b1 hb1 a3 h) dX0_ask_2 ml_X0_19 mv_X4_isChair (xOC_X4 _ hb1) (Nat.le_of_ble_eq_true rfl) (Nat.le_of_ble_eq_true rfl) (Nat.le_of_ble_eq_true rfl) (fun x1 => ?_)
  refine Sim.if_ne 10 dX0_ask_5 rfl ?_ ?_
  · refine Sim.iconst (v := (0 : Int32)) dX0_ask_8 rfl ?_
    exact Sim.iret dX0_ask_9 rfl
  · refine Sim.aload_n 1 dX0_ask_10 rfl ?_
    refine Sim.iload 4 dX0_ask_11 rfl ?_
    refine Sim.callV1I (d1 := 0) (s_X4_isPerson b1 hb1 a4 x1.2) dX0_ask_13 ml_X0_25 mv_X4_isPerson (xOC_X4 _ hb1) (Nat.le_of_ble_eq_true rfl) (Nat.le_of_ble_eq_true rfl) (Nat.le_of_ble_eq_true rfl) (fun x2 => ?_)
    refine Sim.istore (L' := [(5, .int x2.1), (0, .ref 159), (1, .ref b1), (2, .int a2), (3, .int a3), (4, .int a4)]) dX0_ask_16 (Nat.le_of_ble_eq_true rfl) rfl ?_
    refine Sim.aload_n 2 dX0_ask_18 rfl ?_
    refine Sim.callV0I (d1 := 0) (s_X4_awaySet b1 hb1 x2.2) dX0_ask_19 ml_X0_28 mv_X4_awaySet (xOC_X4 _ hb1) (Nat.le_of_ble_eq_true rfl) (Nat.le_of_ble_eq_true rfl) (Nat.le_of_ble_eq_true rfl) (fun x3 => ?_)
    refine Sim.istore (L' := [(6, .int x3.1), (5, .int x2.1), (0, .ref 159), (1, .ref b1), (2, .int a2), (3, .int a3), (4, .int a4)]) dX0_ask_22 (Nat.le_of_ble_eq_true rfl) rfl ?_
    refine Sim.aload_n 2 dX0_ask_24 rfl ?_
    refine Sim.getR (j := 160) fl_X0_9 dX0_ask_25 xR_159_1 ?_
    refine Sim.iconst (v := (0 : Int32)) dX0_ask_28 rfl ?_
    refine Sim.aload_n 3 dX0_ask_29 rfl ?_
    refine Sim.getR (j := (b1 + 1)) fl_X0_32 dX0_ask_30 (xR_X4_1 _ hb1) ?_
    refine Sim.iload_n 5 dX0_ask_33 rfl ?_
    refine Sim.iald (n := 10) dX0_ask_34 (xA_X4_1 _ hb1) ?_
    refine Sim.iast (n := 9) dX0_ask_35 xA_160 ?_
    refine Sim.lth (fun h4 => ?_)
    refine Sim.aload_n 2 dX0_ask_36 rfl ?_
    refine Sim.getR (j := 160) fl_X0_9 dX0_ask_37 xR_159_1 ?_
    refine Sim.iconst (v := (1 : Int32)) dX0_ask_40 rfl ?_
    refine Sim.aload_n 3 dX0_ask_41 rfl ?_
    refine Sim.getR (j := (b1 + 2)) fl_X0_35 dX0_ask_42 (xR_X4_2 _ hb1) ?_
    refine Sim.iload_n 5 dX0_ask_45 rfl ?_
    refine Sim.iald (n := 10) dX0_ask_46 (xA_X4_2 _ hb1) ?_
    refine Sim.iast (n := 9) dX0_ask_47 xA_160 ?_
    refine Sim.lth (fun h5 => ?_)
    refine Sim.aload_n 2 dX0_ask_48 rfl ?_
    refine Sim.getR (j := 160) fl_X0_9 dX0_ask_49 xR_159_1 ?_
    refine Sim.iconst (v := (2 : Int32)) dX0_ask_52 rfl ?_
    refine Sim.iload 1 dX0_ask_53 rfl ?_
    refine Sim.if_eq 68 dX0_ask_55 rfl ?_ ?_
    · refine Sim.iconst (v := (0 : Int32)) dX0_ask_68 rfl ?_
      refine Sim.locs [2, 3, 4, 6, 1, 0] rfl ?_
      exact f_X0_ask_69_s b1 hb1 a2 a4 x2.1 x3.1 (0 : Int32) (2 : Int32) h5
    · refine Sim.aload_n 3 dX0_ask_58 rfl ?_
      refine Sim.getR (j := (b1 + 5)) fl_X0_38 dX0_ask_59 (xR_X4_5 _ hb1) ?_
      refine Sim.iload 6 dX0_ask_62 rfl ?_
      refine Sim.iald (n := 14) dX0_ask_64 (xA_X4_5 _ hb1) ?_
      refine Sim.goto 69 dX0_ask_65 rfl ?_
      refine Sim.locs [2, 3, 4, 6, 1, 0] rfl ?_
      exact f_X0_ask_69_s b1 hb1 a2 a4 x2.1 x3.1 (h5 (b1 + 5) a4.toNatClampNeg) (2 : Int32) h5
theorem mv_X0_ask : zMV mX0_ask 4 := ⟨⟨zTb_in 648 (by decide +kernel) rfl, zTb_in 146 (by decide +kernel) rfl, ⟨by decide +kernel, by decide +kernel⟩, by decide +kernel⟩, zTb_in 646 (by decide +kernel) rfl, zTb_in 647 (by decide +kernel) rfl⟩
-- ===== RockingPorch$Lines.add(IIII)V
abbrev mX2_add : zMt := (yX2_add, cX2_add, 6, none)
theorem fp_X2_9 : zFp RX2 9 2 2 .int := ⟨RX2, TX2, 3, tyX2, rfl, Nat.le_of_ble_eq_true rfl, zTb_in 259 (by decide +kernel) rfl, in_X2, tyX2_ok, nmX2, rfl, rfl⟩
theorem dX2_add_0 : decode cX2_add 0 = .ok (.aload_n 0, 1) := by decide +kernel
theorem dX2_add_1 : decode cX2_add 1 = .ok (.getfield 9, 3) := by decide +kernel
theorem dX2_add_4 : decode cX2_add 4 = .ok (.aload_n 0, 1) := by decide +kernel
theorem dX2_add_5 : decode cX2_add 5 = .ok (.getfield 15, 3) := by decide +kernel
theorem dX2_add_8 : decode cX2_add 8 = .ok (.if_icmp .lt 4, 3) := by decide +kernel
theorem dX2_add_11 : decode cX2_add 11 = .ok (.return_, 1) := by decide +kernel
theorem dX2_add_12 : decode cX2_add 12 = .ok (.aload_n 0, 1) := by decide +kernel
theorem dX2_add_13 : decode cX2_add 13 = .ok (.getfield 9, 3) := by decide +kernel
theorem dX2_add_16 : decode cX2_add 16 = .ok (.iconst 4, 1) := by decide +kernel
theorem dX2_add_17 : decode cX2_add 17 = .ok (.imul, 1) := by decide +kernel
theorem dX2_add_18 : decode cX2_add 18 = .ok (.istore 5, 2) := by decide +kernel
theorem dX2_add_20 : decode cX2_add 20 = .ok (.aload_n 0, 1) := by decide +kernel
theorem dX2_add_21 : decode cX2_add 21 = .ok (.getfield 18, 3) := by decide +kernel
theorem dX2_add_24 : decode cX2_add 24 = .ok (.iload 5, 2) := by decide +kernel
theorem dX2_add_26 : decode cX2_add 26 = .ok (.iconst 0, 1) := by decide +kernel
theorem dX2_add_27 : decode cX2_add 27 = .ok (.iadd, 1) := by decide +kernel
theorem dX2_add_28 : decode cX2_add 28 = .ok (.iload_n 1, 1) := by decide +kernel
theorem dX2_add_29 : decode cX2_add 29 = .ok (.iastore, 1) := by decide +kernel
theorem dX2_add_30 : decode cX2_add 30 = .ok (.aload_n 0, 1) := by decide +kernel
theorem dX2_add_31 : decode cX2_add 31 = .ok (.getfield 18, 3) := by decide +kernel
theorem dX2_add_34 : decode cX2_add 34 = .ok (.iload 5, 2) := by decide +kernel
theorem dX2_add_36 : decode cX2_add 36 = .ok (.iconst 1, 1) := by decide +kernel
theorem dX2_add_37 : decode cX2_add 37 = .ok (.iadd, 1) := by decide +kernel
theorem dX2_add_38 : decode cX2_add 38 = .ok (.iload_n 2, 1) := by decide +kernel
theorem dX2_add_39 : decode cX2_add 39 = .ok (.iastore, 1) := by decide +kernel
theorem dX2_add_40 : decode cX2_add 40 = .ok (.aload_n 0, 1) := by decide +kernel
theorem dX2_add_41 : decode cX2_add 41 = .ok (.getfield 18, 3) := by decide +kernel
theorem dX2_add_44 : decode cX2_add 44 = .ok (.iload 5, 2) := by decide +kernel
theorem dX2_add_46 : decode cX2_add 46 = .ok (.iconst 2, 1) := by decide +kernel
theorem dX2_add_47 : decode cX2_add 47 = .ok (.iadd, 1) := by decide +kernel
theorem dX2_add_48 : decode cX2_add 48 = .ok (.iload_n 3, 1) := by decide +kernel
theorem dX2_add_49 : decode cX2_add 49 = .ok (.iastore, 1) := by decide +kernel
theorem dX2_add_50 : decode cX2_add 50 = .ok (.aload_n 0, 1) := by decide +kernel
theorem dX2_add_51 : decode cX2_add 51 = .ok (.getfield 18, 3) := by decide +kernel
theorem dX2_add_54 : decode cX2_add 54 = .ok (.iload 5, 2) := by decide +kernel
theorem dX2_add_56 : decode cX2_add 56 = .ok (.iconst 3, 1) := by decide +kernel
theorem dX2_add_57 : decode cX2_add 57 = .ok (.iadd, 1) := by decide +kernel
theorem dX2_add_58 : decode cX2_add 58 = .ok (.iload 4, 2) := by decide +kernel
theorem dX2_add_60 : decode cX2_add 60 = .ok (.iastore, 1) := by decide +kernel
theorem dX2_add_61 : decode cX2_add 61 = .ok (.aload_n 0, 1) := by decide +kernel
theorem dX2_add_62 : decode cX2_add 62 = .ok (.dup, 1) := by decide +kernel
theorem dX2_add_63 : decode cX2_add 63 = .ok (.getfield 9, 3) := by decide +kernel
theorem dX2_add_66 : decode cX2_add 66 = .ok (.iconst 1, 1) := by decide +kernel
theorem dX2_add_67 : decode cX2_add 67 = .ok (.iadd, 1) := by decide +kernel
theorem dX2_add_68 : decode cX2_add 68 = .ok (.putfield 9, 3) := by decide +kernel
theorem dX2_add_71 : decode cX2_add 71 = .ok (.return_, 1) := by decide +kernel
def f_X2_add (o : Nat) (a1 : Int32) (a2 : Int32) (a3 : Int32) (a4 : Int32) (h : zHp) : Option (zHp) := (if (h o 2) < (h o 0) then zlt ((h o 2) * (4 : Int32)) fun x1 => zix (x1 + (0 : Int32)) (zln wX (o + 1)) (zlt (zst h (o + 1) (x1 + (0 : Int32)).toNatClampNeg a1) fun h2 => zix (x1 + (1 : Int32)) (zln wX (o + 1)) (zlt (zst h2 (o + 1) (x1 + (1 : Int32)).toNatClampNeg a2) fun h3 => zix (x1 + (2 : Int32)) (zln wX (o + 1)) (zlt (zst h3 (o + 1) (x1 + (2 : Int32)).toNatClampNeg a3) fun h4 => zix (x1 + (3 : Int32)) (zln wX (o + 1)) (zlt (zst h4 (o + 1) (x1 + (3 : Int32)).toNatClampNeg a4) fun h5 => zlt (zst h5 o 2 ((h5 o 2) + (1 : Int32))) fun h6 => some h6)))) else some h)
set_option maxHeartbeats 4000000 in
set_option maxRecDepth 100000 in
theorem s_X2_add (o : Nat) (ho : o ∈ xLines) (a1 : Int32) (a2 : Int32) (a3 : Int32) (a4 : Int32) (h : zHp) : Fn wX mX2_add 0 rV [.ref o, .int a1, .int a2, .int a3, .int a4] h (f_X2_add o a1 a2 a3 a4 h) := by
  refine Fn.of rfl (Nat.le_of_ble_eq_true rfl) ?_
  unfold f_X2_add
  refine Sim.aload_n 0 dX2_add_0 rfl ?_
  refine Sim.getI fl_X2_9 dX2_add_1 (xI_X2_2 _ ho) ?_
  refine Sim.aload_n 0 dX2_add_4 rfl ?_
  refine Sim.getI fl_X2_15 dX2_add_5 (xI_X2_0 _ ho) ?_
  refine Sim.icmp_lt 12 dX2_add_8 rfl ?_ ?_
  · refine Sim.aload_n 0 dX2_add_12 rfl ?_
    refine Sim.getI fl_X2_9 dX2_add_13 (xI_X2_2 _ ho) ?_
    refine Sim.iconst (v := (4 : Int32)) dX2_add_16 rfl ?_
    refine Sim.imul dX2_add_17 ?_
    refine Sim.lti (fun x1 => ?_)
    refine Sim.istore (L' := [(5, .int x1), (0, .ref o), (1, .int a1), (2, .int a2), (3, .int a3), (4, .int a4)]) dX2_add_18 (Nat.le_of_ble_eq_true rfl) rfl ?_
    refine Sim.aload_n 1 dX2_add_20 rfl ?_
    refine Sim.getR (j := (o + 1)) fl_X2_18 dX2_add_21 (xR_X2_1 _ ho) ?_
    refine Sim.iload 0 dX2_add_24 rfl ?_
    refine Sim.iconst (v := (0 : Int32)) dX2_add_26 rfl ?_
    refine Sim.iadd dX2_add_27 ?_
    refine Sim.iload_n 2 dX2_add_28 rfl ?_
    refine Sim.iast (n := (zln wX (o + 1))) dX2_add_29 (xA_X2_1 _ ho) ?_
    refine Sim.lth (fun h2 => ?_)
    refine Sim.aload_n 1 dX2_add_30 rfl ?_
    refine Sim.getR (j := (o + 1)) fl_X2_18 dX2_add_31 (xR_X2_1 _ ho) ?_
    refine Sim.iload 0 dX2_add_34 rfl ?_
    refine Sim.iconst (v := (1 : Int32)) dX2_add_36 rfl ?_
    refine Sim.iadd dX2_add_37 ?_
    refine Sim.iload_n 3 dX2_add_38 rfl ?_
    refine Sim.iast (n := (zln wX (o + 1))) dX2_add_39 (xA_X2_1 _ ho) ?_
    refine Sim.lth (fun h3 => ?_)
    refine Sim.aload_n 1 dX2_add_40 rfl ?_
    refine Sim.getR (j := (o + 1)) fl_X2_18 dX2_add_41 (xR_X2_1 _ ho) ?_
    refine Sim.iload 0 dX2_add_44 rfl ?_
    refine Sim.iconst (v := (2 : Int32)) dX2_add_46 rfl ?_
    refine Sim.iadd dX2_add_47 ?_
    refine Sim.iload_n 4 dX2_add_48 rfl ?_
    refine Sim.iast (n := (zln wX (o + 1))) dX2_add_49 (xA_X2_1 _ ho) ?_
    refine Sim.lth (fun h4 => ?_)
    refine Sim.aload_n 1 dX2_add_50 rfl ?_
    refine Sim.getR (j := (o + 1)) fl_X2_18 dX2_add_51 (xR_X2_1 _ ho) ?_
    refine Sim.iload 0 dX2_add_54 rfl ?_
    refine Sim.iconst (v := (3 : Int32)) dX2_add_56 rfl ?_
    refine Sim.iadd dX2_add_57 ?_
    refine Sim.iload 5 dX2_add_58 rfl ?_
    refine Sim.iast (n := (zln wX (o + 1))) dX2_add_60 (xA_X2_1 _ ho) ?_
    refine Sim.lth (fun h5 => ?_)
    refine Sim.aload_n 1 dX2_add_61 rfl ?_
    refine Sim.dup dX2_add_62 rfl ?_
    refine Sim.getI fl_X2_9 dX2_add_63 (xI_X2_2 _ ho) ?_
    refine Sim.iconst (v := (1 : Int32)) dX2_add_66 rfl ?_
    refine Sim.iadd dX2_add_67 ?_
    refine Sim.put fp_X2_9 dX2_add_68 (xI_X2_2 _ ho) rfl rfl ?_
    refine Sim.lth (fun h6 => ?_)
    exact Sim.vret dX2_add_71 rfl
  · exact Sim.vret dX2_add_11 rfl
theorem mv_X2_add : zMV mX2_add 4 := ⟨⟨zTb_in 635 (by decide +kernel) rfl, zTb_in 140 (by decide +kernel) rfl, ⟨by decide +kernel, by decide +kernel⟩, by decide +kernel⟩, zTb_in 633 (by decide +kernel) rfl, zTb_in 634 (by decide +kernel) rfl⟩
-- ===== RockingPorch$Doing.note(LRockingPorch$Porch;III)V
abbrev mX0_note : zMt := (yX0_note, cX0_note, 5, none)
theorem fl_X0_84 : zF RX0 84 4 0 := ⟨RX4, TX4, 15, rfl, Nat.le_of_ble_eq_true rfl, zTb_in 178 (by decide +kernel) rfl, in_X4⟩
theorem fl_X0_88 : zF RX0 88 9 1 := ⟨RX9, TX9, 7, rfl, Nat.le_of_ble_eq_true rfl, zTb_in 363 (by decide +kernel) rfl, in_X9⟩
theorem ml_X0_91 : Cond.methodLink RX0 91 yX2_add ∈ zTb := zTb_in 632 (by decide +kernel) rfl
theorem dX0_note_0 : decode cX0_note 0 = .ok (.aload_n 1, 1) := by decide +kernel
theorem dX0_note_1 : decode cX0_note 1 = .ok (.getfield 84, 3) := by decide +kernel
theorem dX0_note_4 : decode cX0_note 4 = .ok (.ifCond .ne 21, 3) := by decide +kernel
theorem dX0_note_7 : decode cX0_note 7 = .ok (.aload_n 0, 1) := by decide +kernel
theorem dX0_note_8 : decode cX0_note 8 = .ok (.getfield 15, 3) := by decide +kernel
theorem dX0_note_11 : decode cX0_note 11 = .ok (.getfield 88, 3) := by decide +kernel
theorem dX0_note_14 : decode cX0_note 14 = .ok (.aload_n 1, 1) := by decide +kernel
theorem dX0_note_15 : decode cX0_note 15 = .ok (.getfield 71, 3) := by decide +kernel
theorem dX0_note_18 : decode cX0_note 18 = .ok (.iload_n 2, 1) := by decide +kernel
theorem dX0_note_19 : decode cX0_note 19 = .ok (.iload_n 3, 1) := by decide +kernel
theorem dX0_note_20 : decode cX0_note 20 = .ok (.iload 4, 2) := by decide +kernel
theorem dX0_note_22 : decode cX0_note 22 = .ok (.invokevirtual 91, 3) := by decide +kernel
theorem dX0_note_25 : decode cX0_note 25 = .ok (.return_, 1) := by decide +kernel
def f_X0_note (b1 : Nat) (a2 : Int32) (a3 : Int32) (a4 : Int32) (h : zHp) : Option (zHp) := (if (h b1 0) = 0 then (f_X2_add 11 (h b1 13) a2 a3 a4 h).bind fun x1 => some x1 else some h)
set_option maxHeartbeats 4000000 in
set_option maxRecDepth 100000 in
theorem s_X0_note (b1 : Nat) (hb1 : b1 ∈ xPorch) (a2 : Int32) (a3 : Int32) (a4 : Int32) (h : zHp) : Fn wX mX0_note 1 rV [.ref 159, .ref b1, .int a2, .int a3, .int a4] h (f_X0_note b1 a2 a3 a4 h) := by
  refine Fn.of rfl (Nat.le_of_ble_eq_true rfl) ?_
  unfold f_X0_note
  refine Sim.aload_n 1 dX0_note_0 rfl ?_
  refine Sim.getI fl_X0_84 dX0_note_1 (xI_X4_0 _ hb1) ?_
  refine Sim.if_ne 25 dX0_note_4 rfl ?_ ?_
  · refine Sim.aload_n 0 dX0_note_7 rfl ?_
    refine Sim.getR (j := 1) fl_X0_15 dX0_note_8 xR_159_0 ?_
    refine Sim.getR (j := 11) fl_X0_88 dX0_note_11 (xR_X9_1 _ xL_X9_1) ?_
    refine Sim.aload_n 1 dX0_note_14 rfl ?_
    refine Sim.getI fl_X0_71 dX0_note_15 (xI_X4_13 _ hb1) ?_
    refine Sim.iload_n 2 dX0_note_18 rfl ?_
    refine Sim.iload_n 3 dX0_note_19 rfl ?_
    refine Sim.iload 4 dX0_note_20 rfl ?_
    refine Sim.callV4U (d1 := 0) (s_X2_add 11 xL_X2_11 (h b1 13) a2 a3 a4 h) dX0_note_22 ml_X0_91 mv_X2_add (xOC_X2 _ xL_X2_11) (Nat.le_of_ble_eq_true rfl) (Nat.le_of_ble_eq_true rfl) (Nat.le_of_ble_eq_true rfl) (fun x1 => ?_)
    exact Sim.vret dX0_note_25 rfl
  · exact Sim.vret dX0_note_25 rfl
theorem mv_X0_note : zMV mX0_note 4 := ⟨⟨zTb_in 631 (by decide +kernel) rfl, zTb_in 146 (by decide +kernel) rfl, ⟨by decide +kernel, by decide +kernel⟩, by decide +kernel⟩, zTb_in 630 (by decide +kernel) rfl, zTb_in 2 (by decide +kernel) rfl⟩
-- ===== RockingPorch$Porch.is(II)Z
abbrev mX4_is : zMt := (yX4_is, cX4_is, 3, some .boolean)
theorem ml_X4_69 : Cond.methodLink RX4 69 yX4_isPerson ∈ zTb := zTb_in 603 (by decide +kernel) rfl
theorem dX4_is_0 : decode cX4_is 0 = .ok (.aload_n 0, 1) := by decide +kernel
theorem dX4_is_1 : decode cX4_is 1 = .ok (.iload_n 1, 1) := by decide +kernel
theorem dX4_is_2 : decode cX4_is 2 = .ok (.invokevirtual 69, 3) := by decide +kernel
theorem dX4_is_5 : decode cX4_is 5 = .ok (.ifCond .eq 17, 3) := by decide +kernel
theorem dX4_is_8 : decode cX4_is 8 = .ok (.aload_n 0, 1) := by decide +kernel
theorem dX4_is_9 : decode cX4_is 9 = .ok (.getfield 27, 3) := by decide +kernel
theorem dX4_is_12 : decode cX4_is 12 = .ok (.iload_n 1, 1) := by decide +kernel
theorem dX4_is_13 : decode cX4_is 13 = .ok (.iaload, 1) := by decide +kernel
theorem dX4_is_14 : decode cX4_is 14 = .ok (.iload_n 2, 1) := by decide +kernel
theorem dX4_is_15 : decode cX4_is 15 = .ok (.if_icmp .ne 7, 3) := by decide +kernel
theorem dX4_is_18 : decode cX4_is 18 = .ok (.iconst 1, 1) := by decide +kernel
theorem dX4_is_19 : decode cX4_is 19 = .ok (.goto 4, 3) := by decide +kernel
theorem dX4_is_22 : decode cX4_is 22 = .ok (.iconst 0, 1) := by decide +kernel
theorem dX4_is_23 : decode cX4_is 23 = .ok (.ireturn, 1) := by decide +kernel
def f_X4_is (o : Nat) (a1 : Int32) (a2 : Int32) (h : zHp) : Option (Int32 × zHp) := (f_X4_isPerson o a1 h).bind fun x1 => (if x1.1 = 0 then some ((0 : Int32), x1.2) else zix a1 14 ((if (x1.2 (o + 6) a1.toNatClampNeg) = a2 then some ((1 : Int32), x1.2) else some ((0 : Int32), x1.2))))
set_option maxHeartbeats 4000000 in
set_option maxRecDepth 100000 in
theorem s_X4_is (o : Nat) (ho : o ∈ xPorch) (a1 : Int32) (a2 : Int32) (h : zHp) : Fn wX mX4_is 1 rI [.ref o, .int a1, .int a2] h (f_X4_is o a1 a2 h) := by
  refine Fn.of rfl (Nat.le_of_ble_eq_true rfl) ?_
  unfold f_X4_is
  refine Sim.aload_n 0 dX4_is_0 rfl ?_
  refine Sim.iload_n 1 dX4_is_1 rfl ?_
  refine Sim.callV1I (d1 := 0) (s_X4_isPerson o ho a1 h) dX4_is_2 ml_X4_69 mv_X4_isPerson (xOC_X4 _ ho) (Nat.le_of_ble_eq_true rfl) (Nat.le_of_ble_eq_true rfl) (Nat.le_of_ble_eq_true rfl) (fun x1 => ?_)
  refine Sim.if_eq 22 dX4_is_5 rfl ?_ ?_
  · refine Sim.iconst (v := (0 : Int32)) dX4_is_22 rfl ?_
    exact Sim.nret dX4_is_23 rfl rfl
  · refine Sim.aload_n 0 dX4_is_8 rfl ?_
    refine Sim.getR (j := (o + 6)) fl_X4_27 dX4_is_9 (xR_X4_6 _ ho) ?_
    refine Sim.iload_n 1 dX4_is_12 rfl ?_
    refine Sim.iald (n := 14) dX4_is_13 (xA_X4_6 _ ho) ?_
    refine Sim.iload_n 2 dX4_is_14 rfl ?_
    refine Sim.icmp_ne 22 dX4_is_15 rfl ?_ ?_
    · refine Sim.iconst (v := (1 : Int32)) dX4_is_18 rfl ?_
      refine Sim.goto 23 dX4_is_19 rfl ?_
      exact Sim.nret dX4_is_23 rfl rfl
    · refine Sim.iconst (v := (0 : Int32)) dX4_is_22 rfl ?_
      exact Sim.nret dX4_is_23 rfl rfl
theorem mv_X4_is : zMV mX4_is 2 := ⟨⟨zTb_in 602 (by decide +kernel) rfl, zTb_in 139 (by decide +kernel) rfl, ⟨by decide +kernel, by decide +kernel⟩, by decide +kernel⟩, zTb_in 600 (by decide +kernel) rfl, zTb_in 601 (by decide +kernel) rfl⟩
-- ===== RockingPorch$Porch.isFree(I)Z
abbrev mX4_isFree : zMt := (yX4_isFree, cX4_isFree, 2, some .boolean)
theorem fl_X4_15 : zF RX4 15 4 2 := ⟨RX4, TX4, 15, rfl, Nat.le_of_ble_eq_true rfl, zTb_in 182 (by decide +kernel) rfl, in_X4⟩
theorem fl_X4_21 : zF RX4 21 4 4 := ⟨RX4, TX4, 15, rfl, Nat.le_of_ble_eq_true rfl, zTb_in 188 (by decide +kernel) rfl, in_X4⟩
theorem ml_X4_73 : Cond.methodLink RX4 73 yX4_isChair ∈ zTb := zTb_in 589 (by decide +kernel) rfl
theorem dX4_isFree_0 : decode cX4_isFree 0 = .ok (.aload_n 0, 1) := by decide +kernel
theorem dX4_isFree_1 : decode cX4_isFree 1 = .ok (.iload_n 1, 1) := by decide +kernel
theorem dX4_isFree_2 : decode cX4_isFree 2 = .ok (.invokevirtual 73, 3) := by decide +kernel
theorem dX4_isFree_5 : decode cX4_isFree 5 = .ok (.ifCond .eq 26, 3) := by decide +kernel
theorem dX4_isFree_8 : decode cX4_isFree 8 = .ok (.aload_n 0, 1) := by decide +kernel
theorem dX4_isFree_9 : decode cX4_isFree 9 = .ok (.getfield 15, 3) := by decide +kernel
theorem dX4_isFree_12 : decode cX4_isFree 12 = .ok (.iload_n 1, 1) := by decide +kernel
theorem dX4_isFree_13 : decode cX4_isFree 13 = .ok (.iaload, 1) := by decide +kernel
theorem dX4_isFree_14 : decode cX4_isFree 14 = .ok (.ifCond .ne 17, 3) := by decide +kernel
theorem dX4_isFree_17 : decode cX4_isFree 17 = .ok (.aload_n 0, 1) := by decide +kernel
theorem dX4_isFree_18 : decode cX4_isFree 18 = .ok (.getfield 21, 3) := by decide +kernel
theorem dX4_isFree_21 : decode cX4_isFree 21 = .ok (.iload_n 1, 1) := by decide +kernel
theorem dX4_isFree_22 : decode cX4_isFree 22 = .ok (.iaload, 1) := by decide +kernel
theorem dX4_isFree_23 : decode cX4_isFree 23 = .ok (.iconst (-1), 1) := by decide +kernel
theorem dX4_isFree_24 : decode cX4_isFree 24 = .ok (.if_icmp .ne 7, 3) := by decide +kernel
theorem dX4_isFree_27 : decode cX4_isFree 27 = .ok (.iconst 1, 1) := by decide +kernel
theorem dX4_isFree_28 : decode cX4_isFree 28 = .ok (.goto 4, 3) := by decide +kernel
theorem dX4_isFree_31 : decode cX4_isFree 31 = .ok (.iconst 0, 1) := by decide +kernel
theorem dX4_isFree_32 : decode cX4_isFree 32 = .ok (.ireturn, 1) := by decide +kernel
def f_X4_isFree (o : Nat) (a1 : Int32) (h : zHp) : Option (Int32 × zHp) := (f_X4_isChair o a1 h).bind fun x1 => (if x1.1 = 0 then some ((0 : Int32), x1.2) else zix a1 10 ((if (x1.2 (o + 2) a1.toNatClampNeg) = 0 then zix a1 10 ((if (x1.2 (o + 4) a1.toNatClampNeg) = (-1 : Int32) then some ((1 : Int32), x1.2) else some ((0 : Int32), x1.2))) else some ((0 : Int32), x1.2))))
set_option maxHeartbeats 4000000 in
set_option maxRecDepth 100000 in
theorem s_X4_isFree (o : Nat) (ho : o ∈ xPorch) (a1 : Int32) (h : zHp) : Fn wX mX4_isFree 1 rI [.ref o, .int a1] h (f_X4_isFree o a1 h) := by
  refine Fn.of rfl (Nat.le_of_ble_eq_true rfl) ?_
  unfold f_X4_isFree
  refine Sim.aload_n 0 dX4_isFree_0 rfl ?_
  refine Sim.iload_n 1 dX4_isFree_1 rfl ?_
  refine Sim.callV1I (d1 := 0) (s_X4_isChair o ho a1 h) dX4_isFree_2 ml_X4_73 mv_X4_isChair (xOC_X4 _ ho) (Nat.le_of_ble_eq_true rfl) (Nat.le_of_ble_eq_true rfl) (Nat.le_of_ble_eq_true rfl) (fun x1 => ?_)
  refine Sim.if_eq 31 dX4_isFree_5 rfl ?_ ?_
  · refine Sim.iconst (v := (0 : Int32)) dX4_isFree_31 rfl ?_
    exact Sim.nret dX4_isFree_32 rfl rfl
  · refine Sim.aload_n 0 dX4_isFree_8 rfl ?_
    refine Sim.getR (j := (o + 2)) fl_X4_15 dX4_isFree_9 (xR_X4_2 _ ho) ?_
    refine Sim.iload_n 1 dX4_isFree_12 rfl ?_
    refine Sim.iald (n := 10) dX4_isFree_13 (xA_X4_2 _ ho) ?_
    refine Sim.if_ne 31 dX4_isFree_14 rfl ?_ ?_
    · refine Sim.aload_n 0 dX4_isFree_17 rfl ?_
      refine Sim.getR (j := (o + 4)) fl_X4_21 dX4_isFree_18 (xR_X4_4 _ ho) ?_
      refine Sim.iload_n 1 dX4_isFree_21 rfl ?_
      refine Sim.iald (n := 10) dX4_isFree_22 (xA_X4_4 _ ho) ?_
      refine Sim.iconst (v := (-1 : Int32)) dX4_isFree_23 rfl ?_
      refine Sim.icmp_ne 31 dX4_isFree_24 rfl ?_ ?_
      · refine Sim.iconst (v := (1 : Int32)) dX4_isFree_27 rfl ?_
        refine Sim.goto 32 dX4_isFree_28 rfl ?_
        exact Sim.nret dX4_isFree_32 rfl rfl
      · refine Sim.iconst (v := (0 : Int32)) dX4_isFree_31 rfl ?_
        exact Sim.nret dX4_isFree_32 rfl rfl
    · refine Sim.iconst (v := (0 : Int32)) dX4_isFree_31 rfl ?_
      exact Sim.nret dX4_isFree_32 rfl rfl
theorem mv_X4_isFree : zMV mX4_isFree 1 := ⟨⟨zTb_in 607 (by decide +kernel) rfl, zTb_in 139 (by decide +kernel) rfl, ⟨by decide +kernel, by decide +kernel⟩, by decide +kernel⟩, zTb_in 605 (by decide +kernel) rfl, zTb_in 606 (by decide +kernel) rfl⟩
-- ===== RockingPorch$Doing.sitDown(LRockingPorch$Porch;II)Z
abbrev mX0_sitDown : zMt := (yX0_sitDown, cX0_sitDown, 4, some .boolean)
theorem fl_X0_102 : zF RX0 102 4 4 := ⟨RX4, TX4, 15, rfl, Nat.le_of_ble_eq_true rfl, zTb_in 189 (by decide +kernel) rfl, in_X4⟩
theorem fl_X0_105 : zF RX0 105 4 6 := ⟨RX4, TX4, 15, rfl, Nat.le_of_ble_eq_true rfl, zTb_in 195 (by decide +kernel) rfl, in_X4⟩
theorem ml_X0_108 : Cond.methodLink RX0 108 yX0_note ∈ zTb := zTb_in 628 (by decide +kernel) rfl
theorem ml_X0_95 : Cond.methodLink RX0 95 yX4_is ∈ zTb := zTb_in 626 (by decide +kernel) rfl
theorem ml_X0_99 : Cond.methodLink RX0 99 yX4_isFree ∈ zTb := zTb_in 627 (by decide +kernel) rfl
theorem dX0_sitDown_0 : decode cX0_sitDown 0 = .ok (.aload_n 1, 1) := by decide +kernel
theorem dX0_sitDown_1 : decode cX0_sitDown 1 = .ok (.iload_n 2, 1) := by decide +kernel
theorem dX0_sitDown_2 : decode cX0_sitDown 2 = .ok (.iconst 1, 1) := by decide +kernel
theorem dX0_sitDown_3 : decode cX0_sitDown 3 = .ok (.invokevirtual 95, 3) := by decide +kernel
theorem dX0_sitDown_6 : decode cX0_sitDown 6 = .ok (.ifCond .eq 11, 3) := by decide +kernel
theorem dX0_sitDown_9 : decode cX0_sitDown 9 = .ok (.aload_n 1, 1) := by decide +kernel
theorem dX0_sitDown_10 : decode cX0_sitDown 10 = .ok (.iload_n 3, 1) := by decide +kernel
theorem dX0_sitDown_11 : decode cX0_sitDown 11 = .ok (.invokevirtual 99, 3) := by decide +kernel
theorem dX0_sitDown_14 : decode cX0_sitDown 14 = .ok (.ifCond .ne 5, 3) := by decide +kernel
theorem dX0_sitDown_17 : decode cX0_sitDown 17 = .ok (.iconst 0, 1) := by decide +kernel
theorem dX0_sitDown_18 : decode cX0_sitDown 18 = .ok (.ireturn, 1) := by decide +kernel
theorem dX0_sitDown_19 : decode cX0_sitDown 19 = .ok (.aload_n 1, 1) := by decide +kernel
theorem dX0_sitDown_20 : decode cX0_sitDown 20 = .ok (.getfield 102, 3) := by decide +kernel
theorem dX0_sitDown_23 : decode cX0_sitDown 23 = .ok (.iload_n 3, 1) := by decide +kernel
theorem dX0_sitDown_24 : decode cX0_sitDown 24 = .ok (.iload_n 2, 1) := by decide +kernel
theorem dX0_sitDown_25 : decode cX0_sitDown 25 = .ok (.iastore, 1) := by decide +kernel
theorem dX0_sitDown_26 : decode cX0_sitDown 26 = .ok (.aload_n 1, 1) := by decide +kernel
theorem dX0_sitDown_27 : decode cX0_sitDown 27 = .ok (.getfield 105, 3) := by decide +kernel
theorem dX0_sitDown_30 : decode cX0_sitDown 30 = .ok (.iload_n 2, 1) := by decide +kernel
theorem dX0_sitDown_31 : decode cX0_sitDown 31 = .ok (.iconst 2, 1) := by decide +kernel
theorem dX0_sitDown_32 : decode cX0_sitDown 32 = .ok (.iastore, 1) := by decide +kernel
theorem dX0_sitDown_33 : decode cX0_sitDown 33 = .ok (.aload_n 1, 1) := by decide +kernel
theorem dX0_sitDown_34 : decode cX0_sitDown 34 = .ok (.getfield 61, 3) := by decide +kernel
theorem dX0_sitDown_37 : decode cX0_sitDown 37 = .ok (.iload_n 2, 1) := by decide +kernel
theorem dX0_sitDown_38 : decode cX0_sitDown 38 = .ok (.dup2, 1) := by decide +kernel
theorem dX0_sitDown_39 : decode cX0_sitDown 39 = .ok (.iaload, 1) := by decide +kernel
theorem dX0_sitDown_40 : decode cX0_sitDown 40 = .ok (.iconst 1, 1) := by decide +kernel
theorem dX0_sitDown_41 : decode cX0_sitDown 41 = .ok (.iadd, 1) := by decide +kernel
theorem dX0_sitDown_42 : decode cX0_sitDown 42 = .ok (.iastore, 1) := by decide +kernel
theorem dX0_sitDown_43 : decode cX0_sitDown 43 = .ok (.aload_n 0, 1) := by decide +kernel
theorem dX0_sitDown_44 : decode cX0_sitDown 44 = .ok (.aload_n 1, 1) := by decide +kernel
theorem dX0_sitDown_45 : decode cX0_sitDown 45 = .ok (.iconst 0, 1) := by decide +kernel
theorem dX0_sitDown_46 : decode cX0_sitDown 46 = .ok (.iload_n 2, 1) := by decide +kernel
theorem dX0_sitDown_47 : decode cX0_sitDown 47 = .ok (.iload_n 3, 1) := by decide +kernel
theorem dX0_sitDown_48 : decode cX0_sitDown 48 = .ok (.invokevirtual 108, 3) := by decide +kernel
theorem dX0_sitDown_51 : decode cX0_sitDown 51 = .ok (.iconst 1, 1) := by decide +kernel
theorem dX0_sitDown_52 : decode cX0_sitDown 52 = .ok (.ireturn, 1) := by decide +kernel
def f_X0_sitDown (b1 : Nat) (a2 : Int32) (a3 : Int32) (h : zHp) : Option (Int32 × zHp) := (f_X4_is b1 a2 (1 : Int32) h).bind fun x1 => (if x1.1 = 0 then some ((0 : Int32), x1.2) else (f_X4_isFree b1 a3 x1.2).bind fun x2 => (if x2.1 = 0 then some ((0 : Int32), x2.2) else zix a3 10 (zlt (zst x2.2 (b1 + 4) a3.toNatClampNeg a2) fun h3 => zix a2 14 (zlt (zst h3 (b1 + 6) a2.toNatClampNeg (2 : Int32)) fun h4 => zix a2 14 (zix a2 14 (zlt (zst h4 (b1 + 8) a2.toNatClampNeg ((h4 (b1 + 8) a2.toNatClampNeg) + (1 : Int32))) fun h5 => (f_X0_note b1 (0 : Int32) a2 a3 h5).bind fun x6 => some ((1 : Int32), x6)))))))
set_option maxHeartbeats 4000000 in
set_option maxRecDepth 100000 in
theorem s_X0_sitDown (b1 : Nat) (hb1 : b1 ∈ xPorch) (a2 : Int32) (a3 : Int32) (h : zHp) : Fn wX mX0_sitDown 2 rI [.ref 159, .ref b1, .int a2, .int a3] h (f_X0_sitDown b1 a2 a3 h) := by
  refine Fn.of rfl (Nat.le_of_ble_eq_true rfl) ?_
  unfold f_X0_sitDown
  refine Sim.aload_n 1 dX0_sitDown_0 rfl ?_
  refine Sim.iload_n 2 dX0_sitDown_1 rfl ?_
  refine Sim.iconst (v := (1 : Int32)) dX0_sitDown_2 rfl ?_
  refine Sim.callV2I (d1 := 1) (s_X4_is b1 hb1 a2 (1 : Int32) h) dX0_sitDown_3 ml_X0_95 mv_X4_is (xOC_X4 _ hb1) (Nat.le_of_ble_eq_true rfl) (Nat.le_of_ble_eq_true rfl) (Nat.le_of_ble_eq_true rfl) (fun x1 => ?_)
  refine Sim.if_eq 17 dX0_sitDown_6 rfl ?_ ?_
  · refine Sim.iconst (v := (0 : Int32)) dX0_sitDown_17 rfl ?_
    exact Sim.nret dX0_sitDown_18 rfl rfl
  · refine Sim.aload_n 1 dX0_sitDown_9 rfl ?_
    refine Sim.iload_n 3 dX0_sitDown_10 rfl ?_
    refine Sim.callV1I (d1 := 1) (s_X4_isFree b1 hb1 a3 x1.2) dX0_sitDown_11 ml_X0_99 mv_X4_isFree (xOC_X4 _ hb1) (Nat.le_of_ble_eq_true rfl) (Nat.le_of_ble_eq_true rfl) (Nat.le_of_ble_eq_true rfl) (fun x2 => ?_)
    refine Sim.if_ne 19 dX0_sitDown_14 rfl ?_ ?_
    · refine Sim.iconst (v := (0 : Int32)) dX0_sitDown_17 rfl ?_
      exact Sim.nret dX0_sitDown_18 rfl rfl
    · refine Sim.aload_n 1 dX0_sitDown_19 rfl ?_
      refine Sim.getR (j := (b1 + 4)) fl_X0_102 dX0_sitDown_20 (xR_X4_4 _ hb1) ?_
      refine Sim.iload_n 3 dX0_sitDown_23 rfl ?_
      refine Sim.iload_n 2 dX0_sitDown_24 rfl ?_
      refine Sim.iast (n := 10) dX0_sitDown_25 (xA_X4_4 _ hb1) ?_
      refine Sim.lth (fun h3 => ?_)
      refine Sim.aload_n 1 dX0_sitDown_26 rfl ?_
      refine Sim.getR (j := (b1 + 6)) fl_X0_105 dX0_sitDown_27 (xR_X4_6 _ hb1) ?_
      refine Sim.iload_n 2 dX0_sitDown_30 rfl ?_
      refine Sim.iconst (v := (2 : Int32)) dX0_sitDown_31 rfl ?_
      refine Sim.iast (n := 14) dX0_sitDown_32 (xA_X4_6 _ hb1) ?_
      refine Sim.lth (fun h4 => ?_)
      refine Sim.aload_n 1 dX0_sitDown_33 rfl ?_
      refine Sim.getR (j := (b1 + 8)) fl_X0_61 dX0_sitDown_34 (xR_X4_8 _ hb1) ?_
      refine Sim.iload_n 2 dX0_sitDown_37 rfl ?_
      refine Sim.dup2 dX0_sitDown_38 rfl rfl ?_
      refine Sim.iald (n := 14) dX0_sitDown_39 (xA_X4_8 _ hb1) ?_
      refine Sim.iconst (v := (1 : Int32)) dX0_sitDown_40 rfl ?_
      refine Sim.iadd dX0_sitDown_41 ?_
      refine Sim.iast (n := 14) dX0_sitDown_42 (xA_X4_8 _ hb1) ?_
      refine Sim.lth (fun h5 => ?_)
      refine Sim.aload_n 0 dX0_sitDown_43 rfl ?_
      refine Sim.aload_n 1 dX0_sitDown_44 rfl ?_
      refine Sim.iconst (v := (0 : Int32)) dX0_sitDown_45 rfl ?_
      refine Sim.iload_n 2 dX0_sitDown_46 rfl ?_
      refine Sim.iload_n 3 dX0_sitDown_47 rfl ?_
      refine Sim.callV4U (d1 := 1) (s_X0_note b1 hb1 (0 : Int32) a2 a3 h5) dX0_sitDown_48 ml_X0_108 mv_X0_note xO_X0 (Nat.le_of_ble_eq_true rfl) (Nat.le_of_ble_eq_true rfl) (Nat.le_of_ble_eq_true rfl) (fun x6 => ?_)
      refine Sim.iconst (v := (1 : Int32)) dX0_sitDown_51 rfl ?_
      exact Sim.nret dX0_sitDown_52 rfl rfl
theorem mv_X0_sitDown : zMV mX0_sitDown 3 := ⟨⟨zTb_in 625 (by decide +kernel) rfl, zTb_in 146 (by decide +kernel) rfl, ⟨by decide +kernel, by decide +kernel⟩, by decide +kernel⟩, zTb_in 623 (by decide +kernel) rfl, zTb_in 624 (by decide +kernel) rfl⟩
-- ===== RockingPorch$Porch.chairOf(I)I
abbrev mX4_chairOf : zMt := (yX4_chairOf, cX4_chairOf, 3, some .int)
theorem dX4_chairOf_0 : decode cX4_chairOf 0 = .ok (.iconst 0, 1) := by decide +kernel
theorem dX4_chairOf_1 : decode cX4_chairOf 1 = .ok (.istore_n 2, 1) := by decide +kernel
theorem dX4_chairOf_2 : decode cX4_chairOf 2 = .ok (.iload_n 2, 1) := by decide +kernel
theorem dX4_chairOf_3 : decode cX4_chairOf 3 = .ok (.aload_n 0, 1) := by decide +kernel
theorem dX4_chairOf_4 : decode cX4_chairOf 4 = .ok (.getfield 36, 3) := by decide +kernel
theorem dX4_chairOf_7 : decode cX4_chairOf 7 = .ok (.if_icmp .ge 29, 3) := by decide +kernel
theorem dX4_chairOf_10 : decode cX4_chairOf 10 = .ok (.aload_n 0, 1) := by decide +kernel
theorem dX4_chairOf_11 : decode cX4_chairOf 11 = .ok (.iload_n 2, 1) := by decide +kernel
theorem dX4_chairOf_12 : decode cX4_chairOf 12 = .ok (.invokevirtual 73, 3) := by decide +kernel
theorem dX4_chairOf_15 : decode cX4_chairOf 15 = .ok (.ifCond .eq 15, 3) := by decide +kernel
theorem dX4_chairOf_18 : decode cX4_chairOf 18 = .ok (.aload_n 0, 1) := by decide +kernel
theorem dX4_chairOf_19 : decode cX4_chairOf 19 = .ok (.getfield 21, 3) := by decide +kernel
theorem dX4_chairOf_22 : decode cX4_chairOf 22 = .ok (.iload_n 2, 1) := by decide +kernel
theorem dX4_chairOf_23 : decode cX4_chairOf 23 = .ok (.iaload, 1) := by decide +kernel
theorem dX4_chairOf_24 : decode cX4_chairOf 24 = .ok (.iload_n 1, 1) := by decide +kernel
theorem dX4_chairOf_25 : decode cX4_chairOf 25 = .ok (.if_icmp .ne 5, 3) := by decide +kernel
theorem dX4_chairOf_28 : decode cX4_chairOf 28 = .ok (.iload_n 2, 1) := by decide +kernel
theorem dX4_chairOf_29 : decode cX4_chairOf 29 = .ok (.ireturn, 1) := by decide +kernel
theorem dX4_chairOf_30 : decode cX4_chairOf 30 = .ok (.iinc 2 1, 3) := by decide +kernel
theorem dX4_chairOf_33 : decode cX4_chairOf 33 = .ok (.goto (-31), 3) := by decide +kernel
theorem dX4_chairOf_36 : decode cX4_chairOf 36 = .ok (.iconst (-1), 1) := by decide +kernel
theorem dX4_chairOf_37 : decode cX4_chairOf 37 = .ok (.ireturn, 1) := by decide +kernel
def f_X4_chairOf_2 (o : Nat) (k2 : Int32 × Int32 × zHp → Option (Int32 × zHp)) (v1 : Int32) (v2 : Int32) (h : zHp) : Option (Int32 × zHp) := (if v2 < (h o 9) then (f_X4_isChair o v2 h).bind fun x1 => (if x1.1 = 0 then k2 (v1, (v2 + (1 : Int32)), x1.2) else zix v2 10 ((if (x1.2 (o + 4) v2.toNatClampNeg) = v1 then some (v2, x1.2) else k2 (v1, (v2 + (1 : Int32)), x1.2)))) else some ((-1 : Int32), h))
set_option maxHeartbeats 4000000 in
set_option maxRecDepth 100000 in
theorem f_X4_chairOf_2_s (o : Nat) (ho : o ∈ xPorch) (k2 : Int32 × Int32 × zHp → Option (Int32 × zHp)) (H2 : ∀ v : Int32 × Int32 × zHp, Sim wX mX4_chairOf 1 rI 2 [(0, .ref o), (1, .int v.1), (2, .int v.2.1)] [] v.2.2 (k2 v)) (v1 : Int32) (v2 : Int32) (h : zHp) : Sim wX mX4_chairOf 1 rI 2 [(0, .ref o), (1, .int v1), (2, .int v2)] [] h (f_X4_chairOf_2 o k2 v1 v2 h) := by
  unfold f_X4_chairOf_2
  refine Sim.iload_n 2 dX4_chairOf_2 rfl ?_
  refine Sim.aload_n 0 dX4_chairOf_3 rfl ?_
  refine Sim.getI fl_X4_36 dX4_chairOf_4 (xI_X4_9 _ ho) ?_
  refine Sim.icmp_ge 36 dX4_chairOf_7 rfl ?_ ?_
  · refine Sim.aload_n 0 dX4_chairOf_10 rfl ?_
    refine Sim.iload_n 2 dX4_chairOf_11 rfl ?_
    refine Sim.callV1I (d1 := 0) (s_X4_isChair o ho v2 h) dX4_chairOf_12 ml_X4_73 mv_X4_isChair (xOC_X4 _ ho) (Nat.le_of_ble_eq_true rfl) (Nat.le_of_ble_eq_true rfl) (Nat.le_of_ble_eq_true rfl) (fun x1 => ?_)
    refine Sim.if_eq 30 dX4_chairOf_15 rfl ?_ ?_
    · refine Sim.iinc (L' := [(2, .int (v2 + (1 : Int32))), (0, .ref o), (1, .int v1)]) 2 dX4_chairOf_30 rfl rfl (Nat.le_of_ble_eq_true rfl) rfl ?_
      refine Sim.goto 2 dX4_chairOf_33 rfl ?_
      refine Sim.locs [1, 2, 0] rfl ?_
      exact H2 (v1, (v2 + (1 : Int32)), x1.2)
    · refine Sim.aload_n 0 dX4_chairOf_18 rfl ?_
      refine Sim.getR (j := (o + 4)) fl_X4_21 dX4_chairOf_19 (xR_X4_4 _ ho) ?_
      refine Sim.iload_n 2 dX4_chairOf_22 rfl ?_
      refine Sim.iald (n := 10) dX4_chairOf_23 (xA_X4_4 _ ho) ?_
      refine Sim.iload_n 1 dX4_chairOf_24 rfl ?_
      refine Sim.icmp_ne 30 dX4_chairOf_25 rfl ?_ ?_
      · refine Sim.iload_n 2 dX4_chairOf_28 rfl ?_
        exact Sim.iret dX4_chairOf_29 rfl
      · refine Sim.iinc (L' := [(2, .int (v2 + (1 : Int32))), (0, .ref o), (1, .int v1)]) 2 dX4_chairOf_30 rfl rfl (Nat.le_of_ble_eq_true rfl) rfl ?_
        refine Sim.goto 2 dX4_chairOf_33 rfl ?_
        refine Sim.locs [1, 2, 0] rfl ?_
        exact H2 (v1, (v2 + (1 : Int32)), x1.2)
  · refine Sim.iconst (v := (-1 : Int32)) dX4_chairOf_36 rfl ?_
    exact Sim.iret dX4_chairOf_37 rfl
def f_X4_chairOf_2_lp (o : Nat)  (n : Nat) (v : Int32 × Int32 × zHp) : Option (Int32 × zHp) := zlp (fun k2 v => f_X4_chairOf_2 o k2 v.1 v.2.1 v.2.2) n v
theorem f_X4_chairOf_2_ls (o : Nat) (ho : o ∈ xPorch) (n : Nat) (v : Int32 × Int32 × zHp) : Sim wX mX4_chairOf 1 rI 2 [(0, .ref o), (1, .int v.1), (2, .int v.2.1)] [] v.2.2 (f_X4_chairOf_2_lp o n v) :=
  Sim.lp (V := Int32 × Int32 × zHp) (Lf := fun v => [(0, .ref o), (1, .int v.1), (2, .int v.2.1)]) (sf := fun v => []) (hf := fun v => v.2.2) (fun k2 H2 v => f_X4_chairOf_2_s o ho k2 H2 v.1 v.2.1 v.2.2) n v
def f_X4_chairOf (o : Nat) (a1 : Int32) (h : zHp) : Option (Int32 × zHp) := f_X4_chairOf_2_lp o zN (a1, (0 : Int32), h)
set_option maxHeartbeats 4000000 in
set_option maxRecDepth 100000 in
theorem s_X4_chairOf (o : Nat) (ho : o ∈ xPorch) (a1 : Int32) (h : zHp) : Fn wX mX4_chairOf 1 rI [.ref o, .int a1] h (f_X4_chairOf o a1 h) := by
  refine Fn.of rfl (Nat.le_of_ble_eq_true rfl) ?_
  unfold f_X4_chairOf
  refine Sim.iconst (v := (0 : Int32)) dX4_chairOf_0 rfl ?_
  refine Sim.istore_n (L' := [(2, .int (0 : Int32)), (0, .ref o), (1, .int a1)]) dX4_chairOf_1 (Nat.le_of_ble_eq_true rfl) rfl ?_
  refine Sim.locs [1, 2, 0] rfl ?_
  exact f_X4_chairOf_2_ls o ho zN (a1, (0 : Int32), h)
theorem mv_X4_chairOf : zMV mX4_chairOf 1 := ⟨⟨zTb_in 643 (by decide +kernel) rfl, zTb_in 139 (by decide +kernel) rfl, ⟨by decide +kernel, by decide +kernel⟩, by decide +kernel⟩, zTb_in 641 (by decide +kernel) rfl, zTb_in 642 (by decide +kernel) rfl⟩
-- ===== RockingPorch$Porch.rock(III)V
abbrev mX4_rock : zMt := (yX4_rock, cX4_rock, 4, none)
theorem fl_X4_18 : zF RX4 18 4 3 := ⟨RX4, TX4, 15, rfl, Nat.le_of_ble_eq_true rfl, zTb_in 185 (by decide +kernel) rfl, in_X4⟩
theorem dX4_rock_0 : decode cX4_rock 0 = .ok (.iload_n 1, 1) := by decide +kernel
theorem dX4_rock_1 : decode cX4_rock 1 = .ok (.ifCond .lt 31, 3) := by decide +kernel
theorem dX4_rock_4 : decode cX4_rock 4 = .ok (.iload_n 1, 1) := by decide +kernel
theorem dX4_rock_5 : decode cX4_rock 5 = .ok (.bipush 10, 2) := by decide +kernel
theorem dX4_rock_7 : decode cX4_rock 7 = .ok (.if_icmp .ge 25, 3) := by decide +kernel
theorem dX4_rock_10 : decode cX4_rock 10 = .ok (.aload_n 0, 1) := by decide +kernel
theorem dX4_rock_11 : decode cX4_rock 11 = .ok (.getfield 15, 3) := by decide +kernel
theorem dX4_rock_14 : decode cX4_rock 14 = .ok (.iload_n 1, 1) := by decide +kernel
theorem dX4_rock_15 : decode cX4_rock 15 = .ok (.iload_n 2, 1) := by decide +kernel
theorem dX4_rock_16 : decode cX4_rock 16 = .ok (.iastore, 1) := by decide +kernel
theorem dX4_rock_17 : decode cX4_rock 17 = .ok (.aload_n 0, 1) := by decide +kernel
theorem dX4_rock_18 : decode cX4_rock 18 = .ok (.getfield 18, 3) := by decide +kernel
theorem dX4_rock_21 : decode cX4_rock 21 = .ok (.iload_n 1, 1) := by decide +kernel
theorem dX4_rock_22 : decode cX4_rock 22 = .ok (.iload_n 2, 1) := by decide +kernel
theorem dX4_rock_23 : decode cX4_rock 23 = .ok (.ifCond .le 7, 3) := by decide +kernel
theorem dX4_rock_26 : decode cX4_rock 26 = .ok (.iload_n 3, 1) := by decide +kernel
theorem dX4_rock_27 : decode cX4_rock 27 = .ok (.goto 4, 3) := by decide +kernel
theorem dX4_rock_30 : decode cX4_rock 30 = .ok (.iconst (-1), 1) := by decide +kernel
theorem dX4_rock_31 : decode cX4_rock 31 = .ok (.iastore, 1) := by decide +kernel
theorem dX4_rock_32 : decode cX4_rock 32 = .ok (.return_, 1) := by decide +kernel
def f_X4_rock (o : Nat) (a1 : Int32) (a2 : Int32) (a3 : Int32) (h : zHp) : Option (zHp) := (if a1 < 0 then some h else (if a1 < (10 : Int32) then zix a1 10 (zlt (zst h (o + 2) a1.toNatClampNeg a2) fun h1 => (if 0 < a2 then zix a1 10 (zlt (zst h1 (o + 3) a1.toNatClampNeg a3) fun h2 => some h2) else zix a1 10 (zlt (zst h1 (o + 3) a1.toNatClampNeg (-1 : Int32)) fun h3 => some h3))) else some h))
set_option maxHeartbeats 4000000 in
set_option maxRecDepth 100000 in
theorem s_X4_rock (o : Nat) (ho : o ∈ xPorch) (a1 : Int32) (a2 : Int32) (a3 : Int32) (h : zHp) : Fn wX mX4_rock 0 rV [.ref o, .int a1, .int a2, .int a3] h (f_X4_rock o a1 a2 a3 h) := by
  refine Fn.of rfl (Nat.le_of_ble_eq_true rfl) ?_
  unfold f_X4_rock
  refine Sim.iload_n 1 dX4_rock_0 rfl ?_
  refine Sim.if_lt 32 dX4_rock_1 rfl ?_ ?_
  · exact Sim.vret dX4_rock_32 rfl
  · refine Sim.iload_n 1 dX4_rock_4 rfl ?_
    refine Sim.bipush (v := (10 : Int32)) dX4_rock_5 rfl ?_
    refine Sim.icmp_ge 32 dX4_rock_7 rfl ?_ ?_
    · refine Sim.aload_n 0 dX4_rock_10 rfl ?_
      refine Sim.getR (j := (o + 2)) fl_X4_15 dX4_rock_11 (xR_X4_2 _ ho) ?_
      refine Sim.iload_n 1 dX4_rock_14 rfl ?_
      refine Sim.iload_n 2 dX4_rock_15 rfl ?_
      refine Sim.iast (n := 10) dX4_rock_16 (xA_X4_2 _ ho) ?_
      refine Sim.lth (fun h1 => ?_)
      refine Sim.aload_n 0 dX4_rock_17 rfl ?_
      refine Sim.getR (j := (o + 3)) fl_X4_18 dX4_rock_18 (xR_X4_3 _ ho) ?_
      refine Sim.iload_n 1 dX4_rock_21 rfl ?_
      refine Sim.iload_n 2 dX4_rock_22 rfl ?_
      refine Sim.if_le 30 dX4_rock_23 rfl ?_ ?_
      · refine Sim.iload_n 3 dX4_rock_26 rfl ?_
        refine Sim.goto 31 dX4_rock_27 rfl ?_
        refine Sim.iast (n := 10) dX4_rock_31 (xA_X4_3 _ ho) ?_
        refine Sim.lth (fun h2 => ?_)
        exact Sim.vret dX4_rock_32 rfl
      · refine Sim.iconst (v := (-1 : Int32)) dX4_rock_30 rfl ?_
        refine Sim.iast (n := 10) dX4_rock_31 (xA_X4_3 _ ho) ?_
        refine Sim.lth (fun h3 => ?_)
        exact Sim.vret dX4_rock_32 rfl
    · exact Sim.vret dX4_rock_32 rfl
theorem mv_X4_rock : zMV mX4_rock 3 := ⟨⟨zTb_in 560 (by decide +kernel) rfl, zTb_in 139 (by decide +kernel) rfl, ⟨by decide +kernel, by decide +kernel⟩, by decide +kernel⟩, zTb_in 558 (by decide +kernel) rfl, zTb_in 559 (by decide +kernel) rfl⟩
-- ===== RockingPorch$Doing.getUp(LRockingPorch$Porch;I)V
abbrev mX0_getUp : zMt := (yX0_getUp, cX0_getUp, 5, none)
theorem ml_X0_112 : Cond.methodLink RX0 112 yX4_chairOf ∈ zTb := zTb_in 640 (by decide +kernel) rfl
theorem ml_X0_115 : Cond.methodLink RX0 115 yX0_ask ∈ zTb := zTb_in 645 (by decide +kernel) rfl
theorem ml_X0_119 : Cond.methodLink RX0 119 yX4_rock ∈ zTb := zTb_in 689 (by decide +kernel) rfl
theorem dX0_getUp_0 : decode cX0_getUp 0 = .ok (.aload_n 1, 1) := by decide +kernel
theorem dX0_getUp_1 : decode cX0_getUp 1 = .ok (.iload_n 2, 1) := by decide +kernel
theorem dX0_getUp_2 : decode cX0_getUp 2 = .ok (.iconst 2, 1) := by decide +kernel
theorem dX0_getUp_3 : decode cX0_getUp 3 = .ok (.invokevirtual 95, 3) := by decide +kernel
theorem dX0_getUp_6 : decode cX0_getUp 6 = .ok (.ifCond .eq 11, 3) := by decide +kernel
theorem dX0_getUp_9 : decode cX0_getUp 9 = .ok (.aload_n 1, 1) := by decide +kernel
theorem dX0_getUp_10 : decode cX0_getUp 10 = .ok (.iload_n 2, 1) := by decide +kernel
theorem dX0_getUp_11 : decode cX0_getUp 11 = .ok (.invokevirtual 112, 3) := by decide +kernel
theorem dX0_getUp_14 : decode cX0_getUp 14 = .ok (.goto 4, 3) := by decide +kernel
theorem dX0_getUp_17 : decode cX0_getUp 17 = .ok (.iconst (-1), 1) := by decide +kernel
theorem dX0_getUp_18 : decode cX0_getUp 18 = .ok (.istore_n 3, 1) := by decide +kernel
theorem dX0_getUp_19 : decode cX0_getUp 19 = .ok (.aload_n 1, 1) := by decide +kernel
theorem dX0_getUp_20 : decode cX0_getUp 20 = .ok (.iload_n 3, 1) := by decide +kernel
theorem dX0_getUp_21 : decode cX0_getUp 21 = .ok (.invokevirtual 19, 3) := by decide +kernel
theorem dX0_getUp_24 : decode cX0_getUp 24 = .ok (.ifCond .ne 4, 3) := by decide +kernel
theorem dX0_getUp_27 : decode cX0_getUp 27 = .ok (.return_, 1) := by decide +kernel
theorem dX0_getUp_28 : decode cX0_getUp 28 = .ok (.aload_n 1, 1) := by decide +kernel
theorem dX0_getUp_29 : decode cX0_getUp 29 = .ok (.getfield 105, 3) := by decide +kernel
theorem dX0_getUp_32 : decode cX0_getUp 32 = .ok (.iload_n 2, 1) := by decide +kernel
theorem dX0_getUp_33 : decode cX0_getUp 33 = .ok (.iconst 1, 1) := by decide +kernel
theorem dX0_getUp_34 : decode cX0_getUp 34 = .ok (.iastore, 1) := by decide +kernel
theorem dX0_getUp_35 : decode cX0_getUp 35 = .ok (.aload_n 1, 1) := by decide +kernel
theorem dX0_getUp_36 : decode cX0_getUp 36 = .ok (.getfield 102, 3) := by decide +kernel
theorem dX0_getUp_39 : decode cX0_getUp 39 = .ok (.iload_n 3, 1) := by decide +kernel
theorem dX0_getUp_40 : decode cX0_getUp 40 = .ok (.iconst (-1), 1) := by decide +kernel
theorem dX0_getUp_41 : decode cX0_getUp 41 = .ok (.iastore, 1) := by decide +kernel
theorem dX0_getUp_42 : decode cX0_getUp 42 = .ok (.aload_n 0, 1) := by decide +kernel
theorem dX0_getUp_43 : decode cX0_getUp 43 = .ok (.aload_n 1, 1) := by decide +kernel
theorem dX0_getUp_44 : decode cX0_getUp 44 = .ok (.iconst 0, 1) := by decide +kernel
theorem dX0_getUp_45 : decode cX0_getUp 45 = .ok (.iload_n 3, 1) := by decide +kernel
theorem dX0_getUp_46 : decode cX0_getUp 46 = .ok (.iload_n 2, 1) := by decide +kernel
theorem dX0_getUp_47 : decode cX0_getUp 47 = .ok (.invokevirtual 115, 3) := by decide +kernel
theorem dX0_getUp_50 : decode cX0_getUp 50 = .ok (.istore 4, 2) := by decide +kernel
theorem dX0_getUp_52 : decode cX0_getUp 52 = .ok (.aload_n 1, 1) := by decide +kernel
theorem dX0_getUp_53 : decode cX0_getUp 53 = .ok (.iload_n 3, 1) := by decide +kernel
theorem dX0_getUp_54 : decode cX0_getUp 54 = .ok (.iload 4, 2) := by decide +kernel
theorem dX0_getUp_56 : decode cX0_getUp 56 = .ok (.iload_n 2, 1) := by decide +kernel
theorem dX0_getUp_57 : decode cX0_getUp 57 = .ok (.invokevirtual 119, 3) := by decide +kernel
theorem dX0_getUp_60 : decode cX0_getUp 60 = .ok (.aload_n 0, 1) := by decide +kernel
theorem dX0_getUp_61 : decode cX0_getUp 61 = .ok (.aload_n 1, 1) := by decide +kernel
theorem dX0_getUp_62 : decode cX0_getUp 62 = .ok (.iconst 2, 1) := by decide +kernel
theorem dX0_getUp_63 : decode cX0_getUp 63 = .ok (.iload_n 2, 1) := by decide +kernel
theorem dX0_getUp_64 : decode cX0_getUp 64 = .ok (.iload 4, 2) := by decide +kernel
theorem dX0_getUp_66 : decode cX0_getUp 66 = .ok (.invokevirtual 108, 3) := by decide +kernel
theorem dX0_getUp_69 : decode cX0_getUp 69 = .ok (.return_, 1) := by decide +kernel
def f_X0_getUp_18 (b1 : Nat)  (v2 : Int32) (s0 : Int32) (h : zHp) : Option (zHp) := (f_X4_isChair b1 s0 h).bind fun x1 => (if x1.1 = 0 then some x1.2 else zix v2 14 (zlt (zst x1.2 (b1 + 6) v2.toNatClampNeg (1 : Int32)) fun h2 => zix s0 10 (zlt (zst h2 (b1 + 4) s0.toNatClampNeg (-1 : Int32)) fun h3 => (f_X0_ask b1 (0 : Int32) s0 v2 h3).bind fun x4 => (f_X4_rock b1 s0 x4.1 v2 x4.2).bind fun x5 => (f_X0_note b1 (2 : Int32) v2 x4.1 x5).bind fun x6 => some x6)))
set_option maxHeartbeats 4000000 in
set_option maxRecDepth 100000 in
theorem f_X0_getUp_18_s (b1 : Nat) (hb1 : b1 ∈ xPorch) (v2 : Int32) (s0 : Int32) (h : zHp) : Sim wX mX0_getUp 4 rV 18 [(0, .ref 159), (1, .ref b1), (2, .int v2)] [.int s0] h (f_X0_getUp_18 b1 v2 s0 h) := by
  unfold f_X0_getUp_18
  refine Sim.istore_n (L' := [(3, .int s0), (0, .ref 159), (1, .ref b1), (2, .int v2)]) dX0_getUp_18 (Nat.le_of_ble_eq_true rfl) rfl ?_
  refine Sim.aload_n 2 dX0_getUp_19 rfl ?_
  refine Sim.iload_n 0 dX0_getUp_20 rfl ?_
  refine Sim.callV1I (d1 := 0) (s_X4_isChair b1 hb1 s0 h) dX0_getUp_21 ml_X0_19 mv_X4_isChair (xOC_X4 _ hb1) (Nat.le_of_ble_eq_true rfl) (Nat.le_of_ble_eq_true rfl) (Nat.le_of_ble_eq_true rfl) (fun x1 => ?_)
  refine Sim.if_ne 28 dX0_getUp_24 rfl ?_ ?_
  · exact Sim.vret dX0_getUp_27 rfl
  · refine Sim.aload_n 2 dX0_getUp_28 rfl ?_
    refine Sim.getR (j := (b1 + 6)) fl_X0_105 dX0_getUp_29 (xR_X4_6 _ hb1) ?_
    refine Sim.iload_n 3 dX0_getUp_32 rfl ?_
    refine Sim.iconst (v := (1 : Int32)) dX0_getUp_33 rfl ?_
    refine Sim.iast (n := 14) dX0_getUp_34 (xA_X4_6 _ hb1) ?_
    refine Sim.lth (fun h2 => ?_)
    refine Sim.aload_n 2 dX0_getUp_35 rfl ?_
    refine Sim.getR (j := (b1 + 4)) fl_X0_102 dX0_getUp_36 (xR_X4_4 _ hb1) ?_
    refine Sim.iload_n 0 dX0_getUp_39 rfl ?_
    refine Sim.iconst (v := (-1 : Int32)) dX0_getUp_40 rfl ?_
    refine Sim.iast (n := 10) dX0_getUp_41 (xA_X4_4 _ hb1) ?_
    refine Sim.lth (fun h3 => ?_)
    refine Sim.aload_n 1 dX0_getUp_42 rfl ?_
    refine Sim.aload_n 2 dX0_getUp_43 rfl ?_
    refine Sim.iconst (v := (0 : Int32)) dX0_getUp_44 rfl ?_
    refine Sim.iload_n 0 dX0_getUp_45 rfl ?_
    refine Sim.iload_n 3 dX0_getUp_46 rfl ?_
    refine Sim.callV4I (d1 := 3) (s_X0_ask b1 hb1 (0 : Int32) s0 v2 h3) dX0_getUp_47 ml_X0_115 mv_X0_ask xO_X0 (Nat.le_of_ble_eq_true rfl) (Nat.le_of_ble_eq_true rfl) (Nat.le_of_ble_eq_true rfl) (fun x4 => ?_)
    refine Sim.istore (L' := [(4, .int x4.1), (3, .int s0), (0, .ref 159), (1, .ref b1), (2, .int v2)]) dX0_getUp_50 (Nat.le_of_ble_eq_true rfl) rfl ?_
    refine Sim.aload_n 3 dX0_getUp_52 rfl ?_
    refine Sim.iload_n 1 dX0_getUp_53 rfl ?_
    refine Sim.iload 0 dX0_getUp_54 rfl ?_
    refine Sim.iload_n 4 dX0_getUp_56 rfl ?_
    refine Sim.callV3U (d1 := 0) (s_X4_rock b1 hb1 s0 x4.1 v2 x4.2) dX0_getUp_57 ml_X0_119 mv_X4_rock (xOC_X4 _ hb1) (Nat.le_of_ble_eq_true rfl) (Nat.le_of_ble_eq_true rfl) (Nat.le_of_ble_eq_true rfl) (fun x5 => ?_)
    refine Sim.aload_n 2 dX0_getUp_60 rfl ?_
    refine Sim.aload_n 3 dX0_getUp_61 rfl ?_
    refine Sim.iconst (v := (2 : Int32)) dX0_getUp_62 rfl ?_
    refine Sim.iload_n 4 dX0_getUp_63 rfl ?_
    refine Sim.iload 0 dX0_getUp_64 rfl ?_
    refine Sim.callV4U (d1 := 1) (s_X0_note b1 hb1 (2 : Int32) v2 x4.1 x5) dX0_getUp_66 ml_X0_108 mv_X0_note xO_X0 (Nat.le_of_ble_eq_true rfl) (Nat.le_of_ble_eq_true rfl) (Nat.le_of_ble_eq_true rfl) (fun x6 => ?_)
    exact Sim.vret dX0_getUp_69 rfl
def f_X0_getUp (b1 : Nat) (a2 : Int32) (h : zHp) : Option (zHp) := (f_X4_is b1 a2 (2 : Int32) h).bind fun x1 => (if x1.1 = 0 then f_X0_getUp_18 b1 a2 (-1 : Int32) x1.2 else (f_X4_chairOf b1 a2 x1.2).bind fun x2 => f_X0_getUp_18 b1 a2 x2.1 x2.2)
set_option maxHeartbeats 4000000 in
set_option maxRecDepth 100000 in
theorem s_X0_getUp (b1 : Nat) (hb1 : b1 ∈ xPorch) (a2 : Int32) (h : zHp) : Fn wX mX0_getUp 4 rV [.ref 159, .ref b1, .int a2] h (f_X0_getUp b1 a2 h) := by
  refine Fn.of rfl (Nat.le_of_ble_eq_true rfl) ?_
  unfold f_X0_getUp
  refine Sim.aload_n 1 dX0_getUp_0 rfl ?_
  refine Sim.iload_n 2 dX0_getUp_1 rfl ?_
  refine Sim.iconst (v := (2 : Int32)) dX0_getUp_2 rfl ?_
  refine Sim.callV2I (d1 := 1) (s_X4_is b1 hb1 a2 (2 : Int32) h) dX0_getUp_3 ml_X0_95 mv_X4_is (xOC_X4 _ hb1) (Nat.le_of_ble_eq_true rfl) (Nat.le_of_ble_eq_true rfl) (Nat.le_of_ble_eq_true rfl) (fun x1 => ?_)
  refine Sim.if_eq 17 dX0_getUp_6 rfl ?_ ?_
  · refine Sim.iconst (v := (-1 : Int32)) dX0_getUp_17 rfl ?_
    exact f_X0_getUp_18_s b1 hb1 a2 (-1 : Int32) x1.2
  · refine Sim.aload_n 1 dX0_getUp_9 rfl ?_
    refine Sim.iload_n 2 dX0_getUp_10 rfl ?_
    refine Sim.callV1I (d1 := 1) (s_X4_chairOf b1 hb1 a2 x1.2) dX0_getUp_11 ml_X0_112 mv_X4_chairOf (xOC_X4 _ hb1) (Nat.le_of_ble_eq_true rfl) (Nat.le_of_ble_eq_true rfl) (Nat.le_of_ble_eq_true rfl) (fun x2 => ?_)
    refine Sim.goto 18 dX0_getUp_14 rfl ?_
    exact f_X0_getUp_18_s b1 hb1 a2 x2.1 x2.2
theorem mv_X0_getUp : zMV mX0_getUp 2 := ⟨⟨zTb_in 639 (by decide +kernel) rfl, zTb_in 146 (by decide +kernel) rfl, ⟨by decide +kernel, by decide +kernel⟩, by decide +kernel⟩, zTb_in 637 (by decide +kernel) rfl, zTb_in 638 (by decide +kernel) rfl⟩
-- ===== RockingPorch$Porch.here()I
abbrev mX4_here : zMt := (yX4_here, cX4_here, 1, some .int)
theorem ml_X4_82 : Cond.methodLink RX4 82 yX4_awaySet ∈ zTb := zTb_in 728 (by decide +kernel) rfl
theorem ml_X4_86 : Cond.methodLink RX4 86 yJ6_bitCount_0f7a4 ∈ zTb := zTb_in 729 (by decide +kernel) rfl
theorem dX4_here_0 : decode cX4_here 0 = .ok (.aload_n 0, 1) := by decide +kernel
theorem dX4_here_1 : decode cX4_here 1 = .ok (.getfield 40, 3) := by decide +kernel
theorem dX4_here_4 : decode cX4_here 4 = .ok (.aload_n 0, 1) := by decide +kernel
theorem dX4_here_5 : decode cX4_here 5 = .ok (.invokevirtual 82, 3) := by decide +kernel
theorem dX4_here_8 : decode cX4_here 8 = .ok (.invokestatic 86, 3) := by decide +kernel
theorem dX4_here_11 : decode cX4_here 11 = .ok (.isub, 1) := by decide +kernel
theorem dX4_here_12 : decode cX4_here 12 = .ok (.ireturn, 1) := by decide +kernel
def f_X4_here (o : Nat)  (h : zHp) : Option (Int32 × zHp) := (f_X4_awaySet o h).bind fun x1 => (f_J6_bitCount_0f7a4 x1.1 x1.2).bind fun x2 => some (((h o 10) - x2.1), x2.2)
set_option maxHeartbeats 4000000 in
set_option maxRecDepth 100000 in
theorem s_X4_here (o : Nat) (ho : o ∈ xPorch)  (h : zHp) : Fn wX mX4_here 1 rI [.ref o] h (f_X4_here o h) := by
  refine Fn.of rfl (Nat.le_of_ble_eq_true rfl) ?_
  unfold f_X4_here
  refine Sim.aload_n 0 dX4_here_0 rfl ?_
  refine Sim.getI fl_X4_40 dX4_here_1 (xI_X4_10 _ ho) ?_
  refine Sim.aload_n 0 dX4_here_4 rfl ?_
  refine Sim.callV0I (d1 := 0) (s_X4_awaySet o ho h) dX4_here_5 ml_X4_82 mv_X4_awaySet (xOC_X4 _ ho) (Nat.le_of_ble_eq_true rfl) (Nat.le_of_ble_eq_true rfl) (Nat.le_of_ble_eq_true rfl) (fun x1 => ?_)
  refine Sim.callS1I (d1 := 0) (s_J6_bitCount_0f7a4 x1.1 x1.2) dX4_here_8 ml_X4_86 mv_J6_bitCount_0f7a4 (Nat.le_of_ble_eq_true rfl) (Nat.le_of_ble_eq_true rfl) (Nat.le_of_ble_eq_true rfl) (fun x2 => ?_)
  refine Sim.isub dX4_here_11 ?_
  exact Sim.iret dX4_here_12 rfl
theorem mv_X4_here : zMV mX4_here 0 := ⟨⟨zTb_in 727 (by decide +kernel) rfl, zTb_in 139 (by decide +kernel) rfl, ⟨by decide +kernel, by decide +kernel⟩, by decide +kernel⟩, zTb_in 725 (by decide +kernel) rfl, zTb_in 726 (by decide +kernel) rfl⟩
-- ===== RockingPorch$Doing.goAway(LRockingPorch$Porch;I)V
abbrev mX0_goAway : zMt := (yX0_goAway, cX0_goAway, 3, none)
theorem ml_X0_123 : Cond.methodLink RX0 123 yX4_here ∈ zTb := zTb_in 724 (by decide +kernel) rfl
theorem dX0_goAway_0 : decode cX0_goAway 0 = .ok (.aload_n 1, 1) := by decide +kernel
theorem dX0_goAway_1 : decode cX0_goAway 1 = .ok (.iload_n 2, 1) := by decide +kernel
theorem dX0_goAway_2 : decode cX0_goAway 2 = .ok (.iconst 1, 1) := by decide +kernel
theorem dX0_goAway_3 : decode cX0_goAway 3 = .ok (.invokevirtual 95, 3) := by decide +kernel
theorem dX0_goAway_6 : decode cX0_goAway 6 = .ok (.ifCond .eq 21, 3) := by decide +kernel
theorem dX0_goAway_9 : decode cX0_goAway 9 = .ok (.aload_n 1, 1) := by decide +kernel
theorem dX0_goAway_10 : decode cX0_goAway 10 = .ok (.getfield 105, 3) := by decide +kernel
theorem dX0_goAway_13 : decode cX0_goAway 13 = .ok (.iload_n 2, 1) := by decide +kernel
theorem dX0_goAway_14 : decode cX0_goAway 14 = .ok (.iconst 0, 1) := by decide +kernel
theorem dX0_goAway_15 : decode cX0_goAway 15 = .ok (.iastore, 1) := by decide +kernel
theorem dX0_goAway_16 : decode cX0_goAway 16 = .ok (.aload_n 0, 1) := by decide +kernel
theorem dX0_goAway_17 : decode cX0_goAway 17 = .ok (.aload_n 1, 1) := by decide +kernel
theorem dX0_goAway_18 : decode cX0_goAway 18 = .ok (.iconst 3, 1) := by decide +kernel
theorem dX0_goAway_19 : decode cX0_goAway 19 = .ok (.iload_n 2, 1) := by decide +kernel
theorem dX0_goAway_20 : decode cX0_goAway 20 = .ok (.aload_n 1, 1) := by decide +kernel
theorem dX0_goAway_21 : decode cX0_goAway 21 = .ok (.invokevirtual 123, 3) := by decide +kernel
theorem dX0_goAway_24 : decode cX0_goAway 24 = .ok (.invokevirtual 108, 3) := by decide +kernel
theorem dX0_goAway_27 : decode cX0_goAway 27 = .ok (.return_, 1) := by decide +kernel
def f_X0_goAway (b1 : Nat) (a2 : Int32) (h : zHp) : Option (zHp) := (f_X4_is b1 a2 (1 : Int32) h).bind fun x1 => (if x1.1 = 0 then some x1.2 else zix a2 14 (zlt (zst x1.2 (b1 + 6) a2.toNatClampNeg (0 : Int32)) fun h2 => (f_X4_here b1 h2).bind fun x3 => (f_X0_note b1 (3 : Int32) a2 x3.1 x3.2).bind fun x4 => some x4))
set_option maxHeartbeats 4000000 in
set_option maxRecDepth 100000 in
theorem s_X0_goAway (b1 : Nat) (hb1 : b1 ∈ xPorch) (a2 : Int32) (h : zHp) : Fn wX mX0_goAway 2 rV [.ref 159, .ref b1, .int a2] h (f_X0_goAway b1 a2 h) := by
  refine Fn.of rfl (Nat.le_of_ble_eq_true rfl) ?_
  unfold f_X0_goAway
  refine Sim.aload_n 1 dX0_goAway_0 rfl ?_
  refine Sim.iload_n 2 dX0_goAway_1 rfl ?_
  refine Sim.iconst (v := (1 : Int32)) dX0_goAway_2 rfl ?_
  refine Sim.callV2I (d1 := 1) (s_X4_is b1 hb1 a2 (1 : Int32) h) dX0_goAway_3 ml_X0_95 mv_X4_is (xOC_X4 _ hb1) (Nat.le_of_ble_eq_true rfl) (Nat.le_of_ble_eq_true rfl) (Nat.le_of_ble_eq_true rfl) (fun x1 => ?_)
  refine Sim.if_eq 27 dX0_goAway_6 rfl ?_ ?_
  · exact Sim.vret dX0_goAway_27 rfl
  · refine Sim.aload_n 1 dX0_goAway_9 rfl ?_
    refine Sim.getR (j := (b1 + 6)) fl_X0_105 dX0_goAway_10 (xR_X4_6 _ hb1) ?_
    refine Sim.iload_n 2 dX0_goAway_13 rfl ?_
    refine Sim.iconst (v := (0 : Int32)) dX0_goAway_14 rfl ?_
    refine Sim.iast (n := 14) dX0_goAway_15 (xA_X4_6 _ hb1) ?_
    refine Sim.lth (fun h2 => ?_)
    refine Sim.aload_n 0 dX0_goAway_16 rfl ?_
    refine Sim.aload_n 1 dX0_goAway_17 rfl ?_
    refine Sim.iconst (v := (3 : Int32)) dX0_goAway_18 rfl ?_
    refine Sim.iload_n 2 dX0_goAway_19 rfl ?_
    refine Sim.aload_n 1 dX0_goAway_20 rfl ?_
    refine Sim.callV0I (d1 := 1) (s_X4_here b1 hb1 h2) dX0_goAway_21 ml_X0_123 mv_X4_here (xOC_X4 _ hb1) (Nat.le_of_ble_eq_true rfl) (Nat.le_of_ble_eq_true rfl) (Nat.le_of_ble_eq_true rfl) (fun x3 => ?_)
    refine Sim.callV4U (d1 := 1) (s_X0_note b1 hb1 (3 : Int32) a2 x3.1 x3.2) dX0_goAway_24 ml_X0_108 mv_X0_note xO_X0 (Nat.le_of_ble_eq_true rfl) (Nat.le_of_ble_eq_true rfl) (Nat.le_of_ble_eq_true rfl) (fun x4 => ?_)
    exact Sim.vret dX0_goAway_27 rfl
theorem mv_X0_goAway : zMV mX0_goAway 2 := ⟨⟨zTb_in 723 (by decide +kernel) rfl, zTb_in 146 (by decide +kernel) rfl, ⟨by decide +kernel, by decide +kernel⟩, by decide +kernel⟩, zTb_in 722 (by decide +kernel) rfl, zTb_in 6 (by decide +kernel) rfl⟩
-- ===== RockingPorch$Doing.comeBack(LRockingPorch$Porch;I)V
abbrev mX0_comeBack : zMt := (yX0_comeBack, cX0_comeBack, 3, none)
theorem dX0_comeBack_0 : decode cX0_comeBack 0 = .ok (.aload_n 1, 1) := by decide +kernel
theorem dX0_comeBack_1 : decode cX0_comeBack 1 = .ok (.iload_n 2, 1) := by decide +kernel
theorem dX0_comeBack_2 : decode cX0_comeBack 2 = .ok (.iconst 0, 1) := by decide +kernel
theorem dX0_comeBack_3 : decode cX0_comeBack 3 = .ok (.invokevirtual 95, 3) := by decide +kernel
theorem dX0_comeBack_6 : decode cX0_comeBack 6 = .ok (.ifCond .eq 21, 3) := by decide +kernel
theorem dX0_comeBack_9 : decode cX0_comeBack 9 = .ok (.aload_n 1, 1) := by decide +kernel
theorem dX0_comeBack_10 : decode cX0_comeBack 10 = .ok (.getfield 105, 3) := by decide +kernel
theorem dX0_comeBack_13 : decode cX0_comeBack 13 = .ok (.iload_n 2, 1) := by decide +kernel
theorem dX0_comeBack_14 : decode cX0_comeBack 14 = .ok (.iconst 1, 1) := by decide +kernel
theorem dX0_comeBack_15 : decode cX0_comeBack 15 = .ok (.iastore, 1) := by decide +kernel
theorem dX0_comeBack_16 : decode cX0_comeBack 16 = .ok (.aload_n 0, 1) := by decide +kernel
theorem dX0_comeBack_17 : decode cX0_comeBack 17 = .ok (.aload_n 1, 1) := by decide +kernel
theorem dX0_comeBack_18 : decode cX0_comeBack 18 = .ok (.iconst 4, 1) := by decide +kernel
theorem dX0_comeBack_19 : decode cX0_comeBack 19 = .ok (.iload_n 2, 1) := by decide +kernel
theorem dX0_comeBack_20 : decode cX0_comeBack 20 = .ok (.aload_n 1, 1) := by decide +kernel
theorem dX0_comeBack_21 : decode cX0_comeBack 21 = .ok (.invokevirtual 123, 3) := by decide +kernel
theorem dX0_comeBack_24 : decode cX0_comeBack 24 = .ok (.invokevirtual 108, 3) := by decide +kernel
theorem dX0_comeBack_27 : decode cX0_comeBack 27 = .ok (.return_, 1) := by decide +kernel
def f_X0_comeBack (b1 : Nat) (a2 : Int32) (h : zHp) : Option (zHp) := (f_X4_is b1 a2 (0 : Int32) h).bind fun x1 => (if x1.1 = 0 then some x1.2 else zix a2 14 (zlt (zst x1.2 (b1 + 6) a2.toNatClampNeg (1 : Int32)) fun h2 => (f_X4_here b1 h2).bind fun x3 => (f_X0_note b1 (4 : Int32) a2 x3.1 x3.2).bind fun x4 => some x4))
set_option maxHeartbeats 4000000 in
set_option maxRecDepth 100000 in
theorem s_X0_comeBack (b1 : Nat) (hb1 : b1 ∈ xPorch) (a2 : Int32) (h : zHp) : Fn wX mX0_comeBack 2 rV [.ref 159, .ref b1, .int a2] h (f_X0_comeBack b1 a2 h) := by
  refine Fn.of rfl (Nat.le_of_ble_eq_true rfl) ?_
  unfold f_X0_comeBack
  refine Sim.aload_n 1 dX0_comeBack_0 rfl ?_
  refine Sim.iload_n 2 dX0_comeBack_1 rfl ?_
  refine Sim.iconst (v := (0 : Int32)) dX0_comeBack_2 rfl ?_
  refine Sim.callV2I (d1 := 1) (s_X4_is b1 hb1 a2 (0 : Int32) h) dX0_comeBack_3 ml_X0_95 mv_X4_is (xOC_X4 _ hb1) (Nat.le_of_ble_eq_true rfl) (Nat.le_of_ble_eq_true rfl) (Nat.le_of_ble_eq_true rfl) (fun x1 => ?_)
  refine Sim.if_eq 27 dX0_comeBack_6 rfl ?_ ?_
  · exact Sim.vret dX0_comeBack_27 rfl
  · refine Sim.aload_n 1 dX0_comeBack_9 rfl ?_
    refine Sim.getR (j := (b1 + 6)) fl_X0_105 dX0_comeBack_10 (xR_X4_6 _ hb1) ?_
    refine Sim.iload_n 2 dX0_comeBack_13 rfl ?_
    refine Sim.iconst (v := (1 : Int32)) dX0_comeBack_14 rfl ?_
    refine Sim.iast (n := 14) dX0_comeBack_15 (xA_X4_6 _ hb1) ?_
    refine Sim.lth (fun h2 => ?_)
    refine Sim.aload_n 0 dX0_comeBack_16 rfl ?_
    refine Sim.aload_n 1 dX0_comeBack_17 rfl ?_
    refine Sim.iconst (v := (4 : Int32)) dX0_comeBack_18 rfl ?_
    refine Sim.iload_n 2 dX0_comeBack_19 rfl ?_
    refine Sim.aload_n 1 dX0_comeBack_20 rfl ?_
    refine Sim.callV0I (d1 := 1) (s_X4_here b1 hb1 h2) dX0_comeBack_21 ml_X0_123 mv_X4_here (xOC_X4 _ hb1) (Nat.le_of_ble_eq_true rfl) (Nat.le_of_ble_eq_true rfl) (Nat.le_of_ble_eq_true rfl) (fun x3 => ?_)
    refine Sim.callV4U (d1 := 1) (s_X0_note b1 hb1 (4 : Int32) a2 x3.1 x3.2) dX0_comeBack_24 ml_X0_108 mv_X0_note xO_X0 (Nat.le_of_ble_eq_true rfl) (Nat.le_of_ble_eq_true rfl) (Nat.le_of_ble_eq_true rfl) (fun x4 => ?_)
    exact Sim.vret dX0_comeBack_27 rfl
theorem mv_X0_comeBack : zMV mX0_comeBack 2 := ⟨⟨zTb_in 733 (by decide +kernel) rfl, zTb_in 146 (by decide +kernel) rfl, ⟨by decide +kernel, by decide +kernel⟩, by decide +kernel⟩, zTb_in 732 (by decide +kernel) rfl, zTb_in 7 (by decide +kernel) rfl⟩
-- ===== RockingPorch$Porch.rocks(I)Z
abbrev mX4_rocks : zMt := (yX4_rocks, cX4_rocks, 2, some .boolean)
theorem dX4_rocks_0 : decode cX4_rocks 0 = .ok (.aload_n 0, 1) := by decide +kernel
theorem dX4_rocks_1 : decode cX4_rocks 1 = .ok (.iload_n 1, 1) := by decide +kernel
theorem dX4_rocks_2 : decode cX4_rocks 2 = .ok (.invokevirtual 73, 3) := by decide +kernel
theorem dX4_rocks_5 : decode cX4_rocks 5 = .ok (.ifCond .eq 16, 3) := by decide +kernel
theorem dX4_rocks_8 : decode cX4_rocks 8 = .ok (.aload_n 0, 1) := by decide +kernel
theorem dX4_rocks_9 : decode cX4_rocks 9 = .ok (.getfield 15, 3) := by decide +kernel
theorem dX4_rocks_12 : decode cX4_rocks 12 = .ok (.iload_n 1, 1) := by decide +kernel
theorem dX4_rocks_13 : decode cX4_rocks 13 = .ok (.iaload, 1) := by decide +kernel
theorem dX4_rocks_14 : decode cX4_rocks 14 = .ok (.ifCond .le 7, 3) := by decide +kernel
theorem dX4_rocks_17 : decode cX4_rocks 17 = .ok (.iconst 1, 1) := by decide +kernel
theorem dX4_rocks_18 : decode cX4_rocks 18 = .ok (.goto 4, 3) := by decide +kernel
theorem dX4_rocks_21 : decode cX4_rocks 21 = .ok (.iconst 0, 1) := by decide +kernel
theorem dX4_rocks_22 : decode cX4_rocks 22 = .ok (.ireturn, 1) := by decide +kernel
def f_X4_rocks (o : Nat) (a1 : Int32) (h : zHp) : Option (Int32 × zHp) := (f_X4_isChair o a1 h).bind fun x1 => (if x1.1 = 0 then some ((0 : Int32), x1.2) else zix a1 10 ((if 0 < (x1.2 (o + 2) a1.toNatClampNeg) then some ((1 : Int32), x1.2) else some ((0 : Int32), x1.2))))
set_option maxHeartbeats 4000000 in
set_option maxRecDepth 100000 in
theorem s_X4_rocks (o : Nat) (ho : o ∈ xPorch) (a1 : Int32) (h : zHp) : Fn wX mX4_rocks 1 rI [.ref o, .int a1] h (f_X4_rocks o a1 h) := by
  refine Fn.of rfl (Nat.le_of_ble_eq_true rfl) ?_
  unfold f_X4_rocks
  refine Sim.aload_n 0 dX4_rocks_0 rfl ?_
  refine Sim.iload_n 1 dX4_rocks_1 rfl ?_
  refine Sim.callV1I (d1 := 0) (s_X4_isChair o ho a1 h) dX4_rocks_2 ml_X4_73 mv_X4_isChair (xOC_X4 _ ho) (Nat.le_of_ble_eq_true rfl) (Nat.le_of_ble_eq_true rfl) (Nat.le_of_ble_eq_true rfl) (fun x1 => ?_)
  refine Sim.if_eq 21 dX4_rocks_5 rfl ?_ ?_
  · refine Sim.iconst (v := (0 : Int32)) dX4_rocks_21 rfl ?_
    exact Sim.nret dX4_rocks_22 rfl rfl
  · refine Sim.aload_n 0 dX4_rocks_8 rfl ?_
    refine Sim.getR (j := (o + 2)) fl_X4_15 dX4_rocks_9 (xR_X4_2 _ ho) ?_
    refine Sim.iload_n 1 dX4_rocks_12 rfl ?_
    refine Sim.iald (n := 10) dX4_rocks_13 (xA_X4_2 _ ho) ?_
    refine Sim.if_le 21 dX4_rocks_14 rfl ?_ ?_
    · refine Sim.iconst (v := (1 : Int32)) dX4_rocks_17 rfl ?_
      refine Sim.goto 22 dX4_rocks_18 rfl ?_
      exact Sim.nret dX4_rocks_22 rfl rfl
    · refine Sim.iconst (v := (0 : Int32)) dX4_rocks_21 rfl ?_
      exact Sim.nret dX4_rocks_22 rfl rfl
theorem mv_X4_rocks : zMV mX4_rocks 1 := ⟨⟨zTb_in 588 (by decide +kernel) rfl, zTb_in 139 (by decide +kernel) rfl, ⟨by decide +kernel, by decide +kernel⟩, by decide +kernel⟩, zTb_in 586 (by decide +kernel) rfl, zTb_in 587 (by decide +kernel) rfl⟩
-- ===== RockingPorch$Porch.draw(I)I
abbrev mX4_draw : zMt := (yX4_draw, cX4_draw, 2, some .int)
theorem ct_X4_92 : Cond.constant RX4 92 (1664525 : Int32) ∈ zTb := zTb_in 699 (by decide +kernel) rfl
theorem ct_X4_93 : Cond.constant RX4 93 (1013904223 : Int32) ∈ zTb := zTb_in 700 (by decide +kernel) rfl
theorem fl_X4_52 : zF RX4 52 4 14 := ⟨RX4, TX4, 15, rfl, Nat.le_of_ble_eq_true rfl, zTb_in 217 (by decide +kernel) rfl, in_X4⟩
theorem fp_X4_52 : zFp RX4 52 4 14 .int := ⟨RX4, TX4, 15, tyX4, rfl, Nat.le_of_ble_eq_true rfl, zTb_in 217 (by decide +kernel) rfl, in_X4, tyX4_ok, nmX4, rfl, rfl⟩
theorem dX4_draw_0 : decode cX4_draw 0 = .ok (.aload_n 0, 1) := by decide +kernel
theorem dX4_draw_1 : decode cX4_draw 1 = .ok (.aload_n 0, 1) := by decide +kernel
theorem dX4_draw_2 : decode cX4_draw 2 = .ok (.getfield 52, 3) := by decide +kernel
theorem dX4_draw_5 : decode cX4_draw 5 = .ok (.ldc 92, 2) := by decide +kernel
theorem dX4_draw_7 : decode cX4_draw 7 = .ok (.imul, 1) := by decide +kernel
theorem dX4_draw_8 : decode cX4_draw 8 = .ok (.ldc 93, 2) := by decide +kernel
theorem dX4_draw_10 : decode cX4_draw 10 = .ok (.iadd, 1) := by decide +kernel
theorem dX4_draw_11 : decode cX4_draw 11 = .ok (.putfield 52, 3) := by decide +kernel
theorem dX4_draw_14 : decode cX4_draw 14 = .ok (.iload_n 1, 1) := by decide +kernel
theorem dX4_draw_15 : decode cX4_draw 15 = .ok (.ifCond .le 15, 3) := by decide +kernel
theorem dX4_draw_18 : decode cX4_draw 18 = .ok (.aload_n 0, 1) := by decide +kernel
theorem dX4_draw_19 : decode cX4_draw 19 = .ok (.getfield 52, 3) := by decide +kernel
theorem dX4_draw_22 : decode cX4_draw 22 = .ok (.bipush 8, 2) := by decide +kernel
theorem dX4_draw_24 : decode cX4_draw 24 = .ok (.iushr, 1) := by decide +kernel
theorem dX4_draw_25 : decode cX4_draw 25 = .ok (.iload_n 1, 1) := by decide +kernel
theorem dX4_draw_26 : decode cX4_draw 26 = .ok (.irem, 1) := by decide +kernel
theorem dX4_draw_27 : decode cX4_draw 27 = .ok (.goto 4, 3) := by decide +kernel
theorem dX4_draw_30 : decode cX4_draw 30 = .ok (.iconst 0, 1) := by decide +kernel
theorem dX4_draw_31 : decode cX4_draw 31 = .ok (.ireturn, 1) := by decide +kernel
def f_X4_draw (o : Nat) (a1 : Int32) (h : zHp) : Option (Int32 × zHp) := zlt (zst h o 14 (((h o 14) * (1664525 : Int32)) + (1013904223 : Int32))) fun h1 => (if 0 < a1 then zdz a1 (some (((((h1 o 14).toUInt32 >>> ((8 : Int32).toUInt32 &&& Int32.toUInt32 31)).toInt32) - (((h1 o 14).toUInt32 >>> ((8 : Int32).toUInt32 &&& Int32.toUInt32 31)).toInt32) / a1 * a1), h1)) else some ((0 : Int32), h1))
set_option maxHeartbeats 4000000 in
set_option maxRecDepth 100000 in
theorem s_X4_draw (o : Nat) (ho : o ∈ xPorch) (a1 : Int32) (h : zHp) : Fn wX mX4_draw 0 rI [.ref o, .int a1] h (f_X4_draw o a1 h) := by
  refine Fn.of rfl (Nat.le_of_ble_eq_true rfl) ?_
  unfold f_X4_draw
  refine Sim.aload_n 0 dX4_draw_0 rfl ?_
  refine Sim.aload_n 0 dX4_draw_1 rfl ?_
  refine Sim.getI fl_X4_52 dX4_draw_2 (xI_X4_14 _ ho) ?_
  refine Sim.ldc (v := (1664525 : Int32)) dX4_draw_5 ct_X4_92 ?_
  refine Sim.imul dX4_draw_7 ?_
  refine Sim.ldc (v := (1013904223 : Int32)) dX4_draw_8 ct_X4_93 ?_
  refine Sim.iadd dX4_draw_10 ?_
  refine Sim.put fp_X4_52 dX4_draw_11 (xI_X4_14 _ ho) rfl rfl ?_
  refine Sim.lth (fun h1 => ?_)
  refine Sim.iload_n 1 dX4_draw_14 rfl ?_
  refine Sim.if_le 30 dX4_draw_15 rfl ?_ ?_
  · refine Sim.aload_n 0 dX4_draw_18 rfl ?_
    refine Sim.getI fl_X4_52 dX4_draw_19 (xI_X4_14 _ ho) ?_
    refine Sim.bipush (v := (8 : Int32)) dX4_draw_22 rfl ?_
    refine Sim.iushr dX4_draw_24 ?_
    refine Sim.iload_n 1 dX4_draw_25 rfl ?_
    refine Sim.irem dX4_draw_26 ?_
    refine Sim.goto 31 dX4_draw_27 rfl ?_
    exact Sim.iret dX4_draw_31 rfl
  · refine Sim.iconst (v := (0 : Int32)) dX4_draw_30 rfl ?_
    exact Sim.iret dX4_draw_31 rfl
theorem mv_X4_draw : zMV mX4_draw 1 := ⟨⟨zTb_in 698 (by decide +kernel) rfl, zTb_in 139 (by decide +kernel) rfl, ⟨by decide +kernel, by decide +kernel⟩, by decide +kernel⟩, zTb_in 696 (by decide +kernel) rfl, zTb_in 697 (by decide +kernel) rfl⟩
-- ===== RockingPorch$Doing.letCat(LRockingPorch$Porch;I)V
abbrev mX0_letCat : zMt := (yX0_letCat, cX0_letCat, 5, none)
theorem fl_X0_129 : zF RX0 129 4 3 := ⟨RX4, TX4, 15, rfl, Nat.le_of_ble_eq_true rfl, zTb_in 187 (by decide +kernel) rfl, in_X4⟩
theorem fl_X0_135 : zF RX0 135 4 12 := ⟨RX4, TX4, 15, rfl, Nat.le_of_ble_eq_true rfl, zTb_in 213 (by decide +kernel) rfl, in_X4⟩
theorem fp_X0_135 : zFp RX0 135 4 12 .int := ⟨RX4, TX4, 15, tyX4, rfl, Nat.le_of_ble_eq_true rfl, zTb_in 213 (by decide +kernel) rfl, in_X4, tyX4_ok, nmX4, rfl, rfl⟩
theorem ml_X0_126 : Cond.methodLink RX0 126 yX4_rocks ∈ zTb := zTb_in 694 (by decide +kernel) rfl
theorem ml_X0_132 : Cond.methodLink RX0 132 yX4_draw ∈ zTb := zTb_in 695 (by decide +kernel) rfl
theorem dX0_letCat_0 : decode cX0_letCat 0 = .ok (.aload_n 1, 1) := by decide +kernel
theorem dX0_letCat_1 : decode cX0_letCat 1 = .ok (.iload_n 2, 1) := by decide +kernel
theorem dX0_letCat_2 : decode cX0_letCat 2 = .ok (.invokevirtual 126, 3) := by decide +kernel
theorem dX0_letCat_5 : decode cX0_letCat 5 = .ok (.ifCond .ne 4, 3) := by decide +kernel
theorem dX0_letCat_8 : decode cX0_letCat 8 = .ok (.return_, 1) := by decide +kernel
theorem dX0_letCat_9 : decode cX0_letCat 9 = .ok (.aload_n 0, 1) := by decide +kernel
theorem dX0_letCat_10 : decode cX0_letCat 10 = .ok (.aload_n 1, 1) := by decide +kernel
theorem dX0_letCat_11 : decode cX0_letCat 11 = .ok (.iconst 2, 1) := by decide +kernel
theorem dX0_letCat_12 : decode cX0_letCat 12 = .ok (.iload_n 2, 1) := by decide +kernel
theorem dX0_letCat_13 : decode cX0_letCat 13 = .ok (.aload_n 1, 1) := by decide +kernel
theorem dX0_letCat_14 : decode cX0_letCat 14 = .ok (.getfield 129, 3) := by decide +kernel
theorem dX0_letCat_17 : decode cX0_letCat 17 = .ok (.iload_n 2, 1) := by decide +kernel
theorem dX0_letCat_18 : decode cX0_letCat 18 = .ok (.iaload, 1) := by decide +kernel
theorem dX0_letCat_19 : decode cX0_letCat 19 = .ok (.invokevirtual 115, 3) := by decide +kernel
theorem dX0_letCat_22 : decode cX0_letCat 22 = .ok (.istore_n 3, 1) := by decide +kernel
theorem dX0_letCat_23 : decode cX0_letCat 23 = .ok (.aload_n 1, 1) := by decide +kernel
theorem dX0_letCat_24 : decode cX0_letCat 24 = .ok (.getfield 84, 3) := by decide +kernel
theorem dX0_letCat_27 : decode cX0_letCat 27 = .ok (.ifCond .eq 18, 3) := by decide +kernel
theorem dX0_letCat_30 : decode cX0_letCat 30 = .ok (.iload_n 3, 1) := by decide +kernel
theorem dX0_letCat_31 : decode cX0_letCat 31 = .ok (.sipush 500, 3) := by decide +kernel
theorem dX0_letCat_34 : decode cX0_letCat 34 = .ok (.if_icmp .lt 7, 3) := by decide +kernel
theorem dX0_letCat_37 : decode cX0_letCat 37 = .ok (.iconst 1, 1) := by decide +kernel
theorem dX0_letCat_38 : decode cX0_letCat 38 = .ok (.goto 27, 3) := by decide +kernel
theorem dX0_letCat_41 : decode cX0_letCat 41 = .ok (.iconst 0, 1) := by decide +kernel
theorem dX0_letCat_42 : decode cX0_letCat 42 = .ok (.goto 23, 3) := by decide +kernel
theorem dX0_letCat_45 : decode cX0_letCat 45 = .ok (.iload_n 3, 1) := by decide +kernel
theorem dX0_letCat_46 : decode cX0_letCat 46 = .ok (.ifCond .le 18, 3) := by decide +kernel
theorem dX0_letCat_49 : decode cX0_letCat 49 = .ok (.aload_n 1, 1) := by decide +kernel
theorem dX0_letCat_50 : decode cX0_letCat 50 = .ok (.sipush 1000, 3) := by decide +kernel
theorem dX0_letCat_53 : decode cX0_letCat 53 = .ok (.invokevirtual 132, 3) := by decide +kernel
theorem dX0_letCat_56 : decode cX0_letCat 56 = .ok (.iload_n 3, 1) := by decide +kernel
theorem dX0_letCat_57 : decode cX0_letCat 57 = .ok (.if_icmp .ge 7, 3) := by decide +kernel
theorem dX0_letCat_60 : decode cX0_letCat 60 = .ok (.iconst 1, 1) := by decide +kernel
theorem dX0_letCat_61 : decode cX0_letCat 61 = .ok (.goto 4, 3) := by decide +kernel
theorem dX0_letCat_64 : decode cX0_letCat 64 = .ok (.iconst 0, 1) := by decide +kernel
theorem dX0_letCat_65 : decode cX0_letCat 65 = .ok (.istore 4, 2) := by decide +kernel
theorem dX0_letCat_67 : decode cX0_letCat 67 = .ok (.iload 4, 2) := by decide +kernel
theorem dX0_letCat_69 : decode cX0_letCat 69 = .ok (.ifCond .eq 33, 3) := by decide +kernel
theorem dX0_letCat_72 : decode cX0_letCat 72 = .ok (.aload_n 0, 1) := by decide +kernel
theorem dX0_letCat_73 : decode cX0_letCat 73 = .ok (.aload_n 1, 1) := by decide +kernel
theorem dX0_letCat_74 : decode cX0_letCat 74 = .ok (.iconst 5, 1) := by decide +kernel
theorem dX0_letCat_75 : decode cX0_letCat 75 = .ok (.iload_n 2, 1) := by decide +kernel
theorem dX0_letCat_76 : decode cX0_letCat 76 = .ok (.aload_n 1, 1) := by decide +kernel
theorem dX0_letCat_77 : decode cX0_letCat 77 = .ok (.getfield 35, 3) := by decide +kernel
theorem dX0_letCat_80 : decode cX0_letCat 80 = .ok (.iload_n 2, 1) := by decide +kernel
theorem dX0_letCat_81 : decode cX0_letCat 81 = .ok (.iaload, 1) := by decide +kernel
theorem dX0_letCat_82 : decode cX0_letCat 82 = .ok (.invokevirtual 108, 3) := by decide +kernel
theorem dX0_letCat_85 : decode cX0_letCat 85 = .ok (.aload_n 1, 1) := by decide +kernel
theorem dX0_letCat_86 : decode cX0_letCat 86 = .ok (.dup, 1) := by decide +kernel
theorem dX0_letCat_87 : decode cX0_letCat 87 = .ok (.getfield 135, 3) := by decide +kernel
theorem dX0_letCat_90 : decode cX0_letCat 90 = .ok (.iconst 1, 1) := by decide +kernel
theorem dX0_letCat_91 : decode cX0_letCat 91 = .ok (.iadd, 1) := by decide +kernel
theorem dX0_letCat_92 : decode cX0_letCat 92 = .ok (.putfield 135, 3) := by decide +kernel
theorem dX0_letCat_95 : decode cX0_letCat 95 = .ok (.aload_n 1, 1) := by decide +kernel
theorem dX0_letCat_96 : decode cX0_letCat 96 = .ok (.iload_n 2, 1) := by decide +kernel
theorem dX0_letCat_97 : decode cX0_letCat 97 = .ok (.iconst 0, 1) := by decide +kernel
theorem dX0_letCat_98 : decode cX0_letCat 98 = .ok (.iconst (-1), 1) := by decide +kernel
theorem dX0_letCat_99 : decode cX0_letCat 99 = .ok (.invokevirtual 119, 3) := by decide +kernel
theorem dX0_letCat_102 : decode cX0_letCat 102 = .ok (.return_, 1) := by decide +kernel
def f_X0_letCat_65 (b1 : Nat)  (v2 : Int32) (s0 : Int32) (h : zHp) : Option (zHp) := (if s0 = 0 then some h else zix v2 10 ((f_X0_note b1 (5 : Int32) v2 (h (b1 + 2) v2.toNatClampNeg) h).bind fun x1 => zlt (zst x1 b1 12 ((x1 b1 12) + (1 : Int32))) fun h2 => (f_X4_rock b1 v2 (0 : Int32) (-1 : Int32) h2).bind fun x3 => some x3))
set_option maxHeartbeats 4000000 in
set_option maxRecDepth 100000 in
theorem f_X0_letCat_65_s (b1 : Nat) (hb1 : b1 ∈ xPorch) (v2 : Int32) (s0 : Int32) (h : zHp) : Sim wX mX0_letCat 4 rV 65 [(0, .ref 159), (1, .ref b1), (2, .int v2)] [.int s0] h (f_X0_letCat_65 b1 v2 s0 h) := by
  unfold f_X0_letCat_65
  refine Sim.istore (L' := [(4, .int s0), (0, .ref 159), (1, .ref b1), (2, .int v2)]) dX0_letCat_65 (Nat.le_of_ble_eq_true rfl) rfl ?_
  refine Sim.iload 0 dX0_letCat_67 rfl ?_
  refine Sim.if_eq 102 dX0_letCat_69 rfl ?_ ?_
  · exact Sim.vret dX0_letCat_102 rfl
  · refine Sim.aload_n 1 dX0_letCat_72 rfl ?_
    refine Sim.aload_n 2 dX0_letCat_73 rfl ?_
    refine Sim.iconst (v := (5 : Int32)) dX0_letCat_74 rfl ?_
    refine Sim.iload_n 3 dX0_letCat_75 rfl ?_
    refine Sim.aload_n 2 dX0_letCat_76 rfl ?_
    refine Sim.getR (j := (b1 + 2)) fl_X0_35 dX0_letCat_77 (xR_X4_2 _ hb1) ?_
    refine Sim.iload_n 3 dX0_letCat_80 rfl ?_
    refine Sim.iald (n := 10) dX0_letCat_81 (xA_X4_2 _ hb1) ?_
    refine Sim.callV4U (d1 := 1) (s_X0_note b1 hb1 (5 : Int32) v2 (h (b1 + 2) v2.toNatClampNeg) h) dX0_letCat_82 ml_X0_108 mv_X0_note xO_X0 (Nat.le_of_ble_eq_true rfl) (Nat.le_of_ble_eq_true rfl) (Nat.le_of_ble_eq_true rfl) (fun x1 => ?_)
    refine Sim.aload_n 2 dX0_letCat_85 rfl ?_
    refine Sim.dup dX0_letCat_86 rfl ?_
    refine Sim.getI fl_X0_135 dX0_letCat_87 (xI_X4_12 _ hb1) ?_
    refine Sim.iconst (v := (1 : Int32)) dX0_letCat_90 rfl ?_
    refine Sim.iadd dX0_letCat_91 ?_
    refine Sim.put fp_X0_135 dX0_letCat_92 (xI_X4_12 _ hb1) rfl rfl ?_
    refine Sim.lth (fun h2 => ?_)
    refine Sim.aload_n 2 dX0_letCat_95 rfl ?_
    refine Sim.iload_n 3 dX0_letCat_96 rfl ?_
    refine Sim.iconst (v := (0 : Int32)) dX0_letCat_97 rfl ?_
    refine Sim.iconst (v := (-1 : Int32)) dX0_letCat_98 rfl ?_
    refine Sim.callV3U (d1 := 0) (s_X4_rock b1 hb1 v2 (0 : Int32) (-1 : Int32) h2) dX0_letCat_99 ml_X0_119 mv_X4_rock (xOC_X4 _ hb1) (Nat.le_of_ble_eq_true rfl) (Nat.le_of_ble_eq_true rfl) (Nat.le_of_ble_eq_true rfl) (fun x3 => ?_)
    exact Sim.vret dX0_letCat_102 rfl
def f_X0_letCat (b1 : Nat) (a2 : Int32) (h : zHp) : Option (zHp) := (f_X4_rocks b1 a2 h).bind fun x1 => (if x1.1 = 0 then some x1.2 else zix a2 10 ((f_X0_ask b1 (2 : Int32) a2 (x1.2 (b1 + 3) a2.toNatClampNeg) x1.2).bind fun x2 => (if (x2.2 b1 0) = 0 then (if 0 < x2.1 then (f_X4_draw b1 (1000 : Int32) x2.2).bind fun x3 => (if x3.1 < x2.1 then f_X0_letCat_65 b1 a2 (1 : Int32) x3.2 else f_X0_letCat_65 b1 a2 (0 : Int32) x3.2) else f_X0_letCat_65 b1 a2 (0 : Int32) x2.2) else (if x2.1 < (500 : Int32) then f_X0_letCat_65 b1 a2 (0 : Int32) x2.2 else f_X0_letCat_65 b1 a2 (1 : Int32) x2.2))))
set_option maxHeartbeats 4000000 in
set_option maxRecDepth 100000 in
theorem s_X0_letCat (b1 : Nat) (hb1 : b1 ∈ xPorch) (a2 : Int32) (h : zHp) : Fn wX mX0_letCat 4 rV [.ref 159, .ref b1, .int a2] h (f_X0_letCat b1 a2 h) := by
  refine Fn.of rfl (Nat.le_of_ble_eq_true rfl) ?_
  unfold f_X0_letCat
  refine Sim.aload_n 1 dX0_letCat_0 rfl ?_
  refine Sim.iload_n 2 dX0_letCat_1 rfl ?_
  refine Sim.callV1I (d1 := 1) (s_X4_rocks b1 hb1 a2 h) dX0_letCat_2 ml_X0_126 mv_X4_rocks (xOC_X4 _ hb1) (Nat.le_of_ble_eq_true rfl) (Nat.le_of_ble_eq_true rfl) (Nat.le_of_ble_eq_true rfl) (fun x1 => ?_)
  refine Sim.if_ne 9 dX0_letCat_5 rfl ?_ ?_
  · exact Sim.vret dX0_letCat_8 rfl
  · refine Sim.aload_n 0 dX0_letCat_9 rfl ?_
    refine Sim.aload_n 1 dX0_letCat_10 rfl ?_
    refine Sim.iconst (v := (2 : Int32)) dX0_letCat_11 rfl ?_
    refine Sim.iload_n 2 dX0_letCat_12 rfl ?_
    refine Sim.aload_n 1 dX0_letCat_13 rfl ?_
    refine Sim.getR (j := (b1 + 3)) fl_X0_129 dX0_letCat_14 (xR_X4_3 _ hb1) ?_
    refine Sim.iload_n 2 dX0_letCat_17 rfl ?_
    refine Sim.iald (n := 10) dX0_letCat_18 (xA_X4_3 _ hb1) ?_
    refine Sim.callV4I (d1 := 3) (s_X0_ask b1 hb1 (2 : Int32) a2 (x1.2 (b1 + 3) a2.toNatClampNeg) x1.2) dX0_letCat_19 ml_X0_115 mv_X0_ask xO_X0 (Nat.le_of_ble_eq_true rfl) (Nat.le_of_ble_eq_true rfl) (Nat.le_of_ble_eq_true rfl) (fun x2 => ?_)
    refine Sim.istore_n (L' := [(3, .int x2.1), (0, .ref 159), (1, .ref b1), (2, .int a2)]) dX0_letCat_22 (Nat.le_of_ble_eq_true rfl) rfl ?_
    refine Sim.aload_n 2 dX0_letCat_23 rfl ?_
    refine Sim.getI fl_X0_84 dX0_letCat_24 (xI_X4_0 _ hb1) ?_
    refine Sim.if_eq 45 dX0_letCat_27 rfl ?_ ?_
    · refine Sim.iload_n 0 dX0_letCat_45 rfl ?_
      refine Sim.if_le 64 dX0_letCat_46 rfl ?_ ?_
      · refine Sim.aload_n 2 dX0_letCat_49 rfl ?_
        refine Sim.sipush (v := (1000 : Int32)) dX0_letCat_50 rfl ?_
        refine Sim.callV1I (d1 := 0) (s_X4_draw b1 hb1 (1000 : Int32) x2.2) dX0_letCat_53 ml_X0_132 mv_X4_draw (xOC_X4 _ hb1) (Nat.le_of_ble_eq_true rfl) (Nat.le_of_ble_eq_true rfl) (Nat.le_of_ble_eq_true rfl) (fun x3 => ?_)
        refine Sim.iload_n 0 dX0_letCat_56 rfl ?_
        refine Sim.icmp_ge 64 dX0_letCat_57 rfl ?_ ?_
        · refine Sim.iconst (v := (1 : Int32)) dX0_letCat_60 rfl ?_
          refine Sim.goto 65 dX0_letCat_61 rfl ?_
          refine Sim.locs [1, 2, 3] rfl ?_
          exact f_X0_letCat_65_s b1 hb1 a2 (1 : Int32) x3.2
        · refine Sim.iconst (v := (0 : Int32)) dX0_letCat_64 rfl ?_
          refine Sim.locs [1, 2, 3] rfl ?_
          exact f_X0_letCat_65_s b1 hb1 a2 (0 : Int32) x3.2
      · refine Sim.iconst (v := (0 : Int32)) dX0_letCat_64 rfl ?_
        refine Sim.locs [1, 2, 3] rfl ?_
        exact f_X0_letCat_65_s b1 hb1 a2 (0 : Int32) x2.2
    · refine Sim.iload_n 0 dX0_letCat_30 rfl ?_
      refine Sim.sipush (v := (500 : Int32)) dX0_letCat_31 rfl ?_
      refine Sim.icmp_lt 41 dX0_letCat_34 rfl ?_ ?_
      · refine Sim.iconst (v := (0 : Int32)) dX0_letCat_41 rfl ?_
        refine Sim.goto 65 dX0_letCat_42 rfl ?_
        refine Sim.locs [1, 2, 3] rfl ?_
        exact f_X0_letCat_65_s b1 hb1 a2 (0 : Int32) x2.2
      · refine Sim.iconst (v := (1 : Int32)) dX0_letCat_37 rfl ?_
        refine Sim.goto 65 dX0_letCat_38 rfl ?_
        refine Sim.locs [1, 2, 3] rfl ?_
        exact f_X0_letCat_65_s b1 hb1 a2 (1 : Int32) x2.2
theorem mv_X0_letCat : zMV mX0_letCat 2 := ⟨⟨zTb_in 693 (by decide +kernel) rfl, zTb_in 146 (by decide +kernel) rfl, ⟨by decide +kernel, by decide +kernel⟩, by decide +kernel⟩, zTb_in 691 (by decide +kernel) rfl, zTb_in 692 (by decide +kernel) rfl⟩
-- ===== RockingPorch$Doing.findsSeat(LRockingPorch$Porch;II)Z
abbrev mX0_findsSeat : zMt := (yX0_findsSeat, cX0_findsSeat, 5, some .boolean)
theorem ml_X0_178 : Cond.methodLink RX0 178 yX0_sitDown ∈ zTb := zTb_in 718 (by decide +kernel) rfl
theorem dX0_findsSeat_0 : decode cX0_findsSeat 0 = .ok (.aload_n 0, 1) := by decide +kernel
theorem dX0_findsSeat_1 : decode cX0_findsSeat 1 = .ok (.aload_n 1, 1) := by decide +kernel
theorem dX0_findsSeat_2 : decode cX0_findsSeat 2 = .ok (.iload_n 2, 1) := by decide +kernel
theorem dX0_findsSeat_3 : decode cX0_findsSeat 3 = .ok (.iload_n 3, 1) := by decide +kernel
theorem dX0_findsSeat_4 : decode cX0_findsSeat 4 = .ok (.invokevirtual 178, 3) := by decide +kernel
theorem dX0_findsSeat_7 : decode cX0_findsSeat 7 = .ok (.istore 4, 2) := by decide +kernel
theorem dX0_findsSeat_9 : decode cX0_findsSeat 9 = .ok (.iload 4, 2) := by decide +kernel
theorem dX0_findsSeat_11 : decode cX0_findsSeat 11 = .ok (.ifCond .ne 11, 3) := by decide +kernel
theorem dX0_findsSeat_14 : decode cX0_findsSeat 14 = .ok (.aload_n 0, 1) := by decide +kernel
theorem dX0_findsSeat_15 : decode cX0_findsSeat 15 = .ok (.aload_n 1, 1) := by decide +kernel
theorem dX0_findsSeat_16 : decode cX0_findsSeat 16 = .ok (.iconst 1, 1) := by decide +kernel
theorem dX0_findsSeat_17 : decode cX0_findsSeat 17 = .ok (.iload_n 2, 1) := by decide +kernel
theorem dX0_findsSeat_18 : decode cX0_findsSeat 18 = .ok (.iload_n 3, 1) := by decide +kernel
theorem dX0_findsSeat_19 : decode cX0_findsSeat 19 = .ok (.invokevirtual 108, 3) := by decide +kernel
theorem dX0_findsSeat_22 : decode cX0_findsSeat 22 = .ok (.iload 4, 2) := by decide +kernel
theorem dX0_findsSeat_24 : decode cX0_findsSeat 24 = .ok (.ireturn, 1) := by decide +kernel
def f_X0_findsSeat (b1 : Nat) (a2 : Int32) (a3 : Int32) (h : zHp) : Option (Int32 × zHp) := (f_X0_sitDown b1 a2 a3 h).bind fun x1 => (if x1.1 = 0 then (f_X0_note b1 (1 : Int32) a2 a3 x1.2).bind fun x2 => zzb x1.1 (some (x1.1, x2)) else zzb x1.1 (some (x1.1, x1.2)))
set_option maxHeartbeats 4000000 in
set_option maxRecDepth 100000 in
theorem s_X0_findsSeat (b1 : Nat) (hb1 : b1 ∈ xPorch) (a2 : Int32) (a3 : Int32) (h : zHp) : Fn wX mX0_findsSeat 3 rI [.ref 159, .ref b1, .int a2, .int a3] h (f_X0_findsSeat b1 a2 a3 h) := by
  refine Fn.of rfl (Nat.le_of_ble_eq_true rfl) ?_
  unfold f_X0_findsSeat
  refine Sim.aload_n 0 dX0_findsSeat_0 rfl ?_
  refine Sim.aload_n 1 dX0_findsSeat_1 rfl ?_
  refine Sim.iload_n 2 dX0_findsSeat_2 rfl ?_
  refine Sim.iload_n 3 dX0_findsSeat_3 rfl ?_
  refine Sim.callV3I (d1 := 2) (s_X0_sitDown b1 hb1 a2 a3 h) dX0_findsSeat_4 ml_X0_178 mv_X0_sitDown xO_X0 (Nat.le_of_ble_eq_true rfl) (Nat.le_of_ble_eq_true rfl) (Nat.le_of_ble_eq_true rfl) (fun x1 => ?_)
  refine Sim.istore (L' := [(4, .int x1.1), (0, .ref 159), (1, .ref b1), (2, .int a2), (3, .int a3)]) dX0_findsSeat_7 (Nat.le_of_ble_eq_true rfl) rfl ?_
  refine Sim.iload 0 dX0_findsSeat_9 rfl ?_
  refine Sim.if_ne 22 dX0_findsSeat_11 rfl ?_ ?_
  · refine Sim.aload_n 1 dX0_findsSeat_14 rfl ?_
    refine Sim.aload_n 2 dX0_findsSeat_15 rfl ?_
    refine Sim.iconst (v := (1 : Int32)) dX0_findsSeat_16 rfl ?_
    refine Sim.iload_n 3 dX0_findsSeat_17 rfl ?_
    refine Sim.iload_n 4 dX0_findsSeat_18 rfl ?_
    refine Sim.callV4U (d1 := 1) (s_X0_note b1 hb1 (1 : Int32) a2 a3 x1.2) dX0_findsSeat_19 ml_X0_108 mv_X0_note xO_X0 (Nat.le_of_ble_eq_true rfl) (Nat.le_of_ble_eq_true rfl) (Nat.le_of_ble_eq_true rfl) (fun x2 => ?_)
    refine Sim.iload 0 dX0_findsSeat_22 rfl ?_
    exact Sim.zret dX0_findsSeat_24 rfl
  · refine Sim.iload 0 dX0_findsSeat_22 rfl ?_
    exact Sim.zret dX0_findsSeat_24 rfl
theorem mv_X0_findsSeat : zMV mX0_findsSeat 3 := ⟨⟨zTb_in 717 (by decide +kernel) rfl, zTb_in 146 (by decide +kernel) rfl, ⟨by decide +kernel, by decide +kernel⟩, by decide +kernel⟩, zTb_in 716 (by decide +kernel) rfl, zTb_in 5 (by decide +kernel) rfl⟩
-- ===== RockingPorch$Doing.answer(LRockingPorch$Porch;I)Z
abbrev mX0_answer : zMt := (yX0_answer, cX0_answer, 4, some .boolean)
theorem fl_X0_138 : zF RX0 138 9 3 := ⟨RX9, TX9, 7, rfl, Nat.le_of_ble_eq_true rfl, zTb_in 369 (by decide +kernel) rfl, in_X9⟩
theorem ml_X0_144 : Cond.methodLink RX0 144 yX2_cell ∈ zTb := zTb_in 709 (by decide +kernel) rfl
theorem ml_X0_165 : Cond.methodLink RX0 165 yX0_findsSeat ∈ zTb := zTb_in 714 (by decide +kernel) rfl
theorem ml_X0_169 : Cond.methodLink RX0 169 yX0_getUp ∈ zTb := zTb_in 719 (by decide +kernel) rfl
theorem ml_X0_172 : Cond.methodLink RX0 172 yX0_goAway ∈ zTb := zTb_in 720 (by decide +kernel) rfl
theorem ml_X0_175 : Cond.methodLink RX0 175 yX0_comeBack ∈ zTb := zTb_in 730 (by decide +kernel) rfl
theorem dX0_answer_0 : decode cX0_answer 0 = .ok (.aload_n 0, 1) := by decide +kernel
theorem dX0_answer_1 : decode cX0_answer 1 = .ok (.getfield 15, 3) := by decide +kernel
theorem dX0_answer_4 : decode cX0_answer 4 = .ok (.getfield 138, 3) := by decide +kernel
theorem dX0_answer_7 : decode cX0_answer 7 = .ok (.iload_n 2, 1) := by decide +kernel
theorem dX0_answer_8 : decode cX0_answer 8 = .ok (.iconst 2, 1) := by decide +kernel
theorem dX0_answer_9 : decode cX0_answer 9 = .ok (.invokevirtual 144, 3) := by decide +kernel
theorem dX0_answer_12 : decode cX0_answer 12 = .ok (.istore_n 3, 1) := by decide +kernel
theorem dX0_answer_13 : decode cX0_answer 13 = .ok (.aload_n 0, 1) := by decide +kernel
theorem dX0_answer_14 : decode cX0_answer 14 = .ok (.getfield 15, 3) := by decide +kernel
theorem dX0_answer_17 : decode cX0_answer 17 = .ok (.getfield 138, 3) := by decide +kernel
theorem dX0_answer_20 : decode cX0_answer 20 = .ok (.iload_n 2, 1) := by decide +kernel
theorem dX0_answer_21 : decode cX0_answer 21 = .ok (.iconst 1, 1) := by decide +kernel
theorem dX0_answer_22 : decode cX0_answer 22 = .ok (.invokevirtual 144, 3) := by decide +kernel
theorem dX0_answer_25 : decode cX0_answer 25 = .ok (.tableswitch 85 18 20 #[27, 63, 71], 27) := by decide +kernel
theorem dX0_answer_52 : decode cX0_answer 52 = .ok (.aload_n 1, 1) := by decide +kernel
theorem dX0_answer_53 : decode cX0_answer 53 = .ok (.iload_n 3, 1) := by decide +kernel
theorem dX0_answer_54 : decode cX0_answer 54 = .ok (.iconst 1, 1) := by decide +kernel
theorem dX0_answer_55 : decode cX0_answer 55 = .ok (.invokevirtual 95, 3) := by decide +kernel
theorem dX0_answer_58 : decode cX0_answer 58 = .ok (.ifCond .eq 24, 3) := by decide +kernel
theorem dX0_answer_61 : decode cX0_answer 61 = .ok (.aload_n 0, 1) := by decide +kernel
theorem dX0_answer_62 : decode cX0_answer 62 = .ok (.aload_n 1, 1) := by decide +kernel
theorem dX0_answer_63 : decode cX0_answer 63 = .ok (.iload_n 3, 1) := by decide +kernel
theorem dX0_answer_64 : decode cX0_answer 64 = .ok (.aload_n 0, 1) := by decide +kernel
theorem dX0_answer_65 : decode cX0_answer 65 = .ok (.getfield 15, 3) := by decide +kernel
theorem dX0_answer_68 : decode cX0_answer 68 = .ok (.getfield 138, 3) := by decide +kernel
theorem dX0_answer_71 : decode cX0_answer 71 = .ok (.iload_n 2, 1) := by decide +kernel
theorem dX0_answer_72 : decode cX0_answer 72 = .ok (.iconst 3, 1) := by decide +kernel
theorem dX0_answer_73 : decode cX0_answer 73 = .ok (.invokevirtual 144, 3) := by decide +kernel
theorem dX0_answer_76 : decode cX0_answer 76 = .ok (.invokevirtual 165, 3) := by decide +kernel
theorem dX0_answer_79 : decode cX0_answer 79 = .ok (.ifCond .eq 7, 3) := by decide +kernel
theorem dX0_answer_82 : decode cX0_answer 82 = .ok (.iconst 1, 1) := by decide +kernel
theorem dX0_answer_83 : decode cX0_answer 83 = .ok (.goto 4, 3) := by decide +kernel
theorem dX0_answer_86 : decode cX0_answer 86 = .ok (.iconst 0, 1) := by decide +kernel
theorem dX0_answer_87 : decode cX0_answer 87 = .ok (.ireturn, 1) := by decide +kernel
theorem dX0_answer_88 : decode cX0_answer 88 = .ok (.aload_n 0, 1) := by decide +kernel
theorem dX0_answer_89 : decode cX0_answer 89 = .ok (.aload_n 1, 1) := by decide +kernel
theorem dX0_answer_90 : decode cX0_answer 90 = .ok (.iload_n 3, 1) := by decide +kernel
theorem dX0_answer_91 : decode cX0_answer 91 = .ok (.invokevirtual 169, 3) := by decide +kernel
theorem dX0_answer_94 : decode cX0_answer 94 = .ok (.iconst 1, 1) := by decide +kernel
theorem dX0_answer_95 : decode cX0_answer 95 = .ok (.ireturn, 1) := by decide +kernel
theorem dX0_answer_96 : decode cX0_answer 96 = .ok (.aload_n 0, 1) := by decide +kernel
theorem dX0_answer_97 : decode cX0_answer 97 = .ok (.aload_n 1, 1) := by decide +kernel
theorem dX0_answer_98 : decode cX0_answer 98 = .ok (.iload_n 3, 1) := by decide +kernel
theorem dX0_answer_99 : decode cX0_answer 99 = .ok (.invokevirtual 169, 3) := by decide +kernel
theorem dX0_answer_102 : decode cX0_answer 102 = .ok (.aload_n 0, 1) := by decide +kernel
theorem dX0_answer_103 : decode cX0_answer 103 = .ok (.aload_n 1, 1) := by decide +kernel
theorem dX0_answer_104 : decode cX0_answer 104 = .ok (.iload_n 3, 1) := by decide +kernel
theorem dX0_answer_105 : decode cX0_answer 105 = .ok (.invokevirtual 172, 3) := by decide +kernel
theorem dX0_answer_108 : decode cX0_answer 108 = .ok (.iconst 1, 1) := by decide +kernel
theorem dX0_answer_109 : decode cX0_answer 109 = .ok (.ireturn, 1) := by decide +kernel
theorem dX0_answer_110 : decode cX0_answer 110 = .ok (.aload_n 0, 1) := by decide +kernel
theorem dX0_answer_111 : decode cX0_answer 111 = .ok (.aload_n 1, 1) := by decide +kernel
theorem dX0_answer_112 : decode cX0_answer 112 = .ok (.iload_n 3, 1) := by decide +kernel
theorem dX0_answer_113 : decode cX0_answer 113 = .ok (.invokevirtual 175, 3) := by decide +kernel
theorem dX0_answer_116 : decode cX0_answer 116 = .ok (.iconst 1, 1) := by decide +kernel
theorem dX0_answer_117 : decode cX0_answer 117 = .ok (.ireturn, 1) := by decide +kernel
def f_X0_answer (b1 : Nat) (a2 : Int32) (h : zHp) : Option (Int32 × zHp) := (f_X2_cell 20 a2 (2 : Int32) h).bind fun x1 => (f_X2_cell 20 a2 (1 : Int32) x1.2).bind fun x2 => (if x2.1 = (18 : Int32) then (f_X4_is b1 x1.1 (1 : Int32) x2.2).bind fun x4 => (if x4.1 = 0 then some ((1 : Int32), x4.2) else (f_X2_cell 20 a2 (3 : Int32) x4.2).bind fun x5 => (f_X0_findsSeat b1 x1.1 x5.1 x5.2).bind fun x6 => (if x6.1 = 0 then some ((0 : Int32), x6.2) else some ((1 : Int32), x6.2))) else (if x2.1 = (19 : Int32) then (f_X0_getUp b1 x1.1 x2.2).bind fun x8 => some ((1 : Int32), x8) else (if x2.1 = (20 : Int32) then (f_X0_getUp b1 x1.1 x2.2).bind fun x10 => (f_X0_goAway b1 x1.1 x10).bind fun x11 => some ((1 : Int32), x11) else (f_X0_comeBack b1 x1.1 x2.2).bind fun x12 => some ((1 : Int32), x12))))
set_option maxHeartbeats 4000000 in
set_option maxRecDepth 100000 in
theorem s_X0_answer (b1 : Nat) (hb1 : b1 ∈ xPorch) (a2 : Int32) (h : zHp) : Fn wX mX0_answer 5 rI [.ref 159, .ref b1, .int a2] h (f_X0_answer b1 a2 h) := by
  refine Fn.of rfl (Nat.le_of_ble_eq_true rfl) ?_
  unfold f_X0_answer
  refine Sim.aload_n 0 dX0_answer_0 rfl ?_
  refine Sim.getR (j := 1) fl_X0_15 dX0_answer_1 xR_159_0 ?_
  refine Sim.getR (j := 20) fl_X0_138 dX0_answer_4 (xR_X9_3 _ xL_X9_1) ?_
  refine Sim.iload_n 2 dX0_answer_7 rfl ?_
  refine Sim.iconst (v := (2 : Int32)) dX0_answer_8 rfl ?_
  refine Sim.callV2I (d1 := 0) (s_X2_cell 20 xL_X2_20 a2 (2 : Int32) h) dX0_answer_9 ml_X0_144 mv_X2_cell (xOC_X2 _ xL_X2_20) (Nat.le_of_ble_eq_true rfl) (Nat.le_of_ble_eq_true rfl) (Nat.le_of_ble_eq_true rfl) (fun x1 => ?_)
  refine Sim.istore_n (L' := [(3, .int x1.1), (0, .ref 159), (1, .ref b1), (2, .int a2)]) dX0_answer_12 (Nat.le_of_ble_eq_true rfl) rfl ?_
  refine Sim.aload_n 1 dX0_answer_13 rfl ?_
  refine Sim.getR (j := 1) fl_X0_15 dX0_answer_14 xR_159_0 ?_
  refine Sim.getR (j := 20) fl_X0_138 dX0_answer_17 (xR_X9_3 _ xL_X9_1) ?_
  refine Sim.iload_n 3 dX0_answer_20 rfl ?_
  refine Sim.iconst (v := (1 : Int32)) dX0_answer_21 rfl ?_
  refine Sim.callV2I (d1 := 0) (s_X2_cell 20 xL_X2_20 a2 (1 : Int32) x1.2) dX0_answer_22 ml_X0_144 mv_X2_cell (xOC_X2 _ xL_X2_20) (Nat.le_of_ble_eq_true rfl) (Nat.le_of_ble_eq_true rfl) (Nat.le_of_ble_eq_true rfl) (fun x2 => ?_)
  refine Sim.ite _ (fun q3 => ?_) (fun q3 => ?_)
  · refine Sim.tswIn 52 dX0_answer_25 q3 (by decide) (by decide) rfl rfl ?_
    refine Sim.aload_n 2 dX0_answer_52 rfl ?_
    refine Sim.iload_n 0 dX0_answer_53 rfl ?_
    refine Sim.iconst (v := (1 : Int32)) dX0_answer_54 rfl ?_
    refine Sim.callV2I (d1 := 1) (s_X4_is b1 hb1 x1.1 (1 : Int32) x2.2) dX0_answer_55 ml_X0_95 mv_X4_is (xOC_X4 _ hb1) (Nat.le_of_ble_eq_true rfl) (Nat.le_of_ble_eq_true rfl) (Nat.le_of_ble_eq_true rfl) (fun x4 => ?_)
    refine Sim.if_eq 82 dX0_answer_58 rfl ?_ ?_
    · refine Sim.iconst (v := (1 : Int32)) dX0_answer_82 rfl ?_
      refine Sim.goto 87 dX0_answer_83 rfl ?_
      exact Sim.nret dX0_answer_87 rfl rfl
    · refine Sim.aload_n 1 dX0_answer_61 rfl ?_
      refine Sim.aload_n 2 dX0_answer_62 rfl ?_
      refine Sim.iload_n 0 dX0_answer_63 rfl ?_
      refine Sim.aload_n 1 dX0_answer_64 rfl ?_
      refine Sim.getR (j := 1) fl_X0_15 dX0_answer_65 xR_159_0 ?_
      refine Sim.getR (j := 20) fl_X0_138 dX0_answer_68 (xR_X9_3 _ xL_X9_1) ?_
      refine Sim.iload_n 3 dX0_answer_71 rfl ?_
      refine Sim.iconst (v := (3 : Int32)) dX0_answer_72 rfl ?_
      refine Sim.callV2I (d1 := 0) (s_X2_cell 20 xL_X2_20 a2 (3 : Int32) x4.2) dX0_answer_73 ml_X0_144 mv_X2_cell (xOC_X2 _ xL_X2_20) (Nat.le_of_ble_eq_true rfl) (Nat.le_of_ble_eq_true rfl) (Nat.le_of_ble_eq_true rfl) (fun x5 => ?_)
      refine Sim.callV3I (d1 := 3) (s_X0_findsSeat b1 hb1 x1.1 x5.1 x5.2) dX0_answer_76 ml_X0_165 mv_X0_findsSeat xO_X0 (Nat.le_of_ble_eq_true rfl) (Nat.le_of_ble_eq_true rfl) (Nat.le_of_ble_eq_true rfl) (fun x6 => ?_)
      refine Sim.if_eq 86 dX0_answer_79 rfl ?_ ?_
      · refine Sim.iconst (v := (0 : Int32)) dX0_answer_86 rfl ?_
        exact Sim.nret dX0_answer_87 rfl rfl
      · refine Sim.iconst (v := (1 : Int32)) dX0_answer_82 rfl ?_
        refine Sim.goto 87 dX0_answer_83 rfl ?_
        exact Sim.nret dX0_answer_87 rfl rfl
  refine Sim.ite _ (fun q7 => ?_) (fun q7 => ?_)
  · refine Sim.tswIn 88 dX0_answer_25 q7 (by decide) (by decide) rfl rfl ?_
    refine Sim.aload_n 1 dX0_answer_88 rfl ?_
    refine Sim.aload_n 2 dX0_answer_89 rfl ?_
    refine Sim.iload_n 0 dX0_answer_90 rfl ?_
    refine Sim.callV2U (d1 := 4) (s_X0_getUp b1 hb1 x1.1 x2.2) dX0_answer_91 ml_X0_169 mv_X0_getUp xO_X0 (Nat.le_of_ble_eq_true rfl) (Nat.le_of_ble_eq_true rfl) (Nat.le_of_ble_eq_true rfl) (fun x8 => ?_)
    refine Sim.iconst (v := (1 : Int32)) dX0_answer_94 rfl ?_
    exact Sim.nret dX0_answer_95 rfl rfl
  refine Sim.ite _ (fun q9 => ?_) (fun q9 => ?_)
  · refine Sim.tswIn 96 dX0_answer_25 q9 (by decide) (by decide) rfl rfl ?_
    refine Sim.aload_n 1 dX0_answer_96 rfl ?_
    refine Sim.aload_n 2 dX0_answer_97 rfl ?_
    refine Sim.iload_n 0 dX0_answer_98 rfl ?_
    refine Sim.callV2U (d1 := 4) (s_X0_getUp b1 hb1 x1.1 x2.2) dX0_answer_99 ml_X0_169 mv_X0_getUp xO_X0 (Nat.le_of_ble_eq_true rfl) (Nat.le_of_ble_eq_true rfl) (Nat.le_of_ble_eq_true rfl) (fun x10 => ?_)
    refine Sim.aload_n 1 dX0_answer_102 rfl ?_
    refine Sim.aload_n 2 dX0_answer_103 rfl ?_
    refine Sim.iload_n 0 dX0_answer_104 rfl ?_
    refine Sim.callV2U (d1 := 2) (s_X0_goAway b1 hb1 x1.1 x10) dX0_answer_105 ml_X0_172 mv_X0_goAway xO_X0 (Nat.le_of_ble_eq_true rfl) (Nat.le_of_ble_eq_true rfl) (Nat.le_of_ble_eq_true rfl) (fun x11 => ?_)
    refine Sim.iconst (v := (1 : Int32)) dX0_answer_108 rfl ?_
    exact Sim.nret dX0_answer_109 rfl rfl
  refine Sim.tswOut 110 dX0_answer_25 (by have aq3 : x2.1.toInt ≠ 18 := fun w => q3 (Int32.toInt_inj.mp w); have aq7 : x2.1.toInt ≠ 19 := fun w => q7 (Int32.toInt_inj.mp w); have aq9 : x2.1.toInt ≠ 20 := fun w => q9 (Int32.toInt_inj.mp w); omega) rfl ?_
  refine Sim.aload_n 1 dX0_answer_110 rfl ?_
  refine Sim.aload_n 2 dX0_answer_111 rfl ?_
  refine Sim.iload_n 0 dX0_answer_112 rfl ?_
  refine Sim.callV2U (d1 := 2) (s_X0_comeBack b1 hb1 x1.1 x2.2) dX0_answer_113 ml_X0_175 mv_X0_comeBack xO_X0 (Nat.le_of_ble_eq_true rfl) (Nat.le_of_ble_eq_true rfl) (Nat.le_of_ble_eq_true rfl) (fun x12 => ?_)
  refine Sim.iconst (v := (1 : Int32)) dX0_answer_116 rfl ?_
  exact Sim.nret dX0_answer_117 rfl rfl
theorem mv_X0_answer : zMV mX0_answer 2 := ⟨⟨zTb_in 713 (by decide +kernel) rfl, zTb_in 146 (by decide +kernel) rfl, ⟨by decide +kernel, by decide +kernel⟩, by decide +kernel⟩, zTb_in 712 (by decide +kernel) rfl, zTb_in 4 (by decide +kernel) rfl⟩
-- ===== RockingPorch$Doing.hush(LRockingPorch$Porch;)V
abbrev mX0_hush : zMt := (yX0_hush, cX0_hush, 3, none)
theorem fl_X0_159 : zF RX0 159 4 9 := ⟨RX4, TX4, 15, rfl, Nat.le_of_ble_eq_true rfl, zTb_in 205 (by decide +kernel) rfl, in_X4⟩
theorem dX0_hush_0 : decode cX0_hush 0 = .ok (.iconst 0, 1) := by decide +kernel
theorem dX0_hush_1 : decode cX0_hush 1 = .ok (.istore_n 2, 1) := by decide +kernel
theorem dX0_hush_2 : decode cX0_hush 2 = .ok (.iload_n 2, 1) := by decide +kernel
theorem dX0_hush_3 : decode cX0_hush 3 = .ok (.aload_n 1, 1) := by decide +kernel
theorem dX0_hush_4 : decode cX0_hush 4 = .ok (.getfield 159, 3) := by decide +kernel
theorem dX0_hush_7 : decode cX0_hush 7 = .ok (.if_icmp .ge 36, 3) := by decide +kernel
theorem dX0_hush_10 : decode cX0_hush 10 = .ok (.aload_n 1, 1) := by decide +kernel
theorem dX0_hush_11 : decode cX0_hush 11 = .ok (.iload_n 2, 1) := by decide +kernel
theorem dX0_hush_12 : decode cX0_hush 12 = .ok (.invokevirtual 126, 3) := by decide +kernel
theorem dX0_hush_15 : decode cX0_hush 15 = .ok (.ifCond .eq 22, 3) := by decide +kernel
theorem dX0_hush_18 : decode cX0_hush 18 = .ok (.aload_n 1, 1) := by decide +kernel
theorem dX0_hush_19 : decode cX0_hush 19 = .ok (.iload_n 2, 1) := by decide +kernel
theorem dX0_hush_20 : decode cX0_hush 20 = .ok (.aload_n 1, 1) := by decide +kernel
theorem dX0_hush_21 : decode cX0_hush 21 = .ok (.getfield 35, 3) := by decide +kernel
theorem dX0_hush_24 : decode cX0_hush 24 = .ok (.iload_n 2, 1) := by decide +kernel
theorem dX0_hush_25 : decode cX0_hush 25 = .ok (.iaload, 1) := by decide +kernel
theorem dX0_hush_26 : decode cX0_hush 26 = .ok (.iconst 2, 1) := by decide +kernel
theorem dX0_hush_27 : decode cX0_hush 27 = .ok (.idiv, 1) := by decide +kernel
theorem dX0_hush_28 : decode cX0_hush 28 = .ok (.aload_n 1, 1) := by decide +kernel
theorem dX0_hush_29 : decode cX0_hush 29 = .ok (.getfield 129, 3) := by decide +kernel
theorem dX0_hush_32 : decode cX0_hush 32 = .ok (.iload_n 2, 1) := by decide +kernel
theorem dX0_hush_33 : decode cX0_hush 33 = .ok (.iaload, 1) := by decide +kernel
theorem dX0_hush_34 : decode cX0_hush 34 = .ok (.invokevirtual 119, 3) := by decide +kernel
theorem dX0_hush_37 : decode cX0_hush 37 = .ok (.iinc 2 1, 3) := by decide +kernel
theorem dX0_hush_40 : decode cX0_hush 40 = .ok (.goto (-38), 3) := by decide +kernel
theorem dX0_hush_43 : decode cX0_hush 43 = .ok (.return_, 1) := by decide +kernel
def f_X0_hush_2 (b1 : Nat) (k2 : Int32 × zHp → Option (zHp)) (v2 : Int32) (h : zHp) : Option (zHp) := (if v2 < (h b1 9) then (f_X4_rocks b1 v2 h).bind fun x1 => (if x1.1 = 0 then k2 ((v2 + (1 : Int32)), x1.2) else zix v2 10 (zix v2 10 ((f_X4_rock b1 v2 ((x1.2 (b1 + 2) v2.toNatClampNeg) / (2 : Int32)) (x1.2 (b1 + 3) v2.toNatClampNeg) x1.2).bind fun x2 => k2 ((v2 + (1 : Int32)), x2)))) else some h)
set_option maxHeartbeats 4000000 in
set_option maxRecDepth 100000 in
theorem f_X0_hush_2_s (b1 : Nat) (hb1 : b1 ∈ xPorch) (k2 : Int32 × zHp → Option (zHp)) (H2 : ∀ v : Int32 × zHp, Sim wX mX0_hush 2 rV 2 [(1, .ref b1), (2, .int v.1)] [] v.2 (k2 v)) (v2 : Int32) (h : zHp) : Sim wX mX0_hush 2 rV 2 [(1, .ref b1), (2, .int v2)] [] h (f_X0_hush_2 b1 k2 v2 h) := by
  unfold f_X0_hush_2
  refine Sim.iload_n 1 dX0_hush_2 rfl ?_
  refine Sim.aload_n 0 dX0_hush_3 rfl ?_
  refine Sim.getI fl_X0_159 dX0_hush_4 (xI_X4_9 _ hb1) ?_
  refine Sim.icmp_ge 43 dX0_hush_7 rfl ?_ ?_
  · refine Sim.aload_n 0 dX0_hush_10 rfl ?_
    refine Sim.iload_n 1 dX0_hush_11 rfl ?_
    refine Sim.callV1I (d1 := 1) (s_X4_rocks b1 hb1 v2 h) dX0_hush_12 ml_X0_126 mv_X4_rocks (xOC_X4 _ hb1) (Nat.le_of_ble_eq_true rfl) (Nat.le_of_ble_eq_true rfl) (Nat.le_of_ble_eq_true rfl) (fun x1 => ?_)
    refine Sim.if_eq 37 dX0_hush_15 rfl ?_ ?_
    · refine Sim.iinc (L' := [(2, .int (v2 + (1 : Int32))), (1, .ref b1)]) 1 dX0_hush_37 rfl rfl (Nat.le_of_ble_eq_true rfl) rfl ?_
      refine Sim.goto 2 dX0_hush_40 rfl ?_
      refine Sim.locs [1, 0] rfl ?_
      exact H2 ((v2 + (1 : Int32)), x1.2)
    · refine Sim.aload_n 0 dX0_hush_18 rfl ?_
      refine Sim.iload_n 1 dX0_hush_19 rfl ?_
      refine Sim.aload_n 0 dX0_hush_20 rfl ?_
      refine Sim.getR (j := (b1 + 2)) fl_X0_35 dX0_hush_21 (xR_X4_2 _ hb1) ?_
      refine Sim.iload_n 1 dX0_hush_24 rfl ?_
      refine Sim.iald (n := 10) dX0_hush_25 (xA_X4_2 _ hb1) ?_
      refine Sim.iconst (v := (2 : Int32)) dX0_hush_26 rfl ?_
      refine Sim.idivL dX0_hush_27 (by decide) ?_
      refine Sim.aload_n 0 dX0_hush_28 rfl ?_
      refine Sim.getR (j := (b1 + 3)) fl_X0_129 dX0_hush_29 (xR_X4_3 _ hb1) ?_
      refine Sim.iload_n 1 dX0_hush_32 rfl ?_
      refine Sim.iald (n := 10) dX0_hush_33 (xA_X4_3 _ hb1) ?_
      refine Sim.callV3U (d1 := 0) (s_X4_rock b1 hb1 v2 ((x1.2 (b1 + 2) v2.toNatClampNeg) / (2 : Int32)) (x1.2 (b1 + 3) v2.toNatClampNeg) x1.2) dX0_hush_34 ml_X0_119 mv_X4_rock (xOC_X4 _ hb1) (Nat.le_of_ble_eq_true rfl) (Nat.le_of_ble_eq_true rfl) (Nat.le_of_ble_eq_true rfl) (fun x2 => ?_)
      refine Sim.iinc (L' := [(2, .int (v2 + (1 : Int32))), (1, .ref b1)]) 1 dX0_hush_37 rfl rfl (Nat.le_of_ble_eq_true rfl) rfl ?_
      refine Sim.goto 2 dX0_hush_40 rfl ?_
      refine Sim.locs [1, 0] rfl ?_
      exact H2 ((v2 + (1 : Int32)), x2)
  · exact Sim.vret dX0_hush_43 rfl
def f_X0_hush_2_lp (b1 : Nat)  (n : Nat) (v : Int32 × zHp) : Option (zHp) := zlp (fun k2 v => f_X0_hush_2 b1 k2 v.1 v.2) n v
theorem f_X0_hush_2_ls (b1 : Nat) (hb1 : b1 ∈ xPorch) (n : Nat) (v : Int32 × zHp) : Sim wX mX0_hush 2 rV 2 [(1, .ref b1), (2, .int v.1)] [] v.2 (f_X0_hush_2_lp b1 n v) :=
  Sim.lp (V := Int32 × zHp) (Lf := fun v => [(1, .ref b1), (2, .int v.1)]) (sf := fun v => []) (hf := fun v => v.2) (fun k2 H2 v => f_X0_hush_2_s b1 hb1 k2 H2 v.1 v.2) n v
def f_X0_hush (b1 : Nat)  (h : zHp) : Option (zHp) := f_X0_hush_2_lp b1 zN ((0 : Int32), h)
set_option maxHeartbeats 4000000 in
set_option maxRecDepth 100000 in
theorem s_X0_hush (b1 : Nat) (hb1 : b1 ∈ xPorch)  (h : zHp) : Fn wX mX0_hush 2 rV [.ref 159, .ref b1] h (f_X0_hush b1 h) := by
  refine Fn.of rfl (Nat.le_of_ble_eq_true rfl) ?_
  unfold f_X0_hush
  refine Sim.iconst (v := (0 : Int32)) dX0_hush_0 rfl ?_
  refine Sim.istore_n (L' := [(2, .int (0 : Int32)), (0, .ref 159), (1, .ref b1)]) dX0_hush_1 (Nat.le_of_ble_eq_true rfl) rfl ?_
  refine Sim.locs [2, 0] rfl ?_
  exact f_X0_hush_2_ls b1 hb1 zN ((0 : Int32), h)
theorem mv_X0_hush : zMV mX0_hush 1 := ⟨⟨zTb_in 742 (by decide +kernel) rfl, zTb_in 146 (by decide +kernel) rfl, ⟨by decide +kernel, by decide +kernel⟩, by decide +kernel⟩, zTb_in 741 (by decide +kernel) rfl, zTb_in 9 (by decide +kernel) rfl⟩
-- ===== RockingPorch$Doing.keepHouse(LRockingPorch$Porch;I)V
abbrev mX0_keepHouse : zMt := (yX0_keepHouse, cX0_keepHouse, 3, none)
theorem fl_X0_152 : zF RX0 152 9 4 := ⟨RX9, TX9, 7, rfl, Nat.le_of_ble_eq_true rfl, zTb_in 372 (by decide +kernel) rfl, in_X9⟩
theorem fp_X0_64 : zFp RX0 64 4 11 .int := ⟨RX4, TX4, 15, tyX4, rfl, Nat.le_of_ble_eq_true rfl, zTb_in 210 (by decide +kernel) rfl, in_X4, tyX4_ok, nmX4, rfl, rfl⟩
theorem ml_X0_181 : Cond.methodLink RX0 181 yX0_letCat ∈ zTb := zTb_in 738 (by decide +kernel) rfl
theorem ml_X0_184 : Cond.methodLink RX0 184 yX0_hush ∈ zTb := zTb_in 739 (by decide +kernel) rfl
theorem dX0_keepHouse_0 : decode cX0_keepHouse 0 = .ok (.aload_n 0, 1) := by decide +kernel
theorem dX0_keepHouse_1 : decode cX0_keepHouse 1 = .ok (.getfield 15, 3) := by decide +kernel
theorem dX0_keepHouse_4 : decode cX0_keepHouse 4 = .ok (.getfield 152, 3) := by decide +kernel
theorem dX0_keepHouse_7 : decode cX0_keepHouse 7 = .ok (.iload_n 2, 1) := by decide +kernel
theorem dX0_keepHouse_8 : decode cX0_keepHouse 8 = .ok (.iconst 1, 1) := by decide +kernel
theorem dX0_keepHouse_9 : decode cX0_keepHouse 9 = .ok (.invokevirtual 144, 3) := by decide +kernel
theorem dX0_keepHouse_12 : decode cX0_keepHouse 12 = .ok (.lookupswitch 67 #[(9, 48), (22, 28)], 28) := by decide +kernel
theorem dX0_keepHouse_40 : decode cX0_keepHouse 40 = .ok (.aload_n 0, 1) := by decide +kernel
theorem dX0_keepHouse_41 : decode cX0_keepHouse 41 = .ok (.aload_n 1, 1) := by decide +kernel
theorem dX0_keepHouse_42 : decode cX0_keepHouse 42 = .ok (.aload_n 0, 1) := by decide +kernel
theorem dX0_keepHouse_43 : decode cX0_keepHouse 43 = .ok (.getfield 15, 3) := by decide +kernel
theorem dX0_keepHouse_46 : decode cX0_keepHouse 46 = .ok (.getfield 152, 3) := by decide +kernel
theorem dX0_keepHouse_49 : decode cX0_keepHouse 49 = .ok (.iload_n 2, 1) := by decide +kernel
theorem dX0_keepHouse_50 : decode cX0_keepHouse 50 = .ok (.iconst 2, 1) := by decide +kernel
theorem dX0_keepHouse_51 : decode cX0_keepHouse 51 = .ok (.invokevirtual 144, 3) := by decide +kernel
theorem dX0_keepHouse_54 : decode cX0_keepHouse 54 = .ok (.invokevirtual 181, 3) := by decide +kernel
theorem dX0_keepHouse_57 : decode cX0_keepHouse 57 = .ok (.goto 27, 3) := by decide +kernel
theorem dX0_keepHouse_60 : decode cX0_keepHouse 60 = .ok (.aload_n 1, 1) := by decide +kernel
theorem dX0_keepHouse_61 : decode cX0_keepHouse 61 = .ok (.aload_n 0, 1) := by decide +kernel
theorem dX0_keepHouse_62 : decode cX0_keepHouse 62 = .ok (.getfield 15, 3) := by decide +kernel
theorem dX0_keepHouse_65 : decode cX0_keepHouse 65 = .ok (.getfield 152, 3) := by decide +kernel
theorem dX0_keepHouse_68 : decode cX0_keepHouse 68 = .ok (.iload_n 2, 1) := by decide +kernel
theorem dX0_keepHouse_69 : decode cX0_keepHouse 69 = .ok (.iconst 3, 1) := by decide +kernel
theorem dX0_keepHouse_70 : decode cX0_keepHouse 70 = .ok (.invokevirtual 144, 3) := by decide +kernel
theorem dX0_keepHouse_73 : decode cX0_keepHouse 73 = .ok (.putfield 64, 3) := by decide +kernel
theorem dX0_keepHouse_76 : decode cX0_keepHouse 76 = .ok (.goto 8, 3) := by decide +kernel
theorem dX0_keepHouse_79 : decode cX0_keepHouse 79 = .ok (.aload_n 0, 1) := by decide +kernel
theorem dX0_keepHouse_80 : decode cX0_keepHouse 80 = .ok (.aload_n 1, 1) := by decide +kernel
theorem dX0_keepHouse_81 : decode cX0_keepHouse 81 = .ok (.invokevirtual 184, 3) := by decide +kernel
theorem dX0_keepHouse_84 : decode cX0_keepHouse 84 = .ok (.return_, 1) := by decide +kernel
def f_X0_keepHouse (b1 : Nat) (a2 : Int32) (h : zHp) : Option (zHp) := (f_X2_cell 22 a2 (1 : Int32) h).bind fun x1 => (if x1.1 = (9 : Int32) then (f_X2_cell 22 a2 (3 : Int32) x1.2).bind fun x3 => zlt (zst x3.2 b1 11 x3.1) fun h4 => some h4 else (if x1.1 = (22 : Int32) then (f_X2_cell 22 a2 (2 : Int32) x1.2).bind fun x6 => (f_X0_letCat b1 x6.1 x6.2).bind fun x7 => some x7 else (f_X0_hush b1 x1.2).bind fun x8 => some x8))
set_option maxHeartbeats 4000000 in
set_option maxRecDepth 100000 in
theorem s_X0_keepHouse (b1 : Nat) (hb1 : b1 ∈ xPorch) (a2 : Int32) (h : zHp) : Fn wX mX0_keepHouse 5 rV [.ref 159, .ref b1, .int a2] h (f_X0_keepHouse b1 a2 h) := by
  refine Fn.of rfl (Nat.le_of_ble_eq_true rfl) ?_
  unfold f_X0_keepHouse
  refine Sim.aload_n 0 dX0_keepHouse_0 rfl ?_
  refine Sim.getR (j := 1) fl_X0_15 dX0_keepHouse_1 xR_159_0 ?_
  refine Sim.getR (j := 22) fl_X0_152 dX0_keepHouse_4 (xR_X9_4 _ xL_X9_1) ?_
  refine Sim.iload_n 2 dX0_keepHouse_7 rfl ?_
  refine Sim.iconst (v := (1 : Int32)) dX0_keepHouse_8 rfl ?_
  refine Sim.callV2I (d1 := 0) (s_X2_cell 22 xL_X2_22 a2 (1 : Int32) h) dX0_keepHouse_9 ml_X0_144 mv_X2_cell (xOC_X2 _ xL_X2_22) (Nat.le_of_ble_eq_true rfl) (Nat.le_of_ble_eq_true rfl) (Nat.le_of_ble_eq_true rfl) (fun x1 => ?_)
  refine Sim.ite _ (fun q2 => ?_) (fun q2 => ?_)
  · refine Sim.lsw (off := 48) 60 dX0_keepHouse_12 rfl (by rw [q2] <;> rfl) rfl ?_
    refine Sim.aload_n 1 dX0_keepHouse_60 rfl ?_
    refine Sim.aload_n 0 dX0_keepHouse_61 rfl ?_
    refine Sim.getR (j := 1) fl_X0_15 dX0_keepHouse_62 xR_159_0 ?_
    refine Sim.getR (j := 22) fl_X0_152 dX0_keepHouse_65 (xR_X9_4 _ xL_X9_1) ?_
    refine Sim.iload_n 2 dX0_keepHouse_68 rfl ?_
    refine Sim.iconst (v := (3 : Int32)) dX0_keepHouse_69 rfl ?_
    refine Sim.callV2I (d1 := 0) (s_X2_cell 22 xL_X2_22 a2 (3 : Int32) x1.2) dX0_keepHouse_70 ml_X0_144 mv_X2_cell (xOC_X2 _ xL_X2_22) (Nat.le_of_ble_eq_true rfl) (Nat.le_of_ble_eq_true rfl) (Nat.le_of_ble_eq_true rfl) (fun x3 => ?_)
    refine Sim.put fp_X0_64 dX0_keepHouse_73 (xI_X4_11 _ hb1) rfl rfl ?_
    refine Sim.lth (fun h4 => ?_)
    refine Sim.goto 84 dX0_keepHouse_76 rfl ?_
    exact Sim.vret dX0_keepHouse_84 rfl
  refine Sim.ite _ (fun q5 => ?_) (fun q5 => ?_)
  · refine Sim.lsw (off := 28) 40 dX0_keepHouse_12 rfl (by rw [q5] <;> rfl) rfl ?_
    refine Sim.aload_n 0 dX0_keepHouse_40 rfl ?_
    refine Sim.aload_n 1 dX0_keepHouse_41 rfl ?_
    refine Sim.aload_n 0 dX0_keepHouse_42 rfl ?_
    refine Sim.getR (j := 1) fl_X0_15 dX0_keepHouse_43 xR_159_0 ?_
    refine Sim.getR (j := 22) fl_X0_152 dX0_keepHouse_46 (xR_X9_4 _ xL_X9_1) ?_
    refine Sim.iload_n 2 dX0_keepHouse_49 rfl ?_
    refine Sim.iconst (v := (2 : Int32)) dX0_keepHouse_50 rfl ?_
    refine Sim.callV2I (d1 := 0) (s_X2_cell 22 xL_X2_22 a2 (2 : Int32) x1.2) dX0_keepHouse_51 ml_X0_144 mv_X2_cell (xOC_X2 _ xL_X2_22) (Nat.le_of_ble_eq_true rfl) (Nat.le_of_ble_eq_true rfl) (Nat.le_of_ble_eq_true rfl) (fun x6 => ?_)
    refine Sim.callV2U (d1 := 4) (s_X0_letCat b1 hb1 x6.1 x6.2) dX0_keepHouse_54 ml_X0_181 mv_X0_letCat xO_X0 (Nat.le_of_ble_eq_true rfl) (Nat.le_of_ble_eq_true rfl) (Nat.le_of_ble_eq_true rfl) (fun x7 => ?_)
    refine Sim.goto 84 dX0_keepHouse_57 rfl ?_
    exact Sim.vret dX0_keepHouse_84 rfl
  refine Sim.lsw (off := 67) 79 dX0_keepHouse_12 rfl (by have aq2 : x1.1.toInt ≠ 9 := fun w => q2 (Int32.toInt_inj.mp w); have aq5 : x1.1.toInt ≠ 22 := fun w => q5 (Int32.toInt_inj.mp w); simp [Op.lookupswitch.offset, aq2, Ne.symm aq2, aq5, Ne.symm aq5]) rfl ?_
  refine Sim.aload_n 0 dX0_keepHouse_79 rfl ?_
  refine Sim.aload_n 1 dX0_keepHouse_80 rfl ?_
  refine Sim.callV1U (d1 := 2) (s_X0_hush b1 hb1 x1.2) dX0_keepHouse_81 ml_X0_184 mv_X0_hush xO_X0 (Nat.le_of_ble_eq_true rfl) (Nat.le_of_ble_eq_true rfl) (Nat.le_of_ble_eq_true rfl) (fun x8 => ?_)
  exact Sim.vret dX0_keepHouse_84 rfl
theorem mv_X0_keepHouse : zMV mX0_keepHouse 2 := ⟨⟨zTb_in 737 (by decide +kernel) rfl, zTb_in 146 (by decide +kernel) rfl, ⟨by decide +kernel, by decide +kernel⟩, by decide +kernel⟩, zTb_in 736 (by decide +kernel) rfl, zTb_in 8 (by decide +kernel) rfl⟩
-- ===== RockingPorch$Doing.fade(LRockingPorch$Porch;I)V
abbrev mX0_fade : zMt := (yX0_fade, cX0_fade, 5, none)
theorem ml_X0_188 : Cond.methodLink RX0 188 Lib.Math.max.name ∈ zTb := zTb_in 747 (by decide +kernel) rfl
theorem dX0_fade_0 : decode cX0_fade 0 = .ok (.aload_n 1, 1) := by decide +kernel
theorem dX0_fade_1 : decode cX0_fade 1 = .ok (.iload_n 2, 1) := by decide +kernel
theorem dX0_fade_2 : decode cX0_fade 2 = .ok (.invokevirtual 126, 3) := by decide +kernel
theorem dX0_fade_5 : decode cX0_fade 5 = .ok (.ifCond .ne 4, 3) := by decide +kernel
theorem dX0_fade_8 : decode cX0_fade 8 = .ok (.return_, 1) := by decide +kernel
theorem dX0_fade_9 : decode cX0_fade 9 = .ok (.aload_n 1, 1) := by decide +kernel
theorem dX0_fade_10 : decode cX0_fade 10 = .ok (.getfield 129, 3) := by decide +kernel
theorem dX0_fade_13 : decode cX0_fade 13 = .ok (.iload_n 2, 1) := by decide +kernel
theorem dX0_fade_14 : decode cX0_fade 14 = .ok (.iaload, 1) := by decide +kernel
theorem dX0_fade_15 : decode cX0_fade 15 = .ok (.istore_n 3, 1) := by decide +kernel
theorem dX0_fade_16 : decode cX0_fade 16 = .ok (.aload_n 1, 1) := by decide +kernel
theorem dX0_fade_17 : decode cX0_fade 17 = .ok (.iload_n 3, 1) := by decide +kernel
theorem dX0_fade_18 : decode cX0_fade 18 = .ok (.invokevirtual 25, 3) := by decide +kernel
theorem dX0_fade_21 : decode cX0_fade 21 = .ok (.ifCond .eq 13, 3) := by decide +kernel
theorem dX0_fade_24 : decode cX0_fade 24 = .ok (.aload_n 1, 1) := by decide +kernel
theorem dX0_fade_25 : decode cX0_fade 25 = .ok (.getfield 58, 3) := by decide +kernel
theorem dX0_fade_28 : decode cX0_fade 28 = .ok (.iload_n 3, 1) := by decide +kernel
theorem dX0_fade_29 : decode cX0_fade 29 = .ok (.dup2, 1) := by decide +kernel
theorem dX0_fade_30 : decode cX0_fade 30 = .ok (.iaload, 1) := by decide +kernel
theorem dX0_fade_31 : decode cX0_fade 31 = .ok (.iconst 1, 1) := by decide +kernel
theorem dX0_fade_32 : decode cX0_fade 32 = .ok (.iadd, 1) := by decide +kernel
theorem dX0_fade_33 : decode cX0_fade 33 = .ok (.iastore, 1) := by decide +kernel
theorem dX0_fade_34 : decode cX0_fade 34 = .ok (.aload_n 0, 1) := by decide +kernel
theorem dX0_fade_35 : decode cX0_fade 35 = .ok (.aload_n 1, 1) := by decide +kernel
theorem dX0_fade_36 : decode cX0_fade 36 = .ok (.iconst 1, 1) := by decide +kernel
theorem dX0_fade_37 : decode cX0_fade 37 = .ok (.iload_n 2, 1) := by decide +kernel
theorem dX0_fade_38 : decode cX0_fade 38 = .ok (.iload_n 3, 1) := by decide +kernel
theorem dX0_fade_39 : decode cX0_fade 39 = .ok (.invokevirtual 115, 3) := by decide +kernel
theorem dX0_fade_42 : decode cX0_fade 42 = .ok (.istore 4, 2) := by decide +kernel
theorem dX0_fade_44 : decode cX0_fade 44 = .ok (.aload_n 1, 1) := by decide +kernel
theorem dX0_fade_45 : decode cX0_fade 45 = .ok (.iload_n 2, 1) := by decide +kernel
theorem dX0_fade_46 : decode cX0_fade 46 = .ok (.iconst 0, 1) := by decide +kernel
theorem dX0_fade_47 : decode cX0_fade 47 = .ok (.aload_n 1, 1) := by decide +kernel
theorem dX0_fade_48 : decode cX0_fade 48 = .ok (.getfield 35, 3) := by decide +kernel
theorem dX0_fade_51 : decode cX0_fade 51 = .ok (.iload_n 2, 1) := by decide +kernel
theorem dX0_fade_52 : decode cX0_fade 52 = .ok (.iaload, 1) := by decide +kernel
theorem dX0_fade_53 : decode cX0_fade 53 = .ok (.iload 4, 2) := by decide +kernel
theorem dX0_fade_55 : decode cX0_fade 55 = .ok (.isub, 1) := by decide +kernel
theorem dX0_fade_56 : decode cX0_fade 56 = .ok (.invokestatic 188, 3) := by decide +kernel
theorem dX0_fade_59 : decode cX0_fade 59 = .ok (.iload_n 3, 1) := by decide +kernel
theorem dX0_fade_60 : decode cX0_fade 60 = .ok (.invokevirtual 119, 3) := by decide +kernel
theorem dX0_fade_63 : decode cX0_fade 63 = .ok (.return_, 1) := by decide +kernel
def f_X0_fade_34 (b1 : Nat)  (v2 : Int32) (v3 : Int32) (h : zHp) : Option (zHp) := (f_X0_ask b1 (1 : Int32) v2 v3 h).bind fun x1 => zix v2 10 ((f_X4_rock b1 v2 (if (0 : Int32) < ((x1.2 (b1 + 2) v2.toNatClampNeg) - x1.1) then ((x1.2 (b1 + 2) v2.toNatClampNeg) - x1.1) else (0 : Int32)) v3 x1.2).bind fun x2 => some x2)
set_option maxHeartbeats 4000000 in
set_option maxRecDepth 100000 in
theorem f_X0_fade_34_s (b1 : Nat) (hb1 : b1 ∈ xPorch) (v2 : Int32) (v3 : Int32) (h : zHp) : Sim wX mX0_fade 4 rV 34 [(0, .ref 159), (1, .ref b1), (2, .int v2), (3, .int v3)] [] h (f_X0_fade_34 b1 v2 v3 h) := by
  unfold f_X0_fade_34
  refine Sim.aload_n 0 dX0_fade_34 rfl ?_
  refine Sim.aload_n 1 dX0_fade_35 rfl ?_
  refine Sim.iconst (v := (1 : Int32)) dX0_fade_36 rfl ?_
  refine Sim.iload_n 2 dX0_fade_37 rfl ?_
  refine Sim.iload_n 3 dX0_fade_38 rfl ?_
  refine Sim.callV4I (d1 := 3) (s_X0_ask b1 hb1 (1 : Int32) v2 v3 h) dX0_fade_39 ml_X0_115 mv_X0_ask xO_X0 (Nat.le_of_ble_eq_true rfl) (Nat.le_of_ble_eq_true rfl) (Nat.le_of_ble_eq_true rfl) (fun x1 => ?_)
  refine Sim.istore (L' := [(4, .int x1.1), (0, .ref 159), (1, .ref b1), (2, .int v2), (3, .int v3)]) dX0_fade_42 (Nat.le_of_ble_eq_true rfl) rfl ?_
  refine Sim.aload_n 2 dX0_fade_44 rfl ?_
  refine Sim.iload_n 3 dX0_fade_45 rfl ?_
  refine Sim.iconst (v := (0 : Int32)) dX0_fade_46 rfl ?_
  refine Sim.aload_n 2 dX0_fade_47 rfl ?_
  refine Sim.getR (j := (b1 + 2)) fl_X0_35 dX0_fade_48 (xR_X4_2 _ hb1) ?_
  refine Sim.iload_n 3 dX0_fade_51 rfl ?_
  refine Sim.iald (n := 10) dX0_fade_52 (xA_X4_2 _ hb1) ?_
  refine Sim.iload 0 dX0_fade_53 rfl ?_
  refine Sim.isub dX0_fade_55 ?_
  refine Sim.mmax dX0_fade_56 ml_X0_188 ms_max ms_Math mc_max (Nat.le_of_ble_eq_true rfl) (Nat.le_of_ble_eq_true rfl) ?_
  refine Sim.iload_n 4 dX0_fade_59 rfl ?_
  refine Sim.callV3U (d1 := 0) (s_X4_rock b1 hb1 v2 (if (0 : Int32) < ((x1.2 (b1 + 2) v2.toNatClampNeg) - x1.1) then ((x1.2 (b1 + 2) v2.toNatClampNeg) - x1.1) else (0 : Int32)) v3 x1.2) dX0_fade_60 ml_X0_119 mv_X4_rock (xOC_X4 _ hb1) (Nat.le_of_ble_eq_true rfl) (Nat.le_of_ble_eq_true rfl) (Nat.le_of_ble_eq_true rfl) (fun x2 => ?_)
  exact Sim.vret dX0_fade_63 rfl
def f_X0_fade (b1 : Nat) (a2 : Int32) (h : zHp) : Option (zHp) := (f_X4_rocks b1 a2 h).bind fun x1 => (if x1.1 = 0 then some x1.2 else zix a2 10 (zlt (x1.2 (b1 + 3) a2.toNatClampNeg) fun x2 => (f_X4_isPerson b1 x2 x1.2).bind fun x3 => (if x3.1 = 0 then f_X0_fade_34 b1 a2 x2 x3.2 else zix x2 14 (zix x2 14 (zlt (zst x3.2 (b1 + 7) x2.toNatClampNeg ((x3.2 (b1 + 7) x2.toNatClampNeg) + (1 : Int32))) fun h4 => f_X0_fade_34 b1 a2 x2 h4)))))
set_option maxHeartbeats 4000000 in
set_option maxRecDepth 100000 in
theorem s_X0_fade (b1 : Nat) (hb1 : b1 ∈ xPorch) (a2 : Int32) (h : zHp) : Fn wX mX0_fade 4 rV [.ref 159, .ref b1, .int a2] h (f_X0_fade b1 a2 h) := by
  refine Fn.of rfl (Nat.le_of_ble_eq_true rfl) ?_
  unfold f_X0_fade
  refine Sim.aload_n 1 dX0_fade_0 rfl ?_
  refine Sim.iload_n 2 dX0_fade_1 rfl ?_
  refine Sim.callV1I (d1 := 1) (s_X4_rocks b1 hb1 a2 h) dX0_fade_2 ml_X0_126 mv_X4_rocks (xOC_X4 _ hb1) (Nat.le_of_ble_eq_true rfl) (Nat.le_of_ble_eq_true rfl) (Nat.le_of_ble_eq_true rfl) (fun x1 => ?_)
  refine Sim.if_ne 9 dX0_fade_5 rfl ?_ ?_
  · exact Sim.vret dX0_fade_8 rfl
  · refine Sim.aload_n 1 dX0_fade_9 rfl ?_
    refine Sim.getR (j := (b1 + 3)) fl_X0_129 dX0_fade_10 (xR_X4_3 _ hb1) ?_
    refine Sim.iload_n 2 dX0_fade_13 rfl ?_
    refine Sim.iald (n := 10) dX0_fade_14 (xA_X4_3 _ hb1) ?_
    refine Sim.lti (fun x2 => ?_)
    refine Sim.istore_n (L' := [(3, .int x2), (0, .ref 159), (1, .ref b1), (2, .int a2)]) dX0_fade_15 (Nat.le_of_ble_eq_true rfl) rfl ?_
    refine Sim.aload_n 2 dX0_fade_16 rfl ?_
    refine Sim.iload_n 0 dX0_fade_17 rfl ?_
    refine Sim.callV1I (d1 := 0) (s_X4_isPerson b1 hb1 x2 x1.2) dX0_fade_18 ml_X0_25 mv_X4_isPerson (xOC_X4 _ hb1) (Nat.le_of_ble_eq_true rfl) (Nat.le_of_ble_eq_true rfl) (Nat.le_of_ble_eq_true rfl) (fun x3 => ?_)
    refine Sim.if_eq 34 dX0_fade_21 rfl ?_ ?_
    · refine Sim.locs [1, 2, 3, 0] rfl ?_
      exact f_X0_fade_34_s b1 hb1 a2 x2 x3.2
    · refine Sim.aload_n 2 dX0_fade_24 rfl ?_
      refine Sim.getR (j := (b1 + 7)) fl_X0_58 dX0_fade_25 (xR_X4_7 _ hb1) ?_
      refine Sim.iload_n 0 dX0_fade_28 rfl ?_
      refine Sim.dup2 dX0_fade_29 rfl rfl ?_
      refine Sim.iald (n := 14) dX0_fade_30 (xA_X4_7 _ hb1) ?_
      refine Sim.iconst (v := (1 : Int32)) dX0_fade_31 rfl ?_
      refine Sim.iadd dX0_fade_32 ?_
      refine Sim.iast (n := 14) dX0_fade_33 (xA_X4_7 _ hb1) ?_
      refine Sim.lth (fun h4 => ?_)
      refine Sim.locs [1, 2, 3, 0] rfl ?_
      exact f_X0_fade_34_s b1 hb1 a2 x2 h4
theorem mv_X0_fade : zMV mX0_fade 2 := ⟨⟨zTb_in 746 (by decide +kernel) rfl, zTb_in 146 (by decide +kernel) rfl, ⟨by decide +kernel, by decide +kernel⟩, by decide +kernel⟩, zTb_in 745 (by decide +kernel) rfl, zTb_in 10 (by decide +kernel) rfl⟩
-- ===== RockingPorch$Doing.passMinute(LRockingPorch$Porch;)I
abbrev mX0_passMinute : zMt := (yX0_passMinute, cX0_passMinute, 4, some .int)
theorem fl_X0_141 : zF RX0 141 2 2 := ⟨RX2, TX2, 3, rfl, Nat.le_of_ble_eq_true rfl, zTb_in 263 (by decide +kernel) rfl, in_X2⟩
theorem fp_X0_71 : zFp RX0 71 4 13 .int := ⟨RX4, TX4, 15, tyX4, rfl, Nat.le_of_ble_eq_true rfl, zTb_in 215 (by decide +kernel) rfl, in_X4, tyX4_ok, nmX4, rfl, rfl⟩
theorem ml_X0_148 : Cond.methodLink RX0 148 yX0_answer ∈ zTb := zTb_in 710 (by decide +kernel) rfl
theorem ml_X0_155 : Cond.methodLink RX0 155 yX0_keepHouse ∈ zTb := zTb_in 734 (by decide +kernel) rfl
theorem ml_X0_162 : Cond.methodLink RX0 162 yX0_fade ∈ zTb := zTb_in 743 (by decide +kernel) rfl
theorem dX0_passMinute_0 : decode cX0_passMinute 0 = .ok (.iconst 0, 1) := by decide +kernel
theorem dX0_passMinute_1 : decode cX0_passMinute 1 = .ok (.istore_n 2, 1) := by decide +kernel
theorem dX0_passMinute_2 : decode cX0_passMinute 2 = .ok (.iconst 0, 1) := by decide +kernel
theorem dX0_passMinute_3 : decode cX0_passMinute 3 = .ok (.istore_n 3, 1) := by decide +kernel
theorem dX0_passMinute_4 : decode cX0_passMinute 4 = .ok (.iload_n 3, 1) := by decide +kernel
theorem dX0_passMinute_5 : decode cX0_passMinute 5 = .ok (.aload_n 0, 1) := by decide +kernel
theorem dX0_passMinute_6 : decode cX0_passMinute 6 = .ok (.getfield 15, 3) := by decide +kernel
theorem dX0_passMinute_9 : decode cX0_passMinute 9 = .ok (.getfield 138, 3) := by decide +kernel
theorem dX0_passMinute_12 : decode cX0_passMinute 12 = .ok (.getfield 141, 3) := by decide +kernel
theorem dX0_passMinute_15 : decode cX0_passMinute 15 = .ok (.if_icmp .ge 40, 3) := by decide +kernel
theorem dX0_passMinute_18 : decode cX0_passMinute 18 = .ok (.aload_n 0, 1) := by decide +kernel
theorem dX0_passMinute_19 : decode cX0_passMinute 19 = .ok (.getfield 15, 3) := by decide +kernel
theorem dX0_passMinute_22 : decode cX0_passMinute 22 = .ok (.getfield 138, 3) := by decide +kernel
theorem dX0_passMinute_25 : decode cX0_passMinute 25 = .ok (.iload_n 3, 1) := by decide +kernel
theorem dX0_passMinute_26 : decode cX0_passMinute 26 = .ok (.iconst 0, 1) := by decide +kernel
theorem dX0_passMinute_27 : decode cX0_passMinute 27 = .ok (.invokevirtual 144, 3) := by decide +kernel
theorem dX0_passMinute_30 : decode cX0_passMinute 30 = .ok (.aload_n 1, 1) := by decide +kernel
theorem dX0_passMinute_31 : decode cX0_passMinute 31 = .ok (.getfield 71, 3) := by decide +kernel
theorem dX0_passMinute_34 : decode cX0_passMinute 34 = .ok (.if_icmp .ne 15, 3) := by decide +kernel
theorem dX0_passMinute_37 : decode cX0_passMinute 37 = .ok (.aload_n 0, 1) := by decide +kernel
theorem dX0_passMinute_38 : decode cX0_passMinute 38 = .ok (.aload_n 1, 1) := by decide +kernel
theorem dX0_passMinute_39 : decode cX0_passMinute 39 = .ok (.iload_n 3, 1) := by decide +kernel
theorem dX0_passMinute_40 : decode cX0_passMinute 40 = .ok (.invokevirtual 148, 3) := by decide +kernel
theorem dX0_passMinute_43 : decode cX0_passMinute 43 = .ok (.ifCond .ne 6, 3) := by decide +kernel
theorem dX0_passMinute_46 : decode cX0_passMinute 46 = .ok (.iinc 2 1, 3) := by decide +kernel
theorem dX0_passMinute_49 : decode cX0_passMinute 49 = .ok (.iinc 3 1, 3) := by decide +kernel
theorem dX0_passMinute_52 : decode cX0_passMinute 52 = .ok (.goto (-48), 3) := by decide +kernel
theorem dX0_passMinute_55 : decode cX0_passMinute 55 = .ok (.iconst 0, 1) := by decide +kernel
theorem dX0_passMinute_56 : decode cX0_passMinute 56 = .ok (.istore_n 3, 1) := by decide +kernel
theorem dX0_passMinute_57 : decode cX0_passMinute 57 = .ok (.iload_n 3, 1) := by decide +kernel
theorem dX0_passMinute_58 : decode cX0_passMinute 58 = .ok (.aload_n 0, 1) := by decide +kernel
theorem dX0_passMinute_59 : decode cX0_passMinute 59 = .ok (.getfield 15, 3) := by decide +kernel
theorem dX0_passMinute_62 : decode cX0_passMinute 62 = .ok (.getfield 152, 3) := by decide +kernel
theorem dX0_passMinute_65 : decode cX0_passMinute 65 = .ok (.getfield 141, 3) := by decide +kernel
theorem dX0_passMinute_68 : decode cX0_passMinute 68 = .ok (.if_icmp .ge 34, 3) := by decide +kernel
theorem dX0_passMinute_71 : decode cX0_passMinute 71 = .ok (.aload_n 0, 1) := by decide +kernel
theorem dX0_passMinute_72 : decode cX0_passMinute 72 = .ok (.getfield 15, 3) := by decide +kernel
theorem dX0_passMinute_75 : decode cX0_passMinute 75 = .ok (.getfield 152, 3) := by decide +kernel
theorem dX0_passMinute_78 : decode cX0_passMinute 78 = .ok (.iload_n 3, 1) := by decide +kernel
theorem dX0_passMinute_79 : decode cX0_passMinute 79 = .ok (.iconst 0, 1) := by decide +kernel
theorem dX0_passMinute_80 : decode cX0_passMinute 80 = .ok (.invokevirtual 144, 3) := by decide +kernel
theorem dX0_passMinute_83 : decode cX0_passMinute 83 = .ok (.aload_n 1, 1) := by decide +kernel
theorem dX0_passMinute_84 : decode cX0_passMinute 84 = .ok (.getfield 71, 3) := by decide +kernel
theorem dX0_passMinute_87 : decode cX0_passMinute 87 = .ok (.if_icmp .ne 9, 3) := by decide +kernel
theorem dX0_passMinute_90 : decode cX0_passMinute 90 = .ok (.aload_n 0, 1) := by decide +kernel
theorem dX0_passMinute_91 : decode cX0_passMinute 91 = .ok (.aload_n 1, 1) := by decide +kernel
theorem dX0_passMinute_92 : decode cX0_passMinute 92 = .ok (.iload_n 3, 1) := by decide +kernel
theorem dX0_passMinute_93 : decode cX0_passMinute 93 = .ok (.invokevirtual 155, 3) := by decide +kernel
theorem dX0_passMinute_96 : decode cX0_passMinute 96 = .ok (.iinc 3 1, 3) := by decide +kernel
theorem dX0_passMinute_99 : decode cX0_passMinute 99 = .ok (.goto (-42), 3) := by decide +kernel
theorem dX0_passMinute_102 : decode cX0_passMinute 102 = .ok (.iconst 0, 1) := by decide +kernel
theorem dX0_passMinute_103 : decode cX0_passMinute 103 = .ok (.istore_n 3, 1) := by decide +kernel
theorem dX0_passMinute_104 : decode cX0_passMinute 104 = .ok (.iload_n 3, 1) := by decide +kernel
theorem dX0_passMinute_105 : decode cX0_passMinute 105 = .ok (.aload_n 1, 1) := by decide +kernel
theorem dX0_passMinute_106 : decode cX0_passMinute 106 = .ok (.getfield 159, 3) := by decide +kernel
theorem dX0_passMinute_109 : decode cX0_passMinute 109 = .ok (.if_icmp .ge 15, 3) := by decide +kernel
theorem dX0_passMinute_112 : decode cX0_passMinute 112 = .ok (.aload_n 0, 1) := by decide +kernel
theorem dX0_passMinute_113 : decode cX0_passMinute 113 = .ok (.aload_n 1, 1) := by decide +kernel
theorem dX0_passMinute_114 : decode cX0_passMinute 114 = .ok (.iload_n 3, 1) := by decide +kernel
theorem dX0_passMinute_115 : decode cX0_passMinute 115 = .ok (.invokevirtual 162, 3) := by decide +kernel
theorem dX0_passMinute_118 : decode cX0_passMinute 118 = .ok (.iinc 3 1, 3) := by decide +kernel
theorem dX0_passMinute_121 : decode cX0_passMinute 121 = .ok (.goto (-17), 3) := by decide +kernel
theorem dX0_passMinute_124 : decode cX0_passMinute 124 = .ok (.aload_n 1, 1) := by decide +kernel
theorem dX0_passMinute_125 : decode cX0_passMinute 125 = .ok (.dup, 1) := by decide +kernel
theorem dX0_passMinute_126 : decode cX0_passMinute 126 = .ok (.getfield 71, 3) := by decide +kernel
theorem dX0_passMinute_129 : decode cX0_passMinute 129 = .ok (.iconst 1, 1) := by decide +kernel
theorem dX0_passMinute_130 : decode cX0_passMinute 130 = .ok (.iadd, 1) := by decide +kernel
theorem dX0_passMinute_131 : decode cX0_passMinute 131 = .ok (.putfield 71, 3) := by decide +kernel
theorem dX0_passMinute_134 : decode cX0_passMinute 134 = .ok (.iload_n 2, 1) := by decide +kernel
theorem dX0_passMinute_135 : decode cX0_passMinute 135 = .ok (.ireturn, 1) := by decide +kernel
def f_X0_passMinute_104 (b1 : Nat) (k104 : Int32 × Int32 × zHp → Option (Int32 × zHp)) (v2 : Int32) (v3 : Int32) (h : zHp) : Option (Int32 × zHp) := (if v3 < (h b1 9) then (f_X0_fade b1 v3 h).bind fun x1 => k104 (v2, (v3 + (1 : Int32)), x1) else zlt (zst h b1 13 ((h b1 13) + (1 : Int32))) fun h2 => some (v2, h2))
set_option maxHeartbeats 4000000 in
set_option maxRecDepth 100000 in
theorem f_X0_passMinute_104_s (b1 : Nat) (hb1 : b1 ∈ xPorch) (k104 : Int32 × Int32 × zHp → Option (Int32 × zHp)) (H104 : ∀ v : Int32 × Int32 × zHp, Sim wX mX0_passMinute 6 rI 104 [(0, .ref 159), (1, .ref b1), (2, .int v.1), (3, .int v.2.1)] [] v.2.2 (k104 v)) (v2 : Int32) (v3 : Int32) (h : zHp) : Sim wX mX0_passMinute 6 rI 104 [(0, .ref 159), (1, .ref b1), (2, .int v2), (3, .int v3)] [] h (f_X0_passMinute_104 b1 k104 v2 v3 h) := by
  unfold f_X0_passMinute_104
  refine Sim.iload_n 3 dX0_passMinute_104 rfl ?_
  refine Sim.aload_n 1 dX0_passMinute_105 rfl ?_
  refine Sim.getI fl_X0_159 dX0_passMinute_106 (xI_X4_9 _ hb1) ?_
  refine Sim.icmp_ge 124 dX0_passMinute_109 rfl ?_ ?_
  · refine Sim.aload_n 0 dX0_passMinute_112 rfl ?_
    refine Sim.aload_n 1 dX0_passMinute_113 rfl ?_
    refine Sim.iload_n 3 dX0_passMinute_114 rfl ?_
    refine Sim.callV2U (d1 := 4) (s_X0_fade b1 hb1 v3 h) dX0_passMinute_115 ml_X0_162 mv_X0_fade xO_X0 (Nat.le_of_ble_eq_true rfl) (Nat.le_of_ble_eq_true rfl) (Nat.le_of_ble_eq_true rfl) (fun x1 => ?_)
    refine Sim.iinc (L' := [(3, .int (v3 + (1 : Int32))), (0, .ref 159), (1, .ref b1), (2, .int v2)]) 3 dX0_passMinute_118 rfl rfl (Nat.le_of_ble_eq_true rfl) rfl ?_
    refine Sim.goto 104 dX0_passMinute_121 rfl ?_
    refine Sim.locs [1, 2, 3, 0] rfl ?_
    exact H104 (v2, (v3 + (1 : Int32)), x1)
  · refine Sim.aload_n 1 dX0_passMinute_124 rfl ?_
    refine Sim.dup dX0_passMinute_125 rfl ?_
    refine Sim.getI fl_X0_71 dX0_passMinute_126 (xI_X4_13 _ hb1) ?_
    refine Sim.iconst (v := (1 : Int32)) dX0_passMinute_129 rfl ?_
    refine Sim.iadd dX0_passMinute_130 ?_
    refine Sim.put fp_X0_71 dX0_passMinute_131 (xI_X4_13 _ hb1) rfl rfl ?_
    refine Sim.lth (fun h2 => ?_)
    refine Sim.iload_n 2 dX0_passMinute_134 rfl ?_
    exact Sim.iret dX0_passMinute_135 rfl
def f_X0_passMinute_104_lp (b1 : Nat)  (n : Nat) (v : Int32 × Int32 × zHp) : Option (Int32 × zHp) := zlp (fun k104 v => f_X0_passMinute_104 b1 k104 v.1 v.2.1 v.2.2) n v
theorem f_X0_passMinute_104_ls (b1 : Nat) (hb1 : b1 ∈ xPorch) (n : Nat) (v : Int32 × Int32 × zHp) : Sim wX mX0_passMinute 6 rI 104 [(0, .ref 159), (1, .ref b1), (2, .int v.1), (3, .int v.2.1)] [] v.2.2 (f_X0_passMinute_104_lp b1 n v) :=
  Sim.lp (V := Int32 × Int32 × zHp) (Lf := fun v => [(0, .ref 159), (1, .ref b1), (2, .int v.1), (3, .int v.2.1)]) (sf := fun v => []) (hf := fun v => v.2.2) (fun k104 H104 v => f_X0_passMinute_104_s b1 hb1 k104 H104 v.1 v.2.1 v.2.2) n v
def f_X0_passMinute_57 (b1 : Nat) (k57 : Int32 × Int32 × zHp → Option (Int32 × zHp)) (v2 : Int32) (v3 : Int32) (h : zHp) : Option (Int32 × zHp) := (if v3 < (h 22 2) then (f_X2_cell 22 v3 (0 : Int32) h).bind fun x1 => (if x1.1 = (x1.2 b1 13) then (f_X0_keepHouse b1 v3 x1.2).bind fun x2 => k57 (v2, (v3 + (1 : Int32)), x2) else k57 (v2, (v3 + (1 : Int32)), x1.2)) else f_X0_passMinute_104_lp b1 zN (v2, (0 : Int32), h))
set_option maxHeartbeats 4000000 in
set_option maxRecDepth 100000 in
theorem f_X0_passMinute_57_s (b1 : Nat) (hb1 : b1 ∈ xPorch) (k57 : Int32 × Int32 × zHp → Option (Int32 × zHp)) (H57 : ∀ v : Int32 × Int32 × zHp, Sim wX mX0_passMinute 6 rI 57 [(0, .ref 159), (1, .ref b1), (2, .int v.1), (3, .int v.2.1)] [] v.2.2 (k57 v)) (v2 : Int32) (v3 : Int32) (h : zHp) : Sim wX mX0_passMinute 6 rI 57 [(0, .ref 159), (1, .ref b1), (2, .int v2), (3, .int v3)] [] h (f_X0_passMinute_57 b1 k57 v2 v3 h) := by
  unfold f_X0_passMinute_57
  refine Sim.iload_n 3 dX0_passMinute_57 rfl ?_
  refine Sim.aload_n 0 dX0_passMinute_58 rfl ?_
  refine Sim.getR (j := 1) fl_X0_15 dX0_passMinute_59 xR_159_0 ?_
  refine Sim.getR (j := 22) fl_X0_152 dX0_passMinute_62 (xR_X9_4 _ xL_X9_1) ?_
  refine Sim.getI fl_X0_141 dX0_passMinute_65 (xI_X2_2 _ xL_X2_22) ?_
  refine Sim.icmp_ge 102 dX0_passMinute_68 rfl ?_ ?_
  · refine Sim.aload_n 0 dX0_passMinute_71 rfl ?_
    refine Sim.getR (j := 1) fl_X0_15 dX0_passMinute_72 xR_159_0 ?_
    refine Sim.getR (j := 22) fl_X0_152 dX0_passMinute_75 (xR_X9_4 _ xL_X9_1) ?_
    refine Sim.iload_n 3 dX0_passMinute_78 rfl ?_
    refine Sim.iconst (v := (0 : Int32)) dX0_passMinute_79 rfl ?_
    refine Sim.callV2I (d1 := 0) (s_X2_cell 22 xL_X2_22 v3 (0 : Int32) h) dX0_passMinute_80 ml_X0_144 mv_X2_cell (xOC_X2 _ xL_X2_22) (Nat.le_of_ble_eq_true rfl) (Nat.le_of_ble_eq_true rfl) (Nat.le_of_ble_eq_true rfl) (fun x1 => ?_)
    refine Sim.aload_n 1 dX0_passMinute_83 rfl ?_
    refine Sim.getI fl_X0_71 dX0_passMinute_84 (xI_X4_13 _ hb1) ?_
    refine Sim.icmp_ne 96 dX0_passMinute_87 rfl ?_ ?_
    · refine Sim.aload_n 0 dX0_passMinute_90 rfl ?_
      refine Sim.aload_n 1 dX0_passMinute_91 rfl ?_
      refine Sim.iload_n 3 dX0_passMinute_92 rfl ?_
      refine Sim.callV2U (d1 := 5) (s_X0_keepHouse b1 hb1 v3 x1.2) dX0_passMinute_93 ml_X0_155 mv_X0_keepHouse xO_X0 (Nat.le_of_ble_eq_true rfl) (Nat.le_of_ble_eq_true rfl) (Nat.le_of_ble_eq_true rfl) (fun x2 => ?_)
      refine Sim.iinc (L' := [(3, .int (v3 + (1 : Int32))), (0, .ref 159), (1, .ref b1), (2, .int v2)]) 3 dX0_passMinute_96 rfl rfl (Nat.le_of_ble_eq_true rfl) rfl ?_
      refine Sim.goto 57 dX0_passMinute_99 rfl ?_
      refine Sim.locs [1, 2, 3, 0] rfl ?_
      exact H57 (v2, (v3 + (1 : Int32)), x2)
    · refine Sim.iinc (L' := [(3, .int (v3 + (1 : Int32))), (0, .ref 159), (1, .ref b1), (2, .int v2)]) 3 dX0_passMinute_96 rfl rfl (Nat.le_of_ble_eq_true rfl) rfl ?_
      refine Sim.goto 57 dX0_passMinute_99 rfl ?_
      refine Sim.locs [1, 2, 3, 0] rfl ?_
      exact H57 (v2, (v3 + (1 : Int32)), x1.2)
  · refine Sim.iconst (v := (0 : Int32)) dX0_passMinute_102 rfl ?_
    refine Sim.istore_n (L' := [(3, .int (0 : Int32)), (0, .ref 159), (1, .ref b1), (2, .int v2)]) dX0_passMinute_103 (Nat.le_of_ble_eq_true rfl) rfl ?_
    refine Sim.locs [1, 2, 3, 0] rfl ?_
    exact f_X0_passMinute_104_ls b1 hb1 zN (v2, (0 : Int32), h)
def f_X0_passMinute_57_lp (b1 : Nat)  (n : Nat) (v : Int32 × Int32 × zHp) : Option (Int32 × zHp) := zlp (fun k57 v => f_X0_passMinute_57 b1 k57 v.1 v.2.1 v.2.2) n v
theorem f_X0_passMinute_57_ls (b1 : Nat) (hb1 : b1 ∈ xPorch) (n : Nat) (v : Int32 × Int32 × zHp) : Sim wX mX0_passMinute 6 rI 57 [(0, .ref 159), (1, .ref b1), (2, .int v.1), (3, .int v.2.1)] [] v.2.2 (f_X0_passMinute_57_lp b1 n v) :=
  Sim.lp (V := Int32 × Int32 × zHp) (Lf := fun v => [(0, .ref 159), (1, .ref b1), (2, .int v.1), (3, .int v.2.1)]) (sf := fun v => []) (hf := fun v => v.2.2) (fun k57 H57 v => f_X0_passMinute_57_s b1 hb1 k57 H57 v.1 v.2.1 v.2.2) n v
def f_X0_passMinute_4 (b1 : Nat) (k4 : Int32 × Int32 × zHp → Option (Int32 × zHp)) (v2 : Int32) (v3 : Int32) (h : zHp) : Option (Int32 × zHp) := (if v3 < (h 20 2) then (f_X2_cell 20 v3 (0 : Int32) h).bind fun x1 => (if x1.1 = (x1.2 b1 13) then (f_X0_answer b1 v3 x1.2).bind fun x2 => (if x2.1 = 0 then k4 ((v2 + (1 : Int32)), (v3 + (1 : Int32)), x2.2) else k4 (v2, (v3 + (1 : Int32)), x2.2)) else k4 (v2, (v3 + (1 : Int32)), x1.2)) else f_X0_passMinute_57_lp b1 zN (v2, (0 : Int32), h))
set_option maxHeartbeats 4000000 in
set_option maxRecDepth 100000 in
theorem f_X0_passMinute_4_s (b1 : Nat) (hb1 : b1 ∈ xPorch) (k4 : Int32 × Int32 × zHp → Option (Int32 × zHp)) (H4 : ∀ v : Int32 × Int32 × zHp, Sim wX mX0_passMinute 6 rI 4 [(0, .ref 159), (1, .ref b1), (2, .int v.1), (3, .int v.2.1)] [] v.2.2 (k4 v)) (v2 : Int32) (v3 : Int32) (h : zHp) : Sim wX mX0_passMinute 6 rI 4 [(0, .ref 159), (1, .ref b1), (2, .int v2), (3, .int v3)] [] h (f_X0_passMinute_4 b1 k4 v2 v3 h) := by
  unfold f_X0_passMinute_4
  refine Sim.iload_n 3 dX0_passMinute_4 rfl ?_
  refine Sim.aload_n 0 dX0_passMinute_5 rfl ?_
  refine Sim.getR (j := 1) fl_X0_15 dX0_passMinute_6 xR_159_0 ?_
  refine Sim.getR (j := 20) fl_X0_138 dX0_passMinute_9 (xR_X9_3 _ xL_X9_1) ?_
  refine Sim.getI fl_X0_141 dX0_passMinute_12 (xI_X2_2 _ xL_X2_20) ?_
  refine Sim.icmp_ge 55 dX0_passMinute_15 rfl ?_ ?_
  · refine Sim.aload_n 0 dX0_passMinute_18 rfl ?_
    refine Sim.getR (j := 1) fl_X0_15 dX0_passMinute_19 xR_159_0 ?_
    refine Sim.getR (j := 20) fl_X0_138 dX0_passMinute_22 (xR_X9_3 _ xL_X9_1) ?_
    refine Sim.iload_n 3 dX0_passMinute_25 rfl ?_
    refine Sim.iconst (v := (0 : Int32)) dX0_passMinute_26 rfl ?_
    refine Sim.callV2I (d1 := 0) (s_X2_cell 20 xL_X2_20 v3 (0 : Int32) h) dX0_passMinute_27 ml_X0_144 mv_X2_cell (xOC_X2 _ xL_X2_20) (Nat.le_of_ble_eq_true rfl) (Nat.le_of_ble_eq_true rfl) (Nat.le_of_ble_eq_true rfl) (fun x1 => ?_)
    refine Sim.aload_n 1 dX0_passMinute_30 rfl ?_
    refine Sim.getI fl_X0_71 dX0_passMinute_31 (xI_X4_13 _ hb1) ?_
    refine Sim.icmp_ne 49 dX0_passMinute_34 rfl ?_ ?_
    · refine Sim.aload_n 0 dX0_passMinute_37 rfl ?_
      refine Sim.aload_n 1 dX0_passMinute_38 rfl ?_
      refine Sim.iload_n 3 dX0_passMinute_39 rfl ?_
      refine Sim.callV2I (d1 := 5) (s_X0_answer b1 hb1 v3 x1.2) dX0_passMinute_40 ml_X0_148 mv_X0_answer xO_X0 (Nat.le_of_ble_eq_true rfl) (Nat.le_of_ble_eq_true rfl) (Nat.le_of_ble_eq_true rfl) (fun x2 => ?_)
      refine Sim.if_ne 49 dX0_passMinute_43 rfl ?_ ?_
      · refine Sim.iinc (L' := [(2, .int (v2 + (1 : Int32))), (0, .ref 159), (1, .ref b1), (3, .int v3)]) 2 dX0_passMinute_46 rfl rfl (Nat.le_of_ble_eq_true rfl) rfl ?_
        refine Sim.iinc (L' := [(3, .int (v3 + (1 : Int32))), (2, .int (v2 + (1 : Int32))), (0, .ref 159), (1, .ref b1)]) 3 dX0_passMinute_49 rfl rfl (Nat.le_of_ble_eq_true rfl) rfl ?_
        refine Sim.goto 4 dX0_passMinute_52 rfl ?_
        refine Sim.locs [2, 3, 1, 0] rfl ?_
        exact H4 ((v2 + (1 : Int32)), (v3 + (1 : Int32)), x2.2)
      · refine Sim.iinc (L' := [(3, .int (v3 + (1 : Int32))), (0, .ref 159), (1, .ref b1), (2, .int v2)]) 3 dX0_passMinute_49 rfl rfl (Nat.le_of_ble_eq_true rfl) rfl ?_
        refine Sim.goto 4 dX0_passMinute_52 rfl ?_
        refine Sim.locs [1, 2, 3, 0] rfl ?_
        exact H4 (v2, (v3 + (1 : Int32)), x2.2)
    · refine Sim.iinc (L' := [(3, .int (v3 + (1 : Int32))), (0, .ref 159), (1, .ref b1), (2, .int v2)]) 3 dX0_passMinute_49 rfl rfl (Nat.le_of_ble_eq_true rfl) rfl ?_
      refine Sim.goto 4 dX0_passMinute_52 rfl ?_
      refine Sim.locs [1, 2, 3, 0] rfl ?_
      exact H4 (v2, (v3 + (1 : Int32)), x1.2)
  · refine Sim.iconst (v := (0 : Int32)) dX0_passMinute_55 rfl ?_
    refine Sim.istore_n (L' := [(3, .int (0 : Int32)), (0, .ref 159), (1, .ref b1), (2, .int v2)]) dX0_passMinute_56 (Nat.le_of_ble_eq_true rfl) rfl ?_
    refine Sim.locs [1, 2, 3, 0] rfl ?_
    exact f_X0_passMinute_57_ls b1 hb1 zN (v2, (0 : Int32), h)
def f_X0_passMinute_4_lp (b1 : Nat)  (n : Nat) (v : Int32 × Int32 × zHp) : Option (Int32 × zHp) := zlp (fun k4 v => f_X0_passMinute_4 b1 k4 v.1 v.2.1 v.2.2) n v
theorem f_X0_passMinute_4_ls (b1 : Nat) (hb1 : b1 ∈ xPorch) (n : Nat) (v : Int32 × Int32 × zHp) : Sim wX mX0_passMinute 6 rI 4 [(0, .ref 159), (1, .ref b1), (2, .int v.1), (3, .int v.2.1)] [] v.2.2 (f_X0_passMinute_4_lp b1 n v) :=
  Sim.lp (V := Int32 × Int32 × zHp) (Lf := fun v => [(0, .ref 159), (1, .ref b1), (2, .int v.1), (3, .int v.2.1)]) (sf := fun v => []) (hf := fun v => v.2.2) (fun k4 H4 v => f_X0_passMinute_4_s b1 hb1 k4 H4 v.1 v.2.1 v.2.2) n v
def f_X0_passMinute (b1 : Nat)  (h : zHp) : Option (Int32 × zHp) := f_X0_passMinute_4_lp b1 zN ((0 : Int32), (0 : Int32), h)
set_option maxHeartbeats 4000000 in
set_option maxRecDepth 100000 in
theorem s_X0_passMinute (b1 : Nat) (hb1 : b1 ∈ xPorch)  (h : zHp) : Fn wX mX0_passMinute 6 rI [.ref 159, .ref b1] h (f_X0_passMinute b1 h) := by
  refine Fn.of rfl (Nat.le_of_ble_eq_true rfl) ?_
  unfold f_X0_passMinute
  refine Sim.iconst (v := (0 : Int32)) dX0_passMinute_0 rfl ?_
  refine Sim.istore_n (L' := [(2, .int (0 : Int32)), (0, .ref 159), (1, .ref b1)]) dX0_passMinute_1 (Nat.le_of_ble_eq_true rfl) rfl ?_
  refine Sim.iconst (v := (0 : Int32)) dX0_passMinute_2 rfl ?_
  refine Sim.istore_n (L' := [(3, .int (0 : Int32)), (2, .int (0 : Int32)), (0, .ref 159), (1, .ref b1)]) dX0_passMinute_3 (Nat.le_of_ble_eq_true rfl) rfl ?_
  refine Sim.locs [2, 3, 1, 0] rfl ?_
  exact f_X0_passMinute_4_ls b1 hb1 zN ((0 : Int32), (0 : Int32), h)
theorem mv_X0_passMinute : zMV mX0_passMinute 1 := ⟨⟨zTb_in 708 (by decide +kernel) rfl, zTb_in 146 (by decide +kernel) rfl, ⟨by decide +kernel, by decide +kernel⟩, by decide +kernel⟩, zTb_in 706 (by decide +kernel) rfl, zTb_in 707 (by decide +kernel) rfl⟩
-- ===== RockingPorch$Law.clear()V
abbrev mX1_clear : zMt := (yX1_clear, cX1_clear, 1, none)
theorem fp_X1_30 : zFp RX1 30 1 6 .int := ⟨RX1, TX1, 8, tyX1, rfl, Nat.le_of_ble_eq_true rfl, zTb_in 283 (by decide +kernel) rfl, in_X1, tyX1_ok, nmX1, rfl, rfl⟩
theorem fp_X1_34 : zFp RX1 34 1 7 .int := ⟨RX1, TX1, 8, tyX1, rfl, Nat.le_of_ble_eq_true rfl, zTb_in 284 (by decide +kernel) rfl, in_X1, tyX1_ok, nmX1, rfl, rfl⟩
theorem dX1_clear_0 : decode cX1_clear 0 = .ok (.aload_n 0, 1) := by decide +kernel
theorem dX1_clear_1 : decode cX1_clear 1 = .ok (.iconst 0, 1) := by decide +kernel
theorem dX1_clear_2 : decode cX1_clear 2 = .ok (.putfield 34, 3) := by decide +kernel
theorem dX1_clear_5 : decode cX1_clear 5 = .ok (.aload_n 0, 1) := by decide +kernel
theorem dX1_clear_6 : decode cX1_clear 6 = .ok (.iconst 0, 1) := by decide +kernel
theorem dX1_clear_7 : decode cX1_clear 7 = .ok (.putfield 30, 3) := by decide +kernel
theorem dX1_clear_10 : decode cX1_clear 10 = .ok (.return_, 1) := by decide +kernel
def f_X1_clear (o : Nat)  (h : zHp) : Option (zHp) := zlt (zst h o 7 (0 : Int32)) fun h1 => zlt (zst h1 o 6 (0 : Int32)) fun h2 => some h2
set_option maxHeartbeats 4000000 in
set_option maxRecDepth 100000 in
theorem s_X1_clear (o : Nat) (ho : o ∈ xLaw)  (h : zHp) : Fn wX mX1_clear 0 rV [.ref o] h (f_X1_clear o h) := by
  refine Fn.of rfl (Nat.le_of_ble_eq_true rfl) ?_
  unfold f_X1_clear
  refine Sim.aload_n 0 dX1_clear_0 rfl ?_
  refine Sim.iconst (v := (0 : Int32)) dX1_clear_1 rfl ?_
  refine Sim.put fp_X1_34 dX1_clear_2 (xI_X1_7 _ ho) rfl rfl ?_
  refine Sim.lth (fun h1 => ?_)
  refine Sim.aload_n 0 dX1_clear_5 rfl ?_
  refine Sim.iconst (v := (0 : Int32)) dX1_clear_6 rfl ?_
  refine Sim.put fp_X1_30 dX1_clear_7 (xI_X1_6 _ ho) rfl rfl ?_
  refine Sim.lth (fun h2 => ?_)
  exact Sim.vret dX1_clear_10 rfl
theorem mv_X1_clear : zMV mX1_clear 0 := ⟨⟨zTb_in 771 (by decide +kernel) rfl, zTb_in 141 (by decide +kernel) rfl, ⟨by decide +kernel, by decide +kernel⟩, by decide +kernel⟩, zTb_in 769 (by decide +kernel) rfl, zTb_in 770 (by decide +kernel) rfl⟩
-- ===== RockingPorch$Law.copyFrom(LRockingPorch$Law;)V
abbrev mX1_copyFrom : zMt := (yX1_copyFrom, cX1_copyFrom, 2, none)
theorem fl_X1_30 : zF RX1 30 1 6 := ⟨RX1, TX1, 8, rfl, Nat.le_of_ble_eq_true rfl, zTb_in 283 (by decide +kernel) rfl, in_X1⟩
theorem ml_X1_37 : Cond.methodLink RX1 37 arraycopyName ∈ zTb := zTb_in 982 (by decide +kernel) rfl
theorem dX1_copyFrom_0 : decode cX1_copyFrom 0 = .ok (.aload_n 1, 1) := by decide +kernel
theorem dX1_copyFrom_1 : decode cX1_copyFrom 1 = .ok (.getfield 9, 3) := by decide +kernel
theorem dX1_copyFrom_4 : decode cX1_copyFrom 4 = .ok (.iconst 0, 1) := by decide +kernel
theorem dX1_copyFrom_5 : decode cX1_copyFrom 5 = .ok (.aload_n 0, 1) := by decide +kernel
theorem dX1_copyFrom_6 : decode cX1_copyFrom 6 = .ok (.getfield 9, 3) := by decide +kernel
theorem dX1_copyFrom_9 : decode cX1_copyFrom 9 = .ok (.iconst 0, 1) := by decide +kernel
theorem dX1_copyFrom_10 : decode cX1_copyFrom 10 = .ok (.bipush 16, 2) := by decide +kernel
theorem dX1_copyFrom_12 : decode cX1_copyFrom 12 = .ok (.invokestatic 37, 3) := by decide +kernel
theorem dX1_copyFrom_15 : decode cX1_copyFrom 15 = .ok (.aload_n 1, 1) := by decide +kernel
theorem dX1_copyFrom_16 : decode cX1_copyFrom 16 = .ok (.getfield 15, 3) := by decide +kernel
theorem dX1_copyFrom_19 : decode cX1_copyFrom 19 = .ok (.iconst 0, 1) := by decide +kernel
theorem dX1_copyFrom_20 : decode cX1_copyFrom 20 = .ok (.aload_n 0, 1) := by decide +kernel
theorem dX1_copyFrom_21 : decode cX1_copyFrom 21 = .ok (.getfield 15, 3) := by decide +kernel
theorem dX1_copyFrom_24 : decode cX1_copyFrom 24 = .ok (.iconst 0, 1) := by decide +kernel
theorem dX1_copyFrom_25 : decode cX1_copyFrom 25 = .ok (.bipush 16, 2) := by decide +kernel
theorem dX1_copyFrom_27 : decode cX1_copyFrom 27 = .ok (.invokestatic 37, 3) := by decide +kernel
theorem dX1_copyFrom_30 : decode cX1_copyFrom 30 = .ok (.aload_n 1, 1) := by decide +kernel
theorem dX1_copyFrom_31 : decode cX1_copyFrom 31 = .ok (.getfield 18, 3) := by decide +kernel
theorem dX1_copyFrom_34 : decode cX1_copyFrom 34 = .ok (.iconst 0, 1) := by decide +kernel
theorem dX1_copyFrom_35 : decode cX1_copyFrom 35 = .ok (.aload_n 0, 1) := by decide +kernel
theorem dX1_copyFrom_36 : decode cX1_copyFrom 36 = .ok (.getfield 18, 3) := by decide +kernel
theorem dX1_copyFrom_39 : decode cX1_copyFrom 39 = .ok (.iconst 0, 1) := by decide +kernel
theorem dX1_copyFrom_40 : decode cX1_copyFrom 40 = .ok (.bipush 16, 2) := by decide +kernel
theorem dX1_copyFrom_42 : decode cX1_copyFrom 42 = .ok (.invokestatic 37, 3) := by decide +kernel
theorem dX1_copyFrom_45 : decode cX1_copyFrom 45 = .ok (.aload_n 1, 1) := by decide +kernel
theorem dX1_copyFrom_46 : decode cX1_copyFrom 46 = .ok (.getfield 21, 3) := by decide +kernel
theorem dX1_copyFrom_49 : decode cX1_copyFrom 49 = .ok (.iconst 0, 1) := by decide +kernel
theorem dX1_copyFrom_50 : decode cX1_copyFrom 50 = .ok (.aload_n 0, 1) := by decide +kernel
theorem dX1_copyFrom_51 : decode cX1_copyFrom 51 = .ok (.getfield 21, 3) := by decide +kernel
theorem dX1_copyFrom_54 : decode cX1_copyFrom 54 = .ok (.iconst 0, 1) := by decide +kernel
theorem dX1_copyFrom_55 : decode cX1_copyFrom 55 = .ok (.bipush 16, 2) := by decide +kernel
theorem dX1_copyFrom_57 : decode cX1_copyFrom 57 = .ok (.invokestatic 37, 3) := by decide +kernel
theorem dX1_copyFrom_60 : decode cX1_copyFrom 60 = .ok (.aload_n 1, 1) := by decide +kernel
theorem dX1_copyFrom_61 : decode cX1_copyFrom 61 = .ok (.getfield 24, 3) := by decide +kernel
theorem dX1_copyFrom_64 : decode cX1_copyFrom 64 = .ok (.iconst 0, 1) := by decide +kernel
theorem dX1_copyFrom_65 : decode cX1_copyFrom 65 = .ok (.aload_n 0, 1) := by decide +kernel
theorem dX1_copyFrom_66 : decode cX1_copyFrom 66 = .ok (.getfield 24, 3) := by decide +kernel
theorem dX1_copyFrom_69 : decode cX1_copyFrom 69 = .ok (.iconst 0, 1) := by decide +kernel
theorem dX1_copyFrom_70 : decode cX1_copyFrom 70 = .ok (.sipush 400, 3) := by decide +kernel
theorem dX1_copyFrom_73 : decode cX1_copyFrom 73 = .ok (.invokestatic 37, 3) := by decide +kernel
theorem dX1_copyFrom_76 : decode cX1_copyFrom 76 = .ok (.aload_n 0, 1) := by decide +kernel
theorem dX1_copyFrom_77 : decode cX1_copyFrom 77 = .ok (.aload_n 1, 1) := by decide +kernel
theorem dX1_copyFrom_78 : decode cX1_copyFrom 78 = .ok (.getfield 30, 3) := by decide +kernel
theorem dX1_copyFrom_81 : decode cX1_copyFrom 81 = .ok (.putfield 30, 3) := by decide +kernel
theorem dX1_copyFrom_84 : decode cX1_copyFrom 84 = .ok (.aload_n 0, 1) := by decide +kernel
theorem dX1_copyFrom_85 : decode cX1_copyFrom 85 = .ok (.aload_n 1, 1) := by decide +kernel
theorem dX1_copyFrom_86 : decode cX1_copyFrom 86 = .ok (.getfield 34, 3) := by decide +kernel
theorem dX1_copyFrom_89 : decode cX1_copyFrom 89 = .ok (.putfield 34, 3) := by decide +kernel
theorem dX1_copyFrom_92 : decode cX1_copyFrom 92 = .ok (.return_, 1) := by decide +kernel
def f_X1_copyFrom (o : Nat) (b1 : Nat)  (h : zHp) : Option (zHp) := zac (0 : Int32) (0 : Int32) (16 : Int32) 16 16 (zlt (zcp h (b1 + 1) (0 : Int32).toNatClampNeg (o + 1) (0 : Int32).toNatClampNeg (16 : Int32).toNatClampNeg) fun h1 => zac (0 : Int32) (0 : Int32) (16 : Int32) 16 16 (zlt (zcp h1 (b1 + 2) (0 : Int32).toNatClampNeg (o + 2) (0 : Int32).toNatClampNeg (16 : Int32).toNatClampNeg) fun h2 => zac (0 : Int32) (0 : Int32) (16 : Int32) 16 16 (zlt (zcp h2 (b1 + 3) (0 : Int32).toNatClampNeg (o + 3) (0 : Int32).toNatClampNeg (16 : Int32).toNatClampNeg) fun h3 => zac (0 : Int32) (0 : Int32) (16 : Int32) 16 16 (zlt (zcp h3 (b1 + 4) (0 : Int32).toNatClampNeg (o + 4) (0 : Int32).toNatClampNeg (16 : Int32).toNatClampNeg) fun h4 => zac (0 : Int32) (0 : Int32) (400 : Int32) 400 400 (zlt (zcp h4 (b1 + 5) (0 : Int32).toNatClampNeg (o + 5) (0 : Int32).toNatClampNeg (400 : Int32).toNatClampNeg) fun h5 => zlt (zst h5 o 6 (h5 b1 6)) fun h6 => zlt (zst h6 o 7 (h6 b1 7)) fun h7 => some h7)))))
set_option maxHeartbeats 4000000 in
set_option maxRecDepth 100000 in
theorem s_X1_copyFrom (o : Nat) (ho : o ∈ xLaw) (b1 : Nat) (hb1 : b1 ∈ xLaw)  (h : zHp) : Fn wX mX1_copyFrom 1 rV [.ref o, .ref b1] h (f_X1_copyFrom o b1 h) := by
  refine Fn.of rfl (Nat.le_of_ble_eq_true rfl) ?_
  unfold f_X1_copyFrom
  refine Sim.aload_n 1 dX1_copyFrom_0 rfl ?_
  refine Sim.getR (j := (b1 + 1)) fl_X1_9 dX1_copyFrom_1 (xR_X1_0 _ hb1) ?_
  refine Sim.iconst (v := (0 : Int32)) dX1_copyFrom_4 rfl ?_
  refine Sim.aload_n 0 dX1_copyFrom_5 rfl ?_
  refine Sim.getR (j := (o + 1)) fl_X1_9 dX1_copyFrom_6 (xR_X1_0 _ ho) ?_
  refine Sim.iconst (v := (0 : Int32)) dX1_copyFrom_9 rfl ?_
  refine Sim.bipush (v := (16 : Int32)) dX1_copyFrom_10 rfl ?_
  refine Sim.acpy (n0 := 16) (n1 := 16) dX1_copyFrom_12 ml_X1_37 ac_n ac_s ac_i (xA_X1_0 _ hb1) (xA_X1_0 _ ho) (Nat.le_of_ble_eq_true rfl) (Nat.le_of_ble_eq_true rfl) ?_
  refine Sim.lth (fun h1 => ?_)
  refine Sim.aload_n 1 dX1_copyFrom_15 rfl ?_
  refine Sim.getR (j := (b1 + 2)) fl_X1_15 dX1_copyFrom_16 (xR_X1_1 _ hb1) ?_
  refine Sim.iconst (v := (0 : Int32)) dX1_copyFrom_19 rfl ?_
  refine Sim.aload_n 0 dX1_copyFrom_20 rfl ?_
  refine Sim.getR (j := (o + 2)) fl_X1_15 dX1_copyFrom_21 (xR_X1_1 _ ho) ?_
  refine Sim.iconst (v := (0 : Int32)) dX1_copyFrom_24 rfl ?_
  refine Sim.bipush (v := (16 : Int32)) dX1_copyFrom_25 rfl ?_
  refine Sim.acpy (n0 := 16) (n1 := 16) dX1_copyFrom_27 ml_X1_37 ac_n ac_s ac_i (xA_X1_1 _ hb1) (xA_X1_1 _ ho) (Nat.le_of_ble_eq_true rfl) (Nat.le_of_ble_eq_true rfl) ?_
  refine Sim.lth (fun h2 => ?_)
  refine Sim.aload_n 1 dX1_copyFrom_30 rfl ?_
  refine Sim.getR (j := (b1 + 3)) fl_X1_18 dX1_copyFrom_31 (xR_X1_2 _ hb1) ?_
  refine Sim.iconst (v := (0 : Int32)) dX1_copyFrom_34 rfl ?_
  refine Sim.aload_n 0 dX1_copyFrom_35 rfl ?_
  refine Sim.getR (j := (o + 3)) fl_X1_18 dX1_copyFrom_36 (xR_X1_2 _ ho) ?_
  refine Sim.iconst (v := (0 : Int32)) dX1_copyFrom_39 rfl ?_
  refine Sim.bipush (v := (16 : Int32)) dX1_copyFrom_40 rfl ?_
  refine Sim.acpy (n0 := 16) (n1 := 16) dX1_copyFrom_42 ml_X1_37 ac_n ac_s ac_i (xA_X1_2 _ hb1) (xA_X1_2 _ ho) (Nat.le_of_ble_eq_true rfl) (Nat.le_of_ble_eq_true rfl) ?_
  refine Sim.lth (fun h3 => ?_)
  refine Sim.aload_n 1 dX1_copyFrom_45 rfl ?_
  refine Sim.getR (j := (b1 + 4)) fl_X1_21 dX1_copyFrom_46 (xR_X1_3 _ hb1) ?_
  refine Sim.iconst (v := (0 : Int32)) dX1_copyFrom_49 rfl ?_
  refine Sim.aload_n 0 dX1_copyFrom_50 rfl ?_
  refine Sim.getR (j := (o + 4)) fl_X1_21 dX1_copyFrom_51 (xR_X1_3 _ ho) ?_
  refine Sim.iconst (v := (0 : Int32)) dX1_copyFrom_54 rfl ?_
  refine Sim.bipush (v := (16 : Int32)) dX1_copyFrom_55 rfl ?_
  refine Sim.acpy (n0 := 16) (n1 := 16) dX1_copyFrom_57 ml_X1_37 ac_n ac_s ac_i (xA_X1_3 _ hb1) (xA_X1_3 _ ho) (Nat.le_of_ble_eq_true rfl) (Nat.le_of_ble_eq_true rfl) ?_
  refine Sim.lth (fun h4 => ?_)
  refine Sim.aload_n 1 dX1_copyFrom_60 rfl ?_
  refine Sim.getR (j := (b1 + 5)) fl_X1_24 dX1_copyFrom_61 (xR_X1_4 _ hb1) ?_
  refine Sim.iconst (v := (0 : Int32)) dX1_copyFrom_64 rfl ?_
  refine Sim.aload_n 0 dX1_copyFrom_65 rfl ?_
  refine Sim.getR (j := (o + 5)) fl_X1_24 dX1_copyFrom_66 (xR_X1_4 _ ho) ?_
  refine Sim.iconst (v := (0 : Int32)) dX1_copyFrom_69 rfl ?_
  refine Sim.sipush (v := (400 : Int32)) dX1_copyFrom_70 rfl ?_
  refine Sim.acpy (n0 := 400) (n1 := 400) dX1_copyFrom_73 ml_X1_37 ac_n ac_s ac_i (xA_X1_4 _ hb1) (xA_X1_4 _ ho) (Nat.le_of_ble_eq_true rfl) (Nat.le_of_ble_eq_true rfl) ?_
  refine Sim.lth (fun h5 => ?_)
  refine Sim.aload_n 0 dX1_copyFrom_76 rfl ?_
  refine Sim.aload_n 1 dX1_copyFrom_77 rfl ?_
  refine Sim.getI fl_X1_30 dX1_copyFrom_78 (xI_X1_6 _ hb1) ?_
  refine Sim.put fp_X1_30 dX1_copyFrom_81 (xI_X1_6 _ ho) rfl rfl ?_
  refine Sim.lth (fun h6 => ?_)
  refine Sim.aload_n 0 dX1_copyFrom_84 rfl ?_
  refine Sim.aload_n 1 dX1_copyFrom_85 rfl ?_
  refine Sim.getI fl_X1_34 dX1_copyFrom_86 (xI_X1_7 _ hb1) ?_
  refine Sim.put fp_X1_34 dX1_copyFrom_89 (xI_X1_7 _ ho) rfl rfl ?_
  refine Sim.lth (fun h7 => ?_)
  exact Sim.vret dX1_copyFrom_92 rfl
theorem mv_X1_copyFrom : zMV mX1_copyFrom 1 := ⟨⟨zTb_in 981 (by decide +kernel) rfl, zTb_in 141 (by decide +kernel) rfl, ⟨by decide +kernel, by decide +kernel⟩, by decide +kernel⟩, zTb_in 979 (by decide +kernel) rfl, zTb_in 980 (by decide +kernel) rfl⟩
-- ===== RockingPorch$Law.begin(I)V
abbrev mX1_begin : zMt := (yX1_begin, cX1_begin, 2, none)
theorem dX1_begin_0 : decode cX1_begin 0 = .ok (.aload_n 0, 1) := by decide +kernel
theorem dX1_begin_1 : decode cX1_begin 1 = .ok (.getfield 34, 3) := by decide +kernel
theorem dX1_begin_4 : decode cX1_begin 4 = .ok (.bipush 16, 2) := by decide +kernel
theorem dX1_begin_6 : decode cX1_begin 6 = .ok (.if_icmp .ge 26, 3) := by decide +kernel
theorem dX1_begin_9 : decode cX1_begin 9 = .ok (.aload_n 0, 1) := by decide +kernel
theorem dX1_begin_10 : decode cX1_begin 10 = .ok (.getfield 9, 3) := by decide +kernel
theorem dX1_begin_13 : decode cX1_begin 13 = .ok (.aload_n 0, 1) := by decide +kernel
theorem dX1_begin_14 : decode cX1_begin 14 = .ok (.getfield 34, 3) := by decide +kernel
theorem dX1_begin_17 : decode cX1_begin 17 = .ok (.iload_n 1, 1) := by decide +kernel
theorem dX1_begin_18 : decode cX1_begin 18 = .ok (.iastore, 1) := by decide +kernel
theorem dX1_begin_19 : decode cX1_begin 19 = .ok (.aload_n 0, 1) := by decide +kernel
theorem dX1_begin_20 : decode cX1_begin 20 = .ok (.getfield 15, 3) := by decide +kernel
theorem dX1_begin_23 : decode cX1_begin 23 = .ok (.aload_n 0, 1) := by decide +kernel
theorem dX1_begin_24 : decode cX1_begin 24 = .ok (.getfield 34, 3) := by decide +kernel
theorem dX1_begin_27 : decode cX1_begin 27 = .ok (.aload_n 0, 1) := by decide +kernel
theorem dX1_begin_28 : decode cX1_begin 28 = .ok (.getfield 30, 3) := by decide +kernel
theorem dX1_begin_31 : decode cX1_begin 31 = .ok (.iastore, 1) := by decide +kernel
theorem dX1_begin_32 : decode cX1_begin 32 = .ok (.return_, 1) := by decide +kernel
def f_X1_begin (o : Nat) (a1 : Int32) (h : zHp) : Option (zHp) := (if (h o 7) < (16 : Int32) then zix (h o 7) 16 (zlt (zst h (o + 1) (h o 7).toNatClampNeg a1) fun h1 => zix (h1 o 7) 16 (zlt (zst h1 (o + 2) (h1 o 7).toNatClampNeg (h1 o 6)) fun h2 => some h2)) else some h)
set_option maxHeartbeats 4000000 in
set_option maxRecDepth 100000 in
theorem s_X1_begin (o : Nat) (ho : o ∈ xLaw) (a1 : Int32) (h : zHp) : Fn wX mX1_begin 0 rV [.ref o, .int a1] h (f_X1_begin o a1 h) := by
  refine Fn.of rfl (Nat.le_of_ble_eq_true rfl) ?_
  unfold f_X1_begin
  refine Sim.aload_n 0 dX1_begin_0 rfl ?_
  refine Sim.getI fl_X1_34 dX1_begin_1 (xI_X1_7 _ ho) ?_
  refine Sim.bipush (v := (16 : Int32)) dX1_begin_4 rfl ?_
  refine Sim.icmp_ge 32 dX1_begin_6 rfl ?_ ?_
  · refine Sim.aload_n 0 dX1_begin_9 rfl ?_
    refine Sim.getR (j := (o + 1)) fl_X1_9 dX1_begin_10 (xR_X1_0 _ ho) ?_
    refine Sim.aload_n 0 dX1_begin_13 rfl ?_
    refine Sim.getI fl_X1_34 dX1_begin_14 (xI_X1_7 _ ho) ?_
    refine Sim.iload_n 1 dX1_begin_17 rfl ?_
    refine Sim.iast (n := 16) dX1_begin_18 (xA_X1_0 _ ho) ?_
    refine Sim.lth (fun h1 => ?_)
    refine Sim.aload_n 0 dX1_begin_19 rfl ?_
    refine Sim.getR (j := (o + 2)) fl_X1_15 dX1_begin_20 (xR_X1_1 _ ho) ?_
    refine Sim.aload_n 0 dX1_begin_23 rfl ?_
    refine Sim.getI fl_X1_34 dX1_begin_24 (xI_X1_7 _ ho) ?_
    refine Sim.aload_n 0 dX1_begin_27 rfl ?_
    refine Sim.getI fl_X1_30 dX1_begin_28 (xI_X1_6 _ ho) ?_
    refine Sim.iast (n := 16) dX1_begin_31 (xA_X1_1 _ ho) ?_
    refine Sim.lth (fun h2 => ?_)
    exact Sim.vret dX1_begin_32 rfl
  · exact Sim.vret dX1_begin_32 rfl
theorem mv_X1_begin : zMV mX1_begin 1 := ⟨⟨zTb_in 912 (by decide +kernel) rfl, zTb_in 141 (by decide +kernel) rfl, ⟨by decide +kernel, by decide +kernel⟩, by decide +kernel⟩, zTb_in 910 (by decide +kernel) rfl, zTb_in 911 (by decide +kernel) rfl⟩
-- ===== RockingPorch$Law.add(I)V
abbrev mX1_add : zMt := (yX1_add, cX1_add, 2, none)
theorem dX1_add_0 : decode cX1_add 0 = .ok (.aload_n 0, 1) := by decide +kernel
theorem dX1_add_1 : decode cX1_add 1 = .ok (.getfield 30, 3) := by decide +kernel
theorem dX1_add_4 : decode cX1_add 4 = .ok (.sipush 400, 3) := by decide +kernel
theorem dX1_add_7 : decode cX1_add 7 = .ok (.if_icmp .ge 23, 3) := by decide +kernel
theorem dX1_add_10 : decode cX1_add 10 = .ok (.aload_n 0, 1) := by decide +kernel
theorem dX1_add_11 : decode cX1_add 11 = .ok (.getfield 24, 3) := by decide +kernel
theorem dX1_add_14 : decode cX1_add 14 = .ok (.aload_n 0, 1) := by decide +kernel
theorem dX1_add_15 : decode cX1_add 15 = .ok (.getfield 30, 3) := by decide +kernel
theorem dX1_add_18 : decode cX1_add 18 = .ok (.iload_n 1, 1) := by decide +kernel
theorem dX1_add_19 : decode cX1_add 19 = .ok (.iastore, 1) := by decide +kernel
theorem dX1_add_20 : decode cX1_add 20 = .ok (.aload_n 0, 1) := by decide +kernel
theorem dX1_add_21 : decode cX1_add 21 = .ok (.dup, 1) := by decide +kernel
theorem dX1_add_22 : decode cX1_add 22 = .ok (.getfield 30, 3) := by decide +kernel
theorem dX1_add_25 : decode cX1_add 25 = .ok (.iconst 1, 1) := by decide +kernel
theorem dX1_add_26 : decode cX1_add 26 = .ok (.iadd, 1) := by decide +kernel
theorem dX1_add_27 : decode cX1_add 27 = .ok (.putfield 30, 3) := by decide +kernel
theorem dX1_add_30 : decode cX1_add 30 = .ok (.return_, 1) := by decide +kernel
def f_X1_add (o : Nat) (a1 : Int32) (h : zHp) : Option (zHp) := (if (h o 6) < (400 : Int32) then zix (h o 6) 400 (zlt (zst h (o + 5) (h o 6).toNatClampNeg a1) fun h1 => zlt (zst h1 o 6 ((h1 o 6) + (1 : Int32))) fun h2 => some h2) else some h)
set_option maxHeartbeats 4000000 in
set_option maxRecDepth 100000 in
theorem s_X1_add (o : Nat) (ho : o ∈ xLaw) (a1 : Int32) (h : zHp) : Fn wX mX1_add 0 rV [.ref o, .int a1] h (f_X1_add o a1 h) := by
  refine Fn.of rfl (Nat.le_of_ble_eq_true rfl) ?_
  unfold f_X1_add
  refine Sim.aload_n 0 dX1_add_0 rfl ?_
  refine Sim.getI fl_X1_30 dX1_add_1 (xI_X1_6 _ ho) ?_
  refine Sim.sipush (v := (400 : Int32)) dX1_add_4 rfl ?_
  refine Sim.icmp_ge 30 dX1_add_7 rfl ?_ ?_
  · refine Sim.aload_n 0 dX1_add_10 rfl ?_
    refine Sim.getR (j := (o + 5)) fl_X1_24 dX1_add_11 (xR_X1_4 _ ho) ?_
    refine Sim.aload_n 0 dX1_add_14 rfl ?_
    refine Sim.getI fl_X1_30 dX1_add_15 (xI_X1_6 _ ho) ?_
    refine Sim.iload_n 1 dX1_add_18 rfl ?_
    refine Sim.iast (n := 400) dX1_add_19 (xA_X1_4 _ ho) ?_
    refine Sim.lth (fun h1 => ?_)
    refine Sim.aload_n 0 dX1_add_20 rfl ?_
    refine Sim.dup dX1_add_21 rfl ?_
    refine Sim.getI fl_X1_30 dX1_add_22 (xI_X1_6 _ ho) ?_
    refine Sim.iconst (v := (1 : Int32)) dX1_add_25 rfl ?_
    refine Sim.iadd dX1_add_26 ?_
    refine Sim.put fp_X1_30 dX1_add_27 (xI_X1_6 _ ho) rfl rfl ?_
    refine Sim.lth (fun h2 => ?_)
    exact Sim.vret dX1_add_30 rfl
  · exact Sim.vret dX1_add_30 rfl
theorem mv_X1_add : zMV mX1_add 1 := ⟨⟨zTb_in 932 (by decide +kernel) rfl, zTb_in 141 (by decide +kernel) rfl, ⟨by decide +kernel, by decide +kernel⟩, by decide +kernel⟩, zTb_in 930 (by decide +kernel) rfl, zTb_in 931 (by decide +kernel) rfl⟩
-- ===== RockingPorch$Law.middle()V
abbrev mX1_middle : zMt := (yX1_middle, cX1_middle, 1, none)
theorem dX1_middle_0 : decode cX1_middle 0 = .ok (.aload_n 0, 1) := by decide +kernel
theorem dX1_middle_1 : decode cX1_middle 1 = .ok (.getfield 34, 3) := by decide +kernel
theorem dX1_middle_4 : decode cX1_middle 4 = .ok (.bipush 16, 2) := by decide +kernel
theorem dX1_middle_6 : decode cX1_middle 6 = .ok (.if_icmp .ge 16, 3) := by decide +kernel
theorem dX1_middle_9 : decode cX1_middle 9 = .ok (.aload_n 0, 1) := by decide +kernel
theorem dX1_middle_10 : decode cX1_middle 10 = .ok (.getfield 18, 3) := by decide +kernel
theorem dX1_middle_13 : decode cX1_middle 13 = .ok (.aload_n 0, 1) := by decide +kernel
theorem dX1_middle_14 : decode cX1_middle 14 = .ok (.getfield 34, 3) := by decide +kernel
theorem dX1_middle_17 : decode cX1_middle 17 = .ok (.aload_n 0, 1) := by decide +kernel
theorem dX1_middle_18 : decode cX1_middle 18 = .ok (.getfield 30, 3) := by decide +kernel
theorem dX1_middle_21 : decode cX1_middle 21 = .ok (.iastore, 1) := by decide +kernel
theorem dX1_middle_22 : decode cX1_middle 22 = .ok (.return_, 1) := by decide +kernel
def f_X1_middle (o : Nat)  (h : zHp) : Option (zHp) := (if (h o 7) < (16 : Int32) then zix (h o 7) 16 (zlt (zst h (o + 3) (h o 7).toNatClampNeg (h o 6)) fun h1 => some h1) else some h)
set_option maxHeartbeats 4000000 in
set_option maxRecDepth 100000 in
theorem s_X1_middle (o : Nat) (ho : o ∈ xLaw)  (h : zHp) : Fn wX mX1_middle 0 rV [.ref o] h (f_X1_middle o h) := by
  refine Fn.of rfl (Nat.le_of_ble_eq_true rfl) ?_
  unfold f_X1_middle
  refine Sim.aload_n 0 dX1_middle_0 rfl ?_
  refine Sim.getI fl_X1_34 dX1_middle_1 (xI_X1_7 _ ho) ?_
  refine Sim.bipush (v := (16 : Int32)) dX1_middle_4 rfl ?_
  refine Sim.icmp_ge 22 dX1_middle_6 rfl ?_ ?_
  · refine Sim.aload_n 0 dX1_middle_9 rfl ?_
    refine Sim.getR (j := (o + 3)) fl_X1_18 dX1_middle_10 (xR_X1_2 _ ho) ?_
    refine Sim.aload_n 0 dX1_middle_13 rfl ?_
    refine Sim.getI fl_X1_34 dX1_middle_14 (xI_X1_7 _ ho) ?_
    refine Sim.aload_n 0 dX1_middle_17 rfl ?_
    refine Sim.getI fl_X1_30 dX1_middle_18 (xI_X1_6 _ ho) ?_
    refine Sim.iast (n := 16) dX1_middle_21 (xA_X1_2 _ ho) ?_
    refine Sim.lth (fun h1 => ?_)
    exact Sim.vret dX1_middle_22 rfl
  · exact Sim.vret dX1_middle_22 rfl
theorem mv_X1_middle : zMV mX1_middle 0 := ⟨⟨zTb_in 936 (by decide +kernel) rfl, zTb_in 141 (by decide +kernel) rfl, ⟨by decide +kernel, by decide +kernel⟩, by decide +kernel⟩, zTb_in 934 (by decide +kernel) rfl, zTb_in 935 (by decide +kernel) rfl⟩
-- ===== RockingPorch$Law.close()V
abbrev mX1_close : zMt := (yX1_close, cX1_close, 1, none)
theorem dX1_close_0 : decode cX1_close 0 = .ok (.aload_n 0, 1) := by decide +kernel
theorem dX1_close_1 : decode cX1_close 1 = .ok (.getfield 34, 3) := by decide +kernel
theorem dX1_close_4 : decode cX1_close 4 = .ok (.bipush 16, 2) := by decide +kernel
theorem dX1_close_6 : decode cX1_close 6 = .ok (.if_icmp .ge 26, 3) := by decide +kernel
theorem dX1_close_9 : decode cX1_close 9 = .ok (.aload_n 0, 1) := by decide +kernel
theorem dX1_close_10 : decode cX1_close 10 = .ok (.getfield 21, 3) := by decide +kernel
theorem dX1_close_13 : decode cX1_close 13 = .ok (.aload_n 0, 1) := by decide +kernel
theorem dX1_close_14 : decode cX1_close 14 = .ok (.getfield 34, 3) := by decide +kernel
theorem dX1_close_17 : decode cX1_close 17 = .ok (.aload_n 0, 1) := by decide +kernel
theorem dX1_close_18 : decode cX1_close 18 = .ok (.getfield 30, 3) := by decide +kernel
theorem dX1_close_21 : decode cX1_close 21 = .ok (.iastore, 1) := by decide +kernel
theorem dX1_close_22 : decode cX1_close 22 = .ok (.aload_n 0, 1) := by decide +kernel
theorem dX1_close_23 : decode cX1_close 23 = .ok (.dup, 1) := by decide +kernel
theorem dX1_close_24 : decode cX1_close 24 = .ok (.getfield 34, 3) := by decide +kernel
theorem dX1_close_27 : decode cX1_close 27 = .ok (.iconst 1, 1) := by decide +kernel
theorem dX1_close_28 : decode cX1_close 28 = .ok (.iadd, 1) := by decide +kernel
theorem dX1_close_29 : decode cX1_close 29 = .ok (.putfield 34, 3) := by decide +kernel
theorem dX1_close_32 : decode cX1_close 32 = .ok (.return_, 1) := by decide +kernel
def f_X1_close (o : Nat)  (h : zHp) : Option (zHp) := (if (h o 7) < (16 : Int32) then zix (h o 7) 16 (zlt (zst h (o + 4) (h o 7).toNatClampNeg (h o 6)) fun h1 => zlt (zst h1 o 7 ((h1 o 7) + (1 : Int32))) fun h2 => some h2) else some h)
set_option maxHeartbeats 4000000 in
set_option maxRecDepth 100000 in
theorem s_X1_close (o : Nat) (ho : o ∈ xLaw)  (h : zHp) : Fn wX mX1_close 0 rV [.ref o] h (f_X1_close o h) := by
  refine Fn.of rfl (Nat.le_of_ble_eq_true rfl) ?_
  unfold f_X1_close
  refine Sim.aload_n 0 dX1_close_0 rfl ?_
  refine Sim.getI fl_X1_34 dX1_close_1 (xI_X1_7 _ ho) ?_
  refine Sim.bipush (v := (16 : Int32)) dX1_close_4 rfl ?_
  refine Sim.icmp_ge 32 dX1_close_6 rfl ?_ ?_
  · refine Sim.aload_n 0 dX1_close_9 rfl ?_
    refine Sim.getR (j := (o + 4)) fl_X1_21 dX1_close_10 (xR_X1_3 _ ho) ?_
    refine Sim.aload_n 0 dX1_close_13 rfl ?_
    refine Sim.getI fl_X1_34 dX1_close_14 (xI_X1_7 _ ho) ?_
    refine Sim.aload_n 0 dX1_close_17 rfl ?_
    refine Sim.getI fl_X1_30 dX1_close_18 (xI_X1_6 _ ho) ?_
    refine Sim.iast (n := 16) dX1_close_21 (xA_X1_3 _ ho) ?_
    refine Sim.lth (fun h1 => ?_)
    refine Sim.aload_n 0 dX1_close_22 rfl ?_
    refine Sim.dup dX1_close_23 rfl ?_
    refine Sim.getI fl_X1_34 dX1_close_24 (xI_X1_7 _ ho) ?_
    refine Sim.iconst (v := (1 : Int32)) dX1_close_27 rfl ?_
    refine Sim.iadd dX1_close_28 ?_
    refine Sim.put fp_X1_34 dX1_close_29 (xI_X1_7 _ ho) rfl rfl ?_
    refine Sim.lth (fun h2 => ?_)
    exact Sim.vret dX1_close_32 rfl
  · exact Sim.vret dX1_close_32 rfl
theorem mv_X1_close : zMV mX1_close 0 := ⟨⟨zTb_in 952 (by decide +kernel) rfl, zTb_in 141 (by decide +kernel) rfl, ⟨by decide +kernel, by decide +kernel⟩, by decide +kernel⟩, zTb_in 950 (by decide +kernel) rfl, zTb_in 951 (by decide +kernel) rfl⟩
-- ===== RockingPorch$Lines.copyFrom(LRockingPorch$Lines;)V
abbrev mX2_copyFrom : zMt := (yX2_copyFrom, cX2_copyFrom, 2, none)
theorem ml_X2_26 : Cond.methodLink RX2 26 arraycopyName ∈ zTb := zTb_in 987 (by decide +kernel) rfl
theorem dX2_copyFrom_0 : decode cX2_copyFrom 0 = .ok (.aload_n 1, 1) := by decide +kernel
theorem dX2_copyFrom_1 : decode cX2_copyFrom 1 = .ok (.getfield 18, 3) := by decide +kernel
theorem dX2_copyFrom_4 : decode cX2_copyFrom 4 = .ok (.arraylength, 1) := by decide +kernel
theorem dX2_copyFrom_5 : decode cX2_copyFrom 5 = .ok (.aload_n 0, 1) := by decide +kernel
theorem dX2_copyFrom_6 : decode cX2_copyFrom 6 = .ok (.getfield 18, 3) := by decide +kernel
theorem dX2_copyFrom_9 : decode cX2_copyFrom 9 = .ok (.arraylength, 1) := by decide +kernel
theorem dX2_copyFrom_10 : decode cX2_copyFrom 10 = .ok (.if_icmp .ne 29, 3) := by decide +kernel
theorem dX2_copyFrom_13 : decode cX2_copyFrom 13 = .ok (.aload_n 1, 1) := by decide +kernel
theorem dX2_copyFrom_14 : decode cX2_copyFrom 14 = .ok (.getfield 18, 3) := by decide +kernel
theorem dX2_copyFrom_17 : decode cX2_copyFrom 17 = .ok (.iconst 0, 1) := by decide +kernel
theorem dX2_copyFrom_18 : decode cX2_copyFrom 18 = .ok (.aload_n 0, 1) := by decide +kernel
theorem dX2_copyFrom_19 : decode cX2_copyFrom 19 = .ok (.getfield 18, 3) := by decide +kernel
theorem dX2_copyFrom_22 : decode cX2_copyFrom 22 = .ok (.iconst 0, 1) := by decide +kernel
theorem dX2_copyFrom_23 : decode cX2_copyFrom 23 = .ok (.aload_n 0, 1) := by decide +kernel
theorem dX2_copyFrom_24 : decode cX2_copyFrom 24 = .ok (.getfield 18, 3) := by decide +kernel
theorem dX2_copyFrom_27 : decode cX2_copyFrom 27 = .ok (.arraylength, 1) := by decide +kernel
theorem dX2_copyFrom_28 : decode cX2_copyFrom 28 = .ok (.invokestatic 26, 3) := by decide +kernel
theorem dX2_copyFrom_31 : decode cX2_copyFrom 31 = .ok (.aload_n 0, 1) := by decide +kernel
theorem dX2_copyFrom_32 : decode cX2_copyFrom 32 = .ok (.aload_n 1, 1) := by decide +kernel
theorem dX2_copyFrom_33 : decode cX2_copyFrom 33 = .ok (.getfield 9, 3) := by decide +kernel
theorem dX2_copyFrom_36 : decode cX2_copyFrom 36 = .ok (.putfield 9, 3) := by decide +kernel
theorem dX2_copyFrom_39 : decode cX2_copyFrom 39 = .ok (.return_, 1) := by decide +kernel
def f_X2_copyFrom (o : Nat) (b1 : Nat)  (h : zHp) : Option (zHp) := (if (Int32.ofNat (zln wX (b1 + 1))) = (Int32.ofNat (zln wX (o + 1))) then zac (0 : Int32) (0 : Int32) (Int32.ofNat (zln wX (o + 1))) (zln wX (b1 + 1)) (zln wX (o + 1)) (zlt (zcp h (b1 + 1) (0 : Int32).toNatClampNeg (o + 1) (0 : Int32).toNatClampNeg (Int32.ofNat (zln wX (o + 1))).toNatClampNeg) fun h1 => zlt (zst h1 o 2 (h1 b1 2)) fun h2 => some h2) else some h)
set_option maxHeartbeats 4000000 in
set_option maxRecDepth 100000 in
theorem s_X2_copyFrom (o : Nat) (ho : o ∈ xLines) (b1 : Nat) (hb1 : b1 ∈ xLines)  (h : zHp) : Fn wX mX2_copyFrom 1 rV [.ref o, .ref b1] h (f_X2_copyFrom o b1 h) := by
  refine Fn.of rfl (Nat.le_of_ble_eq_true rfl) ?_
  unfold f_X2_copyFrom
  refine Sim.aload_n 1 dX2_copyFrom_0 rfl ?_
  refine Sim.getR (j := (b1 + 1)) fl_X2_18 dX2_copyFrom_1 (xR_X2_1 _ hb1) ?_
  refine Sim.alen (n := (zln wX (b1 + 1))) dX2_copyFrom_4 (xA_X2_1 _ hb1) ?_
  refine Sim.aload_n 0 dX2_copyFrom_5 rfl ?_
  refine Sim.getR (j := (o + 1)) fl_X2_18 dX2_copyFrom_6 (xR_X2_1 _ ho) ?_
  refine Sim.alen (n := (zln wX (o + 1))) dX2_copyFrom_9 (xA_X2_1 _ ho) ?_
  refine Sim.icmp_ne 39 dX2_copyFrom_10 rfl ?_ ?_
  · refine Sim.aload_n 1 dX2_copyFrom_13 rfl ?_
    refine Sim.getR (j := (b1 + 1)) fl_X2_18 dX2_copyFrom_14 (xR_X2_1 _ hb1) ?_
    refine Sim.iconst (v := (0 : Int32)) dX2_copyFrom_17 rfl ?_
    refine Sim.aload_n 0 dX2_copyFrom_18 rfl ?_
    refine Sim.getR (j := (o + 1)) fl_X2_18 dX2_copyFrom_19 (xR_X2_1 _ ho) ?_
    refine Sim.iconst (v := (0 : Int32)) dX2_copyFrom_22 rfl ?_
    refine Sim.aload_n 0 dX2_copyFrom_23 rfl ?_
    refine Sim.getR (j := (o + 1)) fl_X2_18 dX2_copyFrom_24 (xR_X2_1 _ ho) ?_
    refine Sim.alen (n := (zln wX (o + 1))) dX2_copyFrom_27 (xA_X2_1 _ ho) ?_
    refine Sim.acpy (n0 := (zln wX (b1 + 1))) (n1 := (zln wX (o + 1))) dX2_copyFrom_28 ml_X2_26 ac_n ac_s ac_i (xA_X2_1 _ hb1) (xA_X2_1 _ ho) (Nat.le_of_ble_eq_true rfl) (Nat.le_of_ble_eq_true rfl) ?_
    refine Sim.lth (fun h1 => ?_)
    refine Sim.aload_n 0 dX2_copyFrom_31 rfl ?_
    refine Sim.aload_n 1 dX2_copyFrom_32 rfl ?_
    refine Sim.getI fl_X2_9 dX2_copyFrom_33 (xI_X2_2 _ hb1) ?_
    refine Sim.put fp_X2_9 dX2_copyFrom_36 (xI_X2_2 _ ho) rfl rfl ?_
    refine Sim.lth (fun h2 => ?_)
    exact Sim.vret dX2_copyFrom_39 rfl
  · exact Sim.vret dX2_copyFrom_39 rfl
theorem mv_X2_copyFrom : zMV mX2_copyFrom 1 := ⟨⟨zTb_in 986 (by decide +kernel) rfl, zTb_in 140 (by decide +kernel) rfl, ⟨by decide +kernel, by decide +kernel⟩, by decide +kernel⟩, zTb_in 984 (by decide +kernel) rfl, zTb_in 985 (by decide +kernel) rfl⟩
-- ===== RockingPorch$Past.forget()V
abbrev mX3_forget : zMt := (yX3_forget, cX3_forget, 1, none)
theorem fp_X3_25 : zFp RX3 25 3 3 .int := ⟨RX3, TX3, 4, tyX3, rfl, Nat.le_of_ble_eq_true rfl, zTb_in 406 (by decide +kernel) rfl, in_X3, tyX3_ok, nmX3, rfl, rfl⟩
theorem dX3_forget_0 : decode cX3_forget 0 = .ok (.aload_n 0, 1) := by decide +kernel
theorem dX3_forget_1 : decode cX3_forget 1 = .ok (.iconst 0, 1) := by decide +kernel
theorem dX3_forget_2 : decode cX3_forget 2 = .ok (.putfield 25, 3) := by decide +kernel
theorem dX3_forget_5 : decode cX3_forget 5 = .ok (.return_, 1) := by decide +kernel
def f_X3_forget   (h : zHp) : Option (zHp) := zlt (zst h 79 3 (0 : Int32)) fun h1 => some h1
set_option maxHeartbeats 4000000 in
set_option maxRecDepth 100000 in
theorem s_X3_forget   (h : zHp) : Fn wX mX3_forget 0 rV [.ref 79] h (f_X3_forget  h) := by
  refine Fn.of rfl (Nat.le_of_ble_eq_true rfl) ?_
  unfold f_X3_forget
  refine Sim.aload_n 0 dX3_forget_0 rfl ?_
  refine Sim.iconst (v := (0 : Int32)) dX3_forget_1 rfl ?_
  refine Sim.put fp_X3_25 dX3_forget_2 xI_79_3 rfl rfl ?_
  refine Sim.lth (fun h1 => ?_)
  exact Sim.vret dX3_forget_5 rfl
theorem mv_X3_forget : zMV mX3_forget 0 := ⟨⟨zTb_in 545 (by decide +kernel) rfl, zTb_in 144 (by decide +kernel) rfl, ⟨by decide +kernel, by decide +kernel⟩, by decide +kernel⟩, zTb_in 543 (by decide +kernel) rfl, zTb_in 544 (by decide +kernel) rfl⟩
-- ===== RockingPorch$Porch.copyFrom(LRockingPorch$Porch;)V
abbrev mX4_copyFrom : zMt := (yX4_copyFrom, cX4_copyFrom, 2, none)
theorem fl_X4_24 : zF RX4 24 4 5 := ⟨RX4, TX4, 15, rfl, Nat.le_of_ble_eq_true rfl, zTb_in 191 (by decide +kernel) rfl, in_X4⟩
theorem fl_X4_30 : zF RX4 30 4 7 := ⟨RX4, TX4, 15, rfl, Nat.le_of_ble_eq_true rfl, zTb_in 197 (by decide +kernel) rfl, in_X4⟩
theorem fl_X4_33 : zF RX4 33 4 8 := ⟨RX4, TX4, 15, rfl, Nat.le_of_ble_eq_true rfl, zTb_in 200 (by decide +kernel) rfl, in_X4⟩
theorem fl_X4_43 : zF RX4 43 4 11 := ⟨RX4, TX4, 15, rfl, Nat.le_of_ble_eq_true rfl, zTb_in 209 (by decide +kernel) rfl, in_X4⟩
theorem fl_X4_46 : zF RX4 46 4 12 := ⟨RX4, TX4, 15, rfl, Nat.le_of_ble_eq_true rfl, zTb_in 212 (by decide +kernel) rfl, in_X4⟩
theorem fl_X4_49 : zF RX4 49 4 13 := ⟨RX4, TX4, 15, rfl, Nat.le_of_ble_eq_true rfl, zTb_in 214 (by decide +kernel) rfl, in_X4⟩
theorem fl_X4_9 : zF RX4 9 4 1 := ⟨RX4, TX4, 15, rfl, Nat.le_of_ble_eq_true rfl, zTb_in 179 (by decide +kernel) rfl, in_X4⟩
theorem fp_X4_36 : zFp RX4 36 4 9 .int := ⟨RX4, TX4, 15, tyX4, rfl, Nat.le_of_ble_eq_true rfl, zTb_in 203 (by decide +kernel) rfl, in_X4, tyX4_ok, nmX4, rfl, rfl⟩
theorem fp_X4_40 : zFp RX4 40 4 10 .int := ⟨RX4, TX4, 15, tyX4, rfl, Nat.le_of_ble_eq_true rfl, zTb_in 206 (by decide +kernel) rfl, in_X4, tyX4_ok, nmX4, rfl, rfl⟩
theorem fp_X4_43 : zFp RX4 43 4 11 .int := ⟨RX4, TX4, 15, tyX4, rfl, Nat.le_of_ble_eq_true rfl, zTb_in 209 (by decide +kernel) rfl, in_X4, tyX4_ok, nmX4, rfl, rfl⟩
theorem fp_X4_46 : zFp RX4 46 4 12 .int := ⟨RX4, TX4, 15, tyX4, rfl, Nat.le_of_ble_eq_true rfl, zTb_in 212 (by decide +kernel) rfl, in_X4, tyX4_ok, nmX4, rfl, rfl⟩
theorem fp_X4_49 : zFp RX4 49 4 13 .int := ⟨RX4, TX4, 15, tyX4, rfl, Nat.le_of_ble_eq_true rfl, zTb_in 214 (by decide +kernel) rfl, in_X4, tyX4_ok, nmX4, rfl, rfl⟩
theorem ml_X4_59 : Cond.methodLink RX4 59 arraycopyName ∈ zTb := zTb_in 616 (by decide +kernel) rfl
theorem dX4_copyFrom_0 : decode cX4_copyFrom 0 = .ok (.aload_n 1, 1) := by decide +kernel
theorem dX4_copyFrom_1 : decode cX4_copyFrom 1 = .ok (.getfield 9, 3) := by decide +kernel
theorem dX4_copyFrom_4 : decode cX4_copyFrom 4 = .ok (.iconst 0, 1) := by decide +kernel
theorem dX4_copyFrom_5 : decode cX4_copyFrom 5 = .ok (.aload_n 0, 1) := by decide +kernel
theorem dX4_copyFrom_6 : decode cX4_copyFrom 6 = .ok (.getfield 9, 3) := by decide +kernel
theorem dX4_copyFrom_9 : decode cX4_copyFrom 9 = .ok (.iconst 0, 1) := by decide +kernel
theorem dX4_copyFrom_10 : decode cX4_copyFrom 10 = .ok (.bipush 10, 2) := by decide +kernel
theorem dX4_copyFrom_12 : decode cX4_copyFrom 12 = .ok (.invokestatic 59, 3) := by decide +kernel
theorem dX4_copyFrom_15 : decode cX4_copyFrom 15 = .ok (.aload_n 1, 1) := by decide +kernel
theorem dX4_copyFrom_16 : decode cX4_copyFrom 16 = .ok (.getfield 15, 3) := by decide +kernel
theorem dX4_copyFrom_19 : decode cX4_copyFrom 19 = .ok (.iconst 0, 1) := by decide +kernel
theorem dX4_copyFrom_20 : decode cX4_copyFrom 20 = .ok (.aload_n 0, 1) := by decide +kernel
theorem dX4_copyFrom_21 : decode cX4_copyFrom 21 = .ok (.getfield 15, 3) := by decide +kernel
theorem dX4_copyFrom_24 : decode cX4_copyFrom 24 = .ok (.iconst 0, 1) := by decide +kernel
theorem dX4_copyFrom_25 : decode cX4_copyFrom 25 = .ok (.bipush 10, 2) := by decide +kernel
theorem dX4_copyFrom_27 : decode cX4_copyFrom 27 = .ok (.invokestatic 59, 3) := by decide +kernel
theorem dX4_copyFrom_30 : decode cX4_copyFrom 30 = .ok (.aload_n 1, 1) := by decide +kernel
theorem dX4_copyFrom_31 : decode cX4_copyFrom 31 = .ok (.getfield 18, 3) := by decide +kernel
theorem dX4_copyFrom_34 : decode cX4_copyFrom 34 = .ok (.iconst 0, 1) := by decide +kernel
theorem dX4_copyFrom_35 : decode cX4_copyFrom 35 = .ok (.aload_n 0, 1) := by decide +kernel
theorem dX4_copyFrom_36 : decode cX4_copyFrom 36 = .ok (.getfield 18, 3) := by decide +kernel
theorem dX4_copyFrom_39 : decode cX4_copyFrom 39 = .ok (.iconst 0, 1) := by decide +kernel
theorem dX4_copyFrom_40 : decode cX4_copyFrom 40 = .ok (.bipush 10, 2) := by decide +kernel
theorem dX4_copyFrom_42 : decode cX4_copyFrom 42 = .ok (.invokestatic 59, 3) := by decide +kernel
theorem dX4_copyFrom_45 : decode cX4_copyFrom 45 = .ok (.aload_n 1, 1) := by decide +kernel
theorem dX4_copyFrom_46 : decode cX4_copyFrom 46 = .ok (.getfield 21, 3) := by decide +kernel
theorem dX4_copyFrom_49 : decode cX4_copyFrom 49 = .ok (.iconst 0, 1) := by decide +kernel
theorem dX4_copyFrom_50 : decode cX4_copyFrom 50 = .ok (.aload_n 0, 1) := by decide +kernel
theorem dX4_copyFrom_51 : decode cX4_copyFrom 51 = .ok (.getfield 21, 3) := by decide +kernel
theorem dX4_copyFrom_54 : decode cX4_copyFrom 54 = .ok (.iconst 0, 1) := by decide +kernel
theorem dX4_copyFrom_55 : decode cX4_copyFrom 55 = .ok (.bipush 10, 2) := by decide +kernel
theorem dX4_copyFrom_57 : decode cX4_copyFrom 57 = .ok (.invokestatic 59, 3) := by decide +kernel
theorem dX4_copyFrom_60 : decode cX4_copyFrom 60 = .ok (.aload_n 1, 1) := by decide +kernel
theorem dX4_copyFrom_61 : decode cX4_copyFrom 61 = .ok (.getfield 24, 3) := by decide +kernel
theorem dX4_copyFrom_64 : decode cX4_copyFrom 64 = .ok (.iconst 0, 1) := by decide +kernel
theorem dX4_copyFrom_65 : decode cX4_copyFrom 65 = .ok (.aload_n 0, 1) := by decide +kernel
theorem dX4_copyFrom_66 : decode cX4_copyFrom 66 = .ok (.getfield 24, 3) := by decide +kernel
theorem dX4_copyFrom_69 : decode cX4_copyFrom 69 = .ok (.iconst 0, 1) := by decide +kernel
theorem dX4_copyFrom_70 : decode cX4_copyFrom 70 = .ok (.bipush 14, 2) := by decide +kernel
theorem dX4_copyFrom_72 : decode cX4_copyFrom 72 = .ok (.invokestatic 59, 3) := by decide +kernel
theorem dX4_copyFrom_75 : decode cX4_copyFrom 75 = .ok (.aload_n 1, 1) := by decide +kernel
theorem dX4_copyFrom_76 : decode cX4_copyFrom 76 = .ok (.getfield 27, 3) := by decide +kernel
theorem dX4_copyFrom_79 : decode cX4_copyFrom 79 = .ok (.iconst 0, 1) := by decide +kernel
theorem dX4_copyFrom_80 : decode cX4_copyFrom 80 = .ok (.aload_n 0, 1) := by decide +kernel
theorem dX4_copyFrom_81 : decode cX4_copyFrom 81 = .ok (.getfield 27, 3) := by decide +kernel
theorem dX4_copyFrom_84 : decode cX4_copyFrom 84 = .ok (.iconst 0, 1) := by decide +kernel
theorem dX4_copyFrom_85 : decode cX4_copyFrom 85 = .ok (.bipush 14, 2) := by decide +kernel
theorem dX4_copyFrom_87 : decode cX4_copyFrom 87 = .ok (.invokestatic 59, 3) := by decide +kernel
theorem dX4_copyFrom_90 : decode cX4_copyFrom 90 = .ok (.aload_n 1, 1) := by decide +kernel
theorem dX4_copyFrom_91 : decode cX4_copyFrom 91 = .ok (.getfield 30, 3) := by decide +kernel
theorem dX4_copyFrom_94 : decode cX4_copyFrom 94 = .ok (.iconst 0, 1) := by decide +kernel
theorem dX4_copyFrom_95 : decode cX4_copyFrom 95 = .ok (.aload_n 0, 1) := by decide +kernel
theorem dX4_copyFrom_96 : decode cX4_copyFrom 96 = .ok (.getfield 30, 3) := by decide +kernel
theorem dX4_copyFrom_99 : decode cX4_copyFrom 99 = .ok (.iconst 0, 1) := by decide +kernel
theorem dX4_copyFrom_100 : decode cX4_copyFrom 100 = .ok (.bipush 14, 2) := by decide +kernel
theorem dX4_copyFrom_102 : decode cX4_copyFrom 102 = .ok (.invokestatic 59, 3) := by decide +kernel
theorem dX4_copyFrom_105 : decode cX4_copyFrom 105 = .ok (.aload_n 1, 1) := by decide +kernel
theorem dX4_copyFrom_106 : decode cX4_copyFrom 106 = .ok (.getfield 33, 3) := by decide +kernel
theorem dX4_copyFrom_109 : decode cX4_copyFrom 109 = .ok (.iconst 0, 1) := by decide +kernel
theorem dX4_copyFrom_110 : decode cX4_copyFrom 110 = .ok (.aload_n 0, 1) := by decide +kernel
theorem dX4_copyFrom_111 : decode cX4_copyFrom 111 = .ok (.getfield 33, 3) := by decide +kernel
theorem dX4_copyFrom_114 : decode cX4_copyFrom 114 = .ok (.iconst 0, 1) := by decide +kernel
theorem dX4_copyFrom_115 : decode cX4_copyFrom 115 = .ok (.bipush 14, 2) := by decide +kernel
theorem dX4_copyFrom_117 : decode cX4_copyFrom 117 = .ok (.invokestatic 59, 3) := by decide +kernel
theorem dX4_copyFrom_120 : decode cX4_copyFrom 120 = .ok (.aload_n 0, 1) := by decide +kernel
theorem dX4_copyFrom_121 : decode cX4_copyFrom 121 = .ok (.aload_n 1, 1) := by decide +kernel
theorem dX4_copyFrom_122 : decode cX4_copyFrom 122 = .ok (.getfield 36, 3) := by decide +kernel
theorem dX4_copyFrom_125 : decode cX4_copyFrom 125 = .ok (.putfield 36, 3) := by decide +kernel
theorem dX4_copyFrom_128 : decode cX4_copyFrom 128 = .ok (.aload_n 0, 1) := by decide +kernel
theorem dX4_copyFrom_129 : decode cX4_copyFrom 129 = .ok (.aload_n 1, 1) := by decide +kernel
theorem dX4_copyFrom_130 : decode cX4_copyFrom 130 = .ok (.getfield 40, 3) := by decide +kernel
theorem dX4_copyFrom_133 : decode cX4_copyFrom 133 = .ok (.putfield 40, 3) := by decide +kernel
theorem dX4_copyFrom_136 : decode cX4_copyFrom 136 = .ok (.aload_n 0, 1) := by decide +kernel
theorem dX4_copyFrom_137 : decode cX4_copyFrom 137 = .ok (.aload_n 1, 1) := by decide +kernel
theorem dX4_copyFrom_138 : decode cX4_copyFrom 138 = .ok (.getfield 43, 3) := by decide +kernel
theorem dX4_copyFrom_141 : decode cX4_copyFrom 141 = .ok (.putfield 43, 3) := by decide +kernel
theorem dX4_copyFrom_144 : decode cX4_copyFrom 144 = .ok (.aload_n 0, 1) := by decide +kernel
theorem dX4_copyFrom_145 : decode cX4_copyFrom 145 = .ok (.aload_n 1, 1) := by decide +kernel
theorem dX4_copyFrom_146 : decode cX4_copyFrom 146 = .ok (.getfield 46, 3) := by decide +kernel
theorem dX4_copyFrom_149 : decode cX4_copyFrom 149 = .ok (.putfield 46, 3) := by decide +kernel
theorem dX4_copyFrom_152 : decode cX4_copyFrom 152 = .ok (.aload_n 0, 1) := by decide +kernel
theorem dX4_copyFrom_153 : decode cX4_copyFrom 153 = .ok (.aload_n 1, 1) := by decide +kernel
theorem dX4_copyFrom_154 : decode cX4_copyFrom 154 = .ok (.getfield 49, 3) := by decide +kernel
theorem dX4_copyFrom_157 : decode cX4_copyFrom 157 = .ok (.putfield 49, 3) := by decide +kernel
theorem dX4_copyFrom_160 : decode cX4_copyFrom 160 = .ok (.aload_n 0, 1) := by decide +kernel
theorem dX4_copyFrom_161 : decode cX4_copyFrom 161 = .ok (.aload_n 1, 1) := by decide +kernel
theorem dX4_copyFrom_162 : decode cX4_copyFrom 162 = .ok (.getfield 52, 3) := by decide +kernel
theorem dX4_copyFrom_165 : decode cX4_copyFrom 165 = .ok (.putfield 52, 3) := by decide +kernel
theorem dX4_copyFrom_168 : decode cX4_copyFrom 168 = .ok (.return_, 1) := by decide +kernel
def f_X4_copyFrom (o : Nat) (b1 : Nat)  (h : zHp) : Option (zHp) := zac (0 : Int32) (0 : Int32) (10 : Int32) 10 10 (zlt (zcp h (b1 + 1) (0 : Int32).toNatClampNeg (o + 1) (0 : Int32).toNatClampNeg (10 : Int32).toNatClampNeg) fun h1 => zac (0 : Int32) (0 : Int32) (10 : Int32) 10 10 (zlt (zcp h1 (b1 + 2) (0 : Int32).toNatClampNeg (o + 2) (0 : Int32).toNatClampNeg (10 : Int32).toNatClampNeg) fun h2 => zac (0 : Int32) (0 : Int32) (10 : Int32) 10 10 (zlt (zcp h2 (b1 + 3) (0 : Int32).toNatClampNeg (o + 3) (0 : Int32).toNatClampNeg (10 : Int32).toNatClampNeg) fun h3 => zac (0 : Int32) (0 : Int32) (10 : Int32) 10 10 (zlt (zcp h3 (b1 + 4) (0 : Int32).toNatClampNeg (o + 4) (0 : Int32).toNatClampNeg (10 : Int32).toNatClampNeg) fun h4 => zac (0 : Int32) (0 : Int32) (14 : Int32) 14 14 (zlt (zcp h4 (b1 + 5) (0 : Int32).toNatClampNeg (o + 5) (0 : Int32).toNatClampNeg (14 : Int32).toNatClampNeg) fun h5 => zac (0 : Int32) (0 : Int32) (14 : Int32) 14 14 (zlt (zcp h5 (b1 + 6) (0 : Int32).toNatClampNeg (o + 6) (0 : Int32).toNatClampNeg (14 : Int32).toNatClampNeg) fun h6 => zac (0 : Int32) (0 : Int32) (14 : Int32) 14 14 (zlt (zcp h6 (b1 + 7) (0 : Int32).toNatClampNeg (o + 7) (0 : Int32).toNatClampNeg (14 : Int32).toNatClampNeg) fun h7 => zac (0 : Int32) (0 : Int32) (14 : Int32) 14 14 (zlt (zcp h7 (b1 + 8) (0 : Int32).toNatClampNeg (o + 8) (0 : Int32).toNatClampNeg (14 : Int32).toNatClampNeg) fun h8 => zlt (zst h8 o 9 (h8 b1 9)) fun h9 => zlt (zst h9 o 10 (h9 b1 10)) fun h10 => zlt (zst h10 o 11 (h10 b1 11)) fun h11 => zlt (zst h11 o 12 (h11 b1 12)) fun h12 => zlt (zst h12 o 13 (h12 b1 13)) fun h13 => zlt (zst h13 o 14 (h13 b1 14)) fun h14 => some h14))))))))
set_option maxHeartbeats 4000000 in
set_option maxRecDepth 100000 in
theorem s_X4_copyFrom (o : Nat) (ho : o ∈ xPorch) (b1 : Nat) (hb1 : b1 ∈ xPorch)  (h : zHp) : Fn wX mX4_copyFrom 1 rV [.ref o, .ref b1] h (f_X4_copyFrom o b1 h) := by
  refine Fn.of rfl (Nat.le_of_ble_eq_true rfl) ?_
  unfold f_X4_copyFrom
  refine Sim.aload_n 1 dX4_copyFrom_0 rfl ?_
  refine Sim.getR (j := (b1 + 1)) fl_X4_9 dX4_copyFrom_1 (xR_X4_1 _ hb1) ?_
  refine Sim.iconst (v := (0 : Int32)) dX4_copyFrom_4 rfl ?_
  refine Sim.aload_n 0 dX4_copyFrom_5 rfl ?_
  refine Sim.getR (j := (o + 1)) fl_X4_9 dX4_copyFrom_6 (xR_X4_1 _ ho) ?_
  refine Sim.iconst (v := (0 : Int32)) dX4_copyFrom_9 rfl ?_
  refine Sim.bipush (v := (10 : Int32)) dX4_copyFrom_10 rfl ?_
  refine Sim.acpy (n0 := 10) (n1 := 10) dX4_copyFrom_12 ml_X4_59 ac_n ac_s ac_i (xA_X4_1 _ hb1) (xA_X4_1 _ ho) (Nat.le_of_ble_eq_true rfl) (Nat.le_of_ble_eq_true rfl) ?_
  refine Sim.lth (fun h1 => ?_)
  refine Sim.aload_n 1 dX4_copyFrom_15 rfl ?_
  refine Sim.getR (j := (b1 + 2)) fl_X4_15 dX4_copyFrom_16 (xR_X4_2 _ hb1) ?_
  refine Sim.iconst (v := (0 : Int32)) dX4_copyFrom_19 rfl ?_
  refine Sim.aload_n 0 dX4_copyFrom_20 rfl ?_
  refine Sim.getR (j := (o + 2)) fl_X4_15 dX4_copyFrom_21 (xR_X4_2 _ ho) ?_
  refine Sim.iconst (v := (0 : Int32)) dX4_copyFrom_24 rfl ?_
  refine Sim.bipush (v := (10 : Int32)) dX4_copyFrom_25 rfl ?_
  refine Sim.acpy (n0 := 10) (n1 := 10) dX4_copyFrom_27 ml_X4_59 ac_n ac_s ac_i (xA_X4_2 _ hb1) (xA_X4_2 _ ho) (Nat.le_of_ble_eq_true rfl) (Nat.le_of_ble_eq_true rfl) ?_
  refine Sim.lth (fun h2 => ?_)
  refine Sim.aload_n 1 dX4_copyFrom_30 rfl ?_
  refine Sim.getR (j := (b1 + 3)) fl_X4_18 dX4_copyFrom_31 (xR_X4_3 _ hb1) ?_
  refine Sim.iconst (v := (0 : Int32)) dX4_copyFrom_34 rfl ?_
  refine Sim.aload_n 0 dX4_copyFrom_35 rfl ?_
  refine Sim.getR (j := (o + 3)) fl_X4_18 dX4_copyFrom_36 (xR_X4_3 _ ho) ?_
  refine Sim.iconst (v := (0 : Int32)) dX4_copyFrom_39 rfl ?_
  refine Sim.bipush (v := (10 : Int32)) dX4_copyFrom_40 rfl ?_
  refine Sim.acpy (n0 := 10) (n1 := 10) dX4_copyFrom_42 ml_X4_59 ac_n ac_s ac_i (xA_X4_3 _ hb1) (xA_X4_3 _ ho) (Nat.le_of_ble_eq_true rfl) (Nat.le_of_ble_eq_true rfl) ?_
  refine Sim.lth (fun h3 => ?_)
  refine Sim.aload_n 1 dX4_copyFrom_45 rfl ?_
  refine Sim.getR (j := (b1 + 4)) fl_X4_21 dX4_copyFrom_46 (xR_X4_4 _ hb1) ?_
  refine Sim.iconst (v := (0 : Int32)) dX4_copyFrom_49 rfl ?_
  refine Sim.aload_n 0 dX4_copyFrom_50 rfl ?_
  refine Sim.getR (j := (o + 4)) fl_X4_21 dX4_copyFrom_51 (xR_X4_4 _ ho) ?_
  refine Sim.iconst (v := (0 : Int32)) dX4_copyFrom_54 rfl ?_
  refine Sim.bipush (v := (10 : Int32)) dX4_copyFrom_55 rfl ?_
  refine Sim.acpy (n0 := 10) (n1 := 10) dX4_copyFrom_57 ml_X4_59 ac_n ac_s ac_i (xA_X4_4 _ hb1) (xA_X4_4 _ ho) (Nat.le_of_ble_eq_true rfl) (Nat.le_of_ble_eq_true rfl) ?_
  refine Sim.lth (fun h4 => ?_)
  refine Sim.aload_n 1 dX4_copyFrom_60 rfl ?_
  refine Sim.getR (j := (b1 + 5)) fl_X4_24 dX4_copyFrom_61 (xR_X4_5 _ hb1) ?_
  refine Sim.iconst (v := (0 : Int32)) dX4_copyFrom_64 rfl ?_
  refine Sim.aload_n 0 dX4_copyFrom_65 rfl ?_
  refine Sim.getR (j := (o + 5)) fl_X4_24 dX4_copyFrom_66 (xR_X4_5 _ ho) ?_
  refine Sim.iconst (v := (0 : Int32)) dX4_copyFrom_69 rfl ?_
  refine Sim.bipush (v := (14 : Int32)) dX4_copyFrom_70 rfl ?_
  refine Sim.acpy (n0 := 14) (n1 := 14) dX4_copyFrom_72 ml_X4_59 ac_n ac_s ac_i (xA_X4_5 _ hb1) (xA_X4_5 _ ho) (Nat.le_of_ble_eq_true rfl) (Nat.le_of_ble_eq_true rfl) ?_
  refine Sim.lth (fun h5 => ?_)
  refine Sim.aload_n 1 dX4_copyFrom_75 rfl ?_
  refine Sim.getR (j := (b1 + 6)) fl_X4_27 dX4_copyFrom_76 (xR_X4_6 _ hb1) ?_
  refine Sim.iconst (v := (0 : Int32)) dX4_copyFrom_79 rfl ?_
  refine Sim.aload_n 0 dX4_copyFrom_80 rfl ?_
  refine Sim.getR (j := (o + 6)) fl_X4_27 dX4_copyFrom_81 (xR_X4_6 _ ho) ?_
  refine Sim.iconst (v := (0 : Int32)) dX4_copyFrom_84 rfl ?_
  refine Sim.bipush (v := (14 : Int32)) dX4_copyFrom_85 rfl ?_
  refine Sim.acpy (n0 := 14) (n1 := 14) dX4_copyFrom_87 ml_X4_59 ac_n ac_s ac_i (xA_X4_6 _ hb1) (xA_X4_6 _ ho) (Nat.le_of_ble_eq_true rfl) (Nat.le_of_ble_eq_true rfl) ?_
  refine Sim.lth (fun h6 => ?_)
  refine Sim.aload_n 1 dX4_copyFrom_90 rfl ?_
  refine Sim.getR (j := (b1 + 7)) fl_X4_30 dX4_copyFrom_91 (xR_X4_7 _ hb1) ?_
  refine Sim.iconst (v := (0 : Int32)) dX4_copyFrom_94 rfl ?_
  refine Sim.aload_n 0 dX4_copyFrom_95 rfl ?_
  refine Sim.getR (j := (o + 7)) fl_X4_30 dX4_copyFrom_96 (xR_X4_7 _ ho) ?_
  refine Sim.iconst (v := (0 : Int32)) dX4_copyFrom_99 rfl ?_
  refine Sim.bipush (v := (14 : Int32)) dX4_copyFrom_100 rfl ?_
  refine Sim.acpy (n0 := 14) (n1 := 14) dX4_copyFrom_102 ml_X4_59 ac_n ac_s ac_i (xA_X4_7 _ hb1) (xA_X4_7 _ ho) (Nat.le_of_ble_eq_true rfl) (Nat.le_of_ble_eq_true rfl) ?_
  refine Sim.lth (fun h7 => ?_)
  refine Sim.aload_n 1 dX4_copyFrom_105 rfl ?_
  refine Sim.getR (j := (b1 + 8)) fl_X4_33 dX4_copyFrom_106 (xR_X4_8 _ hb1) ?_
  refine Sim.iconst (v := (0 : Int32)) dX4_copyFrom_109 rfl ?_
  refine Sim.aload_n 0 dX4_copyFrom_110 rfl ?_
  refine Sim.getR (j := (o + 8)) fl_X4_33 dX4_copyFrom_111 (xR_X4_8 _ ho) ?_
  refine Sim.iconst (v := (0 : Int32)) dX4_copyFrom_114 rfl ?_
  refine Sim.bipush (v := (14 : Int32)) dX4_copyFrom_115 rfl ?_
  refine Sim.acpy (n0 := 14) (n1 := 14) dX4_copyFrom_117 ml_X4_59 ac_n ac_s ac_i (xA_X4_8 _ hb1) (xA_X4_8 _ ho) (Nat.le_of_ble_eq_true rfl) (Nat.le_of_ble_eq_true rfl) ?_
  refine Sim.lth (fun h8 => ?_)
  refine Sim.aload_n 0 dX4_copyFrom_120 rfl ?_
  refine Sim.aload_n 1 dX4_copyFrom_121 rfl ?_
  refine Sim.getI fl_X4_36 dX4_copyFrom_122 (xI_X4_9 _ hb1) ?_
  refine Sim.put fp_X4_36 dX4_copyFrom_125 (xI_X4_9 _ ho) rfl rfl ?_
  refine Sim.lth (fun h9 => ?_)
  refine Sim.aload_n 0 dX4_copyFrom_128 rfl ?_
  refine Sim.aload_n 1 dX4_copyFrom_129 rfl ?_
  refine Sim.getI fl_X4_40 dX4_copyFrom_130 (xI_X4_10 _ hb1) ?_
  refine Sim.put fp_X4_40 dX4_copyFrom_133 (xI_X4_10 _ ho) rfl rfl ?_
  refine Sim.lth (fun h10 => ?_)
  refine Sim.aload_n 0 dX4_copyFrom_136 rfl ?_
  refine Sim.aload_n 1 dX4_copyFrom_137 rfl ?_
  refine Sim.getI fl_X4_43 dX4_copyFrom_138 (xI_X4_11 _ hb1) ?_
  refine Sim.put fp_X4_43 dX4_copyFrom_141 (xI_X4_11 _ ho) rfl rfl ?_
  refine Sim.lth (fun h11 => ?_)
  refine Sim.aload_n 0 dX4_copyFrom_144 rfl ?_
  refine Sim.aload_n 1 dX4_copyFrom_145 rfl ?_
  refine Sim.getI fl_X4_46 dX4_copyFrom_146 (xI_X4_12 _ hb1) ?_
  refine Sim.put fp_X4_46 dX4_copyFrom_149 (xI_X4_12 _ ho) rfl rfl ?_
  refine Sim.lth (fun h12 => ?_)
  refine Sim.aload_n 0 dX4_copyFrom_152 rfl ?_
  refine Sim.aload_n 1 dX4_copyFrom_153 rfl ?_
  refine Sim.getI fl_X4_49 dX4_copyFrom_154 (xI_X4_13 _ hb1) ?_
  refine Sim.put fp_X4_49 dX4_copyFrom_157 (xI_X4_13 _ ho) rfl rfl ?_
  refine Sim.lth (fun h13 => ?_)
  refine Sim.aload_n 0 dX4_copyFrom_160 rfl ?_
  refine Sim.aload_n 1 dX4_copyFrom_161 rfl ?_
  refine Sim.getI fl_X4_52 dX4_copyFrom_162 (xI_X4_14 _ hb1) ?_
  refine Sim.put fp_X4_52 dX4_copyFrom_165 (xI_X4_14 _ ho) rfl rfl ?_
  refine Sim.lth (fun h14 => ?_)
  exact Sim.vret dX4_copyFrom_168 rfl
theorem mv_X4_copyFrom : zMV mX4_copyFrom 1 := ⟨⟨zTb_in 615 (by decide +kernel) rfl, zTb_in 139 (by decide +kernel) rfl, ⟨by decide +kernel, by decide +kernel⟩, by decide +kernel⟩, zTb_in 613 (by decide +kernel) rfl, zTb_in 614 (by decide +kernel) rfl⟩
-- ===== RockingPorch$Past.keep(LRockingPorch$Porch;I)V
abbrev mX3_keep : zMt := (yX3_keep, cX3_keep, 4, none)
theorem fl_X3_11 : zF RX3 11 3 0 := ⟨RX3, TX3, 4, rfl, Nat.le_of_ble_eq_true rfl, zTb_in 403 (by decide +kernel) rfl, in_X3⟩
theorem fl_X3_17 : zF RX3 17 3 1 := ⟨RX3, TX3, 4, rfl, Nat.le_of_ble_eq_true rfl, zTb_in 404 (by decide +kernel) rfl, in_X3⟩
theorem fl_X3_21 : zF RX3 21 3 2 := ⟨RX3, TX3, 4, rfl, Nat.le_of_ble_eq_true rfl, zTb_in 405 (by decide +kernel) rfl, in_X3⟩
theorem fl_X3_25 : zF RX3 25 3 3 := ⟨RX3, TX3, 4, rfl, Nat.le_of_ble_eq_true rfl, zTb_in 406 (by decide +kernel) rfl, in_X3⟩
theorem fp_X3_21 : zFp RX3 21 3 2 .int := ⟨RX3, TX3, 4, tyX3, rfl, Nat.le_of_ble_eq_true rfl, zTb_in 405 (by decide +kernel) rfl, in_X3, tyX3_ok, nmX3, rfl, rfl⟩
theorem ml_X3_31 : Cond.methodLink RX3 31 yX4_copyFrom ∈ zTb := zTb_in 612 (by decide +kernel) rfl
theorem ml_X3_35 : Cond.methodLink RX3 35 Lib.Math.min.name ∈ zTb := zTb_in 619 (by decide +kernel) rfl
theorem dX3_keep_0 : decode cX3_keep 0 = .ok (.aload_n 0, 1) := by decide +kernel
theorem dX3_keep_1 : decode cX3_keep 1 = .ok (.getfield 11, 3) := by decide +kernel
theorem dX3_keep_4 : decode cX3_keep 4 = .ok (.aload_n 0, 1) := by decide +kernel
theorem dX3_keep_5 : decode cX3_keep 5 = .ok (.getfield 21, 3) := by decide +kernel
theorem dX3_keep_8 : decode cX3_keep 8 = .ok (.aaload, 1) := by decide +kernel
theorem dX3_keep_9 : decode cX3_keep 9 = .ok (.astore_n 3, 1) := by decide +kernel
theorem dX3_keep_10 : decode cX3_keep 10 = .ok (.aload_n 3, 1) := by decide +kernel
theorem dX3_keep_11 : decode cX3_keep 11 = .ok (.ifnonnull 4, 3) := by decide +kernel
theorem dX3_keep_15 : decode cX3_keep 15 = .ok (.aload_n 3, 1) := by decide +kernel
theorem dX3_keep_16 : decode cX3_keep 16 = .ok (.aload_n 1, 1) := by decide +kernel
theorem dX3_keep_17 : decode cX3_keep 17 = .ok (.invokevirtual 31, 3) := by decide +kernel
theorem dX3_keep_20 : decode cX3_keep 20 = .ok (.aload_n 0, 1) := by decide +kernel
theorem dX3_keep_21 : decode cX3_keep 21 = .ok (.getfield 17, 3) := by decide +kernel
theorem dX3_keep_24 : decode cX3_keep 24 = .ok (.aload_n 0, 1) := by decide +kernel
theorem dX3_keep_25 : decode cX3_keep 25 = .ok (.getfield 21, 3) := by decide +kernel
theorem dX3_keep_28 : decode cX3_keep 28 = .ok (.iload_n 2, 1) := by decide +kernel
theorem dX3_keep_29 : decode cX3_keep 29 = .ok (.iastore, 1) := by decide +kernel
theorem dX3_keep_30 : decode cX3_keep 30 = .ok (.aload_n 0, 1) := by decide +kernel
theorem dX3_keep_31 : decode cX3_keep 31 = .ok (.aload_n 0, 1) := by decide +kernel
theorem dX3_keep_32 : decode cX3_keep 32 = .ok (.getfield 21, 3) := by decide +kernel
theorem dX3_keep_35 : decode cX3_keep 35 = .ok (.iconst 1, 1) := by decide +kernel
theorem dX3_keep_36 : decode cX3_keep 36 = .ok (.iadd, 1) := by decide +kernel
theorem dX3_keep_37 : decode cX3_keep 37 = .ok (.bipush 6, 2) := by decide +kernel
theorem dX3_keep_39 : decode cX3_keep 39 = .ok (.irem, 1) := by decide +kernel
theorem dX3_keep_40 : decode cX3_keep 40 = .ok (.putfield 21, 3) := by decide +kernel
theorem dX3_keep_43 : decode cX3_keep 43 = .ok (.aload_n 0, 1) := by decide +kernel
theorem dX3_keep_44 : decode cX3_keep 44 = .ok (.bipush 6, 2) := by decide +kernel
theorem dX3_keep_46 : decode cX3_keep 46 = .ok (.aload_n 0, 1) := by decide +kernel
theorem dX3_keep_47 : decode cX3_keep 47 = .ok (.getfield 25, 3) := by decide +kernel
theorem dX3_keep_50 : decode cX3_keep 50 = .ok (.iconst 1, 1) := by decide +kernel
theorem dX3_keep_51 : decode cX3_keep 51 = .ok (.iadd, 1) := by decide +kernel
theorem dX3_keep_52 : decode cX3_keep 52 = .ok (.invokestatic 35, 3) := by decide +kernel
theorem dX3_keep_55 : decode cX3_keep 55 = .ok (.putfield 25, 3) := by decide +kernel
theorem dX3_keep_58 : decode cX3_keep 58 = .ok (.return_, 1) := by decide +kernel
def f_X3_keep (b1 : Nat) (a2 : Int32) (h : zHp) : Option (zHp) := zix (h 79 2) 6 ((f_X4_copyFrom (82 + 9 * (h 79 2).toNatClampNeg) b1 h).bind fun x2 => zix (x2 79 2) 6 (zlt (zst x2 81 (x2 79 2).toNatClampNeg a2) fun h3 => zlt (zst h3 79 2 (((h3 79 2) + (1 : Int32)) - ((h3 79 2) + (1 : Int32)) / (6 : Int32) * (6 : Int32))) fun h4 => zlt (zst h4 79 3 (if ((h4 79 3) + (1 : Int32)) < (6 : Int32) then ((h4 79 3) + (1 : Int32)) else (6 : Int32))) fun h5 => some h5))
set_option maxHeartbeats 4000000 in
set_option maxRecDepth 100000 in
theorem s_X3_keep (b1 : Nat) (hb1 : b1 ∈ xPorch) (a2 : Int32) (h : zHp) : Fn wX mX3_keep 2 rV [.ref 79, .ref b1, .int a2] h (f_X3_keep b1 a2 h) := by
  refine Fn.of rfl (Nat.le_of_ble_eq_true rfl) ?_
  unfold f_X3_keep
  refine Sim.aload_n 0 dX3_keep_0 rfl ?_
  refine Sim.getR (j := 80) fl_X3_11 dX3_keep_1 xR_79_0 ?_
  refine Sim.aload_n 0 dX3_keep_4 rfl ?_
  refine Sim.getI fl_X3_21 dX3_keep_5 xI_79_2 ?_
  refine Sim.aald (n := 6) (j := fun i => 82 + 9 * i) dX3_keep_8 xP_80 (fun q1 => ?_)
  refine Sim.astore_n (L' := [(3, .ref (82 + 9 * (h 79 2).toNatClampNeg)), (0, .ref 79), (1, .ref b1), (2, .int a2)]) dX3_keep_9 (Nat.le_of_ble_eq_true rfl) rfl ?_
  refine Sim.aload_n 0 dX3_keep_10 rfl ?_
  refine Sim.ifnonnull 15 dX3_keep_11 rfl ?_
  refine Sim.aload_n 0 dX3_keep_15 rfl ?_
  refine Sim.aload_n 2 dX3_keep_16 rfl ?_
  refine Sim.callV1U (d1 := 1) (s_X4_copyFrom (82 + 9 * (h 79 2).toNatClampNeg) (xPp q1) b1 hb1 h) dX3_keep_17 ml_X3_31 mv_X4_copyFrom (xOC_X4 _ (xPp q1)) (Nat.le_of_ble_eq_true rfl) (Nat.le_of_ble_eq_true rfl) (Nat.le_of_ble_eq_true rfl) (fun x2 => ?_)
  refine Sim.aload_n 1 dX3_keep_20 rfl ?_
  refine Sim.getR (j := 81) fl_X3_17 dX3_keep_21 xR_79_1 ?_
  refine Sim.aload_n 1 dX3_keep_24 rfl ?_
  refine Sim.getI fl_X3_21 dX3_keep_25 xI_79_2 ?_
  refine Sim.iload_n 3 dX3_keep_28 rfl ?_
  refine Sim.iast (n := 6) dX3_keep_29 xA_81 ?_
  refine Sim.lth (fun h3 => ?_)
  refine Sim.aload_n 1 dX3_keep_30 rfl ?_
  refine Sim.aload_n 1 dX3_keep_31 rfl ?_
  refine Sim.getI fl_X3_21 dX3_keep_32 xI_79_2 ?_
  refine Sim.iconst (v := (1 : Int32)) dX3_keep_35 rfl ?_
  refine Sim.iadd dX3_keep_36 ?_
  refine Sim.bipush (v := (6 : Int32)) dX3_keep_37 rfl ?_
  refine Sim.iremL dX3_keep_39 (by decide) ?_
  refine Sim.put fp_X3_21 dX3_keep_40 xI_79_2 rfl rfl ?_
  refine Sim.lth (fun h4 => ?_)
  refine Sim.aload_n 1 dX3_keep_43 rfl ?_
  refine Sim.bipush (v := (6 : Int32)) dX3_keep_44 rfl ?_
  refine Sim.aload_n 1 dX3_keep_46 rfl ?_
  refine Sim.getI fl_X3_25 dX3_keep_47 xI_79_3 ?_
  refine Sim.iconst (v := (1 : Int32)) dX3_keep_50 rfl ?_
  refine Sim.iadd dX3_keep_51 ?_
  refine Sim.mmin dX3_keep_52 ml_X3_35 ms_min ms_Math mc_min (Nat.le_of_ble_eq_true rfl) (Nat.le_of_ble_eq_true rfl) ?_
  refine Sim.put fp_X3_25 dX3_keep_55 xI_79_3 rfl rfl ?_
  refine Sim.lth (fun h5 => ?_)
  exact Sim.vret dX3_keep_58 rfl
theorem mv_X3_keep : zMV mX3_keep 2 := ⟨⟨zTb_in 611 (by decide +kernel) rfl, zTb_in 144 (by decide +kernel) rfl, ⟨by decide +kernel, by decide +kernel⟩, by decide +kernel⟩, zTb_in 609 (by decide +kernel) rfl, zTb_in 610 (by decide +kernel) rfl⟩
