-- ===== RockingPorchModel.rocks(I)V
abbrev mX11_rocks : zMt := (yX11_rocks, cX11_rocks, 2, none)
theorem ml_X11_391 : Cond.methodLink RX11 391 yX11_fadesOf ∈ zTb := zTb_in 1821 (by decide +kernel) rfl
theorem ml_X11_394 : Cond.methodLink RX11 394 yX11_greater ∈ zTb := zTb_in 1825 (by decide +kernel) rfl
theorem dX11_rocks_0 : decode cX11_rocks 0 = .ok (.aload_n 0, 1) := by decide +kernel
theorem dX11_rocks_1 : decode cX11_rocks 1 = .ok (.getfield 7, 3) := by decide +kernel
theorem dX11_rocks_4 : decode cX11_rocks 4 = .ok (.bipush 49, 2) := by decide +kernel
theorem dX11_rocks_6 : decode cX11_rocks 6 = .ok (.aload_n 0, 1) := by decide +kernel
theorem dX11_rocks_7 : decode cX11_rocks 7 = .ok (.iload_n 1, 1) := by decide +kernel
theorem dX11_rocks_8 : decode cX11_rocks 8 = .ok (.invokevirtual 344, 3) := by decide +kernel
theorem dX11_rocks_11 : decode cX11_rocks 11 = .ok (.iadd, 1) := by decide +kernel
theorem dX11_rocks_12 : decode cX11_rocks 12 = .ok (.aload_n 0, 1) := by decide +kernel
theorem dX11_rocks_13 : decode cX11_rocks 13 = .ok (.getfield 7, 3) := by decide +kernel
theorem dX11_rocks_16 : decode cX11_rocks 16 = .ok (.bipush 49, 2) := by decide +kernel
theorem dX11_rocks_18 : decode cX11_rocks 18 = .ok (.aload_n 0, 1) := by decide +kernel
theorem dX11_rocks_19 : decode cX11_rocks 19 = .ok (.iload_n 1, 1) := by decide +kernel
theorem dX11_rocks_20 : decode cX11_rocks 20 = .ok (.invokevirtual 344, 3) := by decide +kernel
theorem dX11_rocks_23 : decode cX11_rocks 23 = .ok (.iadd, 1) := by decide +kernel
theorem dX11_rocks_24 : decode cX11_rocks 24 = .ok (.iaload, 1) := by decide +kernel
theorem dX11_rocks_25 : decode cX11_rocks 25 = .ok (.iconst 1, 1) := by decide +kernel
theorem dX11_rocks_26 : decode cX11_rocks 26 = .ok (.iadd, 1) := by decide +kernel
theorem dX11_rocks_27 : decode cX11_rocks 27 = .ok (.iastore, 1) := by decide +kernel
theorem dX11_rocks_28 : decode cX11_rocks 28 = .ok (.aload_n 0, 1) := by decide +kernel
theorem dX11_rocks_29 : decode cX11_rocks 29 = .ok (.iload_n 1, 1) := by decide +kernel
theorem dX11_rocks_30 : decode cX11_rocks 30 = .ok (.aload_n 0, 1) := by decide +kernel
theorem dX11_rocks_31 : decode cX11_rocks 31 = .ok (.iconst 0, 1) := by decide +kernel
theorem dX11_rocks_32 : decode cX11_rocks 32 = .ok (.aload_n 0, 1) := by decide +kernel
theorem dX11_rocks_33 : decode cX11_rocks 33 = .ok (.getfield 7, 3) := by decide +kernel
theorem dX11_rocks_36 : decode cX11_rocks 36 = .ok (.iconst 5, 1) := by decide +kernel
theorem dX11_rocks_37 : decode cX11_rocks 37 = .ok (.iload_n 1, 1) := by decide +kernel
theorem dX11_rocks_38 : decode cX11_rocks 38 = .ok (.iadd, 1) := by decide +kernel
theorem dX11_rocks_39 : decode cX11_rocks 39 = .ok (.iaload, 1) := by decide +kernel
theorem dX11_rocks_40 : decode cX11_rocks 40 = .ok (.aload_n 0, 1) := by decide +kernel
theorem dX11_rocks_41 : decode cX11_rocks 41 = .ok (.iload_n 1, 1) := by decide +kernel
theorem dX11_rocks_42 : decode cX11_rocks 42 = .ok (.invokevirtual 391, 3) := by decide +kernel
theorem dX11_rocks_45 : decode cX11_rocks 45 = .ok (.isub, 1) := by decide +kernel
theorem dX11_rocks_46 : decode cX11_rocks 46 = .ok (.invokevirtual 394, 3) := by decide +kernel
theorem dX11_rocks_49 : decode cX11_rocks 49 = .ok (.invokevirtual 167, 3) := by decide +kernel
theorem dX11_rocks_52 : decode cX11_rocks 52 = .ok (.return_, 1) := by decide +kernel
def f_X11_rocks  (a1 : Int32) (h : zHp) : Option (zHp) := (f_X11_forWhom a1 h).bind fun x1 => (f_X11_forWhom a1 x1.2).bind fun x2 => zix ((49 : Int32) + x2.1) 77 (zix ((49 : Int32) + x1.1) 77 (zlt (zst x2.2 1 ((49 : Int32) + x1.1).toNatClampNeg ((x2.2 1 ((49 : Int32) + x2.1).toNatClampNeg) + (1 : Int32))) fun h3 => zix ((5 : Int32) + a1) 77 ((f_X11_fadesOf a1 h3).bind fun x4 => (f_X11_greater (0 : Int32) ((h3 1 ((5 : Int32) + a1).toNatClampNeg) - x4.1) x4.2).bind fun x5 => (f_X11_swings a1 x5.1 x5.2).bind fun x6 => some x6)))
set_option maxHeartbeats 4000000 in
set_option maxRecDepth 100000 in
theorem s_X11_rocks  (a1 : Int32) (h : zHp) : Fn wM mX11_rocks 5 rV [.ref 0, .int a1] h (f_X11_rocks a1 h) := by
  refine Fn.of rfl (Nat.le_of_ble_eq_true rfl) ?_
  unfold f_X11_rocks
  refine Sim.aload_n 0 dX11_rocks_0 rfl ?_
  refine Sim.getR (j := 1) fl_X11_7 dX11_rocks_1 mR_1 ?_
  refine Sim.bipush (v := (49 : Int32)) dX11_rocks_4 rfl ?_
  refine Sim.aload_n 0 dX11_rocks_6 rfl ?_
  refine Sim.iload_n 1 dX11_rocks_7 rfl ?_
  refine Sim.callV1I (d1 := 0) (s_X11_forWhom a1 h) dX11_rocks_8 ml_X11_344 mv_X11_forWhom mC (Nat.le_of_ble_eq_true rfl) (Nat.le_of_ble_eq_true rfl) (Nat.le_of_ble_eq_true rfl) (fun x1 => ?_)
  refine Sim.iadd dX11_rocks_11 ?_
  refine Sim.aload_n 0 dX11_rocks_12 rfl ?_
  refine Sim.getR (j := 1) fl_X11_7 dX11_rocks_13 mR_1 ?_
  refine Sim.bipush (v := (49 : Int32)) dX11_rocks_16 rfl ?_
  refine Sim.aload_n 0 dX11_rocks_18 rfl ?_
  refine Sim.iload_n 1 dX11_rocks_19 rfl ?_
  refine Sim.callV1I (d1 := 0) (s_X11_forWhom a1 x1.2) dX11_rocks_20 ml_X11_344 mv_X11_forWhom mC (Nat.le_of_ble_eq_true rfl) (Nat.le_of_ble_eq_true rfl) (Nat.le_of_ble_eq_true rfl) (fun x2 => ?_)
  refine Sim.iadd dX11_rocks_23 ?_
  refine Sim.iald (n := 77) dX11_rocks_24 mA_1 ?_
  refine Sim.iconst (v := (1 : Int32)) dX11_rocks_25 rfl ?_
  refine Sim.iadd dX11_rocks_26 ?_
  refine Sim.iast (n := 77) dX11_rocks_27 mA_1 ?_
  refine Sim.lth (fun h3 => ?_)
  refine Sim.aload_n 0 dX11_rocks_28 rfl ?_
  refine Sim.iload_n 1 dX11_rocks_29 rfl ?_
  refine Sim.aload_n 0 dX11_rocks_30 rfl ?_
  refine Sim.iconst (v := (0 : Int32)) dX11_rocks_31 rfl ?_
  refine Sim.aload_n 0 dX11_rocks_32 rfl ?_
  refine Sim.getR (j := 1) fl_X11_7 dX11_rocks_33 mR_1 ?_
  refine Sim.iconst (v := (5 : Int32)) dX11_rocks_36 rfl ?_
  refine Sim.iload_n 1 dX11_rocks_37 rfl ?_
  refine Sim.iadd dX11_rocks_38 ?_
  refine Sim.iald (n := 77) dX11_rocks_39 mA_1 ?_
  refine Sim.aload_n 0 dX11_rocks_40 rfl ?_
  refine Sim.iload_n 1 dX11_rocks_41 rfl ?_
  refine Sim.callV1I (d1 := 4) (s_X11_fadesOf a1 h3) dX11_rocks_42 ml_X11_391 mv_X11_fadesOf mC (Nat.le_of_ble_eq_true rfl) (Nat.le_of_ble_eq_true rfl) (Nat.le_of_ble_eq_true rfl) (fun x4 => ?_)
  refine Sim.isub dX11_rocks_45 ?_
  refine Sim.callV2I (d1 := 0) (s_X11_greater (0 : Int32) ((h3 1 ((5 : Int32) + a1).toNatClampNeg) - x4.1) x4.2) dX11_rocks_46 ml_X11_394 mv_X11_greater mC (Nat.le_of_ble_eq_true rfl) (Nat.le_of_ble_eq_true rfl) (Nat.le_of_ble_eq_true rfl) (fun x5 => ?_)
  refine Sim.callV2U (d1 := 0) (s_X11_swings a1 x5.1 x5.2) dX11_rocks_49 ml_X11_167 mv_X11_swings mC (Nat.le_of_ble_eq_true rfl) (Nat.le_of_ble_eq_true rfl) (Nat.le_of_ble_eq_true rfl) (fun x6 => ?_)
  exact Sim.vret dX11_rocks_52 rfl
theorem mv_X11_rocks : zMV mX11_rocks 1 := ⟨⟨zTb_in 1820 (by decide +kernel) rfl, zTb_in 148 (by decide +kernel) rfl, ⟨by decide +kernel, by decide +kernel⟩, by decide +kernel⟩, zTb_in 1819 (by decide +kernel) rfl, zTb_in 105 (by decide +kernel) rfl⟩
-- ===== RockingPorchModel.goesBy()I
abbrev mX11_goesBy : zMt := (yX11_goesBy, cX11_goesBy, 3, some .int)
theorem fl_X11_302 : zF RX11 302 11 34 := ⟨RX11, TX11, 69, rfl, Nat.le_of_ble_eq_true rfl, zTb_in 1333 (by decide +kernel) rfl, in_X11⟩
theorem fl_X11_305 : zF RX11 305 11 36 := ⟨RX11, TX11, 69, rfl, Nat.le_of_ble_eq_true rfl, zTb_in 1335 (by decide +kernel) rfl, in_X11⟩
theorem ml_X11_397 : Cond.methodLink RX11 397 yX11_callsOne ∈ zTb := zTb_in 1801 (by decide +kernel) rfl
theorem ml_X11_400 : Cond.methodLink RX11 400 yX11_houseDoes ∈ zTb := zTb_in 1813 (by decide +kernel) rfl
theorem ml_X11_403 : Cond.methodLink RX11 403 yX11_rocks ∈ zTb := zTb_in 1817 (by decide +kernel) rfl
theorem dX11_goesBy_0 : decode cX11_goesBy 0 = .ok (.iconst 0, 1) := by decide +kernel
theorem dX11_goesBy_1 : decode cX11_goesBy 1 = .ok (.istore_n 1, 1) := by decide +kernel
theorem dX11_goesBy_2 : decode cX11_goesBy 2 = .ok (.iconst 0, 1) := by decide +kernel
theorem dX11_goesBy_3 : decode cX11_goesBy 3 = .ok (.istore_n 2, 1) := by decide +kernel
theorem dX11_goesBy_4 : decode cX11_goesBy 4 = .ok (.iload_n 2, 1) := by decide +kernel
theorem dX11_goesBy_5 : decode cX11_goesBy 5 = .ok (.iconst 4, 1) := by decide +kernel
theorem dX11_goesBy_6 : decode cX11_goesBy 6 = .ok (.aload_n 0, 1) := by decide +kernel
theorem dX11_goesBy_7 : decode cX11_goesBy 7 = .ok (.getfield 302, 3) := by decide +kernel
theorem dX11_goesBy_10 : decode cX11_goesBy 10 = .ok (.imul, 1) := by decide +kernel
theorem dX11_goesBy_11 : decode cX11_goesBy 11 = .ok (.if_icmp .ge 37, 3) := by decide +kernel
theorem dX11_goesBy_14 : decode cX11_goesBy 14 = .ok (.aload_n 0, 1) := by decide +kernel
theorem dX11_goesBy_15 : decode cX11_goesBy 15 = .ok (.getfield 62, 3) := by decide +kernel
theorem dX11_goesBy_18 : decode cX11_goesBy 18 = .ok (.iload_n 2, 1) := by decide +kernel
theorem dX11_goesBy_19 : decode cX11_goesBy 19 = .ok (.iaload, 1) := by decide +kernel
theorem dX11_goesBy_20 : decode cX11_goesBy 20 = .ok (.aload_n 0, 1) := by decide +kernel
theorem dX11_goesBy_21 : decode cX11_goesBy 21 = .ok (.getfield 7, 3) := by decide +kernel
theorem dX11_goesBy_24 : decode cX11_goesBy 24 = .ok (.iconst 0, 1) := by decide +kernel
theorem dX11_goesBy_25 : decode cX11_goesBy 25 = .ok (.iaload, 1) := by decide +kernel
theorem dX11_goesBy_26 : decode cX11_goesBy 26 = .ok (.if_icmp .ne 15, 3) := by decide +kernel
theorem dX11_goesBy_29 : decode cX11_goesBy 29 = .ok (.aload_n 0, 1) := by decide +kernel
theorem dX11_goesBy_30 : decode cX11_goesBy 30 = .ok (.iload_n 2, 1) := by decide +kernel
theorem dX11_goesBy_31 : decode cX11_goesBy 31 = .ok (.invokevirtual 397, 3) := by decide +kernel
theorem dX11_goesBy_34 : decode cX11_goesBy 34 = .ok (.ifCond .eq 7, 3) := by decide +kernel
theorem dX11_goesBy_37 : decode cX11_goesBy 37 = .ok (.iload_n 1, 1) := by decide +kernel
theorem dX11_goesBy_38 : decode cX11_goesBy 38 = .ok (.iconst 1, 1) := by decide +kernel
theorem dX11_goesBy_39 : decode cX11_goesBy 39 = .ok (.iadd, 1) := by decide +kernel
theorem dX11_goesBy_40 : decode cX11_goesBy 40 = .ok (.istore_n 1, 1) := by decide +kernel
theorem dX11_goesBy_41 : decode cX11_goesBy 41 = .ok (.iload_n 2, 1) := by decide +kernel
theorem dX11_goesBy_42 : decode cX11_goesBy 42 = .ok (.iconst 4, 1) := by decide +kernel
theorem dX11_goesBy_43 : decode cX11_goesBy 43 = .ok (.iadd, 1) := by decide +kernel
theorem dX11_goesBy_44 : decode cX11_goesBy 44 = .ok (.istore_n 2, 1) := by decide +kernel
theorem dX11_goesBy_45 : decode cX11_goesBy 45 = .ok (.goto (-41), 3) := by decide +kernel
theorem dX11_goesBy_48 : decode cX11_goesBy 48 = .ok (.iconst 0, 1) := by decide +kernel
theorem dX11_goesBy_49 : decode cX11_goesBy 49 = .ok (.istore_n 2, 1) := by decide +kernel
theorem dX11_goesBy_50 : decode cX11_goesBy 50 = .ok (.iload_n 2, 1) := by decide +kernel
theorem dX11_goesBy_51 : decode cX11_goesBy 51 = .ok (.iconst 3, 1) := by decide +kernel
theorem dX11_goesBy_52 : decode cX11_goesBy 52 = .ok (.aload_n 0, 1) := by decide +kernel
theorem dX11_goesBy_53 : decode cX11_goesBy 53 = .ok (.getfield 305, 3) := by decide +kernel
theorem dX11_goesBy_56 : decode cX11_goesBy 56 = .ok (.imul, 1) := by decide +kernel
theorem dX11_goesBy_57 : decode cX11_goesBy 57 = .ok (.if_icmp .ge 30, 3) := by decide +kernel
theorem dX11_goesBy_60 : decode cX11_goesBy 60 = .ok (.aload_n 0, 1) := by decide +kernel
theorem dX11_goesBy_61 : decode cX11_goesBy 61 = .ok (.getfield 65, 3) := by decide +kernel
theorem dX11_goesBy_64 : decode cX11_goesBy 64 = .ok (.iload_n 2, 1) := by decide +kernel
theorem dX11_goesBy_65 : decode cX11_goesBy 65 = .ok (.iaload, 1) := by decide +kernel
theorem dX11_goesBy_66 : decode cX11_goesBy 66 = .ok (.aload_n 0, 1) := by decide +kernel
theorem dX11_goesBy_67 : decode cX11_goesBy 67 = .ok (.getfield 7, 3) := by decide +kernel
theorem dX11_goesBy_70 : decode cX11_goesBy 70 = .ok (.iconst 0, 1) := by decide +kernel
theorem dX11_goesBy_71 : decode cX11_goesBy 71 = .ok (.iaload, 1) := by decide +kernel
theorem dX11_goesBy_72 : decode cX11_goesBy 72 = .ok (.if_icmp .ne 8, 3) := by decide +kernel
theorem dX11_goesBy_75 : decode cX11_goesBy 75 = .ok (.aload_n 0, 1) := by decide +kernel
theorem dX11_goesBy_76 : decode cX11_goesBy 76 = .ok (.iload_n 2, 1) := by decide +kernel
theorem dX11_goesBy_77 : decode cX11_goesBy 77 = .ok (.invokevirtual 400, 3) := by decide +kernel
theorem dX11_goesBy_80 : decode cX11_goesBy 80 = .ok (.iload_n 2, 1) := by decide +kernel
theorem dX11_goesBy_81 : decode cX11_goesBy 81 = .ok (.iconst 3, 1) := by decide +kernel
theorem dX11_goesBy_82 : decode cX11_goesBy 82 = .ok (.iadd, 1) := by decide +kernel
theorem dX11_goesBy_83 : decode cX11_goesBy 83 = .ok (.istore_n 2, 1) := by decide +kernel
theorem dX11_goesBy_84 : decode cX11_goesBy 84 = .ok (.goto (-34), 3) := by decide +kernel
theorem dX11_goesBy_87 : decode cX11_goesBy 87 = .ok (.iconst 0, 1) := by decide +kernel
theorem dX11_goesBy_88 : decode cX11_goesBy 88 = .ok (.istore_n 2, 1) := by decide +kernel
theorem dX11_goesBy_89 : decode cX11_goesBy 89 = .ok (.iload_n 2, 1) := by decide +kernel
theorem dX11_goesBy_90 : decode cX11_goesBy 90 = .ok (.aload_n 0, 1) := by decide +kernel
theorem dX11_goesBy_91 : decode cX11_goesBy 91 = .ok (.getfield 140, 3) := by decide +kernel
theorem dX11_goesBy_94 : decode cX11_goesBy 94 = .ok (.if_icmp .ge 22, 3) := by decide +kernel
theorem dX11_goesBy_97 : decode cX11_goesBy 97 = .ok (.aload_n 0, 1) := by decide +kernel
theorem dX11_goesBy_98 : decode cX11_goesBy 98 = .ok (.iload_n 2, 1) := by decide +kernel
theorem dX11_goesBy_99 : decode cX11_goesBy 99 = .ok (.invokevirtual 146, 3) := by decide +kernel
theorem dX11_goesBy_102 : decode cX11_goesBy 102 = .ok (.ifCond .eq 8, 3) := by decide +kernel
theorem dX11_goesBy_105 : decode cX11_goesBy 105 = .ok (.aload_n 0, 1) := by decide +kernel
theorem dX11_goesBy_106 : decode cX11_goesBy 106 = .ok (.iload_n 2, 1) := by decide +kernel
theorem dX11_goesBy_107 : decode cX11_goesBy 107 = .ok (.invokevirtual 403, 3) := by decide +kernel
theorem dX11_goesBy_110 : decode cX11_goesBy 110 = .ok (.iinc 2 1, 3) := by decide +kernel
theorem dX11_goesBy_113 : decode cX11_goesBy 113 = .ok (.goto (-24), 3) := by decide +kernel
theorem dX11_goesBy_116 : decode cX11_goesBy 116 = .ok (.aload_n 0, 1) := by decide +kernel
theorem dX11_goesBy_117 : decode cX11_goesBy 117 = .ok (.getfield 7, 3) := by decide +kernel
theorem dX11_goesBy_120 : decode cX11_goesBy 120 = .ok (.iconst 0, 1) := by decide +kernel
theorem dX11_goesBy_121 : decode cX11_goesBy 121 = .ok (.aload_n 0, 1) := by decide +kernel
theorem dX11_goesBy_122 : decode cX11_goesBy 122 = .ok (.getfield 7, 3) := by decide +kernel
theorem dX11_goesBy_125 : decode cX11_goesBy 125 = .ok (.iconst 0, 1) := by decide +kernel
theorem dX11_goesBy_126 : decode cX11_goesBy 126 = .ok (.iaload, 1) := by decide +kernel
theorem dX11_goesBy_127 : decode cX11_goesBy 127 = .ok (.iconst 1, 1) := by decide +kernel
theorem dX11_goesBy_128 : decode cX11_goesBy 128 = .ok (.iadd, 1) := by decide +kernel
theorem dX11_goesBy_129 : decode cX11_goesBy 129 = .ok (.iastore, 1) := by decide +kernel
theorem dX11_goesBy_130 : decode cX11_goesBy 130 = .ok (.iload_n 1, 1) := by decide +kernel
theorem dX11_goesBy_131 : decode cX11_goesBy 131 = .ok (.ireturn, 1) := by decide +kernel
def f_X11_goesBy_89  (k89 : Int32 × Int32 × zHp → Option (Int32 × zHp)) (v1 : Int32) (v2 : Int32) (h : zHp) : Option (Int32 × zHp) := (if v2 < (h 0 6) then (f_X11_doesRock v2 h).bind fun x1 => (if x1.1 = 0 then k89 (v1, (v2 + (1 : Int32)), x1.2) else (f_X11_rocks v2 x1.2).bind fun x2 => k89 (v1, (v2 + (1 : Int32)), x2)) else zix (0 : Int32) 77 (zix (0 : Int32) 77 (zlt (zst h 1 (0 : Int32).toNatClampNeg ((h 1 (0 : Int32).toNatClampNeg) + (1 : Int32))) fun h3 => some (v1, h3))))
set_option maxHeartbeats 4000000 in
set_option maxRecDepth 100000 in
theorem f_X11_goesBy_89_s  (k89 : Int32 × Int32 × zHp → Option (Int32 × zHp)) (H89 : ∀ v : Int32 × Int32 × zHp, Sim wM mX11_goesBy 8 rI 89 [(0, .ref 0), (1, .int v.1), (2, .int v.2.1)] [] v.2.2 (k89 v)) (v1 : Int32) (v2 : Int32) (h : zHp) : Sim wM mX11_goesBy 8 rI 89 [(0, .ref 0), (1, .int v1), (2, .int v2)] [] h (f_X11_goesBy_89 k89 v1 v2 h) := by
  unfold f_X11_goesBy_89
  refine Sim.iload_n 2 dX11_goesBy_89 rfl ?_
  refine Sim.aload_n 0 dX11_goesBy_90 rfl ?_
  refine Sim.getI fl_X11_140 dX11_goesBy_91 mI_6 ?_
  refine Sim.icmp_ge 116 dX11_goesBy_94 rfl ?_ ?_
  · refine Sim.aload_n 0 dX11_goesBy_97 rfl ?_
    refine Sim.iload_n 2 dX11_goesBy_98 rfl ?_
    refine Sim.callV1I (d1 := 0) (s_X11_doesRock v2 h) dX11_goesBy_99 ml_X11_146 mv_X11_doesRock mC (Nat.le_of_ble_eq_true rfl) (Nat.le_of_ble_eq_true rfl) (Nat.le_of_ble_eq_true rfl) (fun x1 => ?_)
    refine Sim.if_eq 110 dX11_goesBy_102 rfl ?_ ?_
    · refine Sim.iinc (L' := [(2, .int (v2 + (1 : Int32))), (0, .ref 0), (1, .int v1)]) 2 dX11_goesBy_110 rfl rfl (Nat.le_of_ble_eq_true rfl) rfl ?_
      refine Sim.goto 89 dX11_goesBy_113 rfl ?_
      refine Sim.locs [1, 2, 0] rfl ?_
      exact H89 (v1, (v2 + (1 : Int32)), x1.2)
    · refine Sim.aload_n 0 dX11_goesBy_105 rfl ?_
      refine Sim.iload_n 2 dX11_goesBy_106 rfl ?_
      refine Sim.callV1U (d1 := 5) (s_X11_rocks v2 x1.2) dX11_goesBy_107 ml_X11_403 mv_X11_rocks mC (Nat.le_of_ble_eq_true rfl) (Nat.le_of_ble_eq_true rfl) (Nat.le_of_ble_eq_true rfl) (fun x2 => ?_)
      refine Sim.iinc (L' := [(2, .int (v2 + (1 : Int32))), (0, .ref 0), (1, .int v1)]) 2 dX11_goesBy_110 rfl rfl (Nat.le_of_ble_eq_true rfl) rfl ?_
      refine Sim.goto 89 dX11_goesBy_113 rfl ?_
      refine Sim.locs [1, 2, 0] rfl ?_
      exact H89 (v1, (v2 + (1 : Int32)), x2)
  · refine Sim.aload_n 0 dX11_goesBy_116 rfl ?_
    refine Sim.getR (j := 1) fl_X11_7 dX11_goesBy_117 mR_1 ?_
    refine Sim.iconst (v := (0 : Int32)) dX11_goesBy_120 rfl ?_
    refine Sim.aload_n 0 dX11_goesBy_121 rfl ?_
    refine Sim.getR (j := 1) fl_X11_7 dX11_goesBy_122 mR_1 ?_
    refine Sim.iconst (v := (0 : Int32)) dX11_goesBy_125 rfl ?_
    refine Sim.iald (n := 77) dX11_goesBy_126 mA_1 ?_
    refine Sim.iconst (v := (1 : Int32)) dX11_goesBy_127 rfl ?_
    refine Sim.iadd dX11_goesBy_128 ?_
    refine Sim.iast (n := 77) dX11_goesBy_129 mA_1 ?_
    refine Sim.lth (fun h3 => ?_)
    refine Sim.iload_n 1 dX11_goesBy_130 rfl ?_
    exact Sim.iret dX11_goesBy_131 rfl
def f_X11_goesBy_89_lp   (n : Nat) (v : Int32 × Int32 × zHp) : Option (Int32 × zHp) := zlp (fun k89 v => f_X11_goesBy_89 k89 v.1 v.2.1 v.2.2) n v
theorem f_X11_goesBy_89_ls  (n : Nat) (v : Int32 × Int32 × zHp) : Sim wM mX11_goesBy 8 rI 89 [(0, .ref 0), (1, .int v.1), (2, .int v.2.1)] [] v.2.2 (f_X11_goesBy_89_lp n v) :=
  Sim.lp (V := Int32 × Int32 × zHp) (Lf := fun v => [(0, .ref 0), (1, .int v.1), (2, .int v.2.1)]) (sf := fun v => []) (hf := fun v => v.2.2) (fun k89 H89 v => f_X11_goesBy_89_s k89 H89 v.1 v.2.1 v.2.2) n v
def f_X11_goesBy_80  (k50 : Int32 × Int32 × zHp → Option (Int32 × zHp)) (v1 : Int32) (v2 : Int32) (h : zHp) : Option (Int32 × zHp) := zlt (v2 + (3 : Int32)) fun x1 => k50 (v1, x1, h)
set_option maxHeartbeats 4000000 in
set_option maxRecDepth 100000 in
theorem f_X11_goesBy_80_s  (k50 : Int32 × Int32 × zHp → Option (Int32 × zHp)) (H50 : ∀ v : Int32 × Int32 × zHp, Sim wM mX11_goesBy 8 rI 50 [(0, .ref 0), (1, .int v.1), (2, .int v.2.1)] [] v.2.2 (k50 v)) (v1 : Int32) (v2 : Int32) (h : zHp) : Sim wM mX11_goesBy 8 rI 80 [(0, .ref 0), (1, .int v1), (2, .int v2)] [] h (f_X11_goesBy_80 k50 v1 v2 h) := by
  unfold f_X11_goesBy_80
  refine Sim.iload_n 2 dX11_goesBy_80 rfl ?_
  refine Sim.iconst (v := (3 : Int32)) dX11_goesBy_81 rfl ?_
  refine Sim.iadd dX11_goesBy_82 ?_
  refine Sim.lti (fun x1 => ?_)
  refine Sim.istore_n (L' := [(2, .int x1), (0, .ref 0), (1, .int v1)]) dX11_goesBy_83 (Nat.le_of_ble_eq_true rfl) rfl ?_
  refine Sim.goto 50 dX11_goesBy_84 rfl ?_
  refine Sim.locs [1, 2, 0] rfl ?_
  exact H50 (v1, x1, h)
def f_X11_goesBy_50  (k50 : Int32 × Int32 × zHp → Option (Int32 × zHp)) (v1 : Int32) (v2 : Int32) (h : zHp) : Option (Int32 × zHp) := (if v2 < ((3 : Int32) * (h 0 36)) then zix v2 96 (zix (0 : Int32) 77 ((if (h 18 v2.toNatClampNeg) = (h 1 (0 : Int32).toNatClampNeg) then (f_X11_houseDoes v2 h).bind fun x1 => f_X11_goesBy_80 k50 v1 v2 x1 else f_X11_goesBy_80 k50 v1 v2 h))) else f_X11_goesBy_89_lp  zN (v1, (0 : Int32), h))
set_option maxHeartbeats 4000000 in
set_option maxRecDepth 100000 in
theorem f_X11_goesBy_50_s  (k50 : Int32 × Int32 × zHp → Option (Int32 × zHp)) (H50 : ∀ v : Int32 × Int32 × zHp, Sim wM mX11_goesBy 8 rI 50 [(0, .ref 0), (1, .int v.1), (2, .int v.2.1)] [] v.2.2 (k50 v)) (v1 : Int32) (v2 : Int32) (h : zHp) : Sim wM mX11_goesBy 8 rI 50 [(0, .ref 0), (1, .int v1), (2, .int v2)] [] h (f_X11_goesBy_50 k50 v1 v2 h) := by
  unfold f_X11_goesBy_50
  refine Sim.iload_n 2 dX11_goesBy_50 rfl ?_
  refine Sim.iconst (v := (3 : Int32)) dX11_goesBy_51 rfl ?_
  refine Sim.aload_n 0 dX11_goesBy_52 rfl ?_
  refine Sim.getI fl_X11_305 dX11_goesBy_53 mI_36 ?_
  refine Sim.imul dX11_goesBy_56 ?_
  refine Sim.icmp_ge 87 dX11_goesBy_57 rfl ?_ ?_
  · refine Sim.aload_n 0 dX11_goesBy_60 rfl ?_
    refine Sim.getR (j := 18) fl_X11_65 dX11_goesBy_61 mR_37 ?_
    refine Sim.iload_n 2 dX11_goesBy_64 rfl ?_
    refine Sim.iald (n := 96) dX11_goesBy_65 mA_18 ?_
    refine Sim.aload_n 0 dX11_goesBy_66 rfl ?_
    refine Sim.getR (j := 1) fl_X11_7 dX11_goesBy_67 mR_1 ?_
    refine Sim.iconst (v := (0 : Int32)) dX11_goesBy_70 rfl ?_
    refine Sim.iald (n := 77) dX11_goesBy_71 mA_1 ?_
    refine Sim.icmp_ne 80 dX11_goesBy_72 rfl ?_ ?_
    · refine Sim.aload_n 0 dX11_goesBy_75 rfl ?_
      refine Sim.iload_n 2 dX11_goesBy_76 rfl ?_
      refine Sim.callV1U (d1 := 6) (s_X11_houseDoes v2 h) dX11_goesBy_77 ml_X11_400 mv_X11_houseDoes mC (Nat.le_of_ble_eq_true rfl) (Nat.le_of_ble_eq_true rfl) (Nat.le_of_ble_eq_true rfl) (fun x1 => ?_)
      exact f_X11_goesBy_80_s k50 H50 v1 v2 x1
    · exact f_X11_goesBy_80_s k50 H50 v1 v2 h
  · refine Sim.iconst (v := (0 : Int32)) dX11_goesBy_87 rfl ?_
    refine Sim.istore_n (L' := [(2, .int (0 : Int32)), (0, .ref 0), (1, .int v1)]) dX11_goesBy_88 (Nat.le_of_ble_eq_true rfl) rfl ?_
    refine Sim.locs [1, 2, 0] rfl ?_
    exact f_X11_goesBy_89_ls  zN (v1, (0 : Int32), h)
def f_X11_goesBy_50_lp   (n : Nat) (v : Int32 × Int32 × zHp) : Option (Int32 × zHp) := zlp (fun k50 v => f_X11_goesBy_50 k50 v.1 v.2.1 v.2.2) n v
theorem f_X11_goesBy_50_ls  (n : Nat) (v : Int32 × Int32 × zHp) : Sim wM mX11_goesBy 8 rI 50 [(0, .ref 0), (1, .int v.1), (2, .int v.2.1)] [] v.2.2 (f_X11_goesBy_50_lp n v) :=
  Sim.lp (V := Int32 × Int32 × zHp) (Lf := fun v => [(0, .ref 0), (1, .int v.1), (2, .int v.2.1)]) (sf := fun v => []) (hf := fun v => v.2.2) (fun k50 H50 v => f_X11_goesBy_50_s k50 H50 v.1 v.2.1 v.2.2) n v
def f_X11_goesBy_41  (k4 : Int32 × Int32 × zHp → Option (Int32 × zHp)) (v1 : Int32) (v2 : Int32) (h : zHp) : Option (Int32 × zHp) := zlt (v2 + (4 : Int32)) fun x1 => k4 (v1, x1, h)
set_option maxHeartbeats 4000000 in
set_option maxRecDepth 100000 in
theorem f_X11_goesBy_41_s  (k4 : Int32 × Int32 × zHp → Option (Int32 × zHp)) (H4 : ∀ v : Int32 × Int32 × zHp, Sim wM mX11_goesBy 8 rI 4 [(0, .ref 0), (1, .int v.1), (2, .int v.2.1)] [] v.2.2 (k4 v)) (v1 : Int32) (v2 : Int32) (h : zHp) : Sim wM mX11_goesBy 8 rI 41 [(0, .ref 0), (1, .int v1), (2, .int v2)] [] h (f_X11_goesBy_41 k4 v1 v2 h) := by
  unfold f_X11_goesBy_41
  refine Sim.iload_n 2 dX11_goesBy_41 rfl ?_
  refine Sim.iconst (v := (4 : Int32)) dX11_goesBy_42 rfl ?_
  refine Sim.iadd dX11_goesBy_43 ?_
  refine Sim.lti (fun x1 => ?_)
  refine Sim.istore_n (L' := [(2, .int x1), (0, .ref 0), (1, .int v1)]) dX11_goesBy_44 (Nat.le_of_ble_eq_true rfl) rfl ?_
  refine Sim.goto 4 dX11_goesBy_45 rfl ?_
  refine Sim.locs [1, 2, 0] rfl ?_
  exact H4 (v1, x1, h)
def f_X11_goesBy_4  (k4 : Int32 × Int32 × zHp → Option (Int32 × zHp)) (v1 : Int32) (v2 : Int32) (h : zHp) : Option (Int32 × zHp) := (if v2 < ((4 : Int32) * (h 0 34)) then zix v2 128 (zix (0 : Int32) 77 ((if (h 17 v2.toNatClampNeg) = (h 1 (0 : Int32).toNatClampNeg) then (f_X11_callsOne v2 h).bind fun x1 => (if x1.1 = 0 then f_X11_goesBy_41 k4 v1 v2 x1.2 else zlt (v1 + (1 : Int32)) fun x2 => f_X11_goesBy_41 k4 x2 v2 x1.2) else f_X11_goesBy_41 k4 v1 v2 h))) else f_X11_goesBy_50_lp  zN (v1, (0 : Int32), h))
set_option maxHeartbeats 4000000 in
set_option maxRecDepth 100000 in
theorem f_X11_goesBy_4_s  (k4 : Int32 × Int32 × zHp → Option (Int32 × zHp)) (H4 : ∀ v : Int32 × Int32 × zHp, Sim wM mX11_goesBy 8 rI 4 [(0, .ref 0), (1, .int v.1), (2, .int v.2.1)] [] v.2.2 (k4 v)) (v1 : Int32) (v2 : Int32) (h : zHp) : Sim wM mX11_goesBy 8 rI 4 [(0, .ref 0), (1, .int v1), (2, .int v2)] [] h (f_X11_goesBy_4 k4 v1 v2 h) := by
  unfold f_X11_goesBy_4
  refine Sim.iload_n 2 dX11_goesBy_4 rfl ?_
  refine Sim.iconst (v := (4 : Int32)) dX11_goesBy_5 rfl ?_
  refine Sim.aload_n 0 dX11_goesBy_6 rfl ?_
  refine Sim.getI fl_X11_302 dX11_goesBy_7 mI_34 ?_
  refine Sim.imul dX11_goesBy_10 ?_
  refine Sim.icmp_ge 48 dX11_goesBy_11 rfl ?_ ?_
  · refine Sim.aload_n 0 dX11_goesBy_14 rfl ?_
    refine Sim.getR (j := 17) fl_X11_62 dX11_goesBy_15 mR_35 ?_
    refine Sim.iload_n 2 dX11_goesBy_18 rfl ?_
    refine Sim.iald (n := 128) dX11_goesBy_19 mA_17 ?_
    refine Sim.aload_n 0 dX11_goesBy_20 rfl ?_
    refine Sim.getR (j := 1) fl_X11_7 dX11_goesBy_21 mR_1 ?_
    refine Sim.iconst (v := (0 : Int32)) dX11_goesBy_24 rfl ?_
    refine Sim.iald (n := 77) dX11_goesBy_25 mA_1 ?_
    refine Sim.icmp_ne 41 dX11_goesBy_26 rfl ?_ ?_
    · refine Sim.aload_n 0 dX11_goesBy_29 rfl ?_
      refine Sim.iload_n 2 dX11_goesBy_30 rfl ?_
      refine Sim.callV1I (d1 := 7) (s_X11_callsOne v2 h) dX11_goesBy_31 ml_X11_397 mv_X11_callsOne mC (Nat.le_of_ble_eq_true rfl) (Nat.le_of_ble_eq_true rfl) (Nat.le_of_ble_eq_true rfl) (fun x1 => ?_)
      refine Sim.if_eq 41 dX11_goesBy_34 rfl ?_ ?_
      · exact f_X11_goesBy_41_s k4 H4 v1 v2 x1.2
      · refine Sim.iload_n 1 dX11_goesBy_37 rfl ?_
        refine Sim.iconst (v := (1 : Int32)) dX11_goesBy_38 rfl ?_
        refine Sim.iadd dX11_goesBy_39 ?_
        refine Sim.lti (fun x2 => ?_)
        refine Sim.istore_n (L' := [(1, .int x2), (0, .ref 0), (2, .int v2)]) dX11_goesBy_40 (Nat.le_of_ble_eq_true rfl) rfl ?_
        refine Sim.locs [1, 0, 2] rfl ?_
        exact f_X11_goesBy_41_s k4 H4 x2 v2 x1.2
    · exact f_X11_goesBy_41_s k4 H4 v1 v2 h
  · refine Sim.iconst (v := (0 : Int32)) dX11_goesBy_48 rfl ?_
    refine Sim.istore_n (L' := [(2, .int (0 : Int32)), (0, .ref 0), (1, .int v1)]) dX11_goesBy_49 (Nat.le_of_ble_eq_true rfl) rfl ?_
    refine Sim.locs [1, 2, 0] rfl ?_
    exact f_X11_goesBy_50_ls  zN (v1, (0 : Int32), h)
def f_X11_goesBy_4_lp   (n : Nat) (v : Int32 × Int32 × zHp) : Option (Int32 × zHp) := zlp (fun k4 v => f_X11_goesBy_4 k4 v.1 v.2.1 v.2.2) n v
theorem f_X11_goesBy_4_ls  (n : Nat) (v : Int32 × Int32 × zHp) : Sim wM mX11_goesBy 8 rI 4 [(0, .ref 0), (1, .int v.1), (2, .int v.2.1)] [] v.2.2 (f_X11_goesBy_4_lp n v) :=
  Sim.lp (V := Int32 × Int32 × zHp) (Lf := fun v => [(0, .ref 0), (1, .int v.1), (2, .int v.2.1)]) (sf := fun v => []) (hf := fun v => v.2.2) (fun k4 H4 v => f_X11_goesBy_4_s k4 H4 v.1 v.2.1 v.2.2) n v
def f_X11_goesBy   (h : zHp) : Option (Int32 × zHp) := f_X11_goesBy_4_lp  zN ((0 : Int32), (0 : Int32), h)
set_option maxHeartbeats 4000000 in
set_option maxRecDepth 100000 in
theorem s_X11_goesBy   (h : zHp) : Fn wM mX11_goesBy 8 rI [.ref 0] h (f_X11_goesBy  h) := by
  refine Fn.of rfl (Nat.le_of_ble_eq_true rfl) ?_
  unfold f_X11_goesBy
  refine Sim.iconst (v := (0 : Int32)) dX11_goesBy_0 rfl ?_
  refine Sim.istore_n (L' := [(1, .int (0 : Int32)), (0, .ref 0)]) dX11_goesBy_1 (Nat.le_of_ble_eq_true rfl) rfl ?_
  refine Sim.iconst (v := (0 : Int32)) dX11_goesBy_2 rfl ?_
  refine Sim.istore_n (L' := [(2, .int (0 : Int32)), (1, .int (0 : Int32)), (0, .ref 0)]) dX11_goesBy_3 (Nat.le_of_ble_eq_true rfl) rfl ?_
  refine Sim.locs [2, 1, 0] rfl ?_
  exact f_X11_goesBy_4_ls  zN ((0 : Int32), (0 : Int32), h)
theorem mv_X11_goesBy : zMV mX11_goesBy 0 := ⟨⟨zTb_in 1800 (by decide +kernel) rfl, zTb_in 148 (by decide +kernel) rfl, ⟨by decide +kernel, by decide +kernel⟩, by decide +kernel⟩, zTb_in 1799 (by decide +kernel) rfl, zTb_in 100 (by decide +kernel) rfl⟩
-- ===== RockingPorchModel.minutes(I)I
abbrev mX11_minutes : zMt := (yX11_minutes, cX11_minutes, 4, some .int)
theorem ml_X11_406 : Cond.methodLink RX11 406 yX11_goesBy ∈ zTb := zTb_in 1797 (by decide +kernel) rfl
theorem dX11_minutes_0 : decode cX11_minutes 0 = .ok (.aload_n 0, 1) := by decide +kernel
theorem dX11_minutes_1 : decode cX11_minutes 1 = .ok (.iconst 0, 1) := by decide +kernel
theorem dX11_minutes_2 : decode cX11_minutes 2 = .ok (.putfield 128, 3) := by decide +kernel
theorem dX11_minutes_5 : decode cX11_minutes 5 = .ok (.aload_n 0, 1) := by decide +kernel
theorem dX11_minutes_6 : decode cX11_minutes 6 = .ok (.iload_n 1, 1) := by decide +kernel
theorem dX11_minutes_7 : decode cX11_minutes 7 = .ok (.iconst 1, 1) := by decide +kernel
theorem dX11_minutes_8 : decode cX11_minutes 8 = .ok (.bipush 60, 2) := by decide +kernel
theorem dX11_minutes_10 : decode cX11_minutes 10 = .ok (.invokevirtual 154, 3) := by decide +kernel
theorem dX11_minutes_13 : decode cX11_minutes 13 = .ok (.ifCond .eq 17, 3) := by decide +kernel
theorem dX11_minutes_16 : decode cX11_minutes 16 = .ok (.aload_n 0, 1) := by decide +kernel
theorem dX11_minutes_17 : decode cX11_minutes 17 = .ok (.getfield 7, 3) := by decide +kernel
theorem dX11_minutes_20 : decode cX11_minutes 20 = .ok (.iconst 0, 1) := by decide +kernel
theorem dX11_minutes_21 : decode cX11_minutes 21 = .ok (.iaload, 1) := by decide +kernel
theorem dX11_minutes_22 : decode cX11_minutes 22 = .ok (.iload_n 1, 1) := by decide +kernel
theorem dX11_minutes_23 : decode cX11_minutes 23 = .ok (.iadd, 1) := by decide +kernel
theorem dX11_minutes_24 : decode cX11_minutes 24 = .ok (.sipush 9999, 3) := by decide +kernel
theorem dX11_minutes_27 : decode cX11_minutes 27 = .ok (.if_icmp .le 5, 3) := by decide +kernel
theorem dX11_minutes_30 : decode cX11_minutes 30 = .ok (.iconst (-1), 1) := by decide +kernel
theorem dX11_minutes_31 : decode cX11_minutes 31 = .ok (.ireturn, 1) := by decide +kernel
theorem dX11_minutes_32 : decode cX11_minutes 32 = .ok (.iconst 0, 1) := by decide +kernel
theorem dX11_minutes_33 : decode cX11_minutes 33 = .ok (.istore_n 2, 1) := by decide +kernel
theorem dX11_minutes_34 : decode cX11_minutes 34 = .ok (.iconst 0, 1) := by decide +kernel
theorem dX11_minutes_35 : decode cX11_minutes 35 = .ok (.istore_n 3, 1) := by decide +kernel
theorem dX11_minutes_36 : decode cX11_minutes 36 = .ok (.iload_n 3, 1) := by decide +kernel
theorem dX11_minutes_37 : decode cX11_minutes 37 = .ok (.iload_n 1, 1) := by decide +kernel
theorem dX11_minutes_38 : decode cX11_minutes 38 = .ok (.if_icmp .ge 20, 3) := by decide +kernel
theorem dX11_minutes_41 : decode cX11_minutes 41 = .ok (.aload_n 0, 1) := by decide +kernel
theorem dX11_minutes_42 : decode cX11_minutes 42 = .ok (.invokevirtual 375, 3) := by decide +kernel
theorem dX11_minutes_45 : decode cX11_minutes 45 = .ok (.iload_n 2, 1) := by decide +kernel
theorem dX11_minutes_46 : decode cX11_minutes 46 = .ok (.aload_n 0, 1) := by decide +kernel
theorem dX11_minutes_47 : decode cX11_minutes 47 = .ok (.invokevirtual 406, 3) := by decide +kernel
theorem dX11_minutes_50 : decode cX11_minutes 50 = .ok (.iadd, 1) := by decide +kernel
theorem dX11_minutes_51 : decode cX11_minutes 51 = .ok (.istore_n 2, 1) := by decide +kernel
theorem dX11_minutes_52 : decode cX11_minutes 52 = .ok (.iinc 3 1, 3) := by decide +kernel
theorem dX11_minutes_55 : decode cX11_minutes 55 = .ok (.goto (-19), 3) := by decide +kernel
theorem dX11_minutes_58 : decode cX11_minutes 58 = .ok (.iload_n 2, 1) := by decide +kernel
theorem dX11_minutes_59 : decode cX11_minutes 59 = .ok (.ireturn, 1) := by decide +kernel
def f_X11_minutes_36  (k36 : Int32 × Int32 × Int32 × zHp → Option (Int32 × zHp)) (v1 : Int32) (v2 : Int32) (v3 : Int32) (h : zHp) : Option (Int32 × zHp) := (if v3 < v1 then (f_X11_keepsAhead h).bind fun x1 => (f_X11_goesBy x1).bind fun x2 => zlt (v2 + x2.1) fun x3 => k36 (v1, x3, (v3 + (1 : Int32)), x2.2) else some (v2, h))
set_option maxHeartbeats 4000000 in
set_option maxRecDepth 100000 in
theorem f_X11_minutes_36_s  (k36 : Int32 × Int32 × Int32 × zHp → Option (Int32 × zHp)) (H36 : ∀ v : Int32 × Int32 × Int32 × zHp, Sim wM mX11_minutes 9 rI 36 [(0, .ref 0), (1, .int v.1), (2, .int v.2.1), (3, .int v.2.2.1)] [] v.2.2.2 (k36 v)) (v1 : Int32) (v2 : Int32) (v3 : Int32) (h : zHp) : Sim wM mX11_minutes 9 rI 36 [(0, .ref 0), (1, .int v1), (2, .int v2), (3, .int v3)] [] h (f_X11_minutes_36 k36 v1 v2 v3 h) := by
  unfold f_X11_minutes_36
  refine Sim.iload_n 3 dX11_minutes_36 rfl ?_
  refine Sim.iload_n 1 dX11_minutes_37 rfl ?_
  refine Sim.icmp_ge 58 dX11_minutes_38 rfl ?_ ?_
  · refine Sim.aload_n 0 dX11_minutes_41 rfl ?_
    refine Sim.callV0U (d1 := 0) (s_X11_keepsAhead h) dX11_minutes_42 ml_X11_375 mv_X11_keepsAhead mC (Nat.le_of_ble_eq_true rfl) (Nat.le_of_ble_eq_true rfl) (Nat.le_of_ble_eq_true rfl) (fun x1 => ?_)
    refine Sim.iload_n 2 dX11_minutes_45 rfl ?_
    refine Sim.aload_n 0 dX11_minutes_46 rfl ?_
    refine Sim.callV0I (d1 := 8) (s_X11_goesBy x1) dX11_minutes_47 ml_X11_406 mv_X11_goesBy mC (Nat.le_of_ble_eq_true rfl) (Nat.le_of_ble_eq_true rfl) (Nat.le_of_ble_eq_true rfl) (fun x2 => ?_)
    refine Sim.iadd dX11_minutes_50 ?_
    refine Sim.lti (fun x3 => ?_)
    refine Sim.istore_n (L' := [(2, .int x3), (0, .ref 0), (1, .int v1), (3, .int v3)]) dX11_minutes_51 (Nat.le_of_ble_eq_true rfl) rfl ?_
    refine Sim.iinc (L' := [(3, .int (v3 + (1 : Int32))), (2, .int x3), (0, .ref 0), (1, .int v1)]) 3 dX11_minutes_52 rfl rfl (Nat.le_of_ble_eq_true rfl) rfl ?_
    refine Sim.goto 36 dX11_minutes_55 rfl ?_
    refine Sim.locs [2, 3, 1, 0] rfl ?_
    exact H36 (v1, x3, (v3 + (1 : Int32)), x2.2)
  · refine Sim.iload_n 2 dX11_minutes_58 rfl ?_
    exact Sim.iret dX11_minutes_59 rfl
def f_X11_minutes_36_lp   (n : Nat) (v : Int32 × Int32 × Int32 × zHp) : Option (Int32 × zHp) := zlp (fun k36 v => f_X11_minutes_36 k36 v.1 v.2.1 v.2.2.1 v.2.2.2) n v
theorem f_X11_minutes_36_ls  (n : Nat) (v : Int32 × Int32 × Int32 × zHp) : Sim wM mX11_minutes 9 rI 36 [(0, .ref 0), (1, .int v.1), (2, .int v.2.1), (3, .int v.2.2.1)] [] v.2.2.2 (f_X11_minutes_36_lp n v) :=
  Sim.lp (V := Int32 × Int32 × Int32 × zHp) (Lf := fun v => [(0, .ref 0), (1, .int v.1), (2, .int v.2.1), (3, .int v.2.2.1)]) (sf := fun v => []) (hf := fun v => v.2.2.2) (fun k36 H36 v => f_X11_minutes_36_s k36 H36 v.1 v.2.1 v.2.2.1 v.2.2.2) n v
def f_X11_minutes  (a1 : Int32) (h : zHp) : Option (Int32 × zHp) := zlt (zst h 0 0 (0 : Int32)) fun h1 => (f_X11_isIn a1 (1 : Int32) (60 : Int32) h1).bind fun x2 => (if x2.1 = 0 then some ((-1 : Int32), x2.2) else zix (0 : Int32) 77 ((if (9999 : Int32) < ((x2.2 1 (0 : Int32).toNatClampNeg) + a1) then some ((-1 : Int32), x2.2) else f_X11_minutes_36_lp  zN (a1, (0 : Int32), (0 : Int32), x2.2))))
set_option maxHeartbeats 4000000 in
set_option maxRecDepth 100000 in
theorem s_X11_minutes  (a1 : Int32) (h : zHp) : Fn wM mX11_minutes 9 rI [.ref 0, .int a1] h (f_X11_minutes a1 h) := by
  refine Fn.of rfl (Nat.le_of_ble_eq_true rfl) ?_
  unfold f_X11_minutes
  refine Sim.aload_n 0 dX11_minutes_0 rfl ?_
  refine Sim.iconst (v := (0 : Int32)) dX11_minutes_1 rfl ?_
  refine Sim.put fp_X11_128 dX11_minutes_2 mI_0 rfl rfl ?_
  refine Sim.lth (fun h1 => ?_)
  refine Sim.aload_n 0 dX11_minutes_5 rfl ?_
  refine Sim.iload_n 1 dX11_minutes_6 rfl ?_
  refine Sim.iconst (v := (1 : Int32)) dX11_minutes_7 rfl ?_
  refine Sim.bipush (v := (60 : Int32)) dX11_minutes_8 rfl ?_
  refine Sim.callV3I (d1 := 0) (s_X11_isIn a1 (1 : Int32) (60 : Int32) h1) dX11_minutes_10 ml_X11_154 mv_X11_isIn mC (Nat.le_of_ble_eq_true rfl) (Nat.le_of_ble_eq_true rfl) (Nat.le_of_ble_eq_true rfl) (fun x2 => ?_)
  refine Sim.if_eq 30 dX11_minutes_13 rfl ?_ ?_
  · refine Sim.iconst (v := (-1 : Int32)) dX11_minutes_30 rfl ?_
    exact Sim.iret dX11_minutes_31 rfl
  · refine Sim.aload_n 0 dX11_minutes_16 rfl ?_
    refine Sim.getR (j := 1) fl_X11_7 dX11_minutes_17 mR_1 ?_
    refine Sim.iconst (v := (0 : Int32)) dX11_minutes_20 rfl ?_
    refine Sim.iald (n := 77) dX11_minutes_21 mA_1 ?_
    refine Sim.iload_n 1 dX11_minutes_22 rfl ?_
    refine Sim.iadd dX11_minutes_23 ?_
    refine Sim.sipush (v := (9999 : Int32)) dX11_minutes_24 rfl ?_
    refine Sim.icmp_le 32 dX11_minutes_27 rfl ?_ ?_
    · refine Sim.iconst (v := (-1 : Int32)) dX11_minutes_30 rfl ?_
      exact Sim.iret dX11_minutes_31 rfl
    · refine Sim.iconst (v := (0 : Int32)) dX11_minutes_32 rfl ?_
      refine Sim.istore_n (L' := [(2, .int (0 : Int32)), (0, .ref 0), (1, .int a1)]) dX11_minutes_33 (Nat.le_of_ble_eq_true rfl) rfl ?_
      refine Sim.iconst (v := (0 : Int32)) dX11_minutes_34 rfl ?_
      refine Sim.istore_n (L' := [(3, .int (0 : Int32)), (2, .int (0 : Int32)), (0, .ref 0), (1, .int a1)]) dX11_minutes_35 (Nat.le_of_ble_eq_true rfl) rfl ?_
      refine Sim.locs [2, 3, 1, 0] rfl ?_
      exact f_X11_minutes_36_ls  zN (a1, (0 : Int32), (0 : Int32), x2.2)
theorem mv_X11_minutes : zMV mX11_minutes 1 := ⟨⟨zTb_in 1796 (by decide +kernel) rfl, zTb_in 148 (by decide +kernel) rfl, ⟨by decide +kernel, by decide +kernel⟩, by decide +kernel⟩, zTb_in 1794 (by decide +kernel) rfl, zTb_in 1795 (by decide +kernel) rfl⟩
-- ===== RockingPorchModel.of(II)I
abbrev mX11_of : zMt := (yX11_of, cX11_of, 3, some .int)
theorem dX11_of_0 : decode cX11_of 0 = .ok (.aload_n 0, 1) := by decide +kernel
theorem dX11_of_1 : decode cX11_of 1 = .ok (.iconst 0, 1) := by decide +kernel
theorem dX11_of_2 : decode cX11_of 2 = .ok (.putfield 128, 3) := by decide +kernel
theorem dX11_of_5 : decode cX11_of 5 = .ok (.aload_n 0, 1) := by decide +kernel
theorem dX11_of_6 : decode cX11_of 6 = .ok (.iload_n 1, 1) := by decide +kernel
theorem dX11_of_7 : decode cX11_of 7 = .ok (.invokevirtual 158, 3) := by decide +kernel
theorem dX11_of_10 : decode cX11_of 10 = .ok (.ifCond .ne 6, 3) := by decide +kernel
theorem dX11_of_13 : decode cX11_of 13 = .ok (.bipush (-2), 2) := by decide +kernel
theorem dX11_of_15 : decode cX11_of 15 = .ok (.ireturn, 1) := by decide +kernel
theorem dX11_of_16 : decode cX11_of 16 = .ok (.iload_n 2, 1) := by decide +kernel
theorem dX11_of_17 : decode cX11_of 17 = .ok (.ifCond .ne 10, 3) := by decide +kernel
theorem dX11_of_20 : decode cX11_of 20 = .ok (.aload_n 0, 1) := by decide +kernel
theorem dX11_of_21 : decode cX11_of 21 = .ok (.getfield 19, 3) := by decide +kernel
theorem dX11_of_24 : decode cX11_of 24 = .ok (.iload_n 1, 1) := by decide +kernel
theorem dX11_of_25 : decode cX11_of 25 = .ok (.iaload, 1) := by decide +kernel
theorem dX11_of_26 : decode cX11_of 26 = .ok (.ireturn, 1) := by decide +kernel
theorem dX11_of_27 : decode cX11_of 27 = .ok (.iload_n 2, 1) := by decide +kernel
theorem dX11_of_28 : decode cX11_of 28 = .ok (.iconst 1, 1) := by decide +kernel
theorem dX11_of_29 : decode cX11_of 29 = .ok (.if_icmp .ne 12, 3) := by decide +kernel
theorem dX11_of_32 : decode cX11_of 32 = .ok (.aload_n 0, 1) := by decide +kernel
theorem dX11_of_33 : decode cX11_of 33 = .ok (.getfield 7, 3) := by decide +kernel
theorem dX11_of_36 : decode cX11_of 36 = .ok (.iconst 5, 1) := by decide +kernel
theorem dX11_of_37 : decode cX11_of 37 = .ok (.iload_n 1, 1) := by decide +kernel
theorem dX11_of_38 : decode cX11_of 38 = .ok (.iadd, 1) := by decide +kernel
theorem dX11_of_39 : decode cX11_of 39 = .ok (.iaload, 1) := by decide +kernel
theorem dX11_of_40 : decode cX11_of 40 = .ok (.ireturn, 1) := by decide +kernel
theorem dX11_of_41 : decode cX11_of 41 = .ok (.iload_n 2, 1) := by decide +kernel
theorem dX11_of_42 : decode cX11_of 42 = .ok (.iconst 2, 1) := by decide +kernel
theorem dX11_of_43 : decode cX11_of 43 = .ok (.if_icmp .ne 9, 3) := by decide +kernel
theorem dX11_of_46 : decode cX11_of 46 = .ok (.aload_n 0, 1) := by decide +kernel
theorem dX11_of_47 : decode cX11_of 47 = .ok (.iload_n 1, 1) := by decide +kernel
theorem dX11_of_48 : decode cX11_of 48 = .ok (.invokevirtual 344, 3) := by decide +kernel
theorem dX11_of_51 : decode cX11_of 51 = .ok (.ireturn, 1) := by decide +kernel
theorem dX11_of_52 : decode cX11_of 52 = .ok (.iload_n 2, 1) := by decide +kernel
theorem dX11_of_53 : decode cX11_of 53 = .ok (.iconst 3, 1) := by decide +kernel
theorem dX11_of_54 : decode cX11_of 54 = .ok (.if_icmp .ne 9, 3) := by decide +kernel
theorem dX11_of_57 : decode cX11_of 57 = .ok (.aload_n 0, 1) := by decide +kernel
theorem dX11_of_58 : decode cX11_of 58 = .ok (.iload_n 1, 1) := by decide +kernel
theorem dX11_of_59 : decode cX11_of 59 = .ok (.invokevirtual 150, 3) := by decide +kernel
theorem dX11_of_62 : decode cX11_of 62 = .ok (.ireturn, 1) := by decide +kernel
theorem dX11_of_63 : decode cX11_of 63 = .ok (.iload_n 2, 1) := by decide +kernel
theorem dX11_of_64 : decode cX11_of 64 = .ok (.iconst 4, 1) := by decide +kernel
theorem dX11_of_65 : decode cX11_of 65 = .ok (.if_icmp .ne 9, 3) := by decide +kernel
theorem dX11_of_68 : decode cX11_of 68 = .ok (.aload_n 0, 1) := by decide +kernel
theorem dX11_of_69 : decode cX11_of 69 = .ok (.iload_n 1, 1) := by decide +kernel
theorem dX11_of_70 : decode cX11_of 70 = .ok (.invokevirtual 391, 3) := by decide +kernel
theorem dX11_of_73 : decode cX11_of 73 = .ok (.ireturn, 1) := by decide +kernel
theorem dX11_of_74 : decode cX11_of 74 = .ok (.iload_n 2, 1) := by decide +kernel
theorem dX11_of_75 : decode cX11_of 75 = .ok (.iconst 5, 1) := by decide +kernel
theorem dX11_of_76 : decode cX11_of 76 = .ok (.if_icmp .ne 9, 3) := by decide +kernel
theorem dX11_of_79 : decode cX11_of 79 = .ok (.aload_n 0, 1) := by decide +kernel
theorem dX11_of_80 : decode cX11_of 80 = .ok (.iload_n 1, 1) := by decide +kernel
theorem dX11_of_81 : decode cX11_of 81 = .ok (.invokevirtual 366, 3) := by decide +kernel
theorem dX11_of_84 : decode cX11_of 84 = .ok (.ireturn, 1) := by decide +kernel
theorem dX11_of_85 : decode cX11_of 85 = .ok (.aload_n 0, 1) := by decide +kernel
theorem dX11_of_86 : decode cX11_of 86 = .ok (.iload_n 2, 1) := by decide +kernel
theorem dX11_of_87 : decode cX11_of 87 = .ok (.bipush 10, 2) := by decide +kernel
theorem dX11_of_89 : decode cX11_of 89 = .ok (.bipush 9, 2) := by decide +kernel
theorem dX11_of_91 : decode cX11_of 91 = .ok (.aload_n 0, 1) := by decide +kernel
theorem dX11_of_92 : decode cX11_of 92 = .ok (.getfield 143, 3) := by decide +kernel
theorem dX11_of_95 : decode cX11_of 95 = .ok (.iadd, 1) := by decide +kernel
theorem dX11_of_96 : decode cX11_of 96 = .ok (.invokevirtual 154, 3) := by decide +kernel
theorem dX11_of_99 : decode cX11_of 99 = .ok (.ifCond .eq 15, 3) := by decide +kernel
theorem dX11_of_102 : decode cX11_of 102 = .ok (.aload_n 0, 1) := by decide +kernel
theorem dX11_of_103 : decode cX11_of 103 = .ok (.iload_n 1, 1) := by decide +kernel
theorem dX11_of_104 : decode cX11_of 104 = .ok (.iload_n 2, 1) := by decide +kernel
theorem dX11_of_105 : decode cX11_of 105 = .ok (.bipush 10, 2) := by decide +kernel
theorem dX11_of_107 : decode cX11_of 107 = .ok (.isub, 1) := by decide +kernel
theorem dX11_of_108 : decode cX11_of 108 = .ok (.invokevirtual 360, 3) := by decide +kernel
theorem dX11_of_111 : decode cX11_of 111 = .ok (.goto 5, 3) := by decide +kernel
theorem dX11_of_114 : decode cX11_of 114 = .ok (.bipush (-2), 2) := by decide +kernel
theorem dX11_of_116 : decode cX11_of 116 = .ok (.ireturn, 1) := by decide +kernel
def f_X11_of  (a1 : Int32) (a2 : Int32) (h : zHp) : Option (Int32 × zHp) := zlt (zst h 0 0 (0 : Int32)) fun h1 => (f_X11_isChair a1 h1).bind fun x2 => (if x2.1 = 0 then some ((-2 : Int32), x2.2) else (if a2 = 0 then zix a1 10 (some ((x2.2 4 a1.toNatClampNeg), x2.2)) else (if a2 = (1 : Int32) then zix ((5 : Int32) + a1) 77 (some ((x2.2 1 ((5 : Int32) + a1).toNatClampNeg), x2.2)) else (if a2 = (2 : Int32) then (f_X11_forWhom a1 x2.2).bind fun x3 => some (x3.1, x3.2) else (if a2 = (3 : Int32) then (f_X11_takenBy a1 x2.2).bind fun x4 => some (x4.1, x4.2) else (if a2 = (4 : Int32) then (f_X11_fadesOf a1 x2.2).bind fun x5 => some (x5.1, x5.2) else (if a2 = (5 : Int32) then (f_X11_jumpsAt a1 x2.2).bind fun x6 => some (x6.1, x6.2) else (f_X11_isIn a2 (10 : Int32) ((9 : Int32) + (x2.2 0 7)) x2.2).bind fun x7 => (if x7.1 = 0 then some ((-2 : Int32), x7.2) else (f_X11_swingsOf a1 (a2 - (10 : Int32)) x7.2).bind fun x8 => some (x8.1, x8.2)))))))))
set_option maxHeartbeats 4000000 in
set_option maxRecDepth 100000 in
theorem s_X11_of  (a1 : Int32) (a2 : Int32) (h : zHp) : Fn wM mX11_of 5 rI [.ref 0, .int a1, .int a2] h (f_X11_of a1 a2 h) := by
  refine Fn.of rfl (Nat.le_of_ble_eq_true rfl) ?_
  unfold f_X11_of
  refine Sim.aload_n 0 dX11_of_0 rfl ?_
  refine Sim.iconst (v := (0 : Int32)) dX11_of_1 rfl ?_
  refine Sim.put fp_X11_128 dX11_of_2 mI_0 rfl rfl ?_
  refine Sim.lth (fun h1 => ?_)
  refine Sim.aload_n 0 dX11_of_5 rfl ?_
  refine Sim.iload_n 1 dX11_of_6 rfl ?_
  refine Sim.callV1I (d1 := 0) (s_X11_isChair a1 h1) dX11_of_7 ml_X11_158 mv_X11_isChair mC (Nat.le_of_ble_eq_true rfl) (Nat.le_of_ble_eq_true rfl) (Nat.le_of_ble_eq_true rfl) (fun x2 => ?_)
  refine Sim.if_ne 16 dX11_of_10 rfl ?_ ?_
  · refine Sim.bipush (v := (-2 : Int32)) dX11_of_13 rfl ?_
    exact Sim.iret dX11_of_15 rfl
  · refine Sim.iload_n 2 dX11_of_16 rfl ?_
    refine Sim.if_ne 27 dX11_of_17 rfl ?_ ?_
    · refine Sim.aload_n 0 dX11_of_20 rfl ?_
      refine Sim.getR (j := 4) fl_X11_19 dX11_of_21 mR_8 ?_
      refine Sim.iload_n 1 dX11_of_24 rfl ?_
      refine Sim.iald (n := 10) dX11_of_25 mA_4 ?_
      exact Sim.iret dX11_of_26 rfl
    · refine Sim.iload_n 2 dX11_of_27 rfl ?_
      refine Sim.iconst (v := (1 : Int32)) dX11_of_28 rfl ?_
      refine Sim.icmp_ne 41 dX11_of_29 rfl ?_ ?_
      · refine Sim.aload_n 0 dX11_of_32 rfl ?_
        refine Sim.getR (j := 1) fl_X11_7 dX11_of_33 mR_1 ?_
        refine Sim.iconst (v := (5 : Int32)) dX11_of_36 rfl ?_
        refine Sim.iload_n 1 dX11_of_37 rfl ?_
        refine Sim.iadd dX11_of_38 ?_
        refine Sim.iald (n := 77) dX11_of_39 mA_1 ?_
        exact Sim.iret dX11_of_40 rfl
      · refine Sim.iload_n 2 dX11_of_41 rfl ?_
        refine Sim.iconst (v := (2 : Int32)) dX11_of_42 rfl ?_
        refine Sim.icmp_ne 52 dX11_of_43 rfl ?_ ?_
        · refine Sim.aload_n 0 dX11_of_46 rfl ?_
          refine Sim.iload_n 1 dX11_of_47 rfl ?_
          refine Sim.callV1I (d1 := 0) (s_X11_forWhom a1 x2.2) dX11_of_48 ml_X11_344 mv_X11_forWhom mC (Nat.le_of_ble_eq_true rfl) (Nat.le_of_ble_eq_true rfl) (Nat.le_of_ble_eq_true rfl) (fun x3 => ?_)
          exact Sim.iret dX11_of_51 rfl
        · refine Sim.iload_n 2 dX11_of_52 rfl ?_
          refine Sim.iconst (v := (3 : Int32)) dX11_of_53 rfl ?_
          refine Sim.icmp_ne 63 dX11_of_54 rfl ?_ ?_
          · refine Sim.aload_n 0 dX11_of_57 rfl ?_
            refine Sim.iload_n 1 dX11_of_58 rfl ?_
            refine Sim.callV1I (d1 := 0) (s_X11_takenBy a1 x2.2) dX11_of_59 ml_X11_150 mv_X11_takenBy mC (Nat.le_of_ble_eq_true rfl) (Nat.le_of_ble_eq_true rfl) (Nat.le_of_ble_eq_true rfl) (fun x4 => ?_)
            exact Sim.iret dX11_of_62 rfl
          · refine Sim.iload_n 2 dX11_of_63 rfl ?_
            refine Sim.iconst (v := (4 : Int32)) dX11_of_64 rfl ?_
            refine Sim.icmp_ne 74 dX11_of_65 rfl ?_ ?_
            · refine Sim.aload_n 0 dX11_of_68 rfl ?_
              refine Sim.iload_n 1 dX11_of_69 rfl ?_
              refine Sim.callV1I (d1 := 4) (s_X11_fadesOf a1 x2.2) dX11_of_70 ml_X11_391 mv_X11_fadesOf mC (Nat.le_of_ble_eq_true rfl) (Nat.le_of_ble_eq_true rfl) (Nat.le_of_ble_eq_true rfl) (fun x5 => ?_)
              exact Sim.iret dX11_of_73 rfl
            · refine Sim.iload_n 2 dX11_of_74 rfl ?_
              refine Sim.iconst (v := (5 : Int32)) dX11_of_75 rfl ?_
              refine Sim.icmp_ne 85 dX11_of_76 rfl ?_ ?_
              · refine Sim.aload_n 0 dX11_of_79 rfl ?_
                refine Sim.iload_n 1 dX11_of_80 rfl ?_
                refine Sim.callV1I (d1 := 4) (s_X11_jumpsAt a1 x2.2) dX11_of_81 ml_X11_366 mv_X11_jumpsAt mC (Nat.le_of_ble_eq_true rfl) (Nat.le_of_ble_eq_true rfl) (Nat.le_of_ble_eq_true rfl) (fun x6 => ?_)
                exact Sim.iret dX11_of_84 rfl
              · refine Sim.aload_n 0 dX11_of_85 rfl ?_
                refine Sim.iload_n 2 dX11_of_86 rfl ?_
                refine Sim.bipush (v := (10 : Int32)) dX11_of_87 rfl ?_
                refine Sim.bipush (v := (9 : Int32)) dX11_of_89 rfl ?_
                refine Sim.aload_n 0 dX11_of_91 rfl ?_
                refine Sim.getI fl_X11_143 dX11_of_92 mI_7 ?_
                refine Sim.iadd dX11_of_95 ?_
                refine Sim.callV3I (d1 := 0) (s_X11_isIn a2 (10 : Int32) ((9 : Int32) + (x2.2 0 7)) x2.2) dX11_of_96 ml_X11_154 mv_X11_isIn mC (Nat.le_of_ble_eq_true rfl) (Nat.le_of_ble_eq_true rfl) (Nat.le_of_ble_eq_true rfl) (fun x7 => ?_)
                refine Sim.if_eq 114 dX11_of_99 rfl ?_ ?_
                · refine Sim.bipush (v := (-2 : Int32)) dX11_of_114 rfl ?_
                  exact Sim.iret dX11_of_116 rfl
                · refine Sim.aload_n 0 dX11_of_102 rfl ?_
                  refine Sim.iload_n 1 dX11_of_103 rfl ?_
                  refine Sim.iload_n 2 dX11_of_104 rfl ?_
                  refine Sim.bipush (v := (10 : Int32)) dX11_of_105 rfl ?_
                  refine Sim.isub dX11_of_107 ?_
                  refine Sim.callV2I (d1 := 4) (s_X11_swingsOf a1 (a2 - (10 : Int32)) x7.2) dX11_of_108 ml_X11_360 mv_X11_swingsOf mC (Nat.le_of_ble_eq_true rfl) (Nat.le_of_ble_eq_true rfl) (Nat.le_of_ble_eq_true rfl) (fun x8 => ?_)
                  refine Sim.goto 116 dX11_of_111 rfl ?_
                  exact Sim.iret dX11_of_116 rfl
theorem mv_X11_of : zMV mX11_of 2 := ⟨⟨zTb_in 1832 (by decide +kernel) rfl, zTb_in 148 (by decide +kernel) rfl, ⟨by decide +kernel, by decide +kernel⟩, by decide +kernel⟩, zTb_in 1830 (by decide +kernel) rfl, zTb_in 1831 (by decide +kernel) rfl⟩
-- ===== RockingPorchModel.who(II)I
abbrev mX11_who : zMt := (yX11_who, cX11_who, 5, some .int)
theorem dX11_who_0 : decode cX11_who 0 = .ok (.aload_n 0, 1) := by decide +kernel
theorem dX11_who_1 : decode cX11_who 1 = .ok (.iconst 0, 1) := by decide +kernel
theorem dX11_who_2 : decode cX11_who 2 = .ok (.putfield 128, 3) := by decide +kernel
theorem dX11_who_5 : decode cX11_who 5 = .ok (.aload_n 0, 1) := by decide +kernel
theorem dX11_who_6 : decode cX11_who 6 = .ok (.iload_n 1, 1) := by decide +kernel
theorem dX11_who_7 : decode cX11_who 7 = .ok (.invokevirtual 161, 3) := by decide +kernel
theorem dX11_who_10 : decode cX11_who 10 = .ok (.ifCond .ne 6, 3) := by decide +kernel
theorem dX11_who_13 : decode cX11_who 13 = .ok (.bipush (-2), 2) := by decide +kernel
theorem dX11_who_15 : decode cX11_who 15 = .ok (.ireturn, 1) := by decide +kernel
theorem dX11_who_16 : decode cX11_who 16 = .ok (.iload_n 2, 1) := by decide +kernel
theorem dX11_who_17 : decode cX11_who 17 = .ok (.ifCond .ne 10, 3) := by decide +kernel
theorem dX11_who_20 : decode cX11_who 20 = .ok (.aload_n 0, 1) := by decide +kernel
theorem dX11_who_21 : decode cX11_who 21 = .ok (.getfield 22, 3) := by decide +kernel
theorem dX11_who_24 : decode cX11_who 24 = .ok (.iload_n 1, 1) := by decide +kernel
theorem dX11_who_25 : decode cX11_who 25 = .ok (.iaload, 1) := by decide +kernel
theorem dX11_who_26 : decode cX11_who 26 = .ok (.ireturn, 1) := by decide +kernel
theorem dX11_who_27 : decode cX11_who 27 = .ok (.aload_n 0, 1) := by decide +kernel
theorem dX11_who_28 : decode cX11_who 28 = .ok (.iload_n 2, 1) := by decide +kernel
theorem dX11_who_29 : decode cX11_who 29 = .ok (.iconst 1, 1) := by decide +kernel
theorem dX11_who_30 : decode cX11_who 30 = .ok (.iconst 3, 1) := by decide +kernel
theorem dX11_who_31 : decode cX11_who 31 = .ok (.invokevirtual 154, 3) := by decide +kernel
theorem dX11_who_34 : decode cX11_who 34 = .ok (.ifCond .eq 20, 3) := by decide +kernel
theorem dX11_who_37 : decode cX11_who 37 = .ok (.aload_n 0, 1) := by decide +kernel
theorem dX11_who_38 : decode cX11_who 38 = .ok (.getfield 7, 3) := by decide +kernel
theorem dX11_who_41 : decode cX11_who 41 = .ok (.bipush 35, 2) := by decide +kernel
theorem dX11_who_43 : decode cX11_who 43 = .ok (.bipush 14, 2) := by decide +kernel
theorem dX11_who_45 : decode cX11_who 45 = .ok (.iload_n 2, 1) := by decide +kernel
theorem dX11_who_46 : decode cX11_who 46 = .ok (.iconst 1, 1) := by decide +kernel
theorem dX11_who_47 : decode cX11_who 47 = .ok (.isub, 1) := by decide +kernel
theorem dX11_who_48 : decode cX11_who 48 = .ok (.imul, 1) := by decide +kernel
theorem dX11_who_49 : decode cX11_who 49 = .ok (.iadd, 1) := by decide +kernel
theorem dX11_who_50 : decode cX11_who 50 = .ok (.iload_n 1, 1) := by decide +kernel
theorem dX11_who_51 : decode cX11_who 51 = .ok (.iadd, 1) := by decide +kernel
theorem dX11_who_52 : decode cX11_who 52 = .ok (.iaload, 1) := by decide +kernel
theorem dX11_who_53 : decode cX11_who 53 = .ok (.ireturn, 1) := by decide +kernel
theorem dX11_who_54 : decode cX11_who 54 = .ok (.iload_n 2, 1) := by decide +kernel
theorem dX11_who_55 : decode cX11_who 55 = .ok (.iconst 4, 1) := by decide +kernel
theorem dX11_who_56 : decode cX11_who 56 = .ok (.if_icmp .ne 9, 3) := by decide +kernel
theorem dX11_who_59 : decode cX11_who 59 = .ok (.aload_n 0, 1) := by decide +kernel
theorem dX11_who_60 : decode cX11_who 60 = .ok (.iload_n 1, 1) := by decide +kernel
theorem dX11_who_61 : decode cX11_who 61 = .ok (.invokevirtual 357, 3) := by decide +kernel
theorem dX11_who_64 : decode cX11_who 64 = .ok (.ireturn, 1) := by decide +kernel
theorem dX11_who_65 : decode cX11_who 65 = .ok (.iload_n 2, 1) := by decide +kernel
theorem dX11_who_66 : decode cX11_who 66 = .ok (.bipush 6, 2) := by decide +kernel
theorem dX11_who_68 : decode cX11_who 68 = .ok (.if_icmp .ne 10, 3) := by decide +kernel
theorem dX11_who_71 : decode cX11_who 71 = .ok (.aload_n 0, 1) := by decide +kernel
theorem dX11_who_72 : decode cX11_who 72 = .ok (.getfield 68, 3) := by decide +kernel
theorem dX11_who_75 : decode cX11_who 75 = .ok (.iload_n 1, 1) := by decide +kernel
theorem dX11_who_76 : decode cX11_who 76 = .ok (.iaload, 1) := by decide +kernel
theorem dX11_who_77 : decode cX11_who 77 = .ok (.ireturn, 1) := by decide +kernel
theorem dX11_who_78 : decode cX11_who 78 = .ok (.iload_n 2, 1) := by decide +kernel
theorem dX11_who_79 : decode cX11_who 79 = .ok (.iconst 5, 1) := by decide +kernel
theorem dX11_who_80 : decode cX11_who 80 = .ok (.if_icmp .eq 6, 3) := by decide +kernel
theorem dX11_who_83 : decode cX11_who 83 = .ok (.bipush (-2), 2) := by decide +kernel
theorem dX11_who_85 : decode cX11_who 85 = .ok (.ireturn, 1) := by decide +kernel
theorem dX11_who_86 : decode cX11_who 86 = .ok (.iconst 0, 1) := by decide +kernel
theorem dX11_who_87 : decode cX11_who 87 = .ok (.istore_n 3, 1) := by decide +kernel
theorem dX11_who_88 : decode cX11_who 88 = .ok (.iconst 0, 1) := by decide +kernel
theorem dX11_who_89 : decode cX11_who 89 = .ok (.istore 4, 2) := by decide +kernel
theorem dX11_who_91 : decode cX11_who 91 = .ok (.iload 4, 2) := by decide +kernel
theorem dX11_who_93 : decode cX11_who 93 = .ok (.aload_n 0, 1) := by decide +kernel
theorem dX11_who_94 : decode cX11_who 94 = .ok (.getfield 140, 3) := by decide +kernel
theorem dX11_who_97 : decode cX11_who 97 = .ok (.if_icmp .ge 26, 3) := by decide +kernel
theorem dX11_who_100 : decode cX11_who 100 = .ok (.aload_n 0, 1) := by decide +kernel
theorem dX11_who_101 : decode cX11_who 101 = .ok (.iload 4, 2) := by decide +kernel
theorem dX11_who_103 : decode cX11_who 103 = .ok (.invokevirtual 344, 3) := by decide +kernel
theorem dX11_who_106 : decode cX11_who 106 = .ok (.iload_n 1, 1) := by decide +kernel
theorem dX11_who_107 : decode cX11_who 107 = .ok (.if_icmp .ne 10, 3) := by decide +kernel
theorem dX11_who_110 : decode cX11_who 110 = .ok (.iload_n 3, 1) := by decide +kernel
theorem dX11_who_111 : decode cX11_who 111 = .ok (.iconst 1, 1) := by decide +kernel
theorem dX11_who_112 : decode cX11_who 112 = .ok (.iload 4, 2) := by decide +kernel
theorem dX11_who_114 : decode cX11_who 114 = .ok (.ishl, 1) := by decide +kernel
theorem dX11_who_115 : decode cX11_who 115 = .ok (.ior, 1) := by decide +kernel
theorem dX11_who_116 : decode cX11_who 116 = .ok (.istore_n 3, 1) := by decide +kernel
theorem dX11_who_117 : decode cX11_who 117 = .ok (.iinc 4 1, 3) := by decide +kernel
theorem dX11_who_120 : decode cX11_who 120 = .ok (.goto (-29), 3) := by decide +kernel
theorem dX11_who_123 : decode cX11_who 123 = .ok (.iload_n 3, 1) := by decide +kernel
theorem dX11_who_124 : decode cX11_who 124 = .ok (.ireturn, 1) := by decide +kernel
def f_X11_who_91  (k91 : Int32 × Int32 × Int32 × zHp → Option (Int32 × zHp)) (v1 : Int32) (v3 : Int32) (v4 : Int32) (h : zHp) : Option (Int32 × zHp) := (if v4 < (h 0 6) then (f_X11_forWhom v4 h).bind fun x1 => (if x1.1 = v1 then zlt (v3 ||| ((1 : Int32) <<< (v4 &&& 31))) fun x2 => k91 (v1, x2, (v4 + (1 : Int32)), x1.2) else k91 (v1, v3, (v4 + (1 : Int32)), x1.2)) else some (v3, h))
set_option maxHeartbeats 4000000 in
set_option maxRecDepth 100000 in
theorem f_X11_who_91_s  (k91 : Int32 × Int32 × Int32 × zHp → Option (Int32 × zHp)) (H91 : ∀ v : Int32 × Int32 × Int32 × zHp, Sim wM mX11_who 2 rI 91 [(0, .ref 0), (1, .int v.1), (3, .int v.2.1), (4, .int v.2.2.1)] [] v.2.2.2 (k91 v)) (v1 : Int32) (v3 : Int32) (v4 : Int32) (h : zHp) : Sim wM mX11_who 2 rI 91 [(0, .ref 0), (1, .int v1), (3, .int v3), (4, .int v4)] [] h (f_X11_who_91 k91 v1 v3 v4 h) := by
  unfold f_X11_who_91
  refine Sim.iload 3 dX11_who_91 rfl ?_
  refine Sim.aload_n 0 dX11_who_93 rfl ?_
  refine Sim.getI fl_X11_140 dX11_who_94 mI_6 ?_
  refine Sim.icmp_ge 123 dX11_who_97 rfl ?_ ?_
  · refine Sim.aload_n 0 dX11_who_100 rfl ?_
    refine Sim.iload 3 dX11_who_101 rfl ?_
    refine Sim.callV1I (d1 := 0) (s_X11_forWhom v4 h) dX11_who_103 ml_X11_344 mv_X11_forWhom mC (Nat.le_of_ble_eq_true rfl) (Nat.le_of_ble_eq_true rfl) (Nat.le_of_ble_eq_true rfl) (fun x1 => ?_)
    refine Sim.iload_n 1 dX11_who_106 rfl ?_
    refine Sim.icmp_ne 117 dX11_who_107 rfl ?_ ?_
    · refine Sim.iload_n 2 dX11_who_110 rfl ?_
      refine Sim.iconst (v := (1 : Int32)) dX11_who_111 rfl ?_
      refine Sim.iload 3 dX11_who_112 rfl ?_
      refine Sim.ishl dX11_who_114 ?_
      refine Sim.ior dX11_who_115 ?_
      refine Sim.lti (fun x2 => ?_)
      refine Sim.istore_n (L' := [(3, .int x2), (0, .ref 0), (1, .int v1), (4, .int v4)]) dX11_who_116 (Nat.le_of_ble_eq_true rfl) rfl ?_
      refine Sim.iinc (L' := [(4, .int (v4 + (1 : Int32))), (3, .int x2), (0, .ref 0), (1, .int v1)]) 3 dX11_who_117 rfl rfl (Nat.le_of_ble_eq_true rfl) rfl ?_
      refine Sim.goto 91 dX11_who_120 rfl ?_
      refine Sim.locs [2, 3, 1, 0] rfl ?_
      exact H91 (v1, x2, (v4 + (1 : Int32)), x1.2)
    · refine Sim.iinc (L' := [(4, .int (v4 + (1 : Int32))), (0, .ref 0), (1, .int v1), (3, .int v3)]) 3 dX11_who_117 rfl rfl (Nat.le_of_ble_eq_true rfl) rfl ?_
      refine Sim.goto 91 dX11_who_120 rfl ?_
      refine Sim.locs [1, 2, 3, 0] rfl ?_
      exact H91 (v1, v3, (v4 + (1 : Int32)), x1.2)
  · refine Sim.iload_n 2 dX11_who_123 rfl ?_
    exact Sim.iret dX11_who_124 rfl
def f_X11_who_91_lp   (n : Nat) (v : Int32 × Int32 × Int32 × zHp) : Option (Int32 × zHp) := zlp (fun k91 v => f_X11_who_91 k91 v.1 v.2.1 v.2.2.1 v.2.2.2) n v
theorem f_X11_who_91_ls  (n : Nat) (v : Int32 × Int32 × Int32 × zHp) : Sim wM mX11_who 2 rI 91 [(0, .ref 0), (1, .int v.1), (3, .int v.2.1), (4, .int v.2.2.1)] [] v.2.2.2 (f_X11_who_91_lp n v) :=
  Sim.lp (V := Int32 × Int32 × Int32 × zHp) (Lf := fun v => [(0, .ref 0), (1, .int v.1), (3, .int v.2.1), (4, .int v.2.2.1)]) (sf := fun v => []) (hf := fun v => v.2.2.2) (fun k91 H91 v => f_X11_who_91_s k91 H91 v.1 v.2.1 v.2.2.1 v.2.2.2) n v
def f_X11_who  (a1 : Int32) (a2 : Int32) (h : zHp) : Option (Int32 × zHp) := zlt (zst h 0 0 (0 : Int32)) fun h1 => (f_X11_isPerson a1 h1).bind fun x2 => (if x2.1 = 0 then some ((-2 : Int32), x2.2) else (if a2 = 0 then zix a1 14 (some ((x2.2 5 a1.toNatClampNeg), x2.2)) else (f_X11_isIn a2 (1 : Int32) (3 : Int32) x2.2).bind fun x3 => (if x3.1 = 0 then (if a2 = (4 : Int32) then (f_X11_chairOf a1 x3.2).bind fun x4 => some (x4.1, x4.2) else (if a2 = (6 : Int32) then zix a1 28 (some ((x3.2 19 a1.toNatClampNeg), x3.2)) else (if a2 = (5 : Int32) then f_X11_who_91_lp  zN (a1, (0 : Int32), (0 : Int32), x3.2) else some ((-2 : Int32), x3.2)))) else zix (((35 : Int32) + ((14 : Int32) * (a2 - (1 : Int32)))) + a1) 77 (some ((x3.2 1 (((35 : Int32) + ((14 : Int32) * (a2 - (1 : Int32)))) + a1).toNatClampNeg), x3.2)))))
set_option maxHeartbeats 4000000 in
set_option maxRecDepth 100000 in
theorem s_X11_who  (a1 : Int32) (a2 : Int32) (h : zHp) : Fn wM mX11_who 2 rI [.ref 0, .int a1, .int a2] h (f_X11_who a1 a2 h) := by
  refine Fn.of rfl (Nat.le_of_ble_eq_true rfl) ?_
  unfold f_X11_who
  refine Sim.aload_n 0 dX11_who_0 rfl ?_
  refine Sim.iconst (v := (0 : Int32)) dX11_who_1 rfl ?_
  refine Sim.put fp_X11_128 dX11_who_2 mI_0 rfl rfl ?_
  refine Sim.lth (fun h1 => ?_)
  refine Sim.aload_n 0 dX11_who_5 rfl ?_
  refine Sim.iload_n 1 dX11_who_6 rfl ?_
  refine Sim.callV1I (d1 := 0) (s_X11_isPerson a1 h1) dX11_who_7 ml_X11_161 mv_X11_isPerson mC (Nat.le_of_ble_eq_true rfl) (Nat.le_of_ble_eq_true rfl) (Nat.le_of_ble_eq_true rfl) (fun x2 => ?_)
  refine Sim.if_ne 16 dX11_who_10 rfl ?_ ?_
  · refine Sim.bipush (v := (-2 : Int32)) dX11_who_13 rfl ?_
    exact Sim.iret dX11_who_15 rfl
  · refine Sim.iload_n 2 dX11_who_16 rfl ?_
    refine Sim.if_ne 27 dX11_who_17 rfl ?_ ?_
    · refine Sim.aload_n 0 dX11_who_20 rfl ?_
      refine Sim.getR (j := 5) fl_X11_22 dX11_who_21 mR_9 ?_
      refine Sim.iload_n 1 dX11_who_24 rfl ?_
      refine Sim.iald (n := 14) dX11_who_25 mA_5 ?_
      exact Sim.iret dX11_who_26 rfl
    · refine Sim.aload_n 0 dX11_who_27 rfl ?_
      refine Sim.iload_n 2 dX11_who_28 rfl ?_
      refine Sim.iconst (v := (1 : Int32)) dX11_who_29 rfl ?_
      refine Sim.iconst (v := (3 : Int32)) dX11_who_30 rfl ?_
      refine Sim.callV3I (d1 := 0) (s_X11_isIn a2 (1 : Int32) (3 : Int32) x2.2) dX11_who_31 ml_X11_154 mv_X11_isIn mC (Nat.le_of_ble_eq_true rfl) (Nat.le_of_ble_eq_true rfl) (Nat.le_of_ble_eq_true rfl) (fun x3 => ?_)
      refine Sim.if_eq 54 dX11_who_34 rfl ?_ ?_
      · refine Sim.iload_n 2 dX11_who_54 rfl ?_
        refine Sim.iconst (v := (4 : Int32)) dX11_who_55 rfl ?_
        refine Sim.icmp_ne 65 dX11_who_56 rfl ?_ ?_
        · refine Sim.aload_n 0 dX11_who_59 rfl ?_
          refine Sim.iload_n 1 dX11_who_60 rfl ?_
          refine Sim.callV1I (d1 := 1) (s_X11_chairOf a1 x3.2) dX11_who_61 ml_X11_357 mv_X11_chairOf mC (Nat.le_of_ble_eq_true rfl) (Nat.le_of_ble_eq_true rfl) (Nat.le_of_ble_eq_true rfl) (fun x4 => ?_)
          exact Sim.iret dX11_who_64 rfl
        · refine Sim.iload_n 2 dX11_who_65 rfl ?_
          refine Sim.bipush (v := (6 : Int32)) dX11_who_66 rfl ?_
          refine Sim.icmp_ne 78 dX11_who_68 rfl ?_ ?_
          · refine Sim.aload_n 0 dX11_who_71 rfl ?_
            refine Sim.getR (j := 19) fl_X11_68 dX11_who_72 mR_39 ?_
            refine Sim.iload_n 1 dX11_who_75 rfl ?_
            refine Sim.iald (n := 28) dX11_who_76 mA_19 ?_
            exact Sim.iret dX11_who_77 rfl
          · refine Sim.iload_n 2 dX11_who_78 rfl ?_
            refine Sim.iconst (v := (5 : Int32)) dX11_who_79 rfl ?_
            refine Sim.icmp_eq 86 dX11_who_80 rfl ?_ ?_
            · refine Sim.iconst (v := (0 : Int32)) dX11_who_86 rfl ?_
              refine Sim.istore_n (L' := [(3, .int (0 : Int32)), (0, .ref 0), (1, .int a1), (2, .int a2)]) dX11_who_87 (Nat.le_of_ble_eq_true rfl) rfl ?_
              refine Sim.iconst (v := (0 : Int32)) dX11_who_88 rfl ?_
              refine Sim.istore (L' := [(4, .int (0 : Int32)), (3, .int (0 : Int32)), (0, .ref 0), (1, .int a1), (2, .int a2)]) dX11_who_89 (Nat.le_of_ble_eq_true rfl) rfl ?_
              refine Sim.locs [2, 3, 1, 0] rfl ?_
              exact f_X11_who_91_ls  zN (a1, (0 : Int32), (0 : Int32), x3.2)
            · refine Sim.bipush (v := (-2 : Int32)) dX11_who_83 rfl ?_
              exact Sim.iret dX11_who_85 rfl
      · refine Sim.aload_n 0 dX11_who_37 rfl ?_
        refine Sim.getR (j := 1) fl_X11_7 dX11_who_38 mR_1 ?_
        refine Sim.bipush (v := (35 : Int32)) dX11_who_41 rfl ?_
        refine Sim.bipush (v := (14 : Int32)) dX11_who_43 rfl ?_
        refine Sim.iload_n 2 dX11_who_45 rfl ?_
        refine Sim.iconst (v := (1 : Int32)) dX11_who_46 rfl ?_
        refine Sim.isub dX11_who_47 ?_
        refine Sim.imul dX11_who_48 ?_
        refine Sim.iadd dX11_who_49 ?_
        refine Sim.iload_n 1 dX11_who_50 rfl ?_
        refine Sim.iadd dX11_who_51 ?_
        refine Sim.iald (n := 77) dX11_who_52 mA_1 ?_
        exact Sim.iret dX11_who_53 rfl
theorem mv_X11_who : zMV mX11_who 2 := ⟨⟨zTb_in 1836 (by decide +kernel) rfl, zTb_in 148 (by decide +kernel) rfl, ⟨by decide +kernel, by decide +kernel⟩, by decide +kernel⟩, zTb_in 1834 (by decide +kernel) rfl, zTb_in 1835 (by decide +kernel) rfl⟩
-- ===== RockingPorchModel.book(II)I
abbrev mX11_book : zMt := (yX11_book, cX11_book, 3, some .int)
theorem dX11_book_0 : decode cX11_book 0 = .ok (.aload_n 0, 1) := by decide +kernel
theorem dX11_book_1 : decode cX11_book 1 = .ok (.iconst 0, 1) := by decide +kernel
theorem dX11_book_2 : decode cX11_book 2 = .ok (.putfield 128, 3) := by decide +kernel
theorem dX11_book_5 : decode cX11_book 5 = .ok (.aload_n 0, 1) := by decide +kernel
theorem dX11_book_6 : decode cX11_book 6 = .ok (.iload_n 1, 1) := by decide +kernel
theorem dX11_book_7 : decode cX11_book 7 = .ok (.iconst 0, 1) := by decide +kernel
theorem dX11_book_8 : decode cX11_book 8 = .ok (.aload_n 0, 1) := by decide +kernel
theorem dX11_book_9 : decode cX11_book 9 = .ok (.getfield 7, 3) := by decide +kernel
theorem dX11_book_12 : decode cX11_book 12 = .ok (.iconst 2, 1) := by decide +kernel
theorem dX11_book_13 : decode cX11_book 13 = .ok (.iaload, 1) := by decide +kernel
theorem dX11_book_14 : decode cX11_book 14 = .ok (.iconst 1, 1) := by decide +kernel
theorem dX11_book_15 : decode cX11_book 15 = .ok (.isub, 1) := by decide +kernel
theorem dX11_book_16 : decode cX11_book 16 = .ok (.invokevirtual 154, 3) := by decide +kernel
theorem dX11_book_19 : decode cX11_book 19 = .ok (.ifCond .eq 26, 3) := by decide +kernel
theorem dX11_book_22 : decode cX11_book 22 = .ok (.aload_n 0, 1) := by decide +kernel
theorem dX11_book_23 : decode cX11_book 23 = .ok (.iload_n 2, 1) := by decide +kernel
theorem dX11_book_24 : decode cX11_book 24 = .ok (.iconst 0, 1) := by decide +kernel
theorem dX11_book_25 : decode cX11_book 25 = .ok (.iconst 3, 1) := by decide +kernel
theorem dX11_book_26 : decode cX11_book 26 = .ok (.invokevirtual 154, 3) := by decide +kernel
theorem dX11_book_29 : decode cX11_book 29 = .ok (.ifCond .eq 16, 3) := by decide +kernel
theorem dX11_book_32 : decode cX11_book 32 = .ok (.aload_n 0, 1) := by decide +kernel
theorem dX11_book_33 : decode cX11_book 33 = .ok (.getfield 25, 3) := by decide +kernel
theorem dX11_book_36 : decode cX11_book 36 = .ok (.iconst 4, 1) := by decide +kernel
theorem dX11_book_37 : decode cX11_book 37 = .ok (.iload_n 1, 1) := by decide +kernel
theorem dX11_book_38 : decode cX11_book 38 = .ok (.imul, 1) := by decide +kernel
theorem dX11_book_39 : decode cX11_book 39 = .ok (.iload_n 2, 1) := by decide +kernel
theorem dX11_book_40 : decode cX11_book 40 = .ok (.iadd, 1) := by decide +kernel
theorem dX11_book_41 : decode cX11_book 41 = .ok (.iaload, 1) := by decide +kernel
theorem dX11_book_42 : decode cX11_book 42 = .ok (.goto 4, 3) := by decide +kernel
theorem dX11_book_45 : decode cX11_book 45 = .ok (.iconst (-1), 1) := by decide +kernel
theorem dX11_book_46 : decode cX11_book 46 = .ok (.ireturn, 1) := by decide +kernel
def f_X11_book  (a1 : Int32) (a2 : Int32) (h : zHp) : Option (Int32 × zHp) := zlt (zst h 0 0 (0 : Int32)) fun h1 => zix (2 : Int32) 77 ((f_X11_isIn a1 (0 : Int32) ((h1 1 (2 : Int32).toNatClampNeg) - (1 : Int32)) h1).bind fun x2 => (if x2.1 = 0 then some ((-1 : Int32), x2.2) else (f_X11_isIn a2 (0 : Int32) (3 : Int32) x2.2).bind fun x3 => (if x3.1 = 0 then some ((-1 : Int32), x3.2) else zix (((4 : Int32) * a1) + a2) 600 (some ((x3.2 6 (((4 : Int32) * a1) + a2).toNatClampNeg), x3.2)))))
set_option maxHeartbeats 4000000 in
set_option maxRecDepth 100000 in
theorem s_X11_book  (a1 : Int32) (a2 : Int32) (h : zHp) : Fn wM mX11_book 1 rI [.ref 0, .int a1, .int a2] h (f_X11_book a1 a2 h) := by
  refine Fn.of rfl (Nat.le_of_ble_eq_true rfl) ?_
  unfold f_X11_book
  refine Sim.aload_n 0 dX11_book_0 rfl ?_
  refine Sim.iconst (v := (0 : Int32)) dX11_book_1 rfl ?_
  refine Sim.put fp_X11_128 dX11_book_2 mI_0 rfl rfl ?_
  refine Sim.lth (fun h1 => ?_)
  refine Sim.aload_n 0 dX11_book_5 rfl ?_
  refine Sim.iload_n 1 dX11_book_6 rfl ?_
  refine Sim.iconst (v := (0 : Int32)) dX11_book_7 rfl ?_
  refine Sim.aload_n 0 dX11_book_8 rfl ?_
  refine Sim.getR (j := 1) fl_X11_7 dX11_book_9 mR_1 ?_
  refine Sim.iconst (v := (2 : Int32)) dX11_book_12 rfl ?_
  refine Sim.iald (n := 77) dX11_book_13 mA_1 ?_
  refine Sim.iconst (v := (1 : Int32)) dX11_book_14 rfl ?_
  refine Sim.isub dX11_book_15 ?_
  refine Sim.callV3I (d1 := 0) (s_X11_isIn a1 (0 : Int32) ((h1 1 (2 : Int32).toNatClampNeg) - (1 : Int32)) h1) dX11_book_16 ml_X11_154 mv_X11_isIn mC (Nat.le_of_ble_eq_true rfl) (Nat.le_of_ble_eq_true rfl) (Nat.le_of_ble_eq_true rfl) (fun x2 => ?_)
  refine Sim.if_eq 45 dX11_book_19 rfl ?_ ?_
  · refine Sim.iconst (v := (-1 : Int32)) dX11_book_45 rfl ?_
    exact Sim.iret dX11_book_46 rfl
  · refine Sim.aload_n 0 dX11_book_22 rfl ?_
    refine Sim.iload_n 2 dX11_book_23 rfl ?_
    refine Sim.iconst (v := (0 : Int32)) dX11_book_24 rfl ?_
    refine Sim.iconst (v := (3 : Int32)) dX11_book_25 rfl ?_
    refine Sim.callV3I (d1 := 0) (s_X11_isIn a2 (0 : Int32) (3 : Int32) x2.2) dX11_book_26 ml_X11_154 mv_X11_isIn mC (Nat.le_of_ble_eq_true rfl) (Nat.le_of_ble_eq_true rfl) (Nat.le_of_ble_eq_true rfl) (fun x3 => ?_)
    refine Sim.if_eq 45 dX11_book_29 rfl ?_ ?_
    · refine Sim.iconst (v := (-1 : Int32)) dX11_book_45 rfl ?_
      exact Sim.iret dX11_book_46 rfl
    · refine Sim.aload_n 0 dX11_book_32 rfl ?_
      refine Sim.getR (j := 6) fl_X11_25 dX11_book_33 mR_10 ?_
      refine Sim.iconst (v := (4 : Int32)) dX11_book_36 rfl ?_
      refine Sim.iload_n 1 dX11_book_37 rfl ?_
      refine Sim.imul dX11_book_38 ?_
      refine Sim.iload_n 2 dX11_book_39 rfl ?_
      refine Sim.iadd dX11_book_40 ?_
      refine Sim.iald (n := 600) dX11_book_41 mA_6 ?_
      refine Sim.goto 46 dX11_book_42 rfl ?_
      exact Sim.iret dX11_book_46 rfl
theorem mv_X11_book : zMV mX11_book 2 := ⟨⟨zTb_in 1840 (by decide +kernel) rfl, zTb_in 148 (by decide +kernel) rfl, ⟨by decide +kernel, by decide +kernel⟩, by decide +kernel⟩, zTb_in 1838 (by decide +kernel) rfl, zTb_in 1839 (by decide +kernel) rfl⟩
-- ===== RockingPorchModel.sumOf(II)I
abbrev mX11_sumOf : zMt := (yX11_sumOf, cX11_sumOf, 5, some .int)
theorem dX11_sumOf_0 : decode cX11_sumOf 0 = .ok (.iconst 0, 1) := by decide +kernel
theorem dX11_sumOf_1 : decode cX11_sumOf 1 = .ok (.istore_n 3, 1) := by decide +kernel
theorem dX11_sumOf_2 : decode cX11_sumOf 2 = .ok (.iconst 0, 1) := by decide +kernel
theorem dX11_sumOf_3 : decode cX11_sumOf 3 = .ok (.istore 4, 2) := by decide +kernel
theorem dX11_sumOf_5 : decode cX11_sumOf 5 = .ok (.iload 4, 2) := by decide +kernel
theorem dX11_sumOf_7 : decode cX11_sumOf 7 = .ok (.iload_n 2, 1) := by decide +kernel
theorem dX11_sumOf_8 : decode cX11_sumOf 8 = .ok (.if_icmp .ge 21, 3) := by decide +kernel
theorem dX11_sumOf_11 : decode cX11_sumOf 11 = .ok (.iload_n 3, 1) := by decide +kernel
theorem dX11_sumOf_12 : decode cX11_sumOf 12 = .ok (.aload_n 0, 1) := by decide +kernel
theorem dX11_sumOf_13 : decode cX11_sumOf 13 = .ok (.getfield 7, 3) := by decide +kernel
theorem dX11_sumOf_16 : decode cX11_sumOf 16 = .ok (.iload_n 1, 1) := by decide +kernel
theorem dX11_sumOf_17 : decode cX11_sumOf 17 = .ok (.iload 4, 2) := by decide +kernel
theorem dX11_sumOf_19 : decode cX11_sumOf 19 = .ok (.iadd, 1) := by decide +kernel
theorem dX11_sumOf_20 : decode cX11_sumOf 20 = .ok (.iaload, 1) := by decide +kernel
theorem dX11_sumOf_21 : decode cX11_sumOf 21 = .ok (.iadd, 1) := by decide +kernel
theorem dX11_sumOf_22 : decode cX11_sumOf 22 = .ok (.istore_n 3, 1) := by decide +kernel
theorem dX11_sumOf_23 : decode cX11_sumOf 23 = .ok (.iinc 4 1, 3) := by decide +kernel
theorem dX11_sumOf_26 : decode cX11_sumOf 26 = .ok (.goto (-21), 3) := by decide +kernel
theorem dX11_sumOf_29 : decode cX11_sumOf 29 = .ok (.iload_n 3, 1) := by decide +kernel
theorem dX11_sumOf_30 : decode cX11_sumOf 30 = .ok (.ireturn, 1) := by decide +kernel
def f_X11_sumOf_5  (k5 : Int32 × Int32 × Int32 × Int32 × zHp → Option (Int32 × zHp)) (v1 : Int32) (v2 : Int32) (v3 : Int32) (v4 : Int32) (h : zHp) : Option (Int32 × zHp) := (if v4 < v2 then zix (v1 + v4) 77 (zlt (v3 + (h 1 (v1 + v4).toNatClampNeg)) fun x1 => k5 (v1, v2, x1, (v4 + (1 : Int32)), h)) else some (v3, h))
set_option maxHeartbeats 4000000 in
set_option maxRecDepth 100000 in
theorem f_X11_sumOf_5_s  (k5 : Int32 × Int32 × Int32 × Int32 × zHp → Option (Int32 × zHp)) (H5 : ∀ v : Int32 × Int32 × Int32 × Int32 × zHp, Sim wM mX11_sumOf 0 rI 5 [(0, .ref 0), (1, .int v.1), (2, .int v.2.1), (3, .int v.2.2.1), (4, .int v.2.2.2.1)] [] v.2.2.2.2 (k5 v)) (v1 : Int32) (v2 : Int32) (v3 : Int32) (v4 : Int32) (h : zHp) : Sim wM mX11_sumOf 0 rI 5 [(0, .ref 0), (1, .int v1), (2, .int v2), (3, .int v3), (4, .int v4)] [] h (f_X11_sumOf_5 k5 v1 v2 v3 v4 h) := by
  unfold f_X11_sumOf_5
  refine Sim.iload 4 dX11_sumOf_5 rfl ?_
  refine Sim.iload_n 2 dX11_sumOf_7 rfl ?_
  refine Sim.icmp_ge 29 dX11_sumOf_8 rfl ?_ ?_
  · refine Sim.iload_n 3 dX11_sumOf_11 rfl ?_
    refine Sim.aload_n 0 dX11_sumOf_12 rfl ?_
    refine Sim.getR (j := 1) fl_X11_7 dX11_sumOf_13 mR_1 ?_
    refine Sim.iload_n 1 dX11_sumOf_16 rfl ?_
    refine Sim.iload 4 dX11_sumOf_17 rfl ?_
    refine Sim.iadd dX11_sumOf_19 ?_
    refine Sim.iald (n := 77) dX11_sumOf_20 mA_1 ?_
    refine Sim.iadd dX11_sumOf_21 ?_
    refine Sim.lti (fun x1 => ?_)
    refine Sim.istore_n (L' := [(3, .int x1), (0, .ref 0), (1, .int v1), (2, .int v2), (4, .int v4)]) dX11_sumOf_22 (Nat.le_of_ble_eq_true rfl) rfl ?_
    refine Sim.iinc (L' := [(4, .int (v4 + (1 : Int32))), (3, .int x1), (0, .ref 0), (1, .int v1), (2, .int v2)]) 4 dX11_sumOf_23 rfl rfl (Nat.le_of_ble_eq_true rfl) rfl ?_
    refine Sim.goto 5 dX11_sumOf_26 rfl ?_
    refine Sim.locs [2, 3, 4, 1, 0] rfl ?_
    exact H5 (v1, v2, x1, (v4 + (1 : Int32)), h)
  · refine Sim.iload_n 3 dX11_sumOf_29 rfl ?_
    exact Sim.iret dX11_sumOf_30 rfl
def f_X11_sumOf_5_lp   (n : Nat) (v : Int32 × Int32 × Int32 × Int32 × zHp) : Option (Int32 × zHp) := zlp (fun k5 v => f_X11_sumOf_5 k5 v.1 v.2.1 v.2.2.1 v.2.2.2.1 v.2.2.2.2) n v
theorem f_X11_sumOf_5_ls  (n : Nat) (v : Int32 × Int32 × Int32 × Int32 × zHp) : Sim wM mX11_sumOf 0 rI 5 [(0, .ref 0), (1, .int v.1), (2, .int v.2.1), (3, .int v.2.2.1), (4, .int v.2.2.2.1)] [] v.2.2.2.2 (f_X11_sumOf_5_lp n v) :=
  Sim.lp (V := Int32 × Int32 × Int32 × Int32 × zHp) (Lf := fun v => [(0, .ref 0), (1, .int v.1), (2, .int v.2.1), (3, .int v.2.2.1), (4, .int v.2.2.2.1)]) (sf := fun v => []) (hf := fun v => v.2.2.2.2) (fun k5 H5 v => f_X11_sumOf_5_s k5 H5 v.1 v.2.1 v.2.2.1 v.2.2.2.1 v.2.2.2.2) n v
def f_X11_sumOf  (a1 : Int32) (a2 : Int32) (h : zHp) : Option (Int32 × zHp) := f_X11_sumOf_5_lp  zN (a1, a2, (0 : Int32), (0 : Int32), h)
set_option maxHeartbeats 4000000 in
set_option maxRecDepth 100000 in
theorem s_X11_sumOf  (a1 : Int32) (a2 : Int32) (h : zHp) : Fn wM mX11_sumOf 0 rI [.ref 0, .int a1, .int a2] h (f_X11_sumOf a1 a2 h) := by
  refine Fn.of rfl (Nat.le_of_ble_eq_true rfl) ?_
  unfold f_X11_sumOf
  refine Sim.iconst (v := (0 : Int32)) dX11_sumOf_0 rfl ?_
  refine Sim.istore_n (L' := [(3, .int (0 : Int32)), (0, .ref 0), (1, .int a1), (2, .int a2)]) dX11_sumOf_1 (Nat.le_of_ble_eq_true rfl) rfl ?_
  refine Sim.iconst (v := (0 : Int32)) dX11_sumOf_2 rfl ?_
  refine Sim.istore (L' := [(4, .int (0 : Int32)), (3, .int (0 : Int32)), (0, .ref 0), (1, .int a1), (2, .int a2)]) dX11_sumOf_3 (Nat.le_of_ble_eq_true rfl) rfl ?_
  refine Sim.locs [2, 3, 4, 1, 0] rfl ?_
  exact f_X11_sumOf_5_ls  zN (a1, a2, (0 : Int32), (0 : Int32), h)
theorem mv_X11_sumOf : zMV mX11_sumOf 2 := ⟨⟨zTb_in 1852 (by decide +kernel) rfl, zTb_in 148 (by decide +kernel) rfl, ⟨by decide +kernel, by decide +kernel⟩, by decide +kernel⟩, zTb_in 1851 (by decide +kernel) rfl, zTb_in 109 (by decide +kernel) rfl⟩
-- ===== RockingPorchModel.freeSet()I
abbrev mX11_freeSet : zMt := (yX11_freeSet, cX11_freeSet, 3, some .int)
theorem dX11_freeSet_0 : decode cX11_freeSet 0 = .ok (.iconst 0, 1) := by decide +kernel
theorem dX11_freeSet_1 : decode cX11_freeSet 1 = .ok (.istore_n 1, 1) := by decide +kernel
theorem dX11_freeSet_2 : decode cX11_freeSet 2 = .ok (.iconst 0, 1) := by decide +kernel
theorem dX11_freeSet_3 : decode cX11_freeSet 3 = .ok (.istore_n 2, 1) := by decide +kernel
theorem dX11_freeSet_4 : decode cX11_freeSet 4 = .ok (.iload_n 2, 1) := by decide +kernel
theorem dX11_freeSet_5 : decode cX11_freeSet 5 = .ok (.aload_n 0, 1) := by decide +kernel
theorem dX11_freeSet_6 : decode cX11_freeSet 6 = .ok (.getfield 140, 3) := by decide +kernel
theorem dX11_freeSet_9 : decode cX11_freeSet 9 = .ok (.if_icmp .ge 23, 3) := by decide +kernel
theorem dX11_freeSet_12 : decode cX11_freeSet 12 = .ok (.aload_n 0, 1) := by decide +kernel
theorem dX11_freeSet_13 : decode cX11_freeSet 13 = .ok (.iload_n 2, 1) := by decide +kernel
theorem dX11_freeSet_14 : decode cX11_freeSet 14 = .ok (.invokevirtual 350, 3) := by decide +kernel
theorem dX11_freeSet_17 : decode cX11_freeSet 17 = .ok (.ifCond .eq 9, 3) := by decide +kernel
theorem dX11_freeSet_20 : decode cX11_freeSet 20 = .ok (.iload_n 1, 1) := by decide +kernel
theorem dX11_freeSet_21 : decode cX11_freeSet 21 = .ok (.iconst 1, 1) := by decide +kernel
theorem dX11_freeSet_22 : decode cX11_freeSet 22 = .ok (.iload_n 2, 1) := by decide +kernel
theorem dX11_freeSet_23 : decode cX11_freeSet 23 = .ok (.ishl, 1) := by decide +kernel
theorem dX11_freeSet_24 : decode cX11_freeSet 24 = .ok (.ior, 1) := by decide +kernel
theorem dX11_freeSet_25 : decode cX11_freeSet 25 = .ok (.istore_n 1, 1) := by decide +kernel
theorem dX11_freeSet_26 : decode cX11_freeSet 26 = .ok (.iinc 2 1, 3) := by decide +kernel
theorem dX11_freeSet_29 : decode cX11_freeSet 29 = .ok (.goto (-25), 3) := by decide +kernel
theorem dX11_freeSet_32 : decode cX11_freeSet 32 = .ok (.iload_n 1, 1) := by decide +kernel
theorem dX11_freeSet_33 : decode cX11_freeSet 33 = .ok (.ireturn, 1) := by decide +kernel
def f_X11_freeSet_4  (k4 : Int32 × Int32 × zHp → Option (Int32 × zHp)) (v1 : Int32) (v2 : Int32) (h : zHp) : Option (Int32 × zHp) := (if v2 < (h 0 6) then (f_X11_isFree v2 h).bind fun x1 => (if x1.1 = 0 then k4 (v1, (v2 + (1 : Int32)), x1.2) else zlt (v1 ||| ((1 : Int32) <<< (v2 &&& 31))) fun x2 => k4 (x2, (v2 + (1 : Int32)), x1.2)) else some (v1, h))
set_option maxHeartbeats 4000000 in
set_option maxRecDepth 100000 in
theorem f_X11_freeSet_4_s  (k4 : Int32 × Int32 × zHp → Option (Int32 × zHp)) (H4 : ∀ v : Int32 × Int32 × zHp, Sim wM mX11_freeSet 2 rI 4 [(0, .ref 0), (1, .int v.1), (2, .int v.2.1)] [] v.2.2 (k4 v)) (v1 : Int32) (v2 : Int32) (h : zHp) : Sim wM mX11_freeSet 2 rI 4 [(0, .ref 0), (1, .int v1), (2, .int v2)] [] h (f_X11_freeSet_4 k4 v1 v2 h) := by
  unfold f_X11_freeSet_4
  refine Sim.iload_n 2 dX11_freeSet_4 rfl ?_
  refine Sim.aload_n 0 dX11_freeSet_5 rfl ?_
  refine Sim.getI fl_X11_140 dX11_freeSet_6 mI_6 ?_
  refine Sim.icmp_ge 32 dX11_freeSet_9 rfl ?_ ?_
  · refine Sim.aload_n 0 dX11_freeSet_12 rfl ?_
    refine Sim.iload_n 2 dX11_freeSet_13 rfl ?_
    refine Sim.callV1I (d1 := 1) (s_X11_isFree v2 h) dX11_freeSet_14 ml_X11_350 mv_X11_isFree mC (Nat.le_of_ble_eq_true rfl) (Nat.le_of_ble_eq_true rfl) (Nat.le_of_ble_eq_true rfl) (fun x1 => ?_)
    refine Sim.if_eq 26 dX11_freeSet_17 rfl ?_ ?_
    · refine Sim.iinc (L' := [(2, .int (v2 + (1 : Int32))), (0, .ref 0), (1, .int v1)]) 2 dX11_freeSet_26 rfl rfl (Nat.le_of_ble_eq_true rfl) rfl ?_
      refine Sim.goto 4 dX11_freeSet_29 rfl ?_
      refine Sim.locs [1, 2, 0] rfl ?_
      exact H4 (v1, (v2 + (1 : Int32)), x1.2)
    · refine Sim.iload_n 1 dX11_freeSet_20 rfl ?_
      refine Sim.iconst (v := (1 : Int32)) dX11_freeSet_21 rfl ?_
      refine Sim.iload_n 2 dX11_freeSet_22 rfl ?_
      refine Sim.ishl dX11_freeSet_23 ?_
      refine Sim.ior dX11_freeSet_24 ?_
      refine Sim.lti (fun x2 => ?_)
      refine Sim.istore_n (L' := [(1, .int x2), (0, .ref 0), (2, .int v2)]) dX11_freeSet_25 (Nat.le_of_ble_eq_true rfl) rfl ?_
      refine Sim.iinc (L' := [(2, .int (v2 + (1 : Int32))), (1, .int x2), (0, .ref 0)]) 2 dX11_freeSet_26 rfl rfl (Nat.le_of_ble_eq_true rfl) rfl ?_
      refine Sim.goto 4 dX11_freeSet_29 rfl ?_
      refine Sim.locs [2, 1, 0] rfl ?_
      exact H4 (x2, (v2 + (1 : Int32)), x1.2)
  · refine Sim.iload_n 1 dX11_freeSet_32 rfl ?_
    exact Sim.iret dX11_freeSet_33 rfl
def f_X11_freeSet_4_lp   (n : Nat) (v : Int32 × Int32 × zHp) : Option (Int32 × zHp) := zlp (fun k4 v => f_X11_freeSet_4 k4 v.1 v.2.1 v.2.2) n v
theorem f_X11_freeSet_4_ls  (n : Nat) (v : Int32 × Int32 × zHp) : Sim wM mX11_freeSet 2 rI 4 [(0, .ref 0), (1, .int v.1), (2, .int v.2.1)] [] v.2.2 (f_X11_freeSet_4_lp n v) :=
  Sim.lp (V := Int32 × Int32 × zHp) (Lf := fun v => [(0, .ref 0), (1, .int v.1), (2, .int v.2.1)]) (sf := fun v => []) (hf := fun v => v.2.2) (fun k4 H4 v => f_X11_freeSet_4_s k4 H4 v.1 v.2.1 v.2.2) n v
def f_X11_freeSet   (h : zHp) : Option (Int32 × zHp) := f_X11_freeSet_4_lp  zN ((0 : Int32), (0 : Int32), h)
set_option maxHeartbeats 4000000 in
set_option maxRecDepth 100000 in
theorem s_X11_freeSet   (h : zHp) : Fn wM mX11_freeSet 2 rI [.ref 0] h (f_X11_freeSet  h) := by
  refine Fn.of rfl (Nat.le_of_ble_eq_true rfl) ?_
  unfold f_X11_freeSet
  refine Sim.iconst (v := (0 : Int32)) dX11_freeSet_0 rfl ?_
  refine Sim.istore_n (L' := [(1, .int (0 : Int32)), (0, .ref 0)]) dX11_freeSet_1 (Nat.le_of_ble_eq_true rfl) rfl ?_
  refine Sim.iconst (v := (0 : Int32)) dX11_freeSet_2 rfl ?_
  refine Sim.istore_n (L' := [(2, .int (0 : Int32)), (1, .int (0 : Int32)), (0, .ref 0)]) dX11_freeSet_3 (Nat.le_of_ble_eq_true rfl) rfl ?_
  refine Sim.locs [2, 1, 0] rfl ?_
  exact f_X11_freeSet_4_ls  zN ((0 : Int32), (0 : Int32), h)
theorem mv_X11_freeSet : zMV mX11_freeSet 0 := ⟨⟨zTb_in 1856 (by decide +kernel) rfl, zTb_in 148 (by decide +kernel) rfl, ⟨by decide +kernel, by decide +kernel⟩, by decide +kernel⟩, zTb_in 1855 (by decide +kernel) rfl, zTb_in 110 (by decide +kernel) rfl⟩
-- ===== RockingPorchModel.goes(II)I
abbrev mX11_goes : zMt := (yX11_goes, cX11_goes, 4, some .int)
theorem ml_X11_409 : Cond.methodLink RX11 409 yX11_thinks ∈ zTb := zTb_in 1845 (by decide +kernel) rfl
theorem ml_X11_412 : Cond.methodLink RX11 412 yX11_sumOf ∈ zTb := zTb_in 1849 (by decide +kernel) rfl
theorem ml_X11_415 : Cond.methodLink RX11 415 yX11_freeSet ∈ zTb := zTb_in 1853 (by decide +kernel) rfl
theorem ml_X11_418 : Cond.methodLink RX11 418 yX11_endsThought ∈ zTb := zTb_in 1857 (by decide +kernel) rfl
theorem dX11_goes_0 : decode cX11_goes 0 = .ok (.aload_n 0, 1) := by decide +kernel
theorem dX11_goes_1 : decode cX11_goes 1 = .ok (.iconst 0, 1) := by decide +kernel
theorem dX11_goes_2 : decode cX11_goes 2 = .ok (.putfield 128, 3) := by decide +kernel
theorem dX11_goes_5 : decode cX11_goes 5 = .ok (.aload_n 0, 1) := by decide +kernel
theorem dX11_goes_6 : decode cX11_goes 6 = .ok (.iload_n 1, 1) := by decide +kernel
theorem dX11_goes_7 : decode cX11_goes 7 = .ok (.iconst 1, 1) := by decide +kernel
theorem dX11_goes_8 : decode cX11_goes 8 = .ok (.bipush 60, 2) := by decide +kernel
theorem dX11_goes_10 : decode cX11_goes 10 = .ok (.invokevirtual 154, 3) := by decide +kernel
theorem dX11_goes_13 : decode cX11_goes 13 = .ok (.ifCond .eq 13, 3) := by decide +kernel
theorem dX11_goes_16 : decode cX11_goes 16 = .ok (.aload_n 0, 1) := by decide +kernel
theorem dX11_goes_17 : decode cX11_goes 17 = .ok (.iload_n 2, 1) := by decide +kernel
theorem dX11_goes_18 : decode cX11_goes 18 = .ok (.iconst 0, 1) := by decide +kernel
theorem dX11_goes_19 : decode cX11_goes 19 = .ok (.iconst 3, 1) := by decide +kernel
theorem dX11_goes_20 : decode cX11_goes 20 = .ok (.invokevirtual 154, 3) := by decide +kernel
theorem dX11_goes_23 : decode cX11_goes 23 = .ok (.ifCond .ne 5, 3) := by decide +kernel
theorem dX11_goes_26 : decode cX11_goes 26 = .ok (.iconst (-1), 1) := by decide +kernel
theorem dX11_goes_27 : decode cX11_goes 27 = .ok (.ireturn, 1) := by decide +kernel
theorem dX11_goes_28 : decode cX11_goes 28 = .ok (.aload_n 0, 1) := by decide +kernel
theorem dX11_goes_29 : decode cX11_goes 29 = .ok (.invokevirtual 409, 3) := by decide +kernel
theorem dX11_goes_32 : decode cX11_goes 32 = .ok (.iconst 0, 1) := by decide +kernel
theorem dX11_goes_33 : decode cX11_goes 33 = .ok (.istore_n 3, 1) := by decide +kernel
theorem dX11_goes_34 : decode cX11_goes 34 = .ok (.iload_n 3, 1) := by decide +kernel
theorem dX11_goes_35 : decode cX11_goes 35 = .ok (.iload_n 1, 1) := by decide +kernel
theorem dX11_goes_36 : decode cX11_goes 36 = .ok (.if_icmp .ge 14, 3) := by decide +kernel
theorem dX11_goes_39 : decode cX11_goes 39 = .ok (.aload_n 0, 1) := by decide +kernel
theorem dX11_goes_40 : decode cX11_goes 40 = .ok (.invokevirtual 406, 3) := by decide +kernel
theorem dX11_goes_43 : decode cX11_goes 43 = .ok (.pop, 1) := by decide +kernel
theorem dX11_goes_44 : decode cX11_goes 44 = .ok (.iinc 3 1, 3) := by decide +kernel
theorem dX11_goes_47 : decode cX11_goes 47 = .ok (.goto (-13), 3) := by decide +kernel
theorem dX11_goes_50 : decode cX11_goes 50 = .ok (.iload_n 2, 1) := by decide +kernel
theorem dX11_goes_51 : decode cX11_goes 51 = .ok (.ifCond .ne 15, 3) := by decide +kernel
theorem dX11_goes_54 : decode cX11_goes 54 = .ok (.aload_n 0, 1) := by decide +kernel
theorem dX11_goes_55 : decode cX11_goes 55 = .ok (.iconst 5, 1) := by decide +kernel
theorem dX11_goes_56 : decode cX11_goes 56 = .ok (.aload_n 0, 1) := by decide +kernel
theorem dX11_goes_57 : decode cX11_goes 57 = .ok (.getfield 140, 3) := by decide +kernel
theorem dX11_goes_60 : decode cX11_goes 60 = .ok (.invokevirtual 412, 3) := by decide +kernel
theorem dX11_goes_63 : decode cX11_goes 63 = .ok (.goto 47, 3) := by decide +kernel
theorem dX11_goes_66 : decode cX11_goes 66 = .ok (.iload_n 2, 1) := by decide +kernel
theorem dX11_goes_67 : decode cX11_goes 67 = .ok (.iconst 1, 1) := by decide +kernel
theorem dX11_goes_68 : decode cX11_goes 68 = .ok (.if_icmp .ne 16, 3) := by decide +kernel
theorem dX11_goes_71 : decode cX11_goes 71 = .ok (.aload_n 0, 1) := by decide +kernel
theorem dX11_goes_72 : decode cX11_goes 72 = .ok (.bipush 49, 2) := by decide +kernel
theorem dX11_goes_74 : decode cX11_goes 74 = .ok (.aload_n 0, 1) := by decide +kernel
theorem dX11_goes_75 : decode cX11_goes 75 = .ok (.getfield 143, 3) := by decide +kernel
theorem dX11_goes_78 : decode cX11_goes 78 = .ok (.invokevirtual 412, 3) := by decide +kernel
theorem dX11_goes_81 : decode cX11_goes 81 = .ok (.goto 29, 3) := by decide +kernel
theorem dX11_goes_84 : decode cX11_goes 84 = .ok (.iload_n 2, 1) := by decide +kernel
theorem dX11_goes_85 : decode cX11_goes 85 = .ok (.iconst 2, 1) := by decide +kernel
theorem dX11_goes_86 : decode cX11_goes 86 = .ok (.if_icmp .ne 16, 3) := by decide +kernel
theorem dX11_goes_89 : decode cX11_goes 89 = .ok (.aload_n 0, 1) := by decide +kernel
theorem dX11_goes_90 : decode cX11_goes 90 = .ok (.bipush 63, 2) := by decide +kernel
theorem dX11_goes_92 : decode cX11_goes 92 = .ok (.aload_n 0, 1) := by decide +kernel
theorem dX11_goes_93 : decode cX11_goes 93 = .ok (.getfield 143, 3) := by decide +kernel
theorem dX11_goes_96 : decode cX11_goes 96 = .ok (.invokevirtual 412, 3) := by decide +kernel
theorem dX11_goes_99 : decode cX11_goes 99 = .ok (.goto 11, 3) := by decide +kernel
theorem dX11_goes_102 : decode cX11_goes 102 = .ok (.aload_n 0, 1) := by decide +kernel
theorem dX11_goes_103 : decode cX11_goes 103 = .ok (.aload_n 0, 1) := by decide +kernel
theorem dX11_goes_104 : decode cX11_goes 104 = .ok (.invokevirtual 415, 3) := by decide +kernel
theorem dX11_goes_107 : decode cX11_goes 107 = .ok (.invokevirtual 329, 3) := by decide +kernel
theorem dX11_goes_110 : decode cX11_goes 110 = .ok (.istore_n 3, 1) := by decide +kernel
theorem dX11_goes_111 : decode cX11_goes 111 = .ok (.aload_n 0, 1) := by decide +kernel
theorem dX11_goes_112 : decode cX11_goes 112 = .ok (.invokevirtual 418, 3) := by decide +kernel
theorem dX11_goes_115 : decode cX11_goes 115 = .ok (.iload_n 3, 1) := by decide +kernel
theorem dX11_goes_116 : decode cX11_goes 116 = .ok (.ireturn, 1) := by decide +kernel
def f_X11_goes_34  (k34 : Int32 × Int32 × Int32 × zHp → Option (Int32 × zHp)) (v1 : Int32) (v2 : Int32) (v3 : Int32) (h : zHp) : Option (Int32 × zHp) := (if v3 < v1 then (f_X11_goesBy h).bind fun x1 => k34 (v1, v2, (v3 + (1 : Int32)), x1.2) else (if v2 = 0 then (f_X11_sumOf (5 : Int32) (h 0 6) h).bind fun x2 => (f_X11_endsThought x2.2).bind fun x3 => some (x2.1, x3) else (if v2 = (1 : Int32) then (f_X11_sumOf (49 : Int32) (h 0 7) h).bind fun x4 => (f_X11_endsThought x4.2).bind fun x5 => some (x4.1, x5) else (if v2 = (2 : Int32) then (f_X11_sumOf (63 : Int32) (h 0 7) h).bind fun x6 => (f_X11_endsThought x6.2).bind fun x7 => some (x6.1, x7) else (f_X11_freeSet h).bind fun x8 => (f_X11_onesOf x8.1 x8.2).bind fun x9 => (f_X11_endsThought x9.2).bind fun x10 => some (x9.1, x10)))))
set_option maxHeartbeats 4000000 in
set_option maxRecDepth 100000 in
theorem f_X11_goes_34_s  (k34 : Int32 × Int32 × Int32 × zHp → Option (Int32 × zHp)) (H34 : ∀ v : Int32 × Int32 × Int32 × zHp, Sim wM mX11_goes 9 rI 34 [(0, .ref 0), (1, .int v.1), (2, .int v.2.1), (3, .int v.2.2.1)] [] v.2.2.2 (k34 v)) (v1 : Int32) (v2 : Int32) (v3 : Int32) (h : zHp) : Sim wM mX11_goes 9 rI 34 [(0, .ref 0), (1, .int v1), (2, .int v2), (3, .int v3)] [] h (f_X11_goes_34 k34 v1 v2 v3 h) := by
  unfold f_X11_goes_34
  refine Sim.iload_n 3 dX11_goes_34 rfl ?_
  refine Sim.iload_n 1 dX11_goes_35 rfl ?_
  refine Sim.icmp_ge 50 dX11_goes_36 rfl ?_ ?_
  · refine Sim.aload_n 0 dX11_goes_39 rfl ?_
    refine Sim.callV0I (d1 := 8) (s_X11_goesBy h) dX11_goes_40 ml_X11_406 mv_X11_goesBy mC (Nat.le_of_ble_eq_true rfl) (Nat.le_of_ble_eq_true rfl) (Nat.le_of_ble_eq_true rfl) (fun x1 => ?_)
    refine Sim.pop dX11_goes_43 rfl ?_
    refine Sim.iinc (L' := [(3, .int (v3 + (1 : Int32))), (0, .ref 0), (1, .int v1), (2, .int v2)]) 3 dX11_goes_44 rfl rfl (Nat.le_of_ble_eq_true rfl) rfl ?_
    refine Sim.goto 34 dX11_goes_47 rfl ?_
    refine Sim.locs [1, 2, 3, 0] rfl ?_
    exact H34 (v1, v2, (v3 + (1 : Int32)), x1.2)
  · refine Sim.iload_n 2 dX11_goes_50 rfl ?_
    refine Sim.if_ne 66 dX11_goes_51 rfl ?_ ?_
    · refine Sim.aload_n 0 dX11_goes_54 rfl ?_
      refine Sim.iconst (v := (5 : Int32)) dX11_goes_55 rfl ?_
      refine Sim.aload_n 0 dX11_goes_56 rfl ?_
      refine Sim.getI fl_X11_140 dX11_goes_57 mI_6 ?_
      refine Sim.callV2I (d1 := 0) (s_X11_sumOf (5 : Int32) (h 0 6) h) dX11_goes_60 ml_X11_412 mv_X11_sumOf mC (Nat.le_of_ble_eq_true rfl) (Nat.le_of_ble_eq_true rfl) (Nat.le_of_ble_eq_true rfl) (fun x2 => ?_)
      refine Sim.goto 110 dX11_goes_63 rfl ?_
      refine Sim.istore_n (L' := [(3, .int x2.1), (0, .ref 0), (1, .int v1), (2, .int v2)]) dX11_goes_110 (Nat.le_of_ble_eq_true rfl) rfl ?_
      refine Sim.aload_n 1 dX11_goes_111 rfl ?_
      refine Sim.callV0U (d1 := 0) (s_X11_endsThought x2.2) dX11_goes_112 ml_X11_418 mv_X11_endsThought mC (Nat.le_of_ble_eq_true rfl) (Nat.le_of_ble_eq_true rfl) (Nat.le_of_ble_eq_true rfl) (fun x3 => ?_)
      refine Sim.iload_n 0 dX11_goes_115 rfl ?_
      exact Sim.iret dX11_goes_116 rfl
    · refine Sim.iload_n 2 dX11_goes_66 rfl ?_
      refine Sim.iconst (v := (1 : Int32)) dX11_goes_67 rfl ?_
      refine Sim.icmp_ne 84 dX11_goes_68 rfl ?_ ?_
      · refine Sim.aload_n 0 dX11_goes_71 rfl ?_
        refine Sim.bipush (v := (49 : Int32)) dX11_goes_72 rfl ?_
        refine Sim.aload_n 0 dX11_goes_74 rfl ?_
        refine Sim.getI fl_X11_143 dX11_goes_75 mI_7 ?_
        refine Sim.callV2I (d1 := 0) (s_X11_sumOf (49 : Int32) (h 0 7) h) dX11_goes_78 ml_X11_412 mv_X11_sumOf mC (Nat.le_of_ble_eq_true rfl) (Nat.le_of_ble_eq_true rfl) (Nat.le_of_ble_eq_true rfl) (fun x4 => ?_)
        refine Sim.goto 110 dX11_goes_81 rfl ?_
        refine Sim.istore_n (L' := [(3, .int x4.1), (0, .ref 0), (1, .int v1), (2, .int v2)]) dX11_goes_110 (Nat.le_of_ble_eq_true rfl) rfl ?_
        refine Sim.aload_n 1 dX11_goes_111 rfl ?_
        refine Sim.callV0U (d1 := 0) (s_X11_endsThought x4.2) dX11_goes_112 ml_X11_418 mv_X11_endsThought mC (Nat.le_of_ble_eq_true rfl) (Nat.le_of_ble_eq_true rfl) (Nat.le_of_ble_eq_true rfl) (fun x5 => ?_)
        refine Sim.iload_n 0 dX11_goes_115 rfl ?_
        exact Sim.iret dX11_goes_116 rfl
      · refine Sim.iload_n 2 dX11_goes_84 rfl ?_
        refine Sim.iconst (v := (2 : Int32)) dX11_goes_85 rfl ?_
        refine Sim.icmp_ne 102 dX11_goes_86 rfl ?_ ?_
        · refine Sim.aload_n 0 dX11_goes_89 rfl ?_
          refine Sim.bipush (v := (63 : Int32)) dX11_goes_90 rfl ?_
          refine Sim.aload_n 0 dX11_goes_92 rfl ?_
          refine Sim.getI fl_X11_143 dX11_goes_93 mI_7 ?_
          refine Sim.callV2I (d1 := 0) (s_X11_sumOf (63 : Int32) (h 0 7) h) dX11_goes_96 ml_X11_412 mv_X11_sumOf mC (Nat.le_of_ble_eq_true rfl) (Nat.le_of_ble_eq_true rfl) (Nat.le_of_ble_eq_true rfl) (fun x6 => ?_)
          refine Sim.goto 110 dX11_goes_99 rfl ?_
          refine Sim.istore_n (L' := [(3, .int x6.1), (0, .ref 0), (1, .int v1), (2, .int v2)]) dX11_goes_110 (Nat.le_of_ble_eq_true rfl) rfl ?_
          refine Sim.aload_n 1 dX11_goes_111 rfl ?_
          refine Sim.callV0U (d1 := 0) (s_X11_endsThought x6.2) dX11_goes_112 ml_X11_418 mv_X11_endsThought mC (Nat.le_of_ble_eq_true rfl) (Nat.le_of_ble_eq_true rfl) (Nat.le_of_ble_eq_true rfl) (fun x7 => ?_)
          refine Sim.iload_n 0 dX11_goes_115 rfl ?_
          exact Sim.iret dX11_goes_116 rfl
        · refine Sim.aload_n 0 dX11_goes_102 rfl ?_
          refine Sim.aload_n 0 dX11_goes_103 rfl ?_
          refine Sim.callV0I (d1 := 2) (s_X11_freeSet h) dX11_goes_104 ml_X11_415 mv_X11_freeSet mC (Nat.le_of_ble_eq_true rfl) (Nat.le_of_ble_eq_true rfl) (Nat.le_of_ble_eq_true rfl) (fun x8 => ?_)
          refine Sim.callV1I (d1 := 0) (s_X11_onesOf x8.1 x8.2) dX11_goes_107 ml_X11_329 mv_X11_onesOf mC (Nat.le_of_ble_eq_true rfl) (Nat.le_of_ble_eq_true rfl) (Nat.le_of_ble_eq_true rfl) (fun x9 => ?_)
          refine Sim.istore_n (L' := [(3, .int x9.1), (0, .ref 0), (1, .int v1), (2, .int v2)]) dX11_goes_110 (Nat.le_of_ble_eq_true rfl) rfl ?_
          refine Sim.aload_n 1 dX11_goes_111 rfl ?_
          refine Sim.callV0U (d1 := 0) (s_X11_endsThought x9.2) dX11_goes_112 ml_X11_418 mv_X11_endsThought mC (Nat.le_of_ble_eq_true rfl) (Nat.le_of_ble_eq_true rfl) (Nat.le_of_ble_eq_true rfl) (fun x10 => ?_)
          refine Sim.iload_n 0 dX11_goes_115 rfl ?_
          exact Sim.iret dX11_goes_116 rfl
def f_X11_goes_34_lp   (n : Nat) (v : Int32 × Int32 × Int32 × zHp) : Option (Int32 × zHp) := zlp (fun k34 v => f_X11_goes_34 k34 v.1 v.2.1 v.2.2.1 v.2.2.2) n v
theorem f_X11_goes_34_ls  (n : Nat) (v : Int32 × Int32 × Int32 × zHp) : Sim wM mX11_goes 9 rI 34 [(0, .ref 0), (1, .int v.1), (2, .int v.2.1), (3, .int v.2.2.1)] [] v.2.2.2 (f_X11_goes_34_lp n v) :=
  Sim.lp (V := Int32 × Int32 × Int32 × zHp) (Lf := fun v => [(0, .ref 0), (1, .int v.1), (2, .int v.2.1), (3, .int v.2.2.1)]) (sf := fun v => []) (hf := fun v => v.2.2.2) (fun k34 H34 v => f_X11_goes_34_s k34 H34 v.1 v.2.1 v.2.2.1 v.2.2.2) n v
def f_X11_goes  (a1 : Int32) (a2 : Int32) (h : zHp) : Option (Int32 × zHp) := zlt (zst h 0 0 (0 : Int32)) fun h1 => (f_X11_isIn a1 (1 : Int32) (60 : Int32) h1).bind fun x2 => (if x2.1 = 0 then some ((-1 : Int32), x2.2) else (f_X11_isIn a2 (0 : Int32) (3 : Int32) x2.2).bind fun x3 => (if x3.1 = 0 then some ((-1 : Int32), x3.2) else (f_X11_thinks x3.2).bind fun x4 => f_X11_goes_34_lp  zN (a1, a2, (0 : Int32), x4)))
set_option maxHeartbeats 4000000 in
set_option maxRecDepth 100000 in
theorem s_X11_goes  (a1 : Int32) (a2 : Int32) (h : zHp) : Fn wM mX11_goes 9 rI [.ref 0, .int a1, .int a2] h (f_X11_goes a1 a2 h) := by
  refine Fn.of rfl (Nat.le_of_ble_eq_true rfl) ?_
  unfold f_X11_goes
  refine Sim.aload_n 0 dX11_goes_0 rfl ?_
  refine Sim.iconst (v := (0 : Int32)) dX11_goes_1 rfl ?_
  refine Sim.put fp_X11_128 dX11_goes_2 mI_0 rfl rfl ?_
  refine Sim.lth (fun h1 => ?_)
  refine Sim.aload_n 0 dX11_goes_5 rfl ?_
  refine Sim.iload_n 1 dX11_goes_6 rfl ?_
  refine Sim.iconst (v := (1 : Int32)) dX11_goes_7 rfl ?_
  refine Sim.bipush (v := (60 : Int32)) dX11_goes_8 rfl ?_
  refine Sim.callV3I (d1 := 0) (s_X11_isIn a1 (1 : Int32) (60 : Int32) h1) dX11_goes_10 ml_X11_154 mv_X11_isIn mC (Nat.le_of_ble_eq_true rfl) (Nat.le_of_ble_eq_true rfl) (Nat.le_of_ble_eq_true rfl) (fun x2 => ?_)
  refine Sim.if_eq 26 dX11_goes_13 rfl ?_ ?_
  · refine Sim.iconst (v := (-1 : Int32)) dX11_goes_26 rfl ?_
    exact Sim.iret dX11_goes_27 rfl
  · refine Sim.aload_n 0 dX11_goes_16 rfl ?_
    refine Sim.iload_n 2 dX11_goes_17 rfl ?_
    refine Sim.iconst (v := (0 : Int32)) dX11_goes_18 rfl ?_
    refine Sim.iconst (v := (3 : Int32)) dX11_goes_19 rfl ?_
    refine Sim.callV3I (d1 := 0) (s_X11_isIn a2 (0 : Int32) (3 : Int32) x2.2) dX11_goes_20 ml_X11_154 mv_X11_isIn mC (Nat.le_of_ble_eq_true rfl) (Nat.le_of_ble_eq_true rfl) (Nat.le_of_ble_eq_true rfl) (fun x3 => ?_)
    refine Sim.if_ne 28 dX11_goes_23 rfl ?_ ?_
    · refine Sim.iconst (v := (-1 : Int32)) dX11_goes_26 rfl ?_
      exact Sim.iret dX11_goes_27 rfl
    · refine Sim.aload_n 0 dX11_goes_28 rfl ?_
      refine Sim.callV0U (d1 := 0) (s_X11_thinks x3.2) dX11_goes_29 ml_X11_409 mv_X11_thinks mC (Nat.le_of_ble_eq_true rfl) (Nat.le_of_ble_eq_true rfl) (Nat.le_of_ble_eq_true rfl) (fun x4 => ?_)
      refine Sim.iconst (v := (0 : Int32)) dX11_goes_32 rfl ?_
      refine Sim.istore_n (L' := [(3, .int (0 : Int32)), (0, .ref 0), (1, .int a1), (2, .int a2)]) dX11_goes_33 (Nat.le_of_ble_eq_true rfl) rfl ?_
      refine Sim.locs [1, 2, 3, 0] rfl ?_
      exact f_X11_goes_34_ls  zN (a1, a2, (0 : Int32), x4)
theorem mv_X11_goes : zMV mX11_goes 2 := ⟨⟨zTb_in 1844 (by decide +kernel) rfl, zTb_in 148 (by decide +kernel) rfl, ⟨by decide +kernel, by decide +kernel⟩, by decide +kernel⟩, zTb_in 1842 (by decide +kernel) rfl, zTb_in 1843 (by decide +kernel) rfl⟩
-- ===== RockingPorchModel.seat()I
abbrev mX11_seat : zMt := (yX11_seat, cX11_seat, 2, some .int)
theorem dX11_seat_0 : decode cX11_seat 0 = .ok (.aload_n 0, 1) := by decide +kernel
theorem dX11_seat_1 : decode cX11_seat 1 = .ok (.iconst 0, 1) := by decide +kernel
theorem dX11_seat_2 : decode cX11_seat 2 = .ok (.putfield 128, 3) := by decide +kernel
theorem dX11_seat_5 : decode cX11_seat 5 = .ok (.aload_n 0, 1) := by decide +kernel
theorem dX11_seat_6 : decode cX11_seat 6 = .ok (.invokevirtual 409, 3) := by decide +kernel
theorem dX11_seat_9 : decode cX11_seat 9 = .ok (.iconst 0, 1) := by decide +kernel
theorem dX11_seat_10 : decode cX11_seat 10 = .ok (.istore_n 1, 1) := by decide +kernel
theorem dX11_seat_11 : decode cX11_seat 11 = .ok (.iload_n 1, 1) := by decide +kernel
theorem dX11_seat_12 : decode cX11_seat 12 = .ok (.bipush 60, 2) := by decide +kernel
theorem dX11_seat_14 : decode cX11_seat 14 = .ok (.if_icmp .gt 22, 3) := by decide +kernel
theorem dX11_seat_17 : decode cX11_seat 17 = .ok (.aload_n 0, 1) := by decide +kernel
theorem dX11_seat_18 : decode cX11_seat 18 = .ok (.invokevirtual 415, 3) := by decide +kernel
theorem dX11_seat_21 : decode cX11_seat 21 = .ok (.ifCond .ne 15, 3) := by decide +kernel
theorem dX11_seat_24 : decode cX11_seat 24 = .ok (.aload_n 0, 1) := by decide +kernel
theorem dX11_seat_25 : decode cX11_seat 25 = .ok (.invokevirtual 406, 3) := by decide +kernel
theorem dX11_seat_28 : decode cX11_seat 28 = .ok (.pop, 1) := by decide +kernel
theorem dX11_seat_29 : decode cX11_seat 29 = .ok (.iload_n 1, 1) := by decide +kernel
theorem dX11_seat_30 : decode cX11_seat 30 = .ok (.iconst 1, 1) := by decide +kernel
theorem dX11_seat_31 : decode cX11_seat 31 = .ok (.iadd, 1) := by decide +kernel
theorem dX11_seat_32 : decode cX11_seat 32 = .ok (.istore_n 1, 1) := by decide +kernel
theorem dX11_seat_33 : decode cX11_seat 33 = .ok (.goto (-22), 3) := by decide +kernel
theorem dX11_seat_36 : decode cX11_seat 36 = .ok (.aload_n 0, 1) := by decide +kernel
theorem dX11_seat_37 : decode cX11_seat 37 = .ok (.invokevirtual 418, 3) := by decide +kernel
theorem dX11_seat_40 : decode cX11_seat 40 = .ok (.iload_n 1, 1) := by decide +kernel
theorem dX11_seat_41 : decode cX11_seat 41 = .ok (.bipush 60, 2) := by decide +kernel
theorem dX11_seat_43 : decode cX11_seat 43 = .ok (.if_icmp .le 7, 3) := by decide +kernel
theorem dX11_seat_46 : decode cX11_seat 46 = .ok (.iconst (-1), 1) := by decide +kernel
theorem dX11_seat_47 : decode cX11_seat 47 = .ok (.goto 4, 3) := by decide +kernel
theorem dX11_seat_50 : decode cX11_seat 50 = .ok (.iload_n 1, 1) := by decide +kernel
theorem dX11_seat_51 : decode cX11_seat 51 = .ok (.ireturn, 1) := by decide +kernel
def f_X11_seat_36   (v1 : Int32) (h : zHp) : Option (Int32 × zHp) := (f_X11_endsThought h).bind fun x1 => (if (60 : Int32) < v1 then some ((-1 : Int32), x1) else some (v1, x1))
set_option maxHeartbeats 4000000 in
set_option maxRecDepth 100000 in
theorem f_X11_seat_36_s  (v1 : Int32) (h : zHp) : Sim wM mX11_seat 9 rI 36 [(0, .ref 0), (1, .int v1)] [] h (f_X11_seat_36 v1 h) := by
  unfold f_X11_seat_36
  refine Sim.aload_n 0 dX11_seat_36 rfl ?_
  refine Sim.callV0U (d1 := 0) (s_X11_endsThought h) dX11_seat_37 ml_X11_418 mv_X11_endsThought mC (Nat.le_of_ble_eq_true rfl) (Nat.le_of_ble_eq_true rfl) (Nat.le_of_ble_eq_true rfl) (fun x1 => ?_)
  refine Sim.iload_n 1 dX11_seat_40 rfl ?_
  refine Sim.bipush (v := (60 : Int32)) dX11_seat_41 rfl ?_
  refine Sim.icmp_le 50 dX11_seat_43 rfl ?_ ?_
  · refine Sim.iconst (v := (-1 : Int32)) dX11_seat_46 rfl ?_
    refine Sim.goto 51 dX11_seat_47 rfl ?_
    exact Sim.iret dX11_seat_51 rfl
  · refine Sim.iload_n 1 dX11_seat_50 rfl ?_
    exact Sim.iret dX11_seat_51 rfl
def f_X11_seat_11  (k11 : Int32 × zHp → Option (Int32 × zHp)) (v1 : Int32) (h : zHp) : Option (Int32 × zHp) := (if (60 : Int32) < v1 then f_X11_seat_36 v1 h else (f_X11_freeSet h).bind fun x1 => (if x1.1 = 0 then (f_X11_goesBy x1.2).bind fun x2 => zlt (v1 + (1 : Int32)) fun x3 => k11 (x3, x2.2) else f_X11_seat_36 v1 x1.2))
set_option maxHeartbeats 4000000 in
set_option maxRecDepth 100000 in
theorem f_X11_seat_11_s  (k11 : Int32 × zHp → Option (Int32 × zHp)) (H11 : ∀ v : Int32 × zHp, Sim wM mX11_seat 9 rI 11 [(0, .ref 0), (1, .int v.1)] [] v.2 (k11 v)) (v1 : Int32) (h : zHp) : Sim wM mX11_seat 9 rI 11 [(0, .ref 0), (1, .int v1)] [] h (f_X11_seat_11 k11 v1 h) := by
  unfold f_X11_seat_11
  refine Sim.iload_n 1 dX11_seat_11 rfl ?_
  refine Sim.bipush (v := (60 : Int32)) dX11_seat_12 rfl ?_
  refine Sim.icmp_gt 36 dX11_seat_14 rfl ?_ ?_
  · exact f_X11_seat_36_s v1 h
  · refine Sim.aload_n 0 dX11_seat_17 rfl ?_
    refine Sim.callV0I (d1 := 2) (s_X11_freeSet h) dX11_seat_18 ml_X11_415 mv_X11_freeSet mC (Nat.le_of_ble_eq_true rfl) (Nat.le_of_ble_eq_true rfl) (Nat.le_of_ble_eq_true rfl) (fun x1 => ?_)
    refine Sim.if_ne 36 dX11_seat_21 rfl ?_ ?_
    · refine Sim.aload_n 0 dX11_seat_24 rfl ?_
      refine Sim.callV0I (d1 := 8) (s_X11_goesBy x1.2) dX11_seat_25 ml_X11_406 mv_X11_goesBy mC (Nat.le_of_ble_eq_true rfl) (Nat.le_of_ble_eq_true rfl) (Nat.le_of_ble_eq_true rfl) (fun x2 => ?_)
      refine Sim.pop dX11_seat_28 rfl ?_
      refine Sim.iload_n 1 dX11_seat_29 rfl ?_
      refine Sim.iconst (v := (1 : Int32)) dX11_seat_30 rfl ?_
      refine Sim.iadd dX11_seat_31 ?_
      refine Sim.lti (fun x3 => ?_)
      refine Sim.istore_n (L' := [(1, .int x3), (0, .ref 0)]) dX11_seat_32 (Nat.le_of_ble_eq_true rfl) rfl ?_
      refine Sim.goto 11 dX11_seat_33 rfl ?_
      refine Sim.locs [1, 0] rfl ?_
      exact H11 (x3, x2.2)
    · exact f_X11_seat_36_s v1 x1.2
def f_X11_seat_11_lp   (n : Nat) (v : Int32 × zHp) : Option (Int32 × zHp) := zlp (fun k11 v => f_X11_seat_11 k11 v.1 v.2) n v
theorem f_X11_seat_11_ls  (n : Nat) (v : Int32 × zHp) : Sim wM mX11_seat 9 rI 11 [(0, .ref 0), (1, .int v.1)] [] v.2 (f_X11_seat_11_lp n v) :=
  Sim.lp (V := Int32 × zHp) (Lf := fun v => [(0, .ref 0), (1, .int v.1)]) (sf := fun v => []) (hf := fun v => v.2) (fun k11 H11 v => f_X11_seat_11_s k11 H11 v.1 v.2) n v
def f_X11_seat   (h : zHp) : Option (Int32 × zHp) := zlt (zst h 0 0 (0 : Int32)) fun h1 => (f_X11_thinks h1).bind fun x2 => f_X11_seat_11_lp  zN ((0 : Int32), x2)
set_option maxHeartbeats 4000000 in
set_option maxRecDepth 100000 in
theorem s_X11_seat   (h : zHp) : Fn wM mX11_seat 9 rI [.ref 0] h (f_X11_seat  h) := by
  refine Fn.of rfl (Nat.le_of_ble_eq_true rfl) ?_
  unfold f_X11_seat
  refine Sim.aload_n 0 dX11_seat_0 rfl ?_
  refine Sim.iconst (v := (0 : Int32)) dX11_seat_1 rfl ?_
  refine Sim.put fp_X11_128 dX11_seat_2 mI_0 rfl rfl ?_
  refine Sim.lth (fun h1 => ?_)
  refine Sim.aload_n 0 dX11_seat_5 rfl ?_
  refine Sim.callV0U (d1 := 0) (s_X11_thinks h1) dX11_seat_6 ml_X11_409 mv_X11_thinks mC (Nat.le_of_ble_eq_true rfl) (Nat.le_of_ble_eq_true rfl) (Nat.le_of_ble_eq_true rfl) (fun x2 => ?_)
  refine Sim.iconst (v := (0 : Int32)) dX11_seat_9 rfl ?_
  refine Sim.istore_n (L' := [(1, .int (0 : Int32)), (0, .ref 0)]) dX11_seat_10 (Nat.le_of_ble_eq_true rfl) rfl ?_
  refine Sim.locs [1, 0] rfl ?_
  exact f_X11_seat_11_ls  zN ((0 : Int32), x2)
theorem mv_X11_seat : zMV mX11_seat 0 := ⟨⟨zTb_in 1864 (by decide +kernel) rfl, zTb_in 148 (by decide +kernel) rfl, ⟨by decide +kernel, by decide +kernel⟩, by decide +kernel⟩, zTb_in 1862 (by decide +kernel) rfl, zTb_in 1863 (by decide +kernel) rfl⟩
-- ===== RockingPorchModel.tick(II)I
abbrev mX11_tick : zMt := (yX11_tick, cX11_tick, 3, some .int)
theorem fl_X11_421 : zF RX11 421 11 42 := ⟨RX11, TX11, 69, rfl, Nat.le_of_ble_eq_true rfl, zTb_in 1341 (by decide +kernel) rfl, in_X11⟩
theorem fl_X11_77 : zF RX11 77 11 43 := ⟨RX11, TX11, 69, rfl, Nat.le_of_ble_eq_true rfl, zTb_in 1342 (by decide +kernel) rfl, in_X11⟩
theorem fl_X11_80 : zF RX11 80 11 44 := ⟨RX11, TX11, 69, rfl, Nat.le_of_ble_eq_true rfl, zTb_in 1343 (by decide +kernel) rfl, in_X11⟩
theorem fp_X11_421 : zFp RX11 421 11 42 .int := ⟨RX11, TX11, 69, tyX11, rfl, Nat.le_of_ble_eq_true rfl, zTb_in 1341 (by decide +kernel) rfl, in_X11, tyX11_ok, nmX11, rfl, rfl⟩
theorem dX11_tick_0 : decode cX11_tick 0 = .ok (.aload_n 0, 1) := by decide +kernel
theorem dX11_tick_1 : decode cX11_tick 1 = .ok (.iconst 0, 1) := by decide +kernel
theorem dX11_tick_2 : decode cX11_tick 2 = .ok (.putfield 128, 3) := by decide +kernel
theorem dX11_tick_5 : decode cX11_tick 5 = .ok (.iload_n 2, 1) := by decide +kernel
theorem dX11_tick_6 : decode cX11_tick 6 = .ok (.iconst (-1), 1) := by decide +kernel
theorem dX11_tick_7 : decode cX11_tick 7 = .ok (.if_icmp .ne 10, 3) := by decide +kernel
theorem dX11_tick_10 : decode cX11_tick 10 = .ok (.aload_n 0, 1) := by decide +kernel
theorem dX11_tick_11 : decode cX11_tick 11 = .ok (.iconst 0, 1) := by decide +kernel
theorem dX11_tick_12 : decode cX11_tick 12 = .ok (.putfield 421, 3) := by decide +kernel
theorem dX11_tick_15 : decode cX11_tick 15 = .ok (.iconst 0, 1) := by decide +kernel
theorem dX11_tick_16 : decode cX11_tick 16 = .ok (.ireturn, 1) := by decide +kernel
theorem dX11_tick_17 : decode cX11_tick 17 = .ok (.aload_n 0, 1) := by decide +kernel
theorem dX11_tick_18 : decode cX11_tick 18 = .ok (.iload_n 2, 1) := by decide +kernel
theorem dX11_tick_19 : decode cX11_tick 19 = .ok (.iconst 1, 1) := by decide +kernel
theorem dX11_tick_20 : decode cX11_tick 20 = .ok (.bipush 12, 2) := by decide +kernel
theorem dX11_tick_22 : decode cX11_tick 22 = .ok (.invokevirtual 154, 3) := by decide +kernel
theorem dX11_tick_25 : decode cX11_tick 25 = .ok (.ifCond .eq 23, 3) := by decide +kernel
theorem dX11_tick_28 : decode cX11_tick 28 = .ok (.aload_n 0, 1) := by decide +kernel
theorem dX11_tick_29 : decode cX11_tick 29 = .ok (.iload_n 1, 1) := by decide +kernel
theorem dX11_tick_30 : decode cX11_tick 30 = .ok (.iconst 0, 1) := by decide +kernel
theorem dX11_tick_31 : decode cX11_tick 31 = .ok (.iload_n 2, 1) := by decide +kernel
theorem dX11_tick_32 : decode cX11_tick 32 = .ok (.iconst 1, 1) := by decide +kernel
theorem dX11_tick_33 : decode cX11_tick 33 = .ok (.isub, 1) := by decide +kernel
theorem dX11_tick_34 : decode cX11_tick 34 = .ok (.invokevirtual 154, 3) := by decide +kernel
theorem dX11_tick_37 : decode cX11_tick 37 = .ok (.ifCond .eq 11, 3) := by decide +kernel
theorem dX11_tick_40 : decode cX11_tick 40 = .ok (.aload_n 0, 1) := by decide +kernel
theorem dX11_tick_41 : decode cX11_tick 41 = .ok (.getfield 421, 3) := by decide +kernel
theorem dX11_tick_44 : decode cX11_tick 44 = .ok (.iconst 4, 1) := by decide +kernel
theorem dX11_tick_45 : decode cX11_tick 45 = .ok (.if_icmp .ne 5, 3) := by decide +kernel
theorem dX11_tick_48 : decode cX11_tick 48 = .ok (.iconst (-1), 1) := by decide +kernel
theorem dX11_tick_49 : decode cX11_tick 49 = .ok (.ireturn, 1) := by decide +kernel
theorem dX11_tick_50 : decode cX11_tick 50 = .ok (.aload_n 0, 1) := by decide +kernel
theorem dX11_tick_51 : decode cX11_tick 51 = .ok (.getfield 77, 3) := by decide +kernel
theorem dX11_tick_54 : decode cX11_tick 54 = .ok (.aload_n 0, 1) := by decide +kernel
theorem dX11_tick_55 : decode cX11_tick 55 = .ok (.getfield 421, 3) := by decide +kernel
theorem dX11_tick_58 : decode cX11_tick 58 = .ok (.iload_n 1, 1) := by decide +kernel
theorem dX11_tick_59 : decode cX11_tick 59 = .ok (.iastore, 1) := by decide +kernel
theorem dX11_tick_60 : decode cX11_tick 60 = .ok (.aload_n 0, 1) := by decide +kernel
theorem dX11_tick_61 : decode cX11_tick 61 = .ok (.getfield 80, 3) := by decide +kernel
theorem dX11_tick_64 : decode cX11_tick 64 = .ok (.aload_n 0, 1) := by decide +kernel
theorem dX11_tick_65 : decode cX11_tick 65 = .ok (.getfield 421, 3) := by decide +kernel
theorem dX11_tick_68 : decode cX11_tick 68 = .ok (.iload_n 2, 1) := by decide +kernel
theorem dX11_tick_69 : decode cX11_tick 69 = .ok (.iastore, 1) := by decide +kernel
theorem dX11_tick_70 : decode cX11_tick 70 = .ok (.aload_n 0, 1) := by decide +kernel
theorem dX11_tick_71 : decode cX11_tick 71 = .ok (.aload_n 0, 1) := by decide +kernel
theorem dX11_tick_72 : decode cX11_tick 72 = .ok (.getfield 421, 3) := by decide +kernel
theorem dX11_tick_75 : decode cX11_tick 75 = .ok (.iconst 1, 1) := by decide +kernel
theorem dX11_tick_76 : decode cX11_tick 76 = .ok (.iadd, 1) := by decide +kernel
theorem dX11_tick_77 : decode cX11_tick 77 = .ok (.putfield 421, 3) := by decide +kernel
theorem dX11_tick_80 : decode cX11_tick 80 = .ok (.aload_n 0, 1) := by decide +kernel
theorem dX11_tick_81 : decode cX11_tick 81 = .ok (.getfield 421, 3) := by decide +kernel
theorem dX11_tick_84 : decode cX11_tick 84 = .ok (.ireturn, 1) := by decide +kernel
def f_X11_tick  (a1 : Int32) (a2 : Int32) (h : zHp) : Option (Int32 × zHp) := zlt (zst h 0 0 (0 : Int32)) fun h1 => (if a2 = (-1 : Int32) then zlt (zst h1 0 42 (0 : Int32)) fun h2 => some ((0 : Int32), h2) else (f_X11_isIn a2 (1 : Int32) (12 : Int32) h1).bind fun x3 => (if x3.1 = 0 then some ((-1 : Int32), x3.2) else (f_X11_isIn a1 (0 : Int32) (a2 - (1 : Int32)) x3.2).bind fun x4 => (if x4.1 = 0 then some ((-1 : Int32), x4.2) else (if (x4.2 0 42) = (4 : Int32) then some ((-1 : Int32), x4.2) else zix (x4.2 0 42) 4 (zlt (zst x4.2 22 (x4.2 0 42).toNatClampNeg a1) fun h5 => zix (h5 0 42) 4 (zlt (zst h5 23 (h5 0 42).toNatClampNeg a2) fun h6 => zlt (zst h6 0 42 ((h6 0 42) + (1 : Int32))) fun h7 => some ((h7 0 42), h7)))))))
set_option maxHeartbeats 4000000 in
set_option maxRecDepth 100000 in
theorem s_X11_tick  (a1 : Int32) (a2 : Int32) (h : zHp) : Fn wM mX11_tick 1 rI [.ref 0, .int a1, .int a2] h (f_X11_tick a1 a2 h) := by
  refine Fn.of rfl (Nat.le_of_ble_eq_true rfl) ?_
  unfold f_X11_tick
  refine Sim.aload_n 0 dX11_tick_0 rfl ?_
  refine Sim.iconst (v := (0 : Int32)) dX11_tick_1 rfl ?_
  refine Sim.put fp_X11_128 dX11_tick_2 mI_0 rfl rfl ?_
  refine Sim.lth (fun h1 => ?_)
  refine Sim.iload_n 2 dX11_tick_5 rfl ?_
  refine Sim.iconst (v := (-1 : Int32)) dX11_tick_6 rfl ?_
  refine Sim.icmp_ne 17 dX11_tick_7 rfl ?_ ?_
  · refine Sim.aload_n 0 dX11_tick_10 rfl ?_
    refine Sim.iconst (v := (0 : Int32)) dX11_tick_11 rfl ?_
    refine Sim.put fp_X11_421 dX11_tick_12 mI_42 rfl rfl ?_
    refine Sim.lth (fun h2 => ?_)
    refine Sim.iconst (v := (0 : Int32)) dX11_tick_15 rfl ?_
    exact Sim.iret dX11_tick_16 rfl
  · refine Sim.aload_n 0 dX11_tick_17 rfl ?_
    refine Sim.iload_n 2 dX11_tick_18 rfl ?_
    refine Sim.iconst (v := (1 : Int32)) dX11_tick_19 rfl ?_
    refine Sim.bipush (v := (12 : Int32)) dX11_tick_20 rfl ?_
    refine Sim.callV3I (d1 := 0) (s_X11_isIn a2 (1 : Int32) (12 : Int32) h1) dX11_tick_22 ml_X11_154 mv_X11_isIn mC (Nat.le_of_ble_eq_true rfl) (Nat.le_of_ble_eq_true rfl) (Nat.le_of_ble_eq_true rfl) (fun x3 => ?_)
    refine Sim.if_eq 48 dX11_tick_25 rfl ?_ ?_
    · refine Sim.iconst (v := (-1 : Int32)) dX11_tick_48 rfl ?_
      exact Sim.iret dX11_tick_49 rfl
    · refine Sim.aload_n 0 dX11_tick_28 rfl ?_
      refine Sim.iload_n 1 dX11_tick_29 rfl ?_
      refine Sim.iconst (v := (0 : Int32)) dX11_tick_30 rfl ?_
      refine Sim.iload_n 2 dX11_tick_31 rfl ?_
      refine Sim.iconst (v := (1 : Int32)) dX11_tick_32 rfl ?_
      refine Sim.isub dX11_tick_33 ?_
      refine Sim.callV3I (d1 := 0) (s_X11_isIn a1 (0 : Int32) (a2 - (1 : Int32)) x3.2) dX11_tick_34 ml_X11_154 mv_X11_isIn mC (Nat.le_of_ble_eq_true rfl) (Nat.le_of_ble_eq_true rfl) (Nat.le_of_ble_eq_true rfl) (fun x4 => ?_)
      refine Sim.if_eq 48 dX11_tick_37 rfl ?_ ?_
      · refine Sim.iconst (v := (-1 : Int32)) dX11_tick_48 rfl ?_
        exact Sim.iret dX11_tick_49 rfl
      · refine Sim.aload_n 0 dX11_tick_40 rfl ?_
        refine Sim.getI fl_X11_421 dX11_tick_41 mI_42 ?_
        refine Sim.iconst (v := (4 : Int32)) dX11_tick_44 rfl ?_
        refine Sim.icmp_ne 50 dX11_tick_45 rfl ?_ ?_
        · refine Sim.iconst (v := (-1 : Int32)) dX11_tick_48 rfl ?_
          exact Sim.iret dX11_tick_49 rfl
        · refine Sim.aload_n 0 dX11_tick_50 rfl ?_
          refine Sim.getR (j := 22) fl_X11_77 dX11_tick_51 mR_43 ?_
          refine Sim.aload_n 0 dX11_tick_54 rfl ?_
          refine Sim.getI fl_X11_421 dX11_tick_55 mI_42 ?_
          refine Sim.iload_n 1 dX11_tick_58 rfl ?_
          refine Sim.iast (n := 4) dX11_tick_59 mA_22 ?_
          refine Sim.lth (fun h5 => ?_)
          refine Sim.aload_n 0 dX11_tick_60 rfl ?_
          refine Sim.getR (j := 23) fl_X11_80 dX11_tick_61 mR_44 ?_
          refine Sim.aload_n 0 dX11_tick_64 rfl ?_
          refine Sim.getI fl_X11_421 dX11_tick_65 mI_42 ?_
          refine Sim.iload_n 2 dX11_tick_68 rfl ?_
          refine Sim.iast (n := 4) dX11_tick_69 mA_23 ?_
          refine Sim.lth (fun h6 => ?_)
          refine Sim.aload_n 0 dX11_tick_70 rfl ?_
          refine Sim.aload_n 0 dX11_tick_71 rfl ?_
          refine Sim.getI fl_X11_421 dX11_tick_72 mI_42 ?_
          refine Sim.iconst (v := (1 : Int32)) dX11_tick_75 rfl ?_
          refine Sim.iadd dX11_tick_76 ?_
          refine Sim.put fp_X11_421 dX11_tick_77 mI_42 rfl rfl ?_
          refine Sim.lth (fun h7 => ?_)
          refine Sim.aload_n 0 dX11_tick_80 rfl ?_
          refine Sim.getI fl_X11_421 dX11_tick_81 mI_42 ?_
          exact Sim.iret dX11_tick_84 rfl
theorem mv_X11_tick : zMV mX11_tick 2 := ⟨⟨zTb_in 1868 (by decide +kernel) rfl, zTb_in 148 (by decide +kernel) rfl, ⟨by decide +kernel, by decide +kernel⟩, by decide +kernel⟩, zTb_in 1866 (by decide +kernel) rfl, zTb_in 1867 (by decide +kernel) rfl⟩
-- ===== RockingPorchModel.doSwingTogether(I)Z
abbrev mX11_doSwingTogether : zMt := (yX11_doSwingTogether, cX11_doSwingTogether, 3, some .boolean)
theorem dX11_doSwingTogether_0 : decode cX11_doSwingTogether 0 = .ok (.iconst 0, 1) := by decide +kernel
theorem dX11_doSwingTogether_1 : decode cX11_doSwingTogether 1 = .ok (.istore_n 2, 1) := by decide +kernel
theorem dX11_doSwingTogether_2 : decode cX11_doSwingTogether 2 = .ok (.iload_n 2, 1) := by decide +kernel
theorem dX11_doSwingTogether_3 : decode cX11_doSwingTogether 3 = .ok (.aload_n 0, 1) := by decide +kernel
theorem dX11_doSwingTogether_4 : decode cX11_doSwingTogether 4 = .ok (.getfield 421, 3) := by decide +kernel
theorem dX11_doSwingTogether_7 : decode cX11_doSwingTogether 7 = .ok (.if_icmp .ge 28, 3) := by decide +kernel
theorem dX11_doSwingTogether_10 : decode cX11_doSwingTogether 10 = .ok (.iload_n 1, 1) := by decide +kernel
theorem dX11_doSwingTogether_11 : decode cX11_doSwingTogether 11 = .ok (.aload_n 0, 1) := by decide +kernel
theorem dX11_doSwingTogether_12 : decode cX11_doSwingTogether 12 = .ok (.getfield 80, 3) := by decide +kernel
theorem dX11_doSwingTogether_15 : decode cX11_doSwingTogether 15 = .ok (.iload_n 2, 1) := by decide +kernel
theorem dX11_doSwingTogether_16 : decode cX11_doSwingTogether 16 = .ok (.iaload, 1) := by decide +kernel
theorem dX11_doSwingTogether_17 : decode cX11_doSwingTogether 17 = .ok (.irem, 1) := by decide +kernel
theorem dX11_doSwingTogether_18 : decode cX11_doSwingTogether 18 = .ok (.aload_n 0, 1) := by decide +kernel
theorem dX11_doSwingTogether_19 : decode cX11_doSwingTogether 19 = .ok (.getfield 77, 3) := by decide +kernel
theorem dX11_doSwingTogether_22 : decode cX11_doSwingTogether 22 = .ok (.iload_n 2, 1) := by decide +kernel
theorem dX11_doSwingTogether_23 : decode cX11_doSwingTogether 23 = .ok (.iaload, 1) := by decide +kernel
theorem dX11_doSwingTogether_24 : decode cX11_doSwingTogether 24 = .ok (.if_icmp .eq 5, 3) := by decide +kernel
theorem dX11_doSwingTogether_27 : decode cX11_doSwingTogether 27 = .ok (.iconst 0, 1) := by decide +kernel
theorem dX11_doSwingTogether_28 : decode cX11_doSwingTogether 28 = .ok (.ireturn, 1) := by decide +kernel
theorem dX11_doSwingTogether_29 : decode cX11_doSwingTogether 29 = .ok (.iinc 2 1, 3) := by decide +kernel
theorem dX11_doSwingTogether_32 : decode cX11_doSwingTogether 32 = .ok (.goto (-30), 3) := by decide +kernel
theorem dX11_doSwingTogether_35 : decode cX11_doSwingTogether 35 = .ok (.iconst 1, 1) := by decide +kernel
theorem dX11_doSwingTogether_36 : decode cX11_doSwingTogether 36 = .ok (.ireturn, 1) := by decide +kernel
def f_X11_doSwingTogether_2  (k2 : Int32 × Int32 × zHp → Option (Int32 × zHp)) (v1 : Int32) (v2 : Int32) (h : zHp) : Option (Int32 × zHp) := (if v2 < (h 0 42) then zix v2 4 (zdz (h 23 v2.toNatClampNeg) (zix v2 4 ((if (v1 - v1 / (h 23 v2.toNatClampNeg) * (h 23 v2.toNatClampNeg)) = (h 22 v2.toNatClampNeg) then k2 (v1, (v2 + (1 : Int32)), h) else some ((0 : Int32), h))))) else some ((1 : Int32), h))
set_option maxHeartbeats 4000000 in
set_option maxRecDepth 100000 in
theorem f_X11_doSwingTogether_2_s  (k2 : Int32 × Int32 × zHp → Option (Int32 × zHp)) (H2 : ∀ v : Int32 × Int32 × zHp, Sim wM mX11_doSwingTogether 0 rI 2 [(0, .ref 0), (1, .int v.1), (2, .int v.2.1)] [] v.2.2 (k2 v)) (v1 : Int32) (v2 : Int32) (h : zHp) : Sim wM mX11_doSwingTogether 0 rI 2 [(0, .ref 0), (1, .int v1), (2, .int v2)] [] h (f_X11_doSwingTogether_2 k2 v1 v2 h) := by
  unfold f_X11_doSwingTogether_2
  refine Sim.iload_n 2 dX11_doSwingTogether_2 rfl ?_
  refine Sim.aload_n 0 dX11_doSwingTogether_3 rfl ?_
  refine Sim.getI fl_X11_421 dX11_doSwingTogether_4 mI_42 ?_
  refine Sim.icmp_ge 35 dX11_doSwingTogether_7 rfl ?_ ?_
  · refine Sim.iload_n 1 dX11_doSwingTogether_10 rfl ?_
    refine Sim.aload_n 0 dX11_doSwingTogether_11 rfl ?_
    refine Sim.getR (j := 23) fl_X11_80 dX11_doSwingTogether_12 mR_44 ?_
    refine Sim.iload_n 2 dX11_doSwingTogether_15 rfl ?_
    refine Sim.iald (n := 4) dX11_doSwingTogether_16 mA_23 ?_
    refine Sim.irem dX11_doSwingTogether_17 ?_
    refine Sim.aload_n 0 dX11_doSwingTogether_18 rfl ?_
    refine Sim.getR (j := 22) fl_X11_77 dX11_doSwingTogether_19 mR_43 ?_
    refine Sim.iload_n 2 dX11_doSwingTogether_22 rfl ?_
    refine Sim.iald (n := 4) dX11_doSwingTogether_23 mA_22 ?_
    refine Sim.icmp_eq 29 dX11_doSwingTogether_24 rfl ?_ ?_
    · refine Sim.iinc (L' := [(2, .int (v2 + (1 : Int32))), (0, .ref 0), (1, .int v1)]) 2 dX11_doSwingTogether_29 rfl rfl (Nat.le_of_ble_eq_true rfl) rfl ?_
      refine Sim.goto 2 dX11_doSwingTogether_32 rfl ?_
      refine Sim.locs [1, 2, 0] rfl ?_
      exact H2 (v1, (v2 + (1 : Int32)), h)
    · refine Sim.iconst (v := (0 : Int32)) dX11_doSwingTogether_27 rfl ?_
      exact Sim.nret dX11_doSwingTogether_28 rfl rfl
  · refine Sim.iconst (v := (1 : Int32)) dX11_doSwingTogether_35 rfl ?_
    exact Sim.nret dX11_doSwingTogether_36 rfl rfl
def f_X11_doSwingTogether_2_lp   (n : Nat) (v : Int32 × Int32 × zHp) : Option (Int32 × zHp) := zlp (fun k2 v => f_X11_doSwingTogether_2 k2 v.1 v.2.1 v.2.2) n v
theorem f_X11_doSwingTogether_2_ls  (n : Nat) (v : Int32 × Int32 × zHp) : Sim wM mX11_doSwingTogether 0 rI 2 [(0, .ref 0), (1, .int v.1), (2, .int v.2.1)] [] v.2.2 (f_X11_doSwingTogether_2_lp n v) :=
  Sim.lp (V := Int32 × Int32 × zHp) (Lf := fun v => [(0, .ref 0), (1, .int v.1), (2, .int v.2.1)]) (sf := fun v => []) (hf := fun v => v.2.2) (fun k2 H2 v => f_X11_doSwingTogether_2_s k2 H2 v.1 v.2.1 v.2.2) n v
def f_X11_doSwingTogether  (a1 : Int32) (h : zHp) : Option (Int32 × zHp) := f_X11_doSwingTogether_2_lp  zN (a1, (0 : Int32), h)
set_option maxHeartbeats 4000000 in
set_option maxRecDepth 100000 in
theorem s_X11_doSwingTogether  (a1 : Int32) (h : zHp) : Fn wM mX11_doSwingTogether 0 rI [.ref 0, .int a1] h (f_X11_doSwingTogether a1 h) := by
  refine Fn.of rfl (Nat.le_of_ble_eq_true rfl) ?_
  unfold f_X11_doSwingTogether
  refine Sim.iconst (v := (0 : Int32)) dX11_doSwingTogether_0 rfl ?_
  refine Sim.istore_n (L' := [(2, .int (0 : Int32)), (0, .ref 0), (1, .int a1)]) dX11_doSwingTogether_1 (Nat.le_of_ble_eq_true rfl) rfl ?_
  refine Sim.locs [1, 2, 0] rfl ?_
  exact f_X11_doSwingTogether_2_ls  zN (a1, (0 : Int32), h)
theorem mv_X11_doSwingTogether : zMV mX11_doSwingTogether 1 := ⟨⟨zTb_in 1880 (by decide +kernel) rfl, zTb_in 148 (by decide +kernel) rfl, ⟨by decide +kernel, by decide +kernel⟩, by decide +kernel⟩, zTb_in 1879 (by decide +kernel) rfl, zTb_in 113 (by decide +kernel) rfl⟩
-- ===== RockingPorchModel.ticks(I)I
abbrev mX11_ticks : zMt := (yX11_ticks, cX11_ticks, 4, some .int)
theorem ml_X11_424 : Cond.methodLink RX11 424 yX11_common ∈ zTb := zTb_in 1873 (by decide +kernel) rfl
theorem ml_X11_427 : Cond.methodLink RX11 427 yX11_doSwingTogether ∈ zTb := zTb_in 1877 (by decide +kernel) rfl
theorem dX11_ticks_0 : decode cX11_ticks 0 = .ok (.aload_n 0, 1) := by decide +kernel
theorem dX11_ticks_1 : decode cX11_ticks 1 = .ok (.iconst 0, 1) := by decide +kernel
theorem dX11_ticks_2 : decode cX11_ticks 2 = .ok (.putfield 128, 3) := by decide +kernel
theorem dX11_ticks_5 : decode cX11_ticks 5 = .ok (.aload_n 0, 1) := by decide +kernel
theorem dX11_ticks_6 : decode cX11_ticks 6 = .ok (.iload_n 1, 1) := by decide +kernel
theorem dX11_ticks_7 : decode cX11_ticks 7 = .ok (.iconst 0, 1) := by decide +kernel
theorem dX11_ticks_8 : decode cX11_ticks 8 = .ok (.iconst 1, 1) := by decide +kernel
theorem dX11_ticks_9 : decode cX11_ticks 9 = .ok (.invokevirtual 154, 3) := by decide +kernel
theorem dX11_ticks_12 : decode cX11_ticks 12 = .ok (.ifCond .ne 5, 3) := by decide +kernel
theorem dX11_ticks_15 : decode cX11_ticks 15 = .ok (.iconst (-1), 1) := by decide +kernel
theorem dX11_ticks_16 : decode cX11_ticks 16 = .ok (.ireturn, 1) := by decide +kernel
theorem dX11_ticks_17 : decode cX11_ticks 17 = .ok (.iconst 1, 1) := by decide +kernel
theorem dX11_ticks_18 : decode cX11_ticks 18 = .ok (.istore_n 2, 1) := by decide +kernel
theorem dX11_ticks_19 : decode cX11_ticks 19 = .ok (.iconst 0, 1) := by decide +kernel
theorem dX11_ticks_20 : decode cX11_ticks 20 = .ok (.istore_n 3, 1) := by decide +kernel
theorem dX11_ticks_21 : decode cX11_ticks 21 = .ok (.iload_n 3, 1) := by decide +kernel
theorem dX11_ticks_22 : decode cX11_ticks 22 = .ok (.aload_n 0, 1) := by decide +kernel
theorem dX11_ticks_23 : decode cX11_ticks 23 = .ok (.getfield 421, 3) := by decide +kernel
theorem dX11_ticks_26 : decode cX11_ticks 26 = .ok (.if_icmp .ge 30, 3) := by decide +kernel
theorem dX11_ticks_29 : decode cX11_ticks 29 = .ok (.iload_n 2, 1) := by decide +kernel
theorem dX11_ticks_30 : decode cX11_ticks 30 = .ok (.aload_n 0, 1) := by decide +kernel
theorem dX11_ticks_31 : decode cX11_ticks 31 = .ok (.iload_n 2, 1) := by decide +kernel
theorem dX11_ticks_32 : decode cX11_ticks 32 = .ok (.aload_n 0, 1) := by decide +kernel
theorem dX11_ticks_33 : decode cX11_ticks 33 = .ok (.getfield 80, 3) := by decide +kernel
theorem dX11_ticks_36 : decode cX11_ticks 36 = .ok (.iload_n 3, 1) := by decide +kernel
theorem dX11_ticks_37 : decode cX11_ticks 37 = .ok (.iaload, 1) := by decide +kernel
theorem dX11_ticks_38 : decode cX11_ticks 38 = .ok (.invokevirtual 424, 3) := by decide +kernel
theorem dX11_ticks_41 : decode cX11_ticks 41 = .ok (.idiv, 1) := by decide +kernel
theorem dX11_ticks_42 : decode cX11_ticks 42 = .ok (.aload_n 0, 1) := by decide +kernel
theorem dX11_ticks_43 : decode cX11_ticks 43 = .ok (.getfield 80, 3) := by decide +kernel
theorem dX11_ticks_46 : decode cX11_ticks 46 = .ok (.iload_n 3, 1) := by decide +kernel
theorem dX11_ticks_47 : decode cX11_ticks 47 = .ok (.iaload, 1) := by decide +kernel
theorem dX11_ticks_48 : decode cX11_ticks 48 = .ok (.imul, 1) := by decide +kernel
theorem dX11_ticks_49 : decode cX11_ticks 49 = .ok (.istore_n 2, 1) := by decide +kernel
theorem dX11_ticks_50 : decode cX11_ticks 50 = .ok (.iinc 3 1, 3) := by decide +kernel
theorem dX11_ticks_53 : decode cX11_ticks 53 = .ok (.goto (-32), 3) := by decide +kernel
theorem dX11_ticks_56 : decode cX11_ticks 56 = .ok (.iconst 0, 1) := by decide +kernel
theorem dX11_ticks_57 : decode cX11_ticks 57 = .ok (.istore_n 3, 1) := by decide +kernel
theorem dX11_ticks_58 : decode cX11_ticks 58 = .ok (.iload_n 3, 1) := by decide +kernel
theorem dX11_ticks_59 : decode cX11_ticks 59 = .ok (.iload_n 2, 1) := by decide +kernel
theorem dX11_ticks_60 : decode cX11_ticks 60 = .ok (.if_icmp .ge 18, 3) := by decide +kernel
theorem dX11_ticks_63 : decode cX11_ticks 63 = .ok (.aload_n 0, 1) := by decide +kernel
theorem dX11_ticks_64 : decode cX11_ticks 64 = .ok (.iload_n 3, 1) := by decide +kernel
theorem dX11_ticks_65 : decode cX11_ticks 65 = .ok (.invokevirtual 427, 3) := by decide +kernel
theorem dX11_ticks_68 : decode cX11_ticks 68 = .ok (.ifCond .ne 10, 3) := by decide +kernel
theorem dX11_ticks_71 : decode cX11_ticks 71 = .ok (.iload_n 3, 1) := by decide +kernel
theorem dX11_ticks_72 : decode cX11_ticks 72 = .ok (.iconst 1, 1) := by decide +kernel
theorem dX11_ticks_73 : decode cX11_ticks 73 = .ok (.iadd, 1) := by decide +kernel
theorem dX11_ticks_74 : decode cX11_ticks 74 = .ok (.istore_n 3, 1) := by decide +kernel
theorem dX11_ticks_75 : decode cX11_ticks 75 = .ok (.goto (-17), 3) := by decide +kernel
theorem dX11_ticks_78 : decode cX11_ticks 78 = .ok (.iload_n 3, 1) := by decide +kernel
theorem dX11_ticks_79 : decode cX11_ticks 79 = .ok (.iload_n 2, 1) := by decide +kernel
theorem dX11_ticks_80 : decode cX11_ticks 80 = .ok (.if_icmp .ne 5, 3) := by decide +kernel
theorem dX11_ticks_83 : decode cX11_ticks 83 = .ok (.iconst (-1), 1) := by decide +kernel
theorem dX11_ticks_84 : decode cX11_ticks 84 = .ok (.ireturn, 1) := by decide +kernel
theorem dX11_ticks_85 : decode cX11_ticks 85 = .ok (.iload_n 1, 1) := by decide +kernel
theorem dX11_ticks_86 : decode cX11_ticks 86 = .ok (.ifCond .ne 7, 3) := by decide +kernel
theorem dX11_ticks_89 : decode cX11_ticks 89 = .ok (.iload_n 3, 1) := by decide +kernel
theorem dX11_ticks_90 : decode cX11_ticks 90 = .ok (.goto 4, 3) := by decide +kernel
theorem dX11_ticks_93 : decode cX11_ticks 93 = .ok (.iload_n 2, 1) := by decide +kernel
theorem dX11_ticks_94 : decode cX11_ticks 94 = .ok (.ireturn, 1) := by decide +kernel
def f_X11_ticks_78   (v1 : Int32) (v2 : Int32) (v3 : Int32) (h : zHp) : Option (Int32 × zHp) := (if v3 = v2 then some ((-1 : Int32), h) else (if v1 = 0 then some (v3, h) else some (v2, h)))
set_option maxHeartbeats 4000000 in
set_option maxRecDepth 100000 in
theorem f_X11_ticks_78_s  (v1 : Int32) (v2 : Int32) (v3 : Int32) (h : zHp) : Sim wM mX11_ticks 1 rI 78 [(1, .int v1), (2, .int v2), (3, .int v3)] [] h (f_X11_ticks_78 v1 v2 v3 h) := by
  unfold f_X11_ticks_78
  refine Sim.iload_n 2 dX11_ticks_78 rfl ?_
  refine Sim.iload_n 1 dX11_ticks_79 rfl ?_
  refine Sim.icmp_ne 85 dX11_ticks_80 rfl ?_ ?_
  · refine Sim.iconst (v := (-1 : Int32)) dX11_ticks_83 rfl ?_
    exact Sim.iret dX11_ticks_84 rfl
  · refine Sim.iload_n 0 dX11_ticks_85 rfl ?_
    refine Sim.if_ne 93 dX11_ticks_86 rfl ?_ ?_
    · refine Sim.iload_n 2 dX11_ticks_89 rfl ?_
      refine Sim.goto 94 dX11_ticks_90 rfl ?_
      exact Sim.iret dX11_ticks_94 rfl
    · refine Sim.iload_n 1 dX11_ticks_93 rfl ?_
      exact Sim.iret dX11_ticks_94 rfl
def f_X11_ticks_58  (k58 : Int32 × Int32 × Int32 × zHp → Option (Int32 × zHp)) (v1 : Int32) (v2 : Int32) (v3 : Int32) (h : zHp) : Option (Int32 × zHp) := (if v3 < v2 then (f_X11_doSwingTogether v3 h).bind fun x1 => (if x1.1 = 0 then zlt (v3 + (1 : Int32)) fun x2 => k58 (v1, v2, x2, x1.2) else f_X11_ticks_78 v1 v2 v3 x1.2) else f_X11_ticks_78 v1 v2 v3 h)
set_option maxHeartbeats 4000000 in
set_option maxRecDepth 100000 in
theorem f_X11_ticks_58_s  (k58 : Int32 × Int32 × Int32 × zHp → Option (Int32 × zHp)) (H58 : ∀ v : Int32 × Int32 × Int32 × zHp, Sim wM mX11_ticks 1 rI 58 [(0, .ref 0), (1, .int v.1), (2, .int v.2.1), (3, .int v.2.2.1)] [] v.2.2.2 (k58 v)) (v1 : Int32) (v2 : Int32) (v3 : Int32) (h : zHp) : Sim wM mX11_ticks 1 rI 58 [(0, .ref 0), (1, .int v1), (2, .int v2), (3, .int v3)] [] h (f_X11_ticks_58 k58 v1 v2 v3 h) := by
  unfold f_X11_ticks_58
  refine Sim.iload_n 3 dX11_ticks_58 rfl ?_
  refine Sim.iload_n 2 dX11_ticks_59 rfl ?_
  refine Sim.icmp_ge 78 dX11_ticks_60 rfl ?_ ?_
  · refine Sim.aload_n 0 dX11_ticks_63 rfl ?_
    refine Sim.iload_n 3 dX11_ticks_64 rfl ?_
    refine Sim.callV1I (d1 := 0) (s_X11_doSwingTogether v3 h) dX11_ticks_65 ml_X11_427 mv_X11_doSwingTogether mC (Nat.le_of_ble_eq_true rfl) (Nat.le_of_ble_eq_true rfl) (Nat.le_of_ble_eq_true rfl) (fun x1 => ?_)
    refine Sim.if_ne 78 dX11_ticks_68 rfl ?_ ?_
    · refine Sim.iload_n 3 dX11_ticks_71 rfl ?_
      refine Sim.iconst (v := (1 : Int32)) dX11_ticks_72 rfl ?_
      refine Sim.iadd dX11_ticks_73 ?_
      refine Sim.lti (fun x2 => ?_)
      refine Sim.istore_n (L' := [(3, .int x2), (0, .ref 0), (1, .int v1), (2, .int v2)]) dX11_ticks_74 (Nat.le_of_ble_eq_true rfl) rfl ?_
      refine Sim.goto 58 dX11_ticks_75 rfl ?_
      refine Sim.locs [1, 2, 3, 0] rfl ?_
      exact H58 (v1, v2, x2, x1.2)
    · refine Sim.locs [1, 2, 3] rfl ?_
      exact f_X11_ticks_78_s v1 v2 v3 x1.2
  · refine Sim.locs [1, 2, 3] rfl ?_
    exact f_X11_ticks_78_s v1 v2 v3 h
def f_X11_ticks_58_lp   (n : Nat) (v : Int32 × Int32 × Int32 × zHp) : Option (Int32 × zHp) := zlp (fun k58 v => f_X11_ticks_58 k58 v.1 v.2.1 v.2.2.1 v.2.2.2) n v
theorem f_X11_ticks_58_ls  (n : Nat) (v : Int32 × Int32 × Int32 × zHp) : Sim wM mX11_ticks 1 rI 58 [(0, .ref 0), (1, .int v.1), (2, .int v.2.1), (3, .int v.2.2.1)] [] v.2.2.2 (f_X11_ticks_58_lp n v) :=
  Sim.lp (V := Int32 × Int32 × Int32 × zHp) (Lf := fun v => [(0, .ref 0), (1, .int v.1), (2, .int v.2.1), (3, .int v.2.2.1)]) (sf := fun v => []) (hf := fun v => v.2.2.2) (fun k58 H58 v => f_X11_ticks_58_s k58 H58 v.1 v.2.1 v.2.2.1 v.2.2.2) n v
def f_X11_ticks_21  (k21 : Int32 × Int32 × Int32 × zHp → Option (Int32 × zHp)) (v1 : Int32) (v2 : Int32) (v3 : Int32) (h : zHp) : Option (Int32 × zHp) := (if v3 < (h 0 42) then zix v3 4 ((f_X11_common v2 (h 23 v3.toNatClampNeg) h).bind fun x1 => zdz x1.1 (zix v3 4 (zlt ((v2 / x1.1) * (x1.2 23 v3.toNatClampNeg)) fun x2 => k21 (v1, x2, (v3 + (1 : Int32)), x1.2)))) else f_X11_ticks_58_lp  zN (v1, v2, (0 : Int32), h))
set_option maxHeartbeats 4000000 in
set_option maxRecDepth 100000 in
theorem f_X11_ticks_21_s  (k21 : Int32 × Int32 × Int32 × zHp → Option (Int32 × zHp)) (H21 : ∀ v : Int32 × Int32 × Int32 × zHp, Sim wM mX11_ticks 1 rI 21 [(0, .ref 0), (1, .int v.1), (2, .int v.2.1), (3, .int v.2.2.1)] [] v.2.2.2 (k21 v)) (v1 : Int32) (v2 : Int32) (v3 : Int32) (h : zHp) : Sim wM mX11_ticks 1 rI 21 [(0, .ref 0), (1, .int v1), (2, .int v2), (3, .int v3)] [] h (f_X11_ticks_21 k21 v1 v2 v3 h) := by
  unfold f_X11_ticks_21
  refine Sim.iload_n 3 dX11_ticks_21 rfl ?_
  refine Sim.aload_n 0 dX11_ticks_22 rfl ?_
  refine Sim.getI fl_X11_421 dX11_ticks_23 mI_42 ?_
  refine Sim.icmp_ge 56 dX11_ticks_26 rfl ?_ ?_
  · refine Sim.iload_n 2 dX11_ticks_29 rfl ?_
    refine Sim.aload_n 0 dX11_ticks_30 rfl ?_
    refine Sim.iload_n 2 dX11_ticks_31 rfl ?_
    refine Sim.aload_n 0 dX11_ticks_32 rfl ?_
    refine Sim.getR (j := 23) fl_X11_80 dX11_ticks_33 mR_44 ?_
    refine Sim.iload_n 3 dX11_ticks_36 rfl ?_
    refine Sim.iald (n := 4) dX11_ticks_37 mA_23 ?_
    refine Sim.callV2I (d1 := 0) (s_X11_common v2 (h 23 v3.toNatClampNeg) h) dX11_ticks_38 ml_X11_424 mv_X11_common mC (Nat.le_of_ble_eq_true rfl) (Nat.le_of_ble_eq_true rfl) (Nat.le_of_ble_eq_true rfl) (fun x1 => ?_)
    refine Sim.idiv dX11_ticks_41 ?_
    refine Sim.aload_n 0 dX11_ticks_42 rfl ?_
    refine Sim.getR (j := 23) fl_X11_80 dX11_ticks_43 mR_44 ?_
    refine Sim.iload_n 3 dX11_ticks_46 rfl ?_
    refine Sim.iald (n := 4) dX11_ticks_47 mA_23 ?_
    refine Sim.imul dX11_ticks_48 ?_
    refine Sim.lti (fun x2 => ?_)
    refine Sim.istore_n (L' := [(2, .int x2), (0, .ref 0), (1, .int v1), (3, .int v3)]) dX11_ticks_49 (Nat.le_of_ble_eq_true rfl) rfl ?_
    refine Sim.iinc (L' := [(3, .int (v3 + (1 : Int32))), (2, .int x2), (0, .ref 0), (1, .int v1)]) 3 dX11_ticks_50 rfl rfl (Nat.le_of_ble_eq_true rfl) rfl ?_
    refine Sim.goto 21 dX11_ticks_53 rfl ?_
    refine Sim.locs [2, 3, 1, 0] rfl ?_
    exact H21 (v1, x2, (v3 + (1 : Int32)), x1.2)
  · refine Sim.iconst (v := (0 : Int32)) dX11_ticks_56 rfl ?_
    refine Sim.istore_n (L' := [(3, .int (0 : Int32)), (0, .ref 0), (1, .int v1), (2, .int v2)]) dX11_ticks_57 (Nat.le_of_ble_eq_true rfl) rfl ?_
    refine Sim.locs [1, 2, 3, 0] rfl ?_
    exact f_X11_ticks_58_ls  zN (v1, v2, (0 : Int32), h)
def f_X11_ticks_21_lp   (n : Nat) (v : Int32 × Int32 × Int32 × zHp) : Option (Int32 × zHp) := zlp (fun k21 v => f_X11_ticks_21 k21 v.1 v.2.1 v.2.2.1 v.2.2.2) n v
theorem f_X11_ticks_21_ls  (n : Nat) (v : Int32 × Int32 × Int32 × zHp) : Sim wM mX11_ticks 1 rI 21 [(0, .ref 0), (1, .int v.1), (2, .int v.2.1), (3, .int v.2.2.1)] [] v.2.2.2 (f_X11_ticks_21_lp n v) :=
  Sim.lp (V := Int32 × Int32 × Int32 × zHp) (Lf := fun v => [(0, .ref 0), (1, .int v.1), (2, .int v.2.1), (3, .int v.2.2.1)]) (sf := fun v => []) (hf := fun v => v.2.2.2) (fun k21 H21 v => f_X11_ticks_21_s k21 H21 v.1 v.2.1 v.2.2.1 v.2.2.2) n v
def f_X11_ticks  (a1 : Int32) (h : zHp) : Option (Int32 × zHp) := zlt (zst h 0 0 (0 : Int32)) fun h1 => (f_X11_isIn a1 (0 : Int32) (1 : Int32) h1).bind fun x2 => (if x2.1 = 0 then some ((-1 : Int32), x2.2) else f_X11_ticks_21_lp  zN (a1, (1 : Int32), (0 : Int32), x2.2))
set_option maxHeartbeats 4000000 in
set_option maxRecDepth 100000 in
theorem s_X11_ticks  (a1 : Int32) (h : zHp) : Fn wM mX11_ticks 1 rI [.ref 0, .int a1] h (f_X11_ticks a1 h) := by
  refine Fn.of rfl (Nat.le_of_ble_eq_true rfl) ?_
  unfold f_X11_ticks
  refine Sim.aload_n 0 dX11_ticks_0 rfl ?_
  refine Sim.iconst (v := (0 : Int32)) dX11_ticks_1 rfl ?_
  refine Sim.put fp_X11_128 dX11_ticks_2 mI_0 rfl rfl ?_
  refine Sim.lth (fun h1 => ?_)
  refine Sim.aload_n 0 dX11_ticks_5 rfl ?_
  refine Sim.iload_n 1 dX11_ticks_6 rfl ?_
  refine Sim.iconst (v := (0 : Int32)) dX11_ticks_7 rfl ?_
  refine Sim.iconst (v := (1 : Int32)) dX11_ticks_8 rfl ?_
  refine Sim.callV3I (d1 := 0) (s_X11_isIn a1 (0 : Int32) (1 : Int32) h1) dX11_ticks_9 ml_X11_154 mv_X11_isIn mC (Nat.le_of_ble_eq_true rfl) (Nat.le_of_ble_eq_true rfl) (Nat.le_of_ble_eq_true rfl) (fun x2 => ?_)
  refine Sim.if_ne 17 dX11_ticks_12 rfl ?_ ?_
  · refine Sim.iconst (v := (-1 : Int32)) dX11_ticks_15 rfl ?_
    exact Sim.iret dX11_ticks_16 rfl
  · refine Sim.iconst (v := (1 : Int32)) dX11_ticks_17 rfl ?_
    refine Sim.istore_n (L' := [(2, .int (1 : Int32)), (0, .ref 0), (1, .int a1)]) dX11_ticks_18 (Nat.le_of_ble_eq_true rfl) rfl ?_
    refine Sim.iconst (v := (0 : Int32)) dX11_ticks_19 rfl ?_
    refine Sim.istore_n (L' := [(3, .int (0 : Int32)), (2, .int (1 : Int32)), (0, .ref 0), (1, .int a1)]) dX11_ticks_20 (Nat.le_of_ble_eq_true rfl) rfl ?_
    refine Sim.locs [2, 3, 1, 0] rfl ?_
    exact f_X11_ticks_21_ls  zN (a1, (1 : Int32), (0 : Int32), x2.2)
theorem mv_X11_ticks : zMV mX11_ticks 1 := ⟨⟨zTb_in 1872 (by decide +kernel) rfl, zTb_in 148 (by decide +kernel) rfl, ⟨by decide +kernel, by decide +kernel⟩, by decide +kernel⟩, zTb_in 1870 (by decide +kernel) rfl, zTb_in 1871 (by decide +kernel) rfl⟩
-- ===== RockingPorchModel.apart(II)I
abbrev mX11_apart : zMt := (yX11_apart, cX11_apart, 3, some .int)
theorem fl_X11_430 : zF RX11 430 11 45 := ⟨RX11, TX11, 69, rfl, Nat.le_of_ble_eq_true rfl, zTb_in 1344 (by decide +kernel) rfl, in_X11⟩
theorem fl_X11_83 : zF RX11 83 11 46 := ⟨RX11, TX11, 69, rfl, Nat.le_of_ble_eq_true rfl, zTb_in 1345 (by decide +kernel) rfl, in_X11⟩
theorem fl_X11_86 : zF RX11 86 11 47 := ⟨RX11, TX11, 69, rfl, Nat.le_of_ble_eq_true rfl, zTb_in 1346 (by decide +kernel) rfl, in_X11⟩
theorem fp_X11_430 : zFp RX11 430 11 45 .int := ⟨RX11, TX11, 69, tyX11, rfl, Nat.le_of_ble_eq_true rfl, zTb_in 1344 (by decide +kernel) rfl, in_X11, tyX11_ok, nmX11, rfl, rfl⟩
theorem dX11_apart_0 : decode cX11_apart 0 = .ok (.aload_n 0, 1) := by decide +kernel
theorem dX11_apart_1 : decode cX11_apart 1 = .ok (.iconst 0, 1) := by decide +kernel
theorem dX11_apart_2 : decode cX11_apart 2 = .ok (.putfield 128, 3) := by decide +kernel
theorem dX11_apart_5 : decode cX11_apart 5 = .ok (.iload_n 1, 1) := by decide +kernel
theorem dX11_apart_6 : decode cX11_apart 6 = .ok (.iconst (-1), 1) := by decide +kernel
theorem dX11_apart_7 : decode cX11_apart 7 = .ok (.if_icmp .ne 10, 3) := by decide +kernel
theorem dX11_apart_10 : decode cX11_apart 10 = .ok (.aload_n 0, 1) := by decide +kernel
theorem dX11_apart_11 : decode cX11_apart 11 = .ok (.iconst 0, 1) := by decide +kernel
theorem dX11_apart_12 : decode cX11_apart 12 = .ok (.putfield 430, 3) := by decide +kernel
theorem dX11_apart_15 : decode cX11_apart 15 = .ok (.iconst 0, 1) := by decide +kernel
theorem dX11_apart_16 : decode cX11_apart 16 = .ok (.ireturn, 1) := by decide +kernel
theorem dX11_apart_17 : decode cX11_apart 17 = .ok (.aload_n 0, 1) := by decide +kernel
theorem dX11_apart_18 : decode cX11_apart 18 = .ok (.iload_n 1, 1) := by decide +kernel
theorem dX11_apart_19 : decode cX11_apart 19 = .ok (.iconst 0, 1) := by decide +kernel
theorem dX11_apart_20 : decode cX11_apart 20 = .ok (.bipush 6, 2) := by decide +kernel
theorem dX11_apart_22 : decode cX11_apart 22 = .ok (.invokevirtual 154, 3) := by decide +kernel
theorem dX11_apart_25 : decode cX11_apart 25 = .ok (.ifCond .eq 28, 3) := by decide +kernel
theorem dX11_apart_28 : decode cX11_apart 28 = .ok (.aload_n 0, 1) := by decide +kernel
theorem dX11_apart_29 : decode cX11_apart 29 = .ok (.iload_n 2, 1) := by decide +kernel
theorem dX11_apart_30 : decode cX11_apart 30 = .ok (.iconst 0, 1) := by decide +kernel
theorem dX11_apart_31 : decode cX11_apart 31 = .ok (.bipush 6, 2) := by decide +kernel
theorem dX11_apart_33 : decode cX11_apart 33 = .ok (.invokevirtual 154, 3) := by decide +kernel
theorem dX11_apart_36 : decode cX11_apart 36 = .ok (.ifCond .eq 17, 3) := by decide +kernel
theorem dX11_apart_39 : decode cX11_apart 39 = .ok (.iload_n 1, 1) := by decide +kernel
theorem dX11_apart_40 : decode cX11_apart 40 = .ok (.iload_n 2, 1) := by decide +kernel
theorem dX11_apart_41 : decode cX11_apart 41 = .ok (.if_icmp .eq 12, 3) := by decide +kernel
theorem dX11_apart_44 : decode cX11_apart 44 = .ok (.aload_n 0, 1) := by decide +kernel
theorem dX11_apart_45 : decode cX11_apart 45 = .ok (.getfield 430, 3) := by decide +kernel
theorem dX11_apart_48 : decode cX11_apart 48 = .ok (.bipush 10, 2) := by decide +kernel
theorem dX11_apart_50 : decode cX11_apart 50 = .ok (.if_icmp .ne 5, 3) := by decide +kernel
theorem dX11_apart_53 : decode cX11_apart 53 = .ok (.iconst (-1), 1) := by decide +kernel
theorem dX11_apart_54 : decode cX11_apart 54 = .ok (.ireturn, 1) := by decide +kernel
theorem dX11_apart_55 : decode cX11_apart 55 = .ok (.aload_n 0, 1) := by decide +kernel
theorem dX11_apart_56 : decode cX11_apart 56 = .ok (.getfield 83, 3) := by decide +kernel
theorem dX11_apart_59 : decode cX11_apart 59 = .ok (.aload_n 0, 1) := by decide +kernel
theorem dX11_apart_60 : decode cX11_apart 60 = .ok (.getfield 430, 3) := by decide +kernel
theorem dX11_apart_63 : decode cX11_apart 63 = .ok (.iload_n 1, 1) := by decide +kernel
theorem dX11_apart_64 : decode cX11_apart 64 = .ok (.iastore, 1) := by decide +kernel
theorem dX11_apart_65 : decode cX11_apart 65 = .ok (.aload_n 0, 1) := by decide +kernel
theorem dX11_apart_66 : decode cX11_apart 66 = .ok (.getfield 86, 3) := by decide +kernel
theorem dX11_apart_69 : decode cX11_apart 69 = .ok (.aload_n 0, 1) := by decide +kernel
theorem dX11_apart_70 : decode cX11_apart 70 = .ok (.getfield 430, 3) := by decide +kernel
theorem dX11_apart_73 : decode cX11_apart 73 = .ok (.iload_n 2, 1) := by decide +kernel
theorem dX11_apart_74 : decode cX11_apart 74 = .ok (.iastore, 1) := by decide +kernel
theorem dX11_apart_75 : decode cX11_apart 75 = .ok (.aload_n 0, 1) := by decide +kernel
theorem dX11_apart_76 : decode cX11_apart 76 = .ok (.aload_n 0, 1) := by decide +kernel
theorem dX11_apart_77 : decode cX11_apart 77 = .ok (.getfield 430, 3) := by decide +kernel
theorem dX11_apart_80 : decode cX11_apart 80 = .ok (.iconst 1, 1) := by decide +kernel
theorem dX11_apart_81 : decode cX11_apart 81 = .ok (.iadd, 1) := by decide +kernel
theorem dX11_apart_82 : decode cX11_apart 82 = .ok (.putfield 430, 3) := by decide +kernel
theorem dX11_apart_85 : decode cX11_apart 85 = .ok (.aload_n 0, 1) := by decide +kernel
theorem dX11_apart_86 : decode cX11_apart 86 = .ok (.getfield 430, 3) := by decide +kernel
theorem dX11_apart_89 : decode cX11_apart 89 = .ok (.ireturn, 1) := by decide +kernel
def f_X11_apart  (a1 : Int32) (a2 : Int32) (h : zHp) : Option (Int32 × zHp) := zlt (zst h 0 0 (0 : Int32)) fun h1 => (if a1 = (-1 : Int32) then zlt (zst h1 0 45 (0 : Int32)) fun h2 => some ((0 : Int32), h2) else (f_X11_isIn a1 (0 : Int32) (6 : Int32) h1).bind fun x3 => (if x3.1 = 0 then some ((-1 : Int32), x3.2) else (f_X11_isIn a2 (0 : Int32) (6 : Int32) x3.2).bind fun x4 => (if x4.1 = 0 then some ((-1 : Int32), x4.2) else (if a1 = a2 then some ((-1 : Int32), x4.2) else (if (x4.2 0 45) = (10 : Int32) then some ((-1 : Int32), x4.2) else zix (x4.2 0 45) 10 (zlt (zst x4.2 24 (x4.2 0 45).toNatClampNeg a1) fun h5 => zix (h5 0 45) 10 (zlt (zst h5 25 (h5 0 45).toNatClampNeg a2) fun h6 => zlt (zst h6 0 45 ((h6 0 45) + (1 : Int32))) fun h7 => some ((h7 0 45), h7))))))))
set_option maxHeartbeats 4000000 in
set_option maxRecDepth 100000 in
theorem s_X11_apart  (a1 : Int32) (a2 : Int32) (h : zHp) : Fn wM mX11_apart 1 rI [.ref 0, .int a1, .int a2] h (f_X11_apart a1 a2 h) := by
  refine Fn.of rfl (Nat.le_of_ble_eq_true rfl) ?_
  unfold f_X11_apart
  refine Sim.aload_n 0 dX11_apart_0 rfl ?_
  refine Sim.iconst (v := (0 : Int32)) dX11_apart_1 rfl ?_
  refine Sim.put fp_X11_128 dX11_apart_2 mI_0 rfl rfl ?_
  refine Sim.lth (fun h1 => ?_)
  refine Sim.iload_n 1 dX11_apart_5 rfl ?_
  refine Sim.iconst (v := (-1 : Int32)) dX11_apart_6 rfl ?_
  refine Sim.icmp_ne 17 dX11_apart_7 rfl ?_ ?_
  · refine Sim.aload_n 0 dX11_apart_10 rfl ?_
    refine Sim.iconst (v := (0 : Int32)) dX11_apart_11 rfl ?_
    refine Sim.put fp_X11_430 dX11_apart_12 mI_45 rfl rfl ?_
    refine Sim.lth (fun h2 => ?_)
    refine Sim.iconst (v := (0 : Int32)) dX11_apart_15 rfl ?_
    exact Sim.iret dX11_apart_16 rfl
  · refine Sim.aload_n 0 dX11_apart_17 rfl ?_
    refine Sim.iload_n 1 dX11_apart_18 rfl ?_
    refine Sim.iconst (v := (0 : Int32)) dX11_apart_19 rfl ?_
    refine Sim.bipush (v := (6 : Int32)) dX11_apart_20 rfl ?_
    refine Sim.callV3I (d1 := 0) (s_X11_isIn a1 (0 : Int32) (6 : Int32) h1) dX11_apart_22 ml_X11_154 mv_X11_isIn mC (Nat.le_of_ble_eq_true rfl) (Nat.le_of_ble_eq_true rfl) (Nat.le_of_ble_eq_true rfl) (fun x3 => ?_)
    refine Sim.if_eq 53 dX11_apart_25 rfl ?_ ?_
    · refine Sim.iconst (v := (-1 : Int32)) dX11_apart_53 rfl ?_
      exact Sim.iret dX11_apart_54 rfl
    · refine Sim.aload_n 0 dX11_apart_28 rfl ?_
      refine Sim.iload_n 2 dX11_apart_29 rfl ?_
      refine Sim.iconst (v := (0 : Int32)) dX11_apart_30 rfl ?_
      refine Sim.bipush (v := (6 : Int32)) dX11_apart_31 rfl ?_
      refine Sim.callV3I (d1 := 0) (s_X11_isIn a2 (0 : Int32) (6 : Int32) x3.2) dX11_apart_33 ml_X11_154 mv_X11_isIn mC (Nat.le_of_ble_eq_true rfl) (Nat.le_of_ble_eq_true rfl) (Nat.le_of_ble_eq_true rfl) (fun x4 => ?_)
      refine Sim.if_eq 53 dX11_apart_36 rfl ?_ ?_
      · refine Sim.iconst (v := (-1 : Int32)) dX11_apart_53 rfl ?_
        exact Sim.iret dX11_apart_54 rfl
      · refine Sim.iload_n 1 dX11_apart_39 rfl ?_
        refine Sim.iload_n 2 dX11_apart_40 rfl ?_
        refine Sim.icmp_eq 53 dX11_apart_41 rfl ?_ ?_
        · refine Sim.iconst (v := (-1 : Int32)) dX11_apart_53 rfl ?_
          exact Sim.iret dX11_apart_54 rfl
        · refine Sim.aload_n 0 dX11_apart_44 rfl ?_
          refine Sim.getI fl_X11_430 dX11_apart_45 mI_45 ?_
          refine Sim.bipush (v := (10 : Int32)) dX11_apart_48 rfl ?_
          refine Sim.icmp_ne 55 dX11_apart_50 rfl ?_ ?_
          · refine Sim.iconst (v := (-1 : Int32)) dX11_apart_53 rfl ?_
            exact Sim.iret dX11_apart_54 rfl
          · refine Sim.aload_n 0 dX11_apart_55 rfl ?_
            refine Sim.getR (j := 24) fl_X11_83 dX11_apart_56 mR_46 ?_
            refine Sim.aload_n 0 dX11_apart_59 rfl ?_
            refine Sim.getI fl_X11_430 dX11_apart_60 mI_45 ?_
            refine Sim.iload_n 1 dX11_apart_63 rfl ?_
            refine Sim.iast (n := 10) dX11_apart_64 mA_24 ?_
            refine Sim.lth (fun h5 => ?_)
            refine Sim.aload_n 0 dX11_apart_65 rfl ?_
            refine Sim.getR (j := 25) fl_X11_86 dX11_apart_66 mR_47 ?_
            refine Sim.aload_n 0 dX11_apart_69 rfl ?_
            refine Sim.getI fl_X11_430 dX11_apart_70 mI_45 ?_
            refine Sim.iload_n 2 dX11_apart_73 rfl ?_
            refine Sim.iast (n := 10) dX11_apart_74 mA_25 ?_
            refine Sim.lth (fun h6 => ?_)
            refine Sim.aload_n 0 dX11_apart_75 rfl ?_
            refine Sim.aload_n 0 dX11_apart_76 rfl ?_
            refine Sim.getI fl_X11_430 dX11_apart_77 mI_45 ?_
            refine Sim.iconst (v := (1 : Int32)) dX11_apart_80 rfl ?_
            refine Sim.iadd dX11_apart_81 ?_
            refine Sim.put fp_X11_430 dX11_apart_82 mI_45 rfl rfl ?_
            refine Sim.lth (fun h7 => ?_)
            refine Sim.aload_n 0 dX11_apart_85 rfl ?_
            refine Sim.getI fl_X11_430 dX11_apart_86 mI_45 ?_
            exact Sim.iret dX11_apart_89 rfl
theorem mv_X11_apart : zMV mX11_apart 2 := ⟨⟨zTb_in 1884 (by decide +kernel) rfl, zTb_in 148 (by decide +kernel) rfl, ⟨by decide +kernel, by decide +kernel⟩, by decide +kernel⟩, zTb_in 1882 (by decide +kernel) rfl, zTb_in 1883 (by decide +kernel) rfl⟩
-- ===== RockingPorchModel.canSitBy(II)Z
abbrev mX11_canSitBy : zMt := (yX11_canSitBy, cX11_canSitBy, 4, some .boolean)
theorem dX11_canSitBy_0 : decode cX11_canSitBy 0 = .ok (.iconst 0, 1) := by decide +kernel
theorem dX11_canSitBy_1 : decode cX11_canSitBy 1 = .ok (.istore_n 3, 1) := by decide +kernel
theorem dX11_canSitBy_2 : decode cX11_canSitBy 2 = .ok (.iload_n 3, 1) := by decide +kernel
theorem dX11_canSitBy_3 : decode cX11_canSitBy 3 = .ok (.aload_n 0, 1) := by decide +kernel
theorem dX11_canSitBy_4 : decode cX11_canSitBy 4 = .ok (.getfield 430, 3) := by decide +kernel
theorem dX11_canSitBy_7 : decode cX11_canSitBy 7 = .ok (.if_icmp .ge 51, 3) := by decide +kernel
theorem dX11_canSitBy_10 : decode cX11_canSitBy 10 = .ok (.aload_n 0, 1) := by decide +kernel
theorem dX11_canSitBy_11 : decode cX11_canSitBy 11 = .ok (.getfield 83, 3) := by decide +kernel
theorem dX11_canSitBy_14 : decode cX11_canSitBy 14 = .ok (.iload_n 3, 1) := by decide +kernel
theorem dX11_canSitBy_15 : decode cX11_canSitBy 15 = .ok (.iaload, 1) := by decide +kernel
theorem dX11_canSitBy_16 : decode cX11_canSitBy 16 = .ok (.iload_n 1, 1) := by decide +kernel
theorem dX11_canSitBy_17 : decode cX11_canSitBy 17 = .ok (.if_icmp .ne 13, 3) := by decide +kernel
theorem dX11_canSitBy_20 : decode cX11_canSitBy 20 = .ok (.aload_n 0, 1) := by decide +kernel
theorem dX11_canSitBy_21 : decode cX11_canSitBy 21 = .ok (.getfield 86, 3) := by decide +kernel
theorem dX11_canSitBy_24 : decode cX11_canSitBy 24 = .ok (.iload_n 3, 1) := by decide +kernel
theorem dX11_canSitBy_25 : decode cX11_canSitBy 25 = .ok (.iaload, 1) := by decide +kernel
theorem dX11_canSitBy_26 : decode cX11_canSitBy 26 = .ok (.iload_n 2, 1) := by decide +kernel
theorem dX11_canSitBy_27 : decode cX11_canSitBy 27 = .ok (.if_icmp .eq 23, 3) := by decide +kernel
theorem dX11_canSitBy_30 : decode cX11_canSitBy 30 = .ok (.aload_n 0, 1) := by decide +kernel
theorem dX11_canSitBy_31 : decode cX11_canSitBy 31 = .ok (.getfield 83, 3) := by decide +kernel
theorem dX11_canSitBy_34 : decode cX11_canSitBy 34 = .ok (.iload_n 3, 1) := by decide +kernel
theorem dX11_canSitBy_35 : decode cX11_canSitBy 35 = .ok (.iaload, 1) := by decide +kernel
theorem dX11_canSitBy_36 : decode cX11_canSitBy 36 = .ok (.iload_n 2, 1) := by decide +kernel
theorem dX11_canSitBy_37 : decode cX11_canSitBy 37 = .ok (.if_icmp .ne 15, 3) := by decide +kernel
theorem dX11_canSitBy_40 : decode cX11_canSitBy 40 = .ok (.aload_n 0, 1) := by decide +kernel
theorem dX11_canSitBy_41 : decode cX11_canSitBy 41 = .ok (.getfield 86, 3) := by decide +kernel
theorem dX11_canSitBy_44 : decode cX11_canSitBy 44 = .ok (.iload_n 3, 1) := by decide +kernel
theorem dX11_canSitBy_45 : decode cX11_canSitBy 45 = .ok (.iaload, 1) := by decide +kernel
theorem dX11_canSitBy_46 : decode cX11_canSitBy 46 = .ok (.iload_n 1, 1) := by decide +kernel
theorem dX11_canSitBy_47 : decode cX11_canSitBy 47 = .ok (.if_icmp .ne 5, 3) := by decide +kernel
theorem dX11_canSitBy_50 : decode cX11_canSitBy 50 = .ok (.iconst 0, 1) := by decide +kernel
theorem dX11_canSitBy_51 : decode cX11_canSitBy 51 = .ok (.ireturn, 1) := by decide +kernel
theorem dX11_canSitBy_52 : decode cX11_canSitBy 52 = .ok (.iinc 3 1, 3) := by decide +kernel
theorem dX11_canSitBy_55 : decode cX11_canSitBy 55 = .ok (.goto (-53), 3) := by decide +kernel
theorem dX11_canSitBy_58 : decode cX11_canSitBy 58 = .ok (.iconst 1, 1) := by decide +kernel
theorem dX11_canSitBy_59 : decode cX11_canSitBy 59 = .ok (.ireturn, 1) := by decide +kernel
def f_X11_canSitBy_30  (k2 : Int32 × Int32 × Int32 × zHp → Option (Int32 × zHp)) (v1 : Int32) (v2 : Int32) (v3 : Int32) (h : zHp) : Option (Int32 × zHp) := zix v3 10 ((if (h 24 v3.toNatClampNeg) = v2 then zix v3 10 ((if (h 25 v3.toNatClampNeg) = v1 then some ((0 : Int32), h) else k2 (v1, v2, (v3 + (1 : Int32)), h))) else k2 (v1, v2, (v3 + (1 : Int32)), h)))
set_option maxHeartbeats 4000000 in
set_option maxRecDepth 100000 in
theorem f_X11_canSitBy_30_s  (k2 : Int32 × Int32 × Int32 × zHp → Option (Int32 × zHp)) (H2 : ∀ v : Int32 × Int32 × Int32 × zHp, Sim wM mX11_canSitBy 0 rI 2 [(0, .ref 0), (1, .int v.1), (2, .int v.2.1), (3, .int v.2.2.1)] [] v.2.2.2 (k2 v)) (v1 : Int32) (v2 : Int32) (v3 : Int32) (h : zHp) : Sim wM mX11_canSitBy 0 rI 30 [(0, .ref 0), (1, .int v1), (2, .int v2), (3, .int v3)] [] h (f_X11_canSitBy_30 k2 v1 v2 v3 h) := by
  unfold f_X11_canSitBy_30
  refine Sim.aload_n 0 dX11_canSitBy_30 rfl ?_
  refine Sim.getR (j := 24) fl_X11_83 dX11_canSitBy_31 mR_46 ?_
  refine Sim.iload_n 3 dX11_canSitBy_34 rfl ?_
  refine Sim.iald (n := 10) dX11_canSitBy_35 mA_24 ?_
  refine Sim.iload_n 2 dX11_canSitBy_36 rfl ?_
  refine Sim.icmp_ne 52 dX11_canSitBy_37 rfl ?_ ?_
  · refine Sim.aload_n 0 dX11_canSitBy_40 rfl ?_
    refine Sim.getR (j := 25) fl_X11_86 dX11_canSitBy_41 mR_47 ?_
    refine Sim.iload_n 3 dX11_canSitBy_44 rfl ?_
    refine Sim.iald (n := 10) dX11_canSitBy_45 mA_25 ?_
    refine Sim.iload_n 1 dX11_canSitBy_46 rfl ?_
    refine Sim.icmp_ne 52 dX11_canSitBy_47 rfl ?_ ?_
    · refine Sim.iconst (v := (0 : Int32)) dX11_canSitBy_50 rfl ?_
      exact Sim.nret dX11_canSitBy_51 rfl rfl
    · refine Sim.iinc (L' := [(3, .int (v3 + (1 : Int32))), (0, .ref 0), (1, .int v1), (2, .int v2)]) 3 dX11_canSitBy_52 rfl rfl (Nat.le_of_ble_eq_true rfl) rfl ?_
      refine Sim.goto 2 dX11_canSitBy_55 rfl ?_
      refine Sim.locs [1, 2, 3, 0] rfl ?_
      exact H2 (v1, v2, (v3 + (1 : Int32)), h)
  · refine Sim.iinc (L' := [(3, .int (v3 + (1 : Int32))), (0, .ref 0), (1, .int v1), (2, .int v2)]) 3 dX11_canSitBy_52 rfl rfl (Nat.le_of_ble_eq_true rfl) rfl ?_
    refine Sim.goto 2 dX11_canSitBy_55 rfl ?_
    refine Sim.locs [1, 2, 3, 0] rfl ?_
    exact H2 (v1, v2, (v3 + (1 : Int32)), h)
def f_X11_canSitBy_2  (k2 : Int32 × Int32 × Int32 × zHp → Option (Int32 × zHp)) (v1 : Int32) (v2 : Int32) (v3 : Int32) (h : zHp) : Option (Int32 × zHp) := (if v3 < (h 0 45) then zix v3 10 ((if (h 24 v3.toNatClampNeg) = v1 then zix v3 10 ((if (h 25 v3.toNatClampNeg) = v2 then some ((0 : Int32), h) else f_X11_canSitBy_30 k2 v1 v2 v3 h)) else f_X11_canSitBy_30 k2 v1 v2 v3 h)) else some ((1 : Int32), h))
set_option maxHeartbeats 4000000 in
set_option maxRecDepth 100000 in
theorem f_X11_canSitBy_2_s  (k2 : Int32 × Int32 × Int32 × zHp → Option (Int32 × zHp)) (H2 : ∀ v : Int32 × Int32 × Int32 × zHp, Sim wM mX11_canSitBy 0 rI 2 [(0, .ref 0), (1, .int v.1), (2, .int v.2.1), (3, .int v.2.2.1)] [] v.2.2.2 (k2 v)) (v1 : Int32) (v2 : Int32) (v3 : Int32) (h : zHp) : Sim wM mX11_canSitBy 0 rI 2 [(0, .ref 0), (1, .int v1), (2, .int v2), (3, .int v3)] [] h (f_X11_canSitBy_2 k2 v1 v2 v3 h) := by
  unfold f_X11_canSitBy_2
  refine Sim.iload_n 3 dX11_canSitBy_2 rfl ?_
  refine Sim.aload_n 0 dX11_canSitBy_3 rfl ?_
  refine Sim.getI fl_X11_430 dX11_canSitBy_4 mI_45 ?_
  refine Sim.icmp_ge 58 dX11_canSitBy_7 rfl ?_ ?_
  · refine Sim.aload_n 0 dX11_canSitBy_10 rfl ?_
    refine Sim.getR (j := 24) fl_X11_83 dX11_canSitBy_11 mR_46 ?_
    refine Sim.iload_n 3 dX11_canSitBy_14 rfl ?_
    refine Sim.iald (n := 10) dX11_canSitBy_15 mA_24 ?_
    refine Sim.iload_n 1 dX11_canSitBy_16 rfl ?_
    refine Sim.icmp_ne 30 dX11_canSitBy_17 rfl ?_ ?_
    · refine Sim.aload_n 0 dX11_canSitBy_20 rfl ?_
      refine Sim.getR (j := 25) fl_X11_86 dX11_canSitBy_21 mR_47 ?_
      refine Sim.iload_n 3 dX11_canSitBy_24 rfl ?_
      refine Sim.iald (n := 10) dX11_canSitBy_25 mA_25 ?_
      refine Sim.iload_n 2 dX11_canSitBy_26 rfl ?_
      refine Sim.icmp_eq 50 dX11_canSitBy_27 rfl ?_ ?_
      · refine Sim.iconst (v := (0 : Int32)) dX11_canSitBy_50 rfl ?_
        exact Sim.nret dX11_canSitBy_51 rfl rfl
      · exact f_X11_canSitBy_30_s k2 H2 v1 v2 v3 h
    · exact f_X11_canSitBy_30_s k2 H2 v1 v2 v3 h
  · refine Sim.iconst (v := (1 : Int32)) dX11_canSitBy_58 rfl ?_
    exact Sim.nret dX11_canSitBy_59 rfl rfl
def f_X11_canSitBy_2_lp   (n : Nat) (v : Int32 × Int32 × Int32 × zHp) : Option (Int32 × zHp) := zlp (fun k2 v => f_X11_canSitBy_2 k2 v.1 v.2.1 v.2.2.1 v.2.2.2) n v
theorem f_X11_canSitBy_2_ls  (n : Nat) (v : Int32 × Int32 × Int32 × zHp) : Sim wM mX11_canSitBy 0 rI 2 [(0, .ref 0), (1, .int v.1), (2, .int v.2.1), (3, .int v.2.2.1)] [] v.2.2.2 (f_X11_canSitBy_2_lp n v) :=
  Sim.lp (V := Int32 × Int32 × Int32 × zHp) (Lf := fun v => [(0, .ref 0), (1, .int v.1), (2, .int v.2.1), (3, .int v.2.2.1)]) (sf := fun v => []) (hf := fun v => v.2.2.2) (fun k2 H2 v => f_X11_canSitBy_2_s k2 H2 v.1 v.2.1 v.2.2.1 v.2.2.2) n v
def f_X11_canSitBy  (a1 : Int32) (a2 : Int32) (h : zHp) : Option (Int32 × zHp) := f_X11_canSitBy_2_lp  zN (a1, a2, (0 : Int32), h)
set_option maxHeartbeats 4000000 in
set_option maxRecDepth 100000 in
theorem s_X11_canSitBy  (a1 : Int32) (a2 : Int32) (h : zHp) : Fn wM mX11_canSitBy 0 rI [.ref 0, .int a1, .int a2] h (f_X11_canSitBy a1 a2 h) := by
  refine Fn.of rfl (Nat.le_of_ble_eq_true rfl) ?_
  unfold f_X11_canSitBy
  refine Sim.iconst (v := (0 : Int32)) dX11_canSitBy_0 rfl ?_
  refine Sim.istore_n (L' := [(3, .int (0 : Int32)), (0, .ref 0), (1, .int a1), (2, .int a2)]) dX11_canSitBy_1 (Nat.le_of_ble_eq_true rfl) rfl ?_
  refine Sim.locs [1, 2, 3, 0] rfl ?_
  exact f_X11_canSitBy_2_ls  zN (a1, a2, (0 : Int32), h)
theorem mv_X11_canSitBy : zMV mX11_canSitBy 2 := ⟨⟨zTb_in 1900 (by decide +kernel) rfl, zTb_in 148 (by decide +kernel) rfl, ⟨by decide +kernel, by decide +kernel⟩, by decide +kernel⟩, zTb_in 1899 (by decide +kernel) rfl, zTb_in 116 (by decide +kernel) rfl⟩
-- ===== RockingPorchModel.ordersFrom(IIZ)I
abbrev mX11_ordersFrom : zMt := (yX11_ordersFrom, cX11_ordersFrom, 9, some .int)
theorem fl_X11_89 : zF RX11 89 11 48 := ⟨RX11, TX11, 69, rfl, Nat.le_of_ble_eq_true rfl, zTb_in 1347 (by decide +kernel) rfl, in_X11⟩
theorem ml_X11_433 : Cond.methodLink RX11 433 yX11_has ∈ zTb := zTb_in 1893 (by decide +kernel) rfl
theorem ml_X11_436 : Cond.methodLink RX11 436 yX11_canSitBy ∈ zTb := zTb_in 1897 (by decide +kernel) rfl
theorem dX11_ordersFrom_0 : decode cX11_ordersFrom 0 = .ok (.iconst 0, 1) := by decide +kernel
theorem dX11_ordersFrom_1 : decode cX11_ordersFrom 1 = .ok (.istore 4, 2) := by decide +kernel
theorem dX11_ordersFrom_3 : decode cX11_ordersFrom 3 = .ok (.iload 4, 2) := by decide +kernel
theorem dX11_ordersFrom_5 : decode cX11_ordersFrom 5 = .ok (.bipush 7, 2) := by decide +kernel
theorem dX11_ordersFrom_7 : decode cX11_ordersFrom 7 = .ok (.iload_n 1, 1) := by decide +kernel
theorem dX11_ordersFrom_8 : decode cX11_ordersFrom 8 = .ok (.ishl, 1) := by decide +kernel
theorem dX11_ordersFrom_9 : decode cX11_ordersFrom 9 = .ok (.if_icmp .ge 17, 3) := by decide +kernel
theorem dX11_ordersFrom_12 : decode cX11_ordersFrom 12 = .ok (.aload_n 0, 1) := by decide +kernel
theorem dX11_ordersFrom_13 : decode cX11_ordersFrom 13 = .ok (.getfield 89, 3) := by decide +kernel
theorem dX11_ordersFrom_16 : decode cX11_ordersFrom 16 = .ok (.iload 4, 2) := by decide +kernel
theorem dX11_ordersFrom_18 : decode cX11_ordersFrom 18 = .ok (.iconst 0, 1) := by decide +kernel
theorem dX11_ordersFrom_19 : decode cX11_ordersFrom 19 = .ok (.iastore, 1) := by decide +kernel
theorem dX11_ordersFrom_20 : decode cX11_ordersFrom 20 = .ok (.iinc 4 1, 3) := by decide +kernel
theorem dX11_ordersFrom_23 : decode cX11_ordersFrom 23 = .ok (.goto (-20), 3) := by decide +kernel
theorem dX11_ordersFrom_26 : decode cX11_ordersFrom 26 = .ok (.aload_n 0, 1) := by decide +kernel
theorem dX11_ordersFrom_27 : decode cX11_ordersFrom 27 = .ok (.getfield 89, 3) := by decide +kernel
theorem dX11_ordersFrom_30 : decode cX11_ordersFrom 30 = .ok (.bipush 7, 2) := by decide +kernel
theorem dX11_ordersFrom_32 : decode cX11_ordersFrom 32 = .ok (.iconst 1, 1) := by decide +kernel
theorem dX11_ordersFrom_33 : decode cX11_ordersFrom 33 = .ok (.iload_n 2, 1) := by decide +kernel
theorem dX11_ordersFrom_34 : decode cX11_ordersFrom 34 = .ok (.ishl, 1) := by decide +kernel
theorem dX11_ordersFrom_35 : decode cX11_ordersFrom 35 = .ok (.imul, 1) := by decide +kernel
theorem dX11_ordersFrom_36 : decode cX11_ordersFrom 36 = .ok (.iload_n 2, 1) := by decide +kernel
theorem dX11_ordersFrom_37 : decode cX11_ordersFrom 37 = .ok (.iadd, 1) := by decide +kernel
theorem dX11_ordersFrom_38 : decode cX11_ordersFrom 38 = .ok (.iconst 1, 1) := by decide +kernel
theorem dX11_ordersFrom_39 : decode cX11_ordersFrom 39 = .ok (.iastore, 1) := by decide +kernel
theorem dX11_ordersFrom_40 : decode cX11_ordersFrom 40 = .ok (.iconst 1, 1) := by decide +kernel
theorem dX11_ordersFrom_41 : decode cX11_ordersFrom 41 = .ok (.iload_n 1, 1) := by decide +kernel
theorem dX11_ordersFrom_42 : decode cX11_ordersFrom 42 = .ok (.ishl, 1) := by decide +kernel
theorem dX11_ordersFrom_43 : decode cX11_ordersFrom 43 = .ok (.iconst 1, 1) := by decide +kernel
theorem dX11_ordersFrom_44 : decode cX11_ordersFrom 44 = .ok (.isub, 1) := by decide +kernel
theorem dX11_ordersFrom_45 : decode cX11_ordersFrom 45 = .ok (.istore 4, 2) := by decide +kernel
theorem dX11_ordersFrom_47 : decode cX11_ordersFrom 47 = .ok (.iconst 1, 1) := by decide +kernel
theorem dX11_ordersFrom_48 : decode cX11_ordersFrom 48 = .ok (.istore 5, 2) := by decide +kernel
theorem dX11_ordersFrom_50 : decode cX11_ordersFrom 50 = .ok (.iload 5, 2) := by decide +kernel
theorem dX11_ordersFrom_52 : decode cX11_ordersFrom 52 = .ok (.iload 4, 2) := by decide +kernel
theorem dX11_ordersFrom_54 : decode cX11_ordersFrom 54 = .ok (.if_icmp .gt 123, 3) := by decide +kernel
theorem dX11_ordersFrom_57 : decode cX11_ordersFrom 57 = .ok (.iconst 0, 1) := by decide +kernel
theorem dX11_ordersFrom_58 : decode cX11_ordersFrom 58 = .ok (.istore 6, 2) := by decide +kernel
theorem dX11_ordersFrom_60 : decode cX11_ordersFrom 60 = .ok (.iload 6, 2) := by decide +kernel
theorem dX11_ordersFrom_62 : decode cX11_ordersFrom 62 = .ok (.iload_n 1, 1) := by decide +kernel
theorem dX11_ordersFrom_63 : decode cX11_ordersFrom 63 = .ok (.if_icmp .ge 108, 3) := by decide +kernel
theorem dX11_ordersFrom_66 : decode cX11_ordersFrom 66 = .ok (.aload_n 0, 1) := by decide +kernel
theorem dX11_ordersFrom_67 : decode cX11_ordersFrom 67 = .ok (.getfield 89, 3) := by decide +kernel
theorem dX11_ordersFrom_70 : decode cX11_ordersFrom 70 = .ok (.bipush 7, 2) := by decide +kernel
theorem dX11_ordersFrom_72 : decode cX11_ordersFrom 72 = .ok (.iload 5, 2) := by decide +kernel
theorem dX11_ordersFrom_74 : decode cX11_ordersFrom 74 = .ok (.imul, 1) := by decide +kernel
theorem dX11_ordersFrom_75 : decode cX11_ordersFrom 75 = .ok (.iload 6, 2) := by decide +kernel
theorem dX11_ordersFrom_77 : decode cX11_ordersFrom 77 = .ok (.iadd, 1) := by decide +kernel
theorem dX11_ordersFrom_78 : decode cX11_ordersFrom 78 = .ok (.iaload, 1) := by decide +kernel
theorem dX11_ordersFrom_79 : decode cX11_ordersFrom 79 = .ok (.istore 7, 2) := by decide +kernel
theorem dX11_ordersFrom_81 : decode cX11_ordersFrom 81 = .ok (.iload 7, 2) := by decide +kernel
theorem dX11_ordersFrom_83 : decode cX11_ordersFrom 83 = .ok (.ifCond .ne 6, 3) := by decide +kernel
theorem dX11_ordersFrom_86 : decode cX11_ordersFrom 86 = .ok (.goto 79, 3) := by decide +kernel
theorem dX11_ordersFrom_89 : decode cX11_ordersFrom 89 = .ok (.iconst 0, 1) := by decide +kernel
theorem dX11_ordersFrom_90 : decode cX11_ordersFrom 90 = .ok (.istore 8, 2) := by decide +kernel
theorem dX11_ordersFrom_92 : decode cX11_ordersFrom 92 = .ok (.iload 8, 2) := by decide +kernel
theorem dX11_ordersFrom_94 : decode cX11_ordersFrom 94 = .ok (.iload_n 1, 1) := by decide +kernel
theorem dX11_ordersFrom_95 : decode cX11_ordersFrom 95 = .ok (.if_icmp .ge 70, 3) := by decide +kernel
theorem dX11_ordersFrom_98 : decode cX11_ordersFrom 98 = .ok (.aload_n 0, 1) := by decide +kernel
theorem dX11_ordersFrom_99 : decode cX11_ordersFrom 99 = .ok (.iload 5, 2) := by decide +kernel
theorem dX11_ordersFrom_101 : decode cX11_ordersFrom 101 = .ok (.iload 8, 2) := by decide +kernel
theorem dX11_ordersFrom_103 : decode cX11_ordersFrom 103 = .ok (.invokevirtual 433, 3) := by decide +kernel
theorem dX11_ordersFrom_106 : decode cX11_ordersFrom 106 = .ok (.ifCond .ne 53, 3) := by decide +kernel
theorem dX11_ordersFrom_109 : decode cX11_ordersFrom 109 = .ok (.aload_n 0, 1) := by decide +kernel
theorem dX11_ordersFrom_110 : decode cX11_ordersFrom 110 = .ok (.iload 6, 2) := by decide +kernel
theorem dX11_ordersFrom_112 : decode cX11_ordersFrom 112 = .ok (.iload 8, 2) := by decide +kernel
theorem dX11_ordersFrom_114 : decode cX11_ordersFrom 114 = .ok (.invokevirtual 436, 3) := by decide +kernel
theorem dX11_ordersFrom_117 : decode cX11_ordersFrom 117 = .ok (.ifCond .eq 42, 3) := by decide +kernel
theorem dX11_ordersFrom_120 : decode cX11_ordersFrom 120 = .ok (.aload_n 0, 1) := by decide +kernel
theorem dX11_ordersFrom_121 : decode cX11_ordersFrom 121 = .ok (.getfield 89, 3) := by decide +kernel
theorem dX11_ordersFrom_124 : decode cX11_ordersFrom 124 = .ok (.bipush 7, 2) := by decide +kernel
theorem dX11_ordersFrom_126 : decode cX11_ordersFrom 126 = .ok (.iload 5, 2) := by decide +kernel
theorem dX11_ordersFrom_128 : decode cX11_ordersFrom 128 = .ok (.iconst 1, 1) := by decide +kernel
theorem dX11_ordersFrom_129 : decode cX11_ordersFrom 129 = .ok (.iload 8, 2) := by decide +kernel
theorem dX11_ordersFrom_131 : decode cX11_ordersFrom 131 = .ok (.ishl, 1) := by decide +kernel
theorem dX11_ordersFrom_132 : decode cX11_ordersFrom 132 = .ok (.ior, 1) := by decide +kernel
theorem dX11_ordersFrom_133 : decode cX11_ordersFrom 133 = .ok (.imul, 1) := by decide +kernel
theorem dX11_ordersFrom_134 : decode cX11_ordersFrom 134 = .ok (.iload 8, 2) := by decide +kernel
theorem dX11_ordersFrom_136 : decode cX11_ordersFrom 136 = .ok (.iadd, 1) := by decide +kernel
theorem dX11_ordersFrom_137 : decode cX11_ordersFrom 137 = .ok (.aload_n 0, 1) := by decide +kernel
theorem dX11_ordersFrom_138 : decode cX11_ordersFrom 138 = .ok (.getfield 89, 3) := by decide +kernel
theorem dX11_ordersFrom_141 : decode cX11_ordersFrom 141 = .ok (.bipush 7, 2) := by decide +kernel
theorem dX11_ordersFrom_143 : decode cX11_ordersFrom 143 = .ok (.iload 5, 2) := by decide +kernel
theorem dX11_ordersFrom_145 : decode cX11_ordersFrom 145 = .ok (.iconst 1, 1) := by decide +kernel
theorem dX11_ordersFrom_146 : decode cX11_ordersFrom 146 = .ok (.iload 8, 2) := by decide +kernel
theorem dX11_ordersFrom_148 : decode cX11_ordersFrom 148 = .ok (.ishl, 1) := by decide +kernel
theorem dX11_ordersFrom_149 : decode cX11_ordersFrom 149 = .ok (.ior, 1) := by decide +kernel
theorem dX11_ordersFrom_150 : decode cX11_ordersFrom 150 = .ok (.imul, 1) := by decide +kernel
theorem dX11_ordersFrom_151 : decode cX11_ordersFrom 151 = .ok (.iload 8, 2) := by decide +kernel
theorem dX11_ordersFrom_153 : decode cX11_ordersFrom 153 = .ok (.iadd, 1) := by decide +kernel
theorem dX11_ordersFrom_154 : decode cX11_ordersFrom 154 = .ok (.iaload, 1) := by decide +kernel
theorem dX11_ordersFrom_155 : decode cX11_ordersFrom 155 = .ok (.iload 7, 2) := by decide +kernel
theorem dX11_ordersFrom_157 : decode cX11_ordersFrom 157 = .ok (.iadd, 1) := by decide +kernel
theorem dX11_ordersFrom_158 : decode cX11_ordersFrom 158 = .ok (.iastore, 1) := by decide +kernel
theorem dX11_ordersFrom_159 : decode cX11_ordersFrom 159 = .ok (.iinc 8 1, 3) := by decide +kernel
theorem dX11_ordersFrom_162 : decode cX11_ordersFrom 162 = .ok (.goto (-70), 3) := by decide +kernel
theorem dX11_ordersFrom_165 : decode cX11_ordersFrom 165 = .ok (.iinc 6 1, 3) := by decide +kernel
theorem dX11_ordersFrom_168 : decode cX11_ordersFrom 168 = .ok (.goto (-108), 3) := by decide +kernel
theorem dX11_ordersFrom_171 : decode cX11_ordersFrom 171 = .ok (.iinc 5 1, 3) := by decide +kernel
theorem dX11_ordersFrom_174 : decode cX11_ordersFrom 174 = .ok (.goto (-124), 3) := by decide +kernel
theorem dX11_ordersFrom_177 : decode cX11_ordersFrom 177 = .ok (.iconst 0, 1) := by decide +kernel
theorem dX11_ordersFrom_178 : decode cX11_ordersFrom 178 = .ok (.istore 5, 2) := by decide +kernel
theorem dX11_ordersFrom_180 : decode cX11_ordersFrom 180 = .ok (.iconst 0, 1) := by decide +kernel
theorem dX11_ordersFrom_181 : decode cX11_ordersFrom 181 = .ok (.istore 6, 2) := by decide +kernel
theorem dX11_ordersFrom_183 : decode cX11_ordersFrom 183 = .ok (.iload 6, 2) := by decide +kernel
theorem dX11_ordersFrom_185 : decode cX11_ordersFrom 185 = .ok (.iload_n 1, 1) := by decide +kernel
theorem dX11_ordersFrom_186 : decode cX11_ordersFrom 186 = .ok (.if_icmp .ge 46, 3) := by decide +kernel
theorem dX11_ordersFrom_189 : decode cX11_ordersFrom 189 = .ok (.iload_n 3, 1) := by decide +kernel
theorem dX11_ordersFrom_190 : decode cX11_ordersFrom 190 = .ok (.ifCond .eq 18, 3) := by decide +kernel
theorem dX11_ordersFrom_193 : decode cX11_ordersFrom 193 = .ok (.iload_n 1, 1) := by decide +kernel
theorem dX11_ordersFrom_194 : decode cX11_ordersFrom 194 = .ok (.iconst 1, 1) := by decide +kernel
theorem dX11_ordersFrom_195 : decode cX11_ordersFrom 195 = .ok (.if_icmp .eq 13, 3) := by decide +kernel
theorem dX11_ordersFrom_198 : decode cX11_ordersFrom 198 = .ok (.aload_n 0, 1) := by decide +kernel
theorem dX11_ordersFrom_199 : decode cX11_ordersFrom 199 = .ok (.iload 6, 2) := by decide +kernel
theorem dX11_ordersFrom_201 : decode cX11_ordersFrom 201 = .ok (.iload_n 2, 1) := by decide +kernel
theorem dX11_ordersFrom_202 : decode cX11_ordersFrom 202 = .ok (.invokevirtual 436, 3) := by decide +kernel
theorem dX11_ordersFrom_205 : decode cX11_ordersFrom 205 = .ok (.ifCond .eq 21, 3) := by decide +kernel
theorem dX11_ordersFrom_208 : decode cX11_ordersFrom 208 = .ok (.iload 5, 2) := by decide +kernel
theorem dX11_ordersFrom_210 : decode cX11_ordersFrom 210 = .ok (.aload_n 0, 1) := by decide +kernel
theorem dX11_ordersFrom_211 : decode cX11_ordersFrom 211 = .ok (.getfield 89, 3) := by decide +kernel
theorem dX11_ordersFrom_214 : decode cX11_ordersFrom 214 = .ok (.bipush 7, 2) := by decide +kernel
theorem dX11_ordersFrom_216 : decode cX11_ordersFrom 216 = .ok (.iload 4, 2) := by decide +kernel
theorem dX11_ordersFrom_218 : decode cX11_ordersFrom 218 = .ok (.imul, 1) := by decide +kernel
theorem dX11_ordersFrom_219 : decode cX11_ordersFrom 219 = .ok (.iload 6, 2) := by decide +kernel
theorem dX11_ordersFrom_221 : decode cX11_ordersFrom 221 = .ok (.iadd, 1) := by decide +kernel
theorem dX11_ordersFrom_222 : decode cX11_ordersFrom 222 = .ok (.iaload, 1) := by decide +kernel
theorem dX11_ordersFrom_223 : decode cX11_ordersFrom 223 = .ok (.iadd, 1) := by decide +kernel
theorem dX11_ordersFrom_224 : decode cX11_ordersFrom 224 = .ok (.istore 5, 2) := by decide +kernel
theorem dX11_ordersFrom_226 : decode cX11_ordersFrom 226 = .ok (.iinc 6 1, 3) := by decide +kernel
theorem dX11_ordersFrom_229 : decode cX11_ordersFrom 229 = .ok (.goto (-46), 3) := by decide +kernel
theorem dX11_ordersFrom_232 : decode cX11_ordersFrom 232 = .ok (.iload 5, 2) := by decide +kernel
theorem dX11_ordersFrom_234 : decode cX11_ordersFrom 234 = .ok (.ireturn, 1) := by decide +kernel
def f_X11_ordersFrom_208  (k183 : Int32 × Int32 × Int32 × Int32 × Int32 × Int32 × zHp → Option (Int32 × zHp)) (v1 : Int32) (v2 : Int32) (v3 : Int32) (v4 : Int32) (v5 : Int32) (v6 : Int32) (h : zHp) : Option (Int32 × zHp) := zix (((7 : Int32) * v4) + v6) 896 (zlt (v5 + (h 26 (((7 : Int32) * v4) + v6).toNatClampNeg)) fun x1 => k183 (v1, v2, v3, v4, x1, (v6 + (1 : Int32)), h))
set_option maxHeartbeats 4000000 in
set_option maxRecDepth 100000 in
theorem f_X11_ordersFrom_208_s  (k183 : Int32 × Int32 × Int32 × Int32 × Int32 × Int32 × zHp → Option (Int32 × zHp)) (H183 : ∀ v : Int32 × Int32 × Int32 × Int32 × Int32 × Int32 × zHp, Sim wM mX11_ordersFrom 1 rI 183 [(0, .ref 0), (1, .int v.1), (2, .int v.2.1), (3, .int v.2.2.1), (4, .int v.2.2.2.1), (5, .int v.2.2.2.2.1), (6, .int v.2.2.2.2.2.1)] [] v.2.2.2.2.2.2 (k183 v)) (v1 : Int32) (v2 : Int32) (v3 : Int32) (v4 : Int32) (v5 : Int32) (v6 : Int32) (h : zHp) : Sim wM mX11_ordersFrom 1 rI 208 [(0, .ref 0), (1, .int v1), (2, .int v2), (3, .int v3), (4, .int v4), (5, .int v5), (6, .int v6)] [] h (f_X11_ordersFrom_208 k183 v1 v2 v3 v4 v5 v6 h) := by
  unfold f_X11_ordersFrom_208
  refine Sim.iload 5 dX11_ordersFrom_208 rfl ?_
  refine Sim.aload_n 0 dX11_ordersFrom_210 rfl ?_
  refine Sim.getR (j := 26) fl_X11_89 dX11_ordersFrom_211 mR_48 ?_
  refine Sim.bipush (v := (7 : Int32)) dX11_ordersFrom_214 rfl ?_
  refine Sim.iload 4 dX11_ordersFrom_216 rfl ?_
  refine Sim.imul dX11_ordersFrom_218 ?_
  refine Sim.iload 6 dX11_ordersFrom_219 rfl ?_
  refine Sim.iadd dX11_ordersFrom_221 ?_
  refine Sim.iald (n := 896) dX11_ordersFrom_222 mA_26 ?_
  refine Sim.iadd dX11_ordersFrom_223 ?_
  refine Sim.lti (fun x1 => ?_)
  refine Sim.istore (L' := [(5, .int x1), (0, .ref 0), (1, .int v1), (2, .int v2), (3, .int v3), (4, .int v4), (6, .int v6)]) dX11_ordersFrom_224 (Nat.le_of_ble_eq_true rfl) rfl ?_
  refine Sim.iinc (L' := [(6, .int (v6 + (1 : Int32))), (5, .int x1), (0, .ref 0), (1, .int v1), (2, .int v2), (3, .int v3), (4, .int v4)]) 6 dX11_ordersFrom_226 rfl rfl (Nat.le_of_ble_eq_true rfl) rfl ?_
  refine Sim.goto 183 dX11_ordersFrom_229 rfl ?_
  refine Sim.locs [2, 3, 4, 5, 6, 1, 0] rfl ?_
  exact H183 (v1, v2, v3, v4, x1, (v6 + (1 : Int32)), h)
def f_X11_ordersFrom_183  (k183 : Int32 × Int32 × Int32 × Int32 × Int32 × Int32 × zHp → Option (Int32 × zHp)) (v1 : Int32) (v2 : Int32) (v3 : Int32) (v4 : Int32) (v5 : Int32) (v6 : Int32) (h : zHp) : Option (Int32 × zHp) := (if v6 < v1 then (if v3 = 0 then f_X11_ordersFrom_208 k183 v1 v2 v3 v4 v5 v6 h else (if v1 = (1 : Int32) then f_X11_ordersFrom_208 k183 v1 v2 v3 v4 v5 v6 h else (f_X11_canSitBy v6 v2 h).bind fun x1 => (if x1.1 = 0 then k183 (v1, v2, v3, v4, v5, (v6 + (1 : Int32)), x1.2) else f_X11_ordersFrom_208 k183 v1 v2 v3 v4 v5 v6 x1.2))) else some (v5, h))
set_option maxHeartbeats 4000000 in
set_option maxRecDepth 100000 in
theorem f_X11_ordersFrom_183_s  (k183 : Int32 × Int32 × Int32 × Int32 × Int32 × Int32 × zHp → Option (Int32 × zHp)) (H183 : ∀ v : Int32 × Int32 × Int32 × Int32 × Int32 × Int32 × zHp, Sim wM mX11_ordersFrom 1 rI 183 [(0, .ref 0), (1, .int v.1), (2, .int v.2.1), (3, .int v.2.2.1), (4, .int v.2.2.2.1), (5, .int v.2.2.2.2.1), (6, .int v.2.2.2.2.2.1)] [] v.2.2.2.2.2.2 (k183 v)) (v1 : Int32) (v2 : Int32) (v3 : Int32) (v4 : Int32) (v5 : Int32) (v6 : Int32) (h : zHp) : Sim wM mX11_ordersFrom 1 rI 183 [(0, .ref 0), (1, .int v1), (2, .int v2), (3, .int v3), (4, .int v4), (5, .int v5), (6, .int v6)] [] h (f_X11_ordersFrom_183 k183 v1 v2 v3 v4 v5 v6 h) := by
  unfold f_X11_ordersFrom_183
  refine Sim.iload 6 dX11_ordersFrom_183 rfl ?_
  refine Sim.iload_n 1 dX11_ordersFrom_185 rfl ?_
  refine Sim.icmp_ge 232 dX11_ordersFrom_186 rfl ?_ ?_
  · refine Sim.iload_n 3 dX11_ordersFrom_189 rfl ?_
    refine Sim.if_eq 208 dX11_ordersFrom_190 rfl ?_ ?_
    · exact f_X11_ordersFrom_208_s k183 H183 v1 v2 v3 v4 v5 v6 h
    · refine Sim.iload_n 1 dX11_ordersFrom_193 rfl ?_
      refine Sim.iconst (v := (1 : Int32)) dX11_ordersFrom_194 rfl ?_
      refine Sim.icmp_eq 208 dX11_ordersFrom_195 rfl ?_ ?_
      · exact f_X11_ordersFrom_208_s k183 H183 v1 v2 v3 v4 v5 v6 h
      · refine Sim.aload_n 0 dX11_ordersFrom_198 rfl ?_
        refine Sim.iload 6 dX11_ordersFrom_199 rfl ?_
        refine Sim.iload_n 2 dX11_ordersFrom_201 rfl ?_
        refine Sim.callV2I (d1 := 0) (s_X11_canSitBy v6 v2 h) dX11_ordersFrom_202 ml_X11_436 mv_X11_canSitBy mC (Nat.le_of_ble_eq_true rfl) (Nat.le_of_ble_eq_true rfl) (Nat.le_of_ble_eq_true rfl) (fun x1 => ?_)
        refine Sim.if_eq 226 dX11_ordersFrom_205 rfl ?_ ?_
        · refine Sim.iinc (L' := [(6, .int (v6 + (1 : Int32))), (0, .ref 0), (1, .int v1), (2, .int v2), (3, .int v3), (4, .int v4), (5, .int v5)]) 6 dX11_ordersFrom_226 rfl rfl (Nat.le_of_ble_eq_true rfl) rfl ?_
          refine Sim.goto 183 dX11_ordersFrom_229 rfl ?_
          refine Sim.locs [1, 2, 3, 4, 5, 6, 0] rfl ?_
          exact H183 (v1, v2, v3, v4, v5, (v6 + (1 : Int32)), x1.2)
        · exact f_X11_ordersFrom_208_s k183 H183 v1 v2 v3 v4 v5 v6 x1.2
  · refine Sim.iload 5 dX11_ordersFrom_232 rfl ?_
    exact Sim.iret dX11_ordersFrom_234 rfl
def f_X11_ordersFrom_183_lp   (n : Nat) (v : Int32 × Int32 × Int32 × Int32 × Int32 × Int32 × zHp) : Option (Int32 × zHp) := zlp (fun k183 v => f_X11_ordersFrom_183 k183 v.1 v.2.1 v.2.2.1 v.2.2.2.1 v.2.2.2.2.1 v.2.2.2.2.2.1 v.2.2.2.2.2.2) n v
theorem f_X11_ordersFrom_183_ls  (n : Nat) (v : Int32 × Int32 × Int32 × Int32 × Int32 × Int32 × zHp) : Sim wM mX11_ordersFrom 1 rI 183 [(0, .ref 0), (1, .int v.1), (2, .int v.2.1), (3, .int v.2.2.1), (4, .int v.2.2.2.1), (5, .int v.2.2.2.2.1), (6, .int v.2.2.2.2.2.1)] [] v.2.2.2.2.2.2 (f_X11_ordersFrom_183_lp n v) :=
  Sim.lp (V := Int32 × Int32 × Int32 × Int32 × Int32 × Int32 × zHp) (Lf := fun v => [(0, .ref 0), (1, .int v.1), (2, .int v.2.1), (3, .int v.2.2.1), (4, .int v.2.2.2.1), (5, .int v.2.2.2.2.1), (6, .int v.2.2.2.2.2.1)]) (sf := fun v => []) (hf := fun v => v.2.2.2.2.2.2) (fun k183 H183 v => f_X11_ordersFrom_183_s k183 H183 v.1 v.2.1 v.2.2.1 v.2.2.2.1 v.2.2.2.2.1 v.2.2.2.2.2.1 v.2.2.2.2.2.2) n v
def f_X11_ordersFrom_92  (k50 : Int32 × Int32 × Int32 × Int32 × Int32 × zHp → Option (Int32 × zHp)) (k60 : Int32 × Int32 × Int32 × Int32 × Int32 × Int32 × zHp → Option (Int32 × zHp)) (k92 : Int32 × Int32 × Int32 × Int32 × Int32 × Int32 × Int32 × Int32 × zHp → Option (Int32 × zHp)) (v1 : Int32) (v2 : Int32) (v3 : Int32) (v4 : Int32) (v5 : Int32) (v6 : Int32) (v7 : Int32) (v8 : Int32) (h : zHp) : Option (Int32 × zHp) := (if v8 < v1 then (f_X11_has v5 v8 h).bind fun x1 => (if x1.1 = 0 then (f_X11_canSitBy v6 v8 x1.2).bind fun x2 => (if x2.1 = 0 then k92 (v1, v2, v3, v4, v5, v6, v7, (v8 + (1 : Int32)), x2.2) else zix (((7 : Int32) * (v5 ||| ((1 : Int32) <<< (v8 &&& 31)))) + v8) 896 (zix (((7 : Int32) * (v5 ||| ((1 : Int32) <<< (v8 &&& 31)))) + v8) 896 (zlt (zst x2.2 26 (((7 : Int32) * (v5 ||| ((1 : Int32) <<< (v8 &&& 31)))) + v8).toNatClampNeg ((x2.2 26 (((7 : Int32) * (v5 ||| ((1 : Int32) <<< (v8 &&& 31)))) + v8).toNatClampNeg) + v7)) fun h3 => k92 (v1, v2, v3, v4, v5, v6, v7, (v8 + (1 : Int32)), h3)))) else k92 (v1, v2, v3, v4, v5, v6, v7, (v8 + (1 : Int32)), x1.2)) else k60 (v1, v2, v3, v4, v5, (v6 + (1 : Int32)), h))
set_option maxHeartbeats 4000000 in
set_option maxRecDepth 100000 in
theorem f_X11_ordersFrom_92_s  (k50 : Int32 × Int32 × Int32 × Int32 × Int32 × zHp → Option (Int32 × zHp)) (H50 : ∀ v : Int32 × Int32 × Int32 × Int32 × Int32 × zHp, Sim wM mX11_ordersFrom 1 rI 50 [(0, .ref 0), (1, .int v.1), (2, .int v.2.1), (3, .int v.2.2.1), (4, .int v.2.2.2.1), (5, .int v.2.2.2.2.1)] [] v.2.2.2.2.2 (k50 v)) (k60 : Int32 × Int32 × Int32 × Int32 × Int32 × Int32 × zHp → Option (Int32 × zHp)) (H60 : ∀ v : Int32 × Int32 × Int32 × Int32 × Int32 × Int32 × zHp, Sim wM mX11_ordersFrom 1 rI 60 [(0, .ref 0), (1, .int v.1), (2, .int v.2.1), (3, .int v.2.2.1), (4, .int v.2.2.2.1), (5, .int v.2.2.2.2.1), (6, .int v.2.2.2.2.2.1)] [] v.2.2.2.2.2.2 (k60 v)) (k92 : Int32 × Int32 × Int32 × Int32 × Int32 × Int32 × Int32 × Int32 × zHp → Option (Int32 × zHp)) (H92 : ∀ v : Int32 × Int32 × Int32 × Int32 × Int32 × Int32 × Int32 × Int32 × zHp, Sim wM mX11_ordersFrom 1 rI 92 [(0, .ref 0), (1, .int v.1), (2, .int v.2.1), (3, .int v.2.2.1), (4, .int v.2.2.2.1), (5, .int v.2.2.2.2.1), (6, .int v.2.2.2.2.2.1), (7, .int v.2.2.2.2.2.2.1), (8, .int v.2.2.2.2.2.2.2.1)] [] v.2.2.2.2.2.2.2.2 (k92 v)) (v1 : Int32) (v2 : Int32) (v3 : Int32) (v4 : Int32) (v5 : Int32) (v6 : Int32) (v7 : Int32) (v8 : Int32) (h : zHp) : Sim wM mX11_ordersFrom 1 rI 92 [(0, .ref 0), (1, .int v1), (2, .int v2), (3, .int v3), (4, .int v4), (5, .int v5), (6, .int v6), (7, .int v7), (8, .int v8)] [] h (f_X11_ordersFrom_92 k50 k60 k92 v1 v2 v3 v4 v5 v6 v7 v8 h) := by
  unfold f_X11_ordersFrom_92
  refine Sim.iload 8 dX11_ordersFrom_92 rfl ?_
  refine Sim.iload_n 1 dX11_ordersFrom_94 rfl ?_
  refine Sim.icmp_ge 165 dX11_ordersFrom_95 rfl ?_ ?_
  · refine Sim.aload_n 0 dX11_ordersFrom_98 rfl ?_
    refine Sim.iload 5 dX11_ordersFrom_99 rfl ?_
    refine Sim.iload 8 dX11_ordersFrom_101 rfl ?_
    refine Sim.callV2I (d1 := 0) (s_X11_has v5 v8 h) dX11_ordersFrom_103 ml_X11_433 mv_X11_has mC (Nat.le_of_ble_eq_true rfl) (Nat.le_of_ble_eq_true rfl) (Nat.le_of_ble_eq_true rfl) (fun x1 => ?_)
    refine Sim.if_ne 159 dX11_ordersFrom_106 rfl ?_ ?_
    · refine Sim.aload_n 0 dX11_ordersFrom_109 rfl ?_
      refine Sim.iload 6 dX11_ordersFrom_110 rfl ?_
      refine Sim.iload 8 dX11_ordersFrom_112 rfl ?_
      refine Sim.callV2I (d1 := 0) (s_X11_canSitBy v6 v8 x1.2) dX11_ordersFrom_114 ml_X11_436 mv_X11_canSitBy mC (Nat.le_of_ble_eq_true rfl) (Nat.le_of_ble_eq_true rfl) (Nat.le_of_ble_eq_true rfl) (fun x2 => ?_)
      refine Sim.if_eq 159 dX11_ordersFrom_117 rfl ?_ ?_
      · refine Sim.iinc (L' := [(8, .int (v8 + (1 : Int32))), (0, .ref 0), (1, .int v1), (2, .int v2), (3, .int v3), (4, .int v4), (5, .int v5), (6, .int v6), (7, .int v7)]) 8 dX11_ordersFrom_159 rfl rfl (Nat.le_of_ble_eq_true rfl) rfl ?_
        refine Sim.goto 92 dX11_ordersFrom_162 rfl ?_
        refine Sim.locs [1, 2, 3, 4, 5, 6, 7, 8, 0] rfl ?_
        exact H92 (v1, v2, v3, v4, v5, v6, v7, (v8 + (1 : Int32)), x2.2)
      · refine Sim.aload_n 0 dX11_ordersFrom_120 rfl ?_
        refine Sim.getR (j := 26) fl_X11_89 dX11_ordersFrom_121 mR_48 ?_
        refine Sim.bipush (v := (7 : Int32)) dX11_ordersFrom_124 rfl ?_
        refine Sim.iload 5 dX11_ordersFrom_126 rfl ?_
        refine Sim.iconst (v := (1 : Int32)) dX11_ordersFrom_128 rfl ?_
        refine Sim.iload 8 dX11_ordersFrom_129 rfl ?_
        refine Sim.ishl dX11_ordersFrom_131 ?_
        refine Sim.ior dX11_ordersFrom_132 ?_
        refine Sim.imul dX11_ordersFrom_133 ?_
        refine Sim.iload 8 dX11_ordersFrom_134 rfl ?_
        refine Sim.iadd dX11_ordersFrom_136 ?_
        refine Sim.aload_n 0 dX11_ordersFrom_137 rfl ?_
        refine Sim.getR (j := 26) fl_X11_89 dX11_ordersFrom_138 mR_48 ?_
        refine Sim.bipush (v := (7 : Int32)) dX11_ordersFrom_141 rfl ?_
        refine Sim.iload 5 dX11_ordersFrom_143 rfl ?_
        refine Sim.iconst (v := (1 : Int32)) dX11_ordersFrom_145 rfl ?_
        refine Sim.iload 8 dX11_ordersFrom_146 rfl ?_
        refine Sim.ishl dX11_ordersFrom_148 ?_
        refine Sim.ior dX11_ordersFrom_149 ?_
        refine Sim.imul dX11_ordersFrom_150 ?_
        refine Sim.iload 8 dX11_ordersFrom_151 rfl ?_
        refine Sim.iadd dX11_ordersFrom_153 ?_
        refine Sim.iald (n := 896) dX11_ordersFrom_154 mA_26 ?_
        refine Sim.iload 7 dX11_ordersFrom_155 rfl ?_
        refine Sim.iadd dX11_ordersFrom_157 ?_
        refine Sim.iast (n := 896) dX11_ordersFrom_158 mA_26 ?_
        refine Sim.lth (fun h3 => ?_)
        refine Sim.iinc (L' := [(8, .int (v8 + (1 : Int32))), (0, .ref 0), (1, .int v1), (2, .int v2), (3, .int v3), (4, .int v4), (5, .int v5), (6, .int v6), (7, .int v7)]) 8 dX11_ordersFrom_159 rfl rfl (Nat.le_of_ble_eq_true rfl) rfl ?_
        refine Sim.goto 92 dX11_ordersFrom_162 rfl ?_
        refine Sim.locs [1, 2, 3, 4, 5, 6, 7, 8, 0] rfl ?_
        exact H92 (v1, v2, v3, v4, v5, v6, v7, (v8 + (1 : Int32)), h3)
    · refine Sim.iinc (L' := [(8, .int (v8 + (1 : Int32))), (0, .ref 0), (1, .int v1), (2, .int v2), (3, .int v3), (4, .int v4), (5, .int v5), (6, .int v6), (7, .int v7)]) 8 dX11_ordersFrom_159 rfl rfl (Nat.le_of_ble_eq_true rfl) rfl ?_
      refine Sim.goto 92 dX11_ordersFrom_162 rfl ?_
      refine Sim.locs [1, 2, 3, 4, 5, 6, 7, 8, 0] rfl ?_
      exact H92 (v1, v2, v3, v4, v5, v6, v7, (v8 + (1 : Int32)), x1.2)
  · refine Sim.iinc (L' := [(6, .int (v6 + (1 : Int32))), (0, .ref 0), (1, .int v1), (2, .int v2), (3, .int v3), (4, .int v4), (5, .int v5), (7, .int v7), (8, .int v8)]) 6 dX11_ordersFrom_165 rfl rfl (Nat.le_of_ble_eq_true rfl) rfl ?_
    refine Sim.goto 60 dX11_ordersFrom_168 rfl ?_
    refine Sim.locs [1, 2, 3, 4, 5, 6, 0] rfl ?_
    exact H60 (v1, v2, v3, v4, v5, (v6 + (1 : Int32)), h)
def f_X11_ordersFrom_92_lp  (k50 : Int32 × Int32 × Int32 × Int32 × Int32 × zHp → Option (Int32 × zHp)) (k60 : Int32 × Int32 × Int32 × Int32 × Int32 × Int32 × zHp → Option (Int32 × zHp)) (n : Nat) (v : Int32 × Int32 × Int32 × Int32 × Int32 × Int32 × Int32 × Int32 × zHp) : Option (Int32 × zHp) := zlp (fun k92 v => f_X11_ordersFrom_92 k50 k60 k92 v.1 v.2.1 v.2.2.1 v.2.2.2.1 v.2.2.2.2.1 v.2.2.2.2.2.1 v.2.2.2.2.2.2.1 v.2.2.2.2.2.2.2.1 v.2.2.2.2.2.2.2.2) n v
theorem f_X11_ordersFrom_92_ls  (k50 : Int32 × Int32 × Int32 × Int32 × Int32 × zHp → Option (Int32 × zHp)) (H50 : ∀ v : Int32 × Int32 × Int32 × Int32 × Int32 × zHp, Sim wM mX11_ordersFrom 1 rI 50 [(0, .ref 0), (1, .int v.1), (2, .int v.2.1), (3, .int v.2.2.1), (4, .int v.2.2.2.1), (5, .int v.2.2.2.2.1)] [] v.2.2.2.2.2 (k50 v)) (k60 : Int32 × Int32 × Int32 × Int32 × Int32 × Int32 × zHp → Option (Int32 × zHp)) (H60 : ∀ v : Int32 × Int32 × Int32 × Int32 × Int32 × Int32 × zHp, Sim wM mX11_ordersFrom 1 rI 60 [(0, .ref 0), (1, .int v.1), (2, .int v.2.1), (3, .int v.2.2.1), (4, .int v.2.2.2.1), (5, .int v.2.2.2.2.1), (6, .int v.2.2.2.2.2.1)] [] v.2.2.2.2.2.2 (k60 v)) (n : Nat) (v : Int32 × Int32 × Int32 × Int32 × Int32 × Int32 × Int32 × Int32 × zHp) : Sim wM mX11_ordersFrom 1 rI 92 [(0, .ref 0), (1, .int v.1), (2, .int v.2.1), (3, .int v.2.2.1), (4, .int v.2.2.2.1), (5, .int v.2.2.2.2.1), (6, .int v.2.2.2.2.2.1), (7, .int v.2.2.2.2.2.2.1), (8, .int v.2.2.2.2.2.2.2.1)] [] v.2.2.2.2.2.2.2.2 (f_X11_ordersFrom_92_lp k50 k60 n v) :=
  Sim.lp (V := Int32 × Int32 × Int32 × Int32 × Int32 × Int32 × Int32 × Int32 × zHp) (Lf := fun v => [(0, .ref 0), (1, .int v.1), (2, .int v.2.1), (3, .int v.2.2.1), (4, .int v.2.2.2.1), (5, .int v.2.2.2.2.1), (6, .int v.2.2.2.2.2.1), (7, .int v.2.2.2.2.2.2.1), (8, .int v.2.2.2.2.2.2.2.1)]) (sf := fun v => []) (hf := fun v => v.2.2.2.2.2.2.2.2) (fun k92 H92 v => f_X11_ordersFrom_92_s k50 H50 k60 H60 k92 H92 v.1 v.2.1 v.2.2.1 v.2.2.2.1 v.2.2.2.2.1 v.2.2.2.2.2.1 v.2.2.2.2.2.2.1 v.2.2.2.2.2.2.2.1 v.2.2.2.2.2.2.2.2) n v
def f_X11_ordersFrom_60  (k50 : Int32 × Int32 × Int32 × Int32 × Int32 × zHp → Option (Int32 × zHp)) (k60 : Int32 × Int32 × Int32 × Int32 × Int32 × Int32 × zHp → Option (Int32 × zHp)) (v1 : Int32) (v2 : Int32) (v3 : Int32) (v4 : Int32) (v5 : Int32) (v6 : Int32) (h : zHp) : Option (Int32 × zHp) := (if v6 < v1 then zix (((7 : Int32) * v5) + v6) 896 (zlt (h 26 (((7 : Int32) * v5) + v6).toNatClampNeg) fun x1 => (if x1 = 0 then k60 (v1, v2, v3, v4, v5, (v6 + (1 : Int32)), h) else f_X11_ordersFrom_92_lp k50 k60 zN (v1, v2, v3, v4, v5, v6, x1, (0 : Int32), h))) else k50 (v1, v2, v3, v4, (v5 + (1 : Int32)), h))
set_option maxHeartbeats 4000000 in
set_option maxRecDepth 100000 in
theorem f_X11_ordersFrom_60_s  (k50 : Int32 × Int32 × Int32 × Int32 × Int32 × zHp → Option (Int32 × zHp)) (H50 : ∀ v : Int32 × Int32 × Int32 × Int32 × Int32 × zHp, Sim wM mX11_ordersFrom 1 rI 50 [(0, .ref 0), (1, .int v.1), (2, .int v.2.1), (3, .int v.2.2.1), (4, .int v.2.2.2.1), (5, .int v.2.2.2.2.1)] [] v.2.2.2.2.2 (k50 v)) (k60 : Int32 × Int32 × Int32 × Int32 × Int32 × Int32 × zHp → Option (Int32 × zHp)) (H60 : ∀ v : Int32 × Int32 × Int32 × Int32 × Int32 × Int32 × zHp, Sim wM mX11_ordersFrom 1 rI 60 [(0, .ref 0), (1, .int v.1), (2, .int v.2.1), (3, .int v.2.2.1), (4, .int v.2.2.2.1), (5, .int v.2.2.2.2.1), (6, .int v.2.2.2.2.2.1)] [] v.2.2.2.2.2.2 (k60 v)) (v1 : Int32) (v2 : Int32) (v3 : Int32) (v4 : Int32) (v5 : Int32) (v6 : Int32) (h : zHp) : Sim wM mX11_ordersFrom 1 rI 60 [(0, .ref 0), (1, .int v1), (2, .int v2), (3, .int v3), (4, .int v4), (5, .int v5), (6, .int v6)] [] h (f_X11_ordersFrom_60 k50 k60 v1 v2 v3 v4 v5 v6 h) := by
  unfold f_X11_ordersFrom_60
  refine Sim.iload 6 dX11_ordersFrom_60 rfl ?_
  refine Sim.iload_n 1 dX11_ordersFrom_62 rfl ?_
  refine Sim.icmp_ge 171 dX11_ordersFrom_63 rfl ?_ ?_
  · refine Sim.aload_n 0 dX11_ordersFrom_66 rfl ?_
    refine Sim.getR (j := 26) fl_X11_89 dX11_ordersFrom_67 mR_48 ?_
    refine Sim.bipush (v := (7 : Int32)) dX11_ordersFrom_70 rfl ?_
    refine Sim.iload 5 dX11_ordersFrom_72 rfl ?_
    refine Sim.imul dX11_ordersFrom_74 ?_
    refine Sim.iload 6 dX11_ordersFrom_75 rfl ?_
    refine Sim.iadd dX11_ordersFrom_77 ?_
    refine Sim.iald (n := 896) dX11_ordersFrom_78 mA_26 ?_
    refine Sim.lti (fun x1 => ?_)
    refine Sim.istore (L' := [(7, .int x1), (0, .ref 0), (1, .int v1), (2, .int v2), (3, .int v3), (4, .int v4), (5, .int v5), (6, .int v6)]) dX11_ordersFrom_79 (Nat.le_of_ble_eq_true rfl) rfl ?_
    refine Sim.iload 0 dX11_ordersFrom_81 rfl ?_
    refine Sim.if_ne 89 dX11_ordersFrom_83 rfl ?_ ?_
    · refine Sim.goto 165 dX11_ordersFrom_86 rfl ?_
      refine Sim.iinc (L' := [(6, .int (v6 + (1 : Int32))), (7, .int x1), (0, .ref 0), (1, .int v1), (2, .int v2), (3, .int v3), (4, .int v4), (5, .int v5)]) 7 dX11_ordersFrom_165 rfl rfl (Nat.le_of_ble_eq_true rfl) rfl ?_
      refine Sim.goto 60 dX11_ordersFrom_168 rfl ?_
      refine Sim.locs [2, 3, 4, 5, 6, 7, 0] rfl ?_
      exact H60 (v1, v2, v3, v4, v5, (v6 + (1 : Int32)), h)
    · refine Sim.iconst (v := (0 : Int32)) dX11_ordersFrom_89 rfl ?_
      refine Sim.istore (L' := [(8, .int (0 : Int32)), (7, .int x1), (0, .ref 0), (1, .int v1), (2, .int v2), (3, .int v3), (4, .int v4), (5, .int v5), (6, .int v6)]) dX11_ordersFrom_90 (Nat.le_of_ble_eq_true rfl) rfl ?_
      refine Sim.locs [2, 3, 4, 5, 6, 7, 8, 1, 0] rfl ?_
      exact f_X11_ordersFrom_92_ls k50 H50 k60 H60 zN (v1, v2, v3, v4, v5, v6, x1, (0 : Int32), h)
  · refine Sim.iinc (L' := [(5, .int (v5 + (1 : Int32))), (0, .ref 0), (1, .int v1), (2, .int v2), (3, .int v3), (4, .int v4), (6, .int v6)]) 5 dX11_ordersFrom_171 rfl rfl (Nat.le_of_ble_eq_true rfl) rfl ?_
    refine Sim.goto 50 dX11_ordersFrom_174 rfl ?_
    refine Sim.locs [1, 2, 3, 4, 5, 0] rfl ?_
    exact H50 (v1, v2, v3, v4, (v5 + (1 : Int32)), h)
def f_X11_ordersFrom_60_lp  (k50 : Int32 × Int32 × Int32 × Int32 × Int32 × zHp → Option (Int32 × zHp)) (n : Nat) (v : Int32 × Int32 × Int32 × Int32 × Int32 × Int32 × zHp) : Option (Int32 × zHp) := zlp (fun k60 v => f_X11_ordersFrom_60 k50 k60 v.1 v.2.1 v.2.2.1 v.2.2.2.1 v.2.2.2.2.1 v.2.2.2.2.2.1 v.2.2.2.2.2.2) n v
theorem f_X11_ordersFrom_60_ls  (k50 : Int32 × Int32 × Int32 × Int32 × Int32 × zHp → Option (Int32 × zHp)) (H50 : ∀ v : Int32 × Int32 × Int32 × Int32 × Int32 × zHp, Sim wM mX11_ordersFrom 1 rI 50 [(0, .ref 0), (1, .int v.1), (2, .int v.2.1), (3, .int v.2.2.1), (4, .int v.2.2.2.1), (5, .int v.2.2.2.2.1)] [] v.2.2.2.2.2 (k50 v)) (n : Nat) (v : Int32 × Int32 × Int32 × Int32 × Int32 × Int32 × zHp) : Sim wM mX11_ordersFrom 1 rI 60 [(0, .ref 0), (1, .int v.1), (2, .int v.2.1), (3, .int v.2.2.1), (4, .int v.2.2.2.1), (5, .int v.2.2.2.2.1), (6, .int v.2.2.2.2.2.1)] [] v.2.2.2.2.2.2 (f_X11_ordersFrom_60_lp k50 n v) :=
  Sim.lp (V := Int32 × Int32 × Int32 × Int32 × Int32 × Int32 × zHp) (Lf := fun v => [(0, .ref 0), (1, .int v.1), (2, .int v.2.1), (3, .int v.2.2.1), (4, .int v.2.2.2.1), (5, .int v.2.2.2.2.1), (6, .int v.2.2.2.2.2.1)]) (sf := fun v => []) (hf := fun v => v.2.2.2.2.2.2) (fun k60 H60 v => f_X11_ordersFrom_60_s k50 H50 k60 H60 v.1 v.2.1 v.2.2.1 v.2.2.2.1 v.2.2.2.2.1 v.2.2.2.2.2.1 v.2.2.2.2.2.2) n v
def f_X11_ordersFrom_50  (k50 : Int32 × Int32 × Int32 × Int32 × Int32 × zHp → Option (Int32 × zHp)) (v1 : Int32) (v2 : Int32) (v3 : Int32) (v4 : Int32) (v5 : Int32) (h : zHp) : Option (Int32 × zHp) := (if v4 < v5 then f_X11_ordersFrom_183_lp  zN (v1, v2, v3, v4, (0 : Int32), (0 : Int32), h) else f_X11_ordersFrom_60_lp k50 zN (v1, v2, v3, v4, v5, (0 : Int32), h))
set_option maxHeartbeats 4000000 in
set_option maxRecDepth 100000 in
theorem f_X11_ordersFrom_50_s  (k50 : Int32 × Int32 × Int32 × Int32 × Int32 × zHp → Option (Int32 × zHp)) (H50 : ∀ v : Int32 × Int32 × Int32 × Int32 × Int32 × zHp, Sim wM mX11_ordersFrom 1 rI 50 [(0, .ref 0), (1, .int v.1), (2, .int v.2.1), (3, .int v.2.2.1), (4, .int v.2.2.2.1), (5, .int v.2.2.2.2.1)] [] v.2.2.2.2.2 (k50 v)) (v1 : Int32) (v2 : Int32) (v3 : Int32) (v4 : Int32) (v5 : Int32) (h : zHp) : Sim wM mX11_ordersFrom 1 rI 50 [(0, .ref 0), (1, .int v1), (2, .int v2), (3, .int v3), (4, .int v4), (5, .int v5)] [] h (f_X11_ordersFrom_50 k50 v1 v2 v3 v4 v5 h) := by
  unfold f_X11_ordersFrom_50
  refine Sim.iload 5 dX11_ordersFrom_50 rfl ?_
  refine Sim.iload 4 dX11_ordersFrom_52 rfl ?_
  refine Sim.icmp_gt 177 dX11_ordersFrom_54 rfl ?_ ?_
  · refine Sim.iconst (v := (0 : Int32)) dX11_ordersFrom_177 rfl ?_
    refine Sim.istore (L' := [(5, .int (0 : Int32)), (0, .ref 0), (1, .int v1), (2, .int v2), (3, .int v3), (4, .int v4)]) dX11_ordersFrom_178 (Nat.le_of_ble_eq_true rfl) rfl ?_
    refine Sim.iconst (v := (0 : Int32)) dX11_ordersFrom_180 rfl ?_
    refine Sim.istore (L' := [(6, .int (0 : Int32)), (5, .int (0 : Int32)), (0, .ref 0), (1, .int v1), (2, .int v2), (3, .int v3), (4, .int v4)]) dX11_ordersFrom_181 (Nat.le_of_ble_eq_true rfl) rfl ?_
    refine Sim.locs [2, 3, 4, 5, 6, 1, 0] rfl ?_
    exact f_X11_ordersFrom_183_ls  zN (v1, v2, v3, v4, (0 : Int32), (0 : Int32), h)
  · refine Sim.iconst (v := (0 : Int32)) dX11_ordersFrom_57 rfl ?_
    refine Sim.istore (L' := [(6, .int (0 : Int32)), (0, .ref 0), (1, .int v1), (2, .int v2), (3, .int v3), (4, .int v4), (5, .int v5)]) dX11_ordersFrom_58 (Nat.le_of_ble_eq_true rfl) rfl ?_
    refine Sim.locs [1, 2, 3, 4, 5, 6, 0] rfl ?_
    exact f_X11_ordersFrom_60_ls k50 H50 zN (v1, v2, v3, v4, v5, (0 : Int32), h)
def f_X11_ordersFrom_50_lp   (n : Nat) (v : Int32 × Int32 × Int32 × Int32 × Int32 × zHp) : Option (Int32 × zHp) := zlp (fun k50 v => f_X11_ordersFrom_50 k50 v.1 v.2.1 v.2.2.1 v.2.2.2.1 v.2.2.2.2.1 v.2.2.2.2.2) n v
theorem f_X11_ordersFrom_50_ls  (n : Nat) (v : Int32 × Int32 × Int32 × Int32 × Int32 × zHp) : Sim wM mX11_ordersFrom 1 rI 50 [(0, .ref 0), (1, .int v.1), (2, .int v.2.1), (3, .int v.2.2.1), (4, .int v.2.2.2.1), (5, .int v.2.2.2.2.1)] [] v.2.2.2.2.2 (f_X11_ordersFrom_50_lp n v) :=
  Sim.lp (V := Int32 × Int32 × Int32 × Int32 × Int32 × zHp) (Lf := fun v => [(0, .ref 0), (1, .int v.1), (2, .int v.2.1), (3, .int v.2.2.1), (4, .int v.2.2.2.1), (5, .int v.2.2.2.2.1)]) (sf := fun v => []) (hf := fun v => v.2.2.2.2.2) (fun k50 H50 v => f_X11_ordersFrom_50_s k50 H50 v.1 v.2.1 v.2.2.1 v.2.2.2.1 v.2.2.2.2.1 v.2.2.2.2.2) n v
def f_X11_ordersFrom_3  (k3 : Int32 × Int32 × Int32 × Int32 × zHp → Option (Int32 × zHp)) (v1 : Int32) (v2 : Int32) (v3 : Int32) (v4 : Int32) (h : zHp) : Option (Int32 × zHp) := (if v4 < ((7 : Int32) <<< (v1 &&& 31)) then zix v4 896 (zlt (zst h 26 v4.toNatClampNeg (0 : Int32)) fun h1 => k3 (v1, v2, v3, (v4 + (1 : Int32)), h1)) else zix (((7 : Int32) * ((1 : Int32) <<< (v2 &&& 31))) + v2) 896 (zlt (zst h 26 (((7 : Int32) * ((1 : Int32) <<< (v2 &&& 31))) + v2).toNatClampNeg (1 : Int32)) fun h2 => zlt (((1 : Int32) <<< (v1 &&& 31)) - (1 : Int32)) fun x3 => f_X11_ordersFrom_50_lp  zN (v1, v2, v3, x3, (1 : Int32), h2)))
set_option maxHeartbeats 4000000 in
set_option maxRecDepth 100000 in
theorem f_X11_ordersFrom_3_s  (k3 : Int32 × Int32 × Int32 × Int32 × zHp → Option (Int32 × zHp)) (H3 : ∀ v : Int32 × Int32 × Int32 × Int32 × zHp, Sim wM mX11_ordersFrom 1 rI 3 [(0, .ref 0), (1, .int v.1), (2, .int v.2.1), (3, .int v.2.2.1), (4, .int v.2.2.2.1)] [] v.2.2.2.2 (k3 v)) (v1 : Int32) (v2 : Int32) (v3 : Int32) (v4 : Int32) (h : zHp) : Sim wM mX11_ordersFrom 1 rI 3 [(0, .ref 0), (1, .int v1), (2, .int v2), (3, .int v3), (4, .int v4)] [] h (f_X11_ordersFrom_3 k3 v1 v2 v3 v4 h) := by
  unfold f_X11_ordersFrom_3
  refine Sim.iload 4 dX11_ordersFrom_3 rfl ?_
  refine Sim.bipush (v := (7 : Int32)) dX11_ordersFrom_5 rfl ?_
  refine Sim.iload_n 1 dX11_ordersFrom_7 rfl ?_
  refine Sim.ishl dX11_ordersFrom_8 ?_
  refine Sim.icmp_ge 26 dX11_ordersFrom_9 rfl ?_ ?_
  · refine Sim.aload_n 0 dX11_ordersFrom_12 rfl ?_
    refine Sim.getR (j := 26) fl_X11_89 dX11_ordersFrom_13 mR_48 ?_
    refine Sim.iload 4 dX11_ordersFrom_16 rfl ?_
    refine Sim.iconst (v := (0 : Int32)) dX11_ordersFrom_18 rfl ?_
    refine Sim.iast (n := 896) dX11_ordersFrom_19 mA_26 ?_
    refine Sim.lth (fun h1 => ?_)
    refine Sim.iinc (L' := [(4, .int (v4 + (1 : Int32))), (0, .ref 0), (1, .int v1), (2, .int v2), (3, .int v3)]) 4 dX11_ordersFrom_20 rfl rfl (Nat.le_of_ble_eq_true rfl) rfl ?_
    refine Sim.goto 3 dX11_ordersFrom_23 rfl ?_
    refine Sim.locs [1, 2, 3, 4, 0] rfl ?_
    exact H3 (v1, v2, v3, (v4 + (1 : Int32)), h1)
  · refine Sim.aload_n 0 dX11_ordersFrom_26 rfl ?_
    refine Sim.getR (j := 26) fl_X11_89 dX11_ordersFrom_27 mR_48 ?_
    refine Sim.bipush (v := (7 : Int32)) dX11_ordersFrom_30 rfl ?_
    refine Sim.iconst (v := (1 : Int32)) dX11_ordersFrom_32 rfl ?_
    refine Sim.iload_n 2 dX11_ordersFrom_33 rfl ?_
    refine Sim.ishl dX11_ordersFrom_34 ?_
    refine Sim.imul dX11_ordersFrom_35 ?_
    refine Sim.iload_n 2 dX11_ordersFrom_36 rfl ?_
    refine Sim.iadd dX11_ordersFrom_37 ?_
    refine Sim.iconst (v := (1 : Int32)) dX11_ordersFrom_38 rfl ?_
    refine Sim.iast (n := 896) dX11_ordersFrom_39 mA_26 ?_
    refine Sim.lth (fun h2 => ?_)
    refine Sim.iconst (v := (1 : Int32)) dX11_ordersFrom_40 rfl ?_
    refine Sim.iload_n 1 dX11_ordersFrom_41 rfl ?_
    refine Sim.ishl dX11_ordersFrom_42 ?_
    refine Sim.iconst (v := (1 : Int32)) dX11_ordersFrom_43 rfl ?_
    refine Sim.isub dX11_ordersFrom_44 ?_
    refine Sim.lti (fun x3 => ?_)
    refine Sim.istore (L' := [(4, .int x3), (0, .ref 0), (1, .int v1), (2, .int v2), (3, .int v3)]) dX11_ordersFrom_45 (Nat.le_of_ble_eq_true rfl) rfl ?_
    refine Sim.iconst (v := (1 : Int32)) dX11_ordersFrom_47 rfl ?_
    refine Sim.istore (L' := [(5, .int (1 : Int32)), (4, .int x3), (0, .ref 0), (1, .int v1), (2, .int v2), (3, .int v3)]) dX11_ordersFrom_48 (Nat.le_of_ble_eq_true rfl) rfl ?_
    refine Sim.locs [2, 3, 4, 5, 1, 0] rfl ?_
    exact f_X11_ordersFrom_50_ls  zN (v1, v2, v3, x3, (1 : Int32), h2)
def f_X11_ordersFrom_3_lp   (n : Nat) (v : Int32 × Int32 × Int32 × Int32 × zHp) : Option (Int32 × zHp) := zlp (fun k3 v => f_X11_ordersFrom_3 k3 v.1 v.2.1 v.2.2.1 v.2.2.2.1 v.2.2.2.2) n v
theorem f_X11_ordersFrom_3_ls  (n : Nat) (v : Int32 × Int32 × Int32 × Int32 × zHp) : Sim wM mX11_ordersFrom 1 rI 3 [(0, .ref 0), (1, .int v.1), (2, .int v.2.1), (3, .int v.2.2.1), (4, .int v.2.2.2.1)] [] v.2.2.2.2 (f_X11_ordersFrom_3_lp n v) :=
  Sim.lp (V := Int32 × Int32 × Int32 × Int32 × zHp) (Lf := fun v => [(0, .ref 0), (1, .int v.1), (2, .int v.2.1), (3, .int v.2.2.1), (4, .int v.2.2.2.1)]) (sf := fun v => []) (hf := fun v => v.2.2.2.2) (fun k3 H3 v => f_X11_ordersFrom_3_s k3 H3 v.1 v.2.1 v.2.2.1 v.2.2.2.1 v.2.2.2.2) n v
def f_X11_ordersFrom  (a1 : Int32) (a2 : Int32) (a3 : Int32) (h : zHp) : Option (Int32 × zHp) := f_X11_ordersFrom_3_lp  zN (a1, a2, a3, (0 : Int32), h)
set_option maxHeartbeats 4000000 in
set_option maxRecDepth 100000 in
theorem s_X11_ordersFrom  (a1 : Int32) (a2 : Int32) (a3 : Int32) (h : zHp) : Fn wM mX11_ordersFrom 1 rI [.ref 0, .int a1, .int a2, .int a3] h (f_X11_ordersFrom a1 a2 a3 h) := by
  refine Fn.of rfl (Nat.le_of_ble_eq_true rfl) ?_
  unfold f_X11_ordersFrom
  refine Sim.iconst (v := (0 : Int32)) dX11_ordersFrom_0 rfl ?_
  refine Sim.istore (L' := [(4, .int (0 : Int32)), (0, .ref 0), (1, .int a1), (2, .int a2), (3, .int a3)]) dX11_ordersFrom_1 (Nat.le_of_ble_eq_true rfl) rfl ?_
  refine Sim.locs [1, 2, 3, 4, 0] rfl ?_
  exact f_X11_ordersFrom_3_ls  zN (a1, a2, a3, (0 : Int32), h)
theorem mv_X11_ordersFrom : zMV mX11_ordersFrom 3 := ⟨⟨zTb_in 1892 (by decide +kernel) rfl, zTb_in 148 (by decide +kernel) rfl, ⟨by decide +kernel, by decide +kernel⟩, by decide +kernel⟩, zTb_in 1891 (by decide +kernel) rfl, zTb_in 114 (by decide +kernel) rfl⟩
