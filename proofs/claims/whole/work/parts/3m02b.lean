-- ===== RockingPorchModel.hereSet()I
abbrev mX11_hereSet : zMt := (yX11_hereSet, cX11_hereSet, 3, some .int)
theorem dX11_hereSet_0 : decode cX11_hereSet 0 = .ok (.iconst 0, 1) := by decide +kernel
theorem dX11_hereSet_1 : decode cX11_hereSet 1 = .ok (.istore_n 1, 1) := by decide +kernel
theorem dX11_hereSet_2 : decode cX11_hereSet 2 = .ok (.iconst 0, 1) := by decide +kernel
theorem dX11_hereSet_3 : decode cX11_hereSet 3 = .ok (.istore_n 2, 1) := by decide +kernel
theorem dX11_hereSet_4 : decode cX11_hereSet 4 = .ok (.iload_n 2, 1) := by decide +kernel
theorem dX11_hereSet_5 : decode cX11_hereSet 5 = .ok (.aload_n 0, 1) := by decide +kernel
theorem dX11_hereSet_6 : decode cX11_hereSet 6 = .ok (.getfield 143, 3) := by decide +kernel
theorem dX11_hereSet_9 : decode cX11_hereSet 9 = .ok (.if_icmp .ge 27, 3) := by decide +kernel
theorem dX11_hereSet_12 : decode cX11_hereSet 12 = .ok (.aload_n 0, 1) := by decide +kernel
theorem dX11_hereSet_13 : decode cX11_hereSet 13 = .ok (.getfield 7, 3) := by decide +kernel
theorem dX11_hereSet_16 : decode cX11_hereSet 16 = .ok (.bipush 35, 2) := by decide +kernel
theorem dX11_hereSet_18 : decode cX11_hereSet 18 = .ok (.iload_n 2, 1) := by decide +kernel
theorem dX11_hereSet_19 : decode cX11_hereSet 19 = .ok (.iadd, 1) := by decide +kernel
theorem dX11_hereSet_20 : decode cX11_hereSet 20 = .ok (.iaload, 1) := by decide +kernel
theorem dX11_hereSet_21 : decode cX11_hereSet 21 = .ok (.ifCond .eq 9, 3) := by decide +kernel
theorem dX11_hereSet_24 : decode cX11_hereSet 24 = .ok (.iload_n 1, 1) := by decide +kernel
theorem dX11_hereSet_25 : decode cX11_hereSet 25 = .ok (.iconst 1, 1) := by decide +kernel
theorem dX11_hereSet_26 : decode cX11_hereSet 26 = .ok (.iload_n 2, 1) := by decide +kernel
theorem dX11_hereSet_27 : decode cX11_hereSet 27 = .ok (.ishl, 1) := by decide +kernel
theorem dX11_hereSet_28 : decode cX11_hereSet 28 = .ok (.ior, 1) := by decide +kernel
theorem dX11_hereSet_29 : decode cX11_hereSet 29 = .ok (.istore_n 1, 1) := by decide +kernel
theorem dX11_hereSet_30 : decode cX11_hereSet 30 = .ok (.iinc 2 1, 3) := by decide +kernel
theorem dX11_hereSet_33 : decode cX11_hereSet 33 = .ok (.goto (-29), 3) := by decide +kernel
theorem dX11_hereSet_36 : decode cX11_hereSet 36 = .ok (.iload_n 1, 1) := by decide +kernel
theorem dX11_hereSet_37 : decode cX11_hereSet 37 = .ok (.ireturn, 1) := by decide +kernel
def f_X11_hereSet_4  (k4 : Int32 × Int32 × zHp → Option (Int32 × zHp)) (v1 : Int32) (v2 : Int32) (h : zHp) : Option (Int32 × zHp) := (if v2 < (h 0 7) then zix ((35 : Int32) + v2) 77 ((if (h 1 ((35 : Int32) + v2).toNatClampNeg) = 0 then k4 (v1, (v2 + (1 : Int32)), h) else zlt (v1 ||| ((1 : Int32) <<< (v2 &&& 31))) fun x1 => k4 (x1, (v2 + (1 : Int32)), h))) else some (v1, h))
set_option maxHeartbeats 4000000 in
set_option maxRecDepth 100000 in
theorem f_X11_hereSet_4_s  (k4 : Int32 × Int32 × zHp → Option (Int32 × zHp)) (H4 : ∀ v : Int32 × Int32 × zHp, Sim wM mX11_hereSet 0 rI 4 [(0, .ref 0), (1, .int v.1), (2, .int v.2.1)] [] v.2.2 (k4 v)) (v1 : Int32) (v2 : Int32) (h : zHp) : Sim wM mX11_hereSet 0 rI 4 [(0, .ref 0), (1, .int v1), (2, .int v2)] [] h (f_X11_hereSet_4 k4 v1 v2 h) := by
  unfold f_X11_hereSet_4
  refine Sim.iload_n 2 dX11_hereSet_4 rfl ?_
  refine Sim.aload_n 0 dX11_hereSet_5 rfl ?_
  refine Sim.getI fl_X11_143 dX11_hereSet_6 mI_7 ?_
  refine Sim.icmp_ge 36 dX11_hereSet_9 rfl ?_ ?_
  · refine Sim.aload_n 0 dX11_hereSet_12 rfl ?_
    refine Sim.getR (j := 1) fl_X11_7 dX11_hereSet_13 mR_1 ?_
    refine Sim.bipush (v := (35 : Int32)) dX11_hereSet_16 rfl ?_
    refine Sim.iload_n 2 dX11_hereSet_18 rfl ?_
    refine Sim.iadd dX11_hereSet_19 ?_
    refine Sim.iald (n := 77) dX11_hereSet_20 mA_1 ?_
    refine Sim.if_eq 30 dX11_hereSet_21 rfl ?_ ?_
    · refine Sim.iinc (L' := [(2, .int (v2 + (1 : Int32))), (0, .ref 0), (1, .int v1)]) 2 dX11_hereSet_30 rfl rfl (Nat.le_of_ble_eq_true rfl) rfl ?_
      refine Sim.goto 4 dX11_hereSet_33 rfl ?_
      refine Sim.locs [1, 2, 0] rfl ?_
      exact H4 (v1, (v2 + (1 : Int32)), h)
    · refine Sim.iload_n 1 dX11_hereSet_24 rfl ?_
      refine Sim.iconst (v := (1 : Int32)) dX11_hereSet_25 rfl ?_
      refine Sim.iload_n 2 dX11_hereSet_26 rfl ?_
      refine Sim.ishl dX11_hereSet_27 ?_
      refine Sim.ior dX11_hereSet_28 ?_
      refine Sim.lti (fun x1 => ?_)
      refine Sim.istore_n (L' := [(1, .int x1), (0, .ref 0), (2, .int v2)]) dX11_hereSet_29 (Nat.le_of_ble_eq_true rfl) rfl ?_
      refine Sim.iinc (L' := [(2, .int (v2 + (1 : Int32))), (1, .int x1), (0, .ref 0)]) 2 dX11_hereSet_30 rfl rfl (Nat.le_of_ble_eq_true rfl) rfl ?_
      refine Sim.goto 4 dX11_hereSet_33 rfl ?_
      refine Sim.locs [2, 1, 0] rfl ?_
      exact H4 (x1, (v2 + (1 : Int32)), h)
  · refine Sim.iload_n 1 dX11_hereSet_36 rfl ?_
    exact Sim.iret dX11_hereSet_37 rfl
def f_X11_hereSet_4_lp   (n : Nat) (v : Int32 × Int32 × zHp) : Option (Int32 × zHp) := zlp (fun k4 v => f_X11_hereSet_4 k4 v.1 v.2.1 v.2.2) n v
theorem f_X11_hereSet_4_ls  (n : Nat) (v : Int32 × Int32 × zHp) : Sim wM mX11_hereSet 0 rI 4 [(0, .ref 0), (1, .int v.1), (2, .int v.2.1)] [] v.2.2 (f_X11_hereSet_4_lp n v) :=
  Sim.lp (V := Int32 × Int32 × zHp) (Lf := fun v => [(0, .ref 0), (1, .int v.1), (2, .int v.2.1)]) (sf := fun v => []) (hf := fun v => v.2.2) (fun k4 H4 v => f_X11_hereSet_4_s k4 H4 v.1 v.2.1 v.2.2) n v
def f_X11_hereSet   (h : zHp) : Option (Int32 × zHp) := f_X11_hereSet_4_lp  zN ((0 : Int32), (0 : Int32), h)
set_option maxHeartbeats 4000000 in
set_option maxRecDepth 100000 in
theorem s_X11_hereSet   (h : zHp) : Fn wM mX11_hereSet 0 rI [.ref 0] h (f_X11_hereSet  h) := by
  refine Fn.of rfl (Nat.le_of_ble_eq_true rfl) ?_
  unfold f_X11_hereSet
  refine Sim.iconst (v := (0 : Int32)) dX11_hereSet_0 rfl ?_
  refine Sim.istore_n (L' := [(1, .int (0 : Int32)), (0, .ref 0)]) dX11_hereSet_1 (Nat.le_of_ble_eq_true rfl) rfl ?_
  refine Sim.iconst (v := (0 : Int32)) dX11_hereSet_2 rfl ?_
  refine Sim.istore_n (L' := [(2, .int (0 : Int32)), (1, .int (0 : Int32)), (0, .ref 0)]) dX11_hereSet_3 (Nat.le_of_ble_eq_true rfl) rfl ?_
  refine Sim.locs [2, 1, 0] rfl ?_
  exact f_X11_hereSet_4_ls  zN ((0 : Int32), (0 : Int32), h)
theorem mv_X11_hereSet : zMV mX11_hereSet 0 := ⟨⟨zTb_in 1746 (by decide +kernel) rfl, zTb_in 148 (by decide +kernel) rfl, ⟨by decide +kernel, by decide +kernel⟩, by decide +kernel⟩, zTb_in 1745 (by decide +kernel) rfl, zTb_in 88 (by decide +kernel) rfl⟩
-- ===== RockingPorchModel.asks(II)V
abbrev mX11_asks : zMt := (yX11_asks, cX11_asks, 3, none)
theorem ml_X11_326 : Cond.methodLink RX11 326 yX11_hereSet ∈ zTb := zTb_in 1743 (by decide +kernel) rfl
theorem ml_X11_329 : Cond.methodLink RX11 329 yX11_onesOf ∈ zTb := zTb_in 1747 (by decide +kernel) rfl
theorem dX11_asks_0 : decode cX11_asks 0 = .ok (.aload_n 0, 1) := by decide +kernel
theorem dX11_asks_1 : decode cX11_asks 1 = .ok (.getfield 71, 3) := by decide +kernel
theorem dX11_asks_4 : decode cX11_asks 4 = .ok (.iconst 0, 1) := by decide +kernel
theorem dX11_asks_5 : decode cX11_asks 5 = .ok (.aload_n 0, 1) := by decide +kernel
theorem dX11_asks_6 : decode cX11_asks 6 = .ok (.getfield 19, 3) := by decide +kernel
theorem dX11_asks_9 : decode cX11_asks 9 = .ok (.iload_n 1, 1) := by decide +kernel
theorem dX11_asks_10 : decode cX11_asks 10 = .ok (.iaload, 1) := by decide +kernel
theorem dX11_asks_11 : decode cX11_asks 11 = .ok (.iastore, 1) := by decide +kernel
theorem dX11_asks_12 : decode cX11_asks 12 = .ok (.aload_n 0, 1) := by decide +kernel
theorem dX11_asks_13 : decode cX11_asks 13 = .ok (.getfield 71, 3) := by decide +kernel
theorem dX11_asks_16 : decode cX11_asks 16 = .ok (.iconst 1, 1) := by decide +kernel
theorem dX11_asks_17 : decode cX11_asks 17 = .ok (.aload_n 0, 1) := by decide +kernel
theorem dX11_asks_18 : decode cX11_asks 18 = .ok (.getfield 7, 3) := by decide +kernel
theorem dX11_asks_21 : decode cX11_asks 21 = .ok (.iconst 5, 1) := by decide +kernel
theorem dX11_asks_22 : decode cX11_asks 22 = .ok (.iload_n 1, 1) := by decide +kernel
theorem dX11_asks_23 : decode cX11_asks 23 = .ok (.iadd, 1) := by decide +kernel
theorem dX11_asks_24 : decode cX11_asks 24 = .ok (.iaload, 1) := by decide +kernel
theorem dX11_asks_25 : decode cX11_asks 25 = .ok (.iastore, 1) := by decide +kernel
theorem dX11_asks_26 : decode cX11_asks 26 = .ok (.aload_n 0, 1) := by decide +kernel
theorem dX11_asks_27 : decode cX11_asks 27 = .ok (.getfield 71, 3) := by decide +kernel
theorem dX11_asks_30 : decode cX11_asks 30 = .ok (.iconst 2, 1) := by decide +kernel
theorem dX11_asks_31 : decode cX11_asks 31 = .ok (.iload_n 2, 1) := by decide +kernel
theorem dX11_asks_32 : decode cX11_asks 32 = .ok (.iconst (-1), 1) := by decide +kernel
theorem dX11_asks_33 : decode cX11_asks 33 = .ok (.if_icmp .ne 7, 3) := by decide +kernel
theorem dX11_asks_36 : decode cX11_asks 36 = .ok (.iconst 0, 1) := by decide +kernel
theorem dX11_asks_37 : decode cX11_asks 37 = .ok (.goto 9, 3) := by decide +kernel
theorem dX11_asks_40 : decode cX11_asks 40 = .ok (.aload_n 0, 1) := by decide +kernel
theorem dX11_asks_41 : decode cX11_asks 41 = .ok (.getfield 22, 3) := by decide +kernel
theorem dX11_asks_44 : decode cX11_asks 44 = .ok (.iload_n 2, 1) := by decide +kernel
theorem dX11_asks_45 : decode cX11_asks 45 = .ok (.iaload, 1) := by decide +kernel
theorem dX11_asks_46 : decode cX11_asks 46 = .ok (.iastore, 1) := by decide +kernel
theorem dX11_asks_47 : decode cX11_asks 47 = .ok (.aload_n 0, 1) := by decide +kernel
theorem dX11_asks_48 : decode cX11_asks 48 = .ok (.getfield 71, 3) := by decide +kernel
theorem dX11_asks_51 : decode cX11_asks 51 = .ok (.iconst 3, 1) := by decide +kernel
theorem dX11_asks_52 : decode cX11_asks 52 = .ok (.iload_n 2, 1) := by decide +kernel
theorem dX11_asks_53 : decode cX11_asks 53 = .ok (.iconst (-1), 1) := by decide +kernel
theorem dX11_asks_54 : decode cX11_asks 54 = .ok (.if_icmp .ne 7, 3) := by decide +kernel
theorem dX11_asks_57 : decode cX11_asks 57 = .ok (.iconst 0, 1) := by decide +kernel
theorem dX11_asks_58 : decode cX11_asks 58 = .ok (.goto 18, 3) := by decide +kernel
theorem dX11_asks_61 : decode cX11_asks 61 = .ok (.aload_n 0, 1) := by decide +kernel
theorem dX11_asks_62 : decode cX11_asks 62 = .ok (.aload_n 0, 1) := by decide +kernel
theorem dX11_asks_63 : decode cX11_asks 63 = .ok (.getfield 68, 3) := by decide +kernel
theorem dX11_asks_66 : decode cX11_asks 66 = .ok (.iload_n 2, 1) := by decide +kernel
theorem dX11_asks_67 : decode cX11_asks 67 = .ok (.iaload, 1) := by decide +kernel
theorem dX11_asks_68 : decode cX11_asks 68 = .ok (.aload_n 0, 1) := by decide +kernel
theorem dX11_asks_69 : decode cX11_asks 69 = .ok (.invokevirtual 326, 3) := by decide +kernel
theorem dX11_asks_72 : decode cX11_asks 72 = .ok (.iand, 1) := by decide +kernel
theorem dX11_asks_73 : decode cX11_asks 73 = .ok (.invokevirtual 329, 3) := by decide +kernel
theorem dX11_asks_76 : decode cX11_asks 76 = .ok (.iastore, 1) := by decide +kernel
theorem dX11_asks_77 : decode cX11_asks 77 = .ok (.aload_n 0, 1) := by decide +kernel
theorem dX11_asks_78 : decode cX11_asks 78 = .ok (.getfield 71, 3) := by decide +kernel
theorem dX11_asks_81 : decode cX11_asks 81 = .ok (.iconst 4, 1) := by decide +kernel
theorem dX11_asks_82 : decode cX11_asks 82 = .ok (.iload_n 2, 1) := by decide +kernel
theorem dX11_asks_83 : decode cX11_asks 83 = .ok (.iconst (-1), 1) := by decide +kernel
theorem dX11_asks_84 : decode cX11_asks 84 = .ok (.if_icmp .ne 7, 3) := by decide +kernel
theorem dX11_asks_87 : decode cX11_asks 87 = .ok (.iconst 0, 1) := by decide +kernel
theorem dX11_asks_88 : decode cX11_asks 88 = .ok (.goto 12, 3) := by decide +kernel
theorem dX11_asks_91 : decode cX11_asks 91 = .ok (.aload_n 0, 1) := by decide +kernel
theorem dX11_asks_92 : decode cX11_asks 92 = .ok (.getfield 7, 3) := by decide +kernel
theorem dX11_asks_95 : decode cX11_asks 95 = .ok (.bipush 49, 2) := by decide +kernel
theorem dX11_asks_97 : decode cX11_asks 97 = .ok (.iload_n 2, 1) := by decide +kernel
theorem dX11_asks_98 : decode cX11_asks 98 = .ok (.iadd, 1) := by decide +kernel
theorem dX11_asks_99 : decode cX11_asks 99 = .ok (.iaload, 1) := by decide +kernel
theorem dX11_asks_100 : decode cX11_asks 100 = .ok (.iastore, 1) := by decide +kernel
theorem dX11_asks_101 : decode cX11_asks 101 = .ok (.aload_n 0, 1) := by decide +kernel
theorem dX11_asks_102 : decode cX11_asks 102 = .ok (.getfield 71, 3) := by decide +kernel
theorem dX11_asks_105 : decode cX11_asks 105 = .ok (.iconst 5, 1) := by decide +kernel
theorem dX11_asks_106 : decode cX11_asks 106 = .ok (.iload_n 2, 1) := by decide +kernel
theorem dX11_asks_107 : decode cX11_asks 107 = .ok (.iconst (-1), 1) := by decide +kernel
theorem dX11_asks_108 : decode cX11_asks 108 = .ok (.if_icmp .ne 7, 3) := by decide +kernel
theorem dX11_asks_111 : decode cX11_asks 111 = .ok (.iconst 0, 1) := by decide +kernel
theorem dX11_asks_112 : decode cX11_asks 112 = .ok (.goto 12, 3) := by decide +kernel
theorem dX11_asks_115 : decode cX11_asks 115 = .ok (.aload_n 0, 1) := by decide +kernel
theorem dX11_asks_116 : decode cX11_asks 116 = .ok (.getfield 7, 3) := by decide +kernel
theorem dX11_asks_119 : decode cX11_asks 119 = .ok (.bipush 63, 2) := by decide +kernel
theorem dX11_asks_121 : decode cX11_asks 121 = .ok (.iload_n 2, 1) := by decide +kernel
theorem dX11_asks_122 : decode cX11_asks 122 = .ok (.iadd, 1) := by decide +kernel
theorem dX11_asks_123 : decode cX11_asks 123 = .ok (.iaload, 1) := by decide +kernel
theorem dX11_asks_124 : decode cX11_asks 124 = .ok (.iastore, 1) := by decide +kernel
theorem dX11_asks_125 : decode cX11_asks 125 = .ok (.aload_n 0, 1) := by decide +kernel
theorem dX11_asks_126 : decode cX11_asks 126 = .ok (.getfield 71, 3) := by decide +kernel
theorem dX11_asks_129 : decode cX11_asks 129 = .ok (.bipush 6, 2) := by decide +kernel
theorem dX11_asks_131 : decode cX11_asks 131 = .ok (.aload_n 0, 1) := by decide +kernel
theorem dX11_asks_132 : decode cX11_asks 132 = .ok (.getfield 7, 3) := by decide +kernel
theorem dX11_asks_135 : decode cX11_asks 135 = .ok (.iconst 3, 1) := by decide +kernel
theorem dX11_asks_136 : decode cX11_asks 136 = .ok (.iaload, 1) := by decide +kernel
theorem dX11_asks_137 : decode cX11_asks 137 = .ok (.iastore, 1) := by decide +kernel
theorem dX11_asks_138 : decode cX11_asks 138 = .ok (.aload_n 0, 1) := by decide +kernel
theorem dX11_asks_139 : decode cX11_asks 139 = .ok (.getfield 71, 3) := by decide +kernel
theorem dX11_asks_142 : decode cX11_asks 142 = .ok (.bipush 7, 2) := by decide +kernel
theorem dX11_asks_144 : decode cX11_asks 144 = .ok (.aload_n 0, 1) := by decide +kernel
theorem dX11_asks_145 : decode cX11_asks 145 = .ok (.aload_n 0, 1) := by decide +kernel
theorem dX11_asks_146 : decode cX11_asks 146 = .ok (.invokevirtual 326, 3) := by decide +kernel
theorem dX11_asks_149 : decode cX11_asks 149 = .ok (.invokevirtual 329, 3) := by decide +kernel
theorem dX11_asks_152 : decode cX11_asks 152 = .ok (.iastore, 1) := by decide +kernel
theorem dX11_asks_153 : decode cX11_asks 153 = .ok (.aload_n 0, 1) := by decide +kernel
theorem dX11_asks_154 : decode cX11_asks 154 = .ok (.getfield 71, 3) := by decide +kernel
theorem dX11_asks_157 : decode cX11_asks 157 = .ok (.bipush 8, 2) := by decide +kernel
theorem dX11_asks_159 : decode cX11_asks 159 = .ok (.aload_n 0, 1) := by decide +kernel
theorem dX11_asks_160 : decode cX11_asks 160 = .ok (.getfield 7, 3) := by decide +kernel
theorem dX11_asks_163 : decode cX11_asks 163 = .ok (.iconst 0, 1) := by decide +kernel
theorem dX11_asks_164 : decode cX11_asks 164 = .ok (.iaload, 1) := by decide +kernel
theorem dX11_asks_165 : decode cX11_asks 165 = .ok (.iastore, 1) := by decide +kernel
theorem dX11_asks_166 : decode cX11_asks 166 = .ok (.return_, 1) := by decide +kernel
def f_X11_asks_124   (s0 : Int32) (s1 : Int32) (h : zHp) : Option (zHp) := zix s1 9 (zlt (zst h 20 s1.toNatClampNeg s0) fun h1 => zix (3 : Int32) 77 (zix (6 : Int32) 9 (zlt (zst h1 20 (6 : Int32).toNatClampNeg (h1 1 (3 : Int32).toNatClampNeg)) fun h2 => (f_X11_hereSet h2).bind fun x3 => (f_X11_onesOf x3.1 x3.2).bind fun x4 => zix (7 : Int32) 9 (zlt (zst x4.2 20 (7 : Int32).toNatClampNeg x4.1) fun h5 => zix (0 : Int32) 77 (zix (8 : Int32) 9 (zlt (zst h5 20 (8 : Int32).toNatClampNeg (h5 1 (0 : Int32).toNatClampNeg)) fun h6 => some h6))))))
set_option maxHeartbeats 4000000 in
set_option maxRecDepth 100000 in
theorem f_X11_asks_124_s  (s0 : Int32) (s1 : Int32) (h : zHp) : Sim wM mX11_asks 1 rV 124 [(0, .ref 0)] [.int s0, .int s1, .ref 20] h (f_X11_asks_124 s0 s1 h) := by
  unfold f_X11_asks_124
  refine Sim.iast (n := 9) dX11_asks_124 mA_20 ?_
  refine Sim.lth (fun h1 => ?_)
  refine Sim.aload_n 0 dX11_asks_125 rfl ?_
  refine Sim.getR (j := 20) fl_X11_71 dX11_asks_126 mR_40 ?_
  refine Sim.bipush (v := (6 : Int32)) dX11_asks_129 rfl ?_
  refine Sim.aload_n 0 dX11_asks_131 rfl ?_
  refine Sim.getR (j := 1) fl_X11_7 dX11_asks_132 mR_1 ?_
  refine Sim.iconst (v := (3 : Int32)) dX11_asks_135 rfl ?_
  refine Sim.iald (n := 77) dX11_asks_136 mA_1 ?_
  refine Sim.iast (n := 9) dX11_asks_137 mA_20 ?_
  refine Sim.lth (fun h2 => ?_)
  refine Sim.aload_n 0 dX11_asks_138 rfl ?_
  refine Sim.getR (j := 20) fl_X11_71 dX11_asks_139 mR_40 ?_
  refine Sim.bipush (v := (7 : Int32)) dX11_asks_142 rfl ?_
  refine Sim.aload_n 0 dX11_asks_144 rfl ?_
  refine Sim.aload_n 0 dX11_asks_145 rfl ?_
  refine Sim.callV0I (d1 := 0) (s_X11_hereSet h2) dX11_asks_146 ml_X11_326 mv_X11_hereSet mC (Nat.le_of_ble_eq_true rfl) (Nat.le_of_ble_eq_true rfl) (Nat.le_of_ble_eq_true rfl) (fun x3 => ?_)
  refine Sim.callV1I (d1 := 0) (s_X11_onesOf x3.1 x3.2) dX11_asks_149 ml_X11_329 mv_X11_onesOf mC (Nat.le_of_ble_eq_true rfl) (Nat.le_of_ble_eq_true rfl) (Nat.le_of_ble_eq_true rfl) (fun x4 => ?_)
  refine Sim.iast (n := 9) dX11_asks_152 mA_20 ?_
  refine Sim.lth (fun h5 => ?_)
  refine Sim.aload_n 0 dX11_asks_153 rfl ?_
  refine Sim.getR (j := 20) fl_X11_71 dX11_asks_154 mR_40 ?_
  refine Sim.bipush (v := (8 : Int32)) dX11_asks_157 rfl ?_
  refine Sim.aload_n 0 dX11_asks_159 rfl ?_
  refine Sim.getR (j := 1) fl_X11_7 dX11_asks_160 mR_1 ?_
  refine Sim.iconst (v := (0 : Int32)) dX11_asks_163 rfl ?_
  refine Sim.iald (n := 77) dX11_asks_164 mA_1 ?_
  refine Sim.iast (n := 9) dX11_asks_165 mA_20 ?_
  refine Sim.lth (fun h6 => ?_)
  exact Sim.vret dX11_asks_166 rfl
def f_X11_asks_100   (v2 : Int32) (s0 : Int32) (s1 : Int32) (h : zHp) : Option (zHp) := zix s1 9 (zlt (zst h 20 s1.toNatClampNeg s0) fun h1 => (if v2 = (-1 : Int32) then f_X11_asks_124 (0 : Int32) (5 : Int32) h1 else zix ((63 : Int32) + v2) 77 (f_X11_asks_124 (h1 1 ((63 : Int32) + v2).toNatClampNeg) (5 : Int32) h1)))
set_option maxHeartbeats 4000000 in
set_option maxRecDepth 100000 in
theorem f_X11_asks_100_s  (v2 : Int32) (s0 : Int32) (s1 : Int32) (h : zHp) : Sim wM mX11_asks 1 rV 100 [(0, .ref 0), (2, .int v2)] [.int s0, .int s1, .ref 20] h (f_X11_asks_100 v2 s0 s1 h) := by
  unfold f_X11_asks_100
  refine Sim.iast (n := 9) dX11_asks_100 mA_20 ?_
  refine Sim.lth (fun h1 => ?_)
  refine Sim.aload_n 0 dX11_asks_101 rfl ?_
  refine Sim.getR (j := 20) fl_X11_71 dX11_asks_102 mR_40 ?_
  refine Sim.iconst (v := (5 : Int32)) dX11_asks_105 rfl ?_
  refine Sim.iload_n 1 dX11_asks_106 rfl ?_
  refine Sim.iconst (v := (-1 : Int32)) dX11_asks_107 rfl ?_
  refine Sim.icmp_ne 115 dX11_asks_108 rfl ?_ ?_
  · refine Sim.iconst (v := (0 : Int32)) dX11_asks_111 rfl ?_
    refine Sim.goto 124 dX11_asks_112 rfl ?_
    refine Sim.locs [0] rfl ?_
    exact f_X11_asks_124_s (0 : Int32) (5 : Int32) h1
  · refine Sim.aload_n 0 dX11_asks_115 rfl ?_
    refine Sim.getR (j := 1) fl_X11_7 dX11_asks_116 mR_1 ?_
    refine Sim.bipush (v := (63 : Int32)) dX11_asks_119 rfl ?_
    refine Sim.iload_n 1 dX11_asks_121 rfl ?_
    refine Sim.iadd dX11_asks_122 ?_
    refine Sim.iald (n := 77) dX11_asks_123 mA_1 ?_
    refine Sim.locs [0] rfl ?_
    exact f_X11_asks_124_s (h1 1 ((63 : Int32) + v2).toNatClampNeg) (5 : Int32) h1
def f_X11_asks_76   (v2 : Int32) (s0 : Int32) (s1 : Int32) (h : zHp) : Option (zHp) := zix s1 9 (zlt (zst h 20 s1.toNatClampNeg s0) fun h1 => (if v2 = (-1 : Int32) then f_X11_asks_100 v2 (0 : Int32) (4 : Int32) h1 else zix ((49 : Int32) + v2) 77 (f_X11_asks_100 v2 (h1 1 ((49 : Int32) + v2).toNatClampNeg) (4 : Int32) h1)))
set_option maxHeartbeats 4000000 in
set_option maxRecDepth 100000 in
theorem f_X11_asks_76_s  (v2 : Int32) (s0 : Int32) (s1 : Int32) (h : zHp) : Sim wM mX11_asks 1 rV 76 [(0, .ref 0), (2, .int v2)] [.int s0, .int s1, .ref 20] h (f_X11_asks_76 v2 s0 s1 h) := by
  unfold f_X11_asks_76
  refine Sim.iast (n := 9) dX11_asks_76 mA_20 ?_
  refine Sim.lth (fun h1 => ?_)
  refine Sim.aload_n 0 dX11_asks_77 rfl ?_
  refine Sim.getR (j := 20) fl_X11_71 dX11_asks_78 mR_40 ?_
  refine Sim.iconst (v := (4 : Int32)) dX11_asks_81 rfl ?_
  refine Sim.iload_n 1 dX11_asks_82 rfl ?_
  refine Sim.iconst (v := (-1 : Int32)) dX11_asks_83 rfl ?_
  refine Sim.icmp_ne 91 dX11_asks_84 rfl ?_ ?_
  · refine Sim.iconst (v := (0 : Int32)) dX11_asks_87 rfl ?_
    refine Sim.goto 100 dX11_asks_88 rfl ?_
    exact f_X11_asks_100_s v2 (0 : Int32) (4 : Int32) h1
  · refine Sim.aload_n 0 dX11_asks_91 rfl ?_
    refine Sim.getR (j := 1) fl_X11_7 dX11_asks_92 mR_1 ?_
    refine Sim.bipush (v := (49 : Int32)) dX11_asks_95 rfl ?_
    refine Sim.iload_n 1 dX11_asks_97 rfl ?_
    refine Sim.iadd dX11_asks_98 ?_
    refine Sim.iald (n := 77) dX11_asks_99 mA_1 ?_
    exact f_X11_asks_100_s v2 (h1 1 ((49 : Int32) + v2).toNatClampNeg) (4 : Int32) h1
def f_X11_asks_46   (v2 : Int32) (s0 : Int32) (s1 : Int32) (h : zHp) : Option (zHp) := zix s1 9 (zlt (zst h 20 s1.toNatClampNeg s0) fun h1 => (if v2 = (-1 : Int32) then f_X11_asks_76 v2 (0 : Int32) (3 : Int32) h1 else zix v2 28 ((f_X11_hereSet h1).bind fun x2 => (f_X11_onesOf ((h1 19 v2.toNatClampNeg) &&& x2.1) x2.2).bind fun x3 => f_X11_asks_76 v2 x3.1 (3 : Int32) x3.2)))
set_option maxHeartbeats 4000000 in
set_option maxRecDepth 100000 in
theorem f_X11_asks_46_s  (v2 : Int32) (s0 : Int32) (s1 : Int32) (h : zHp) : Sim wM mX11_asks 1 rV 46 [(0, .ref 0), (2, .int v2)] [.int s0, .int s1, .ref 20] h (f_X11_asks_46 v2 s0 s1 h) := by
  unfold f_X11_asks_46
  refine Sim.iast (n := 9) dX11_asks_46 mA_20 ?_
  refine Sim.lth (fun h1 => ?_)
  refine Sim.aload_n 0 dX11_asks_47 rfl ?_
  refine Sim.getR (j := 20) fl_X11_71 dX11_asks_48 mR_40 ?_
  refine Sim.iconst (v := (3 : Int32)) dX11_asks_51 rfl ?_
  refine Sim.iload_n 1 dX11_asks_52 rfl ?_
  refine Sim.iconst (v := (-1 : Int32)) dX11_asks_53 rfl ?_
  refine Sim.icmp_ne 61 dX11_asks_54 rfl ?_ ?_
  · refine Sim.iconst (v := (0 : Int32)) dX11_asks_57 rfl ?_
    refine Sim.goto 76 dX11_asks_58 rfl ?_
    exact f_X11_asks_76_s v2 (0 : Int32) (3 : Int32) h1
  · refine Sim.aload_n 0 dX11_asks_61 rfl ?_
    refine Sim.aload_n 0 dX11_asks_62 rfl ?_
    refine Sim.getR (j := 19) fl_X11_68 dX11_asks_63 mR_39 ?_
    refine Sim.iload_n 1 dX11_asks_66 rfl ?_
    refine Sim.iald (n := 28) dX11_asks_67 mA_19 ?_
    refine Sim.aload_n 0 dX11_asks_68 rfl ?_
    refine Sim.callV0I (d1 := 0) (s_X11_hereSet h1) dX11_asks_69 ml_X11_326 mv_X11_hereSet mC (Nat.le_of_ble_eq_true rfl) (Nat.le_of_ble_eq_true rfl) (Nat.le_of_ble_eq_true rfl) (fun x2 => ?_)
    refine Sim.iand dX11_asks_72 ?_
    refine Sim.callV1I (d1 := 0) (s_X11_onesOf ((h1 19 v2.toNatClampNeg) &&& x2.1) x2.2) dX11_asks_73 ml_X11_329 mv_X11_onesOf mC (Nat.le_of_ble_eq_true rfl) (Nat.le_of_ble_eq_true rfl) (Nat.le_of_ble_eq_true rfl) (fun x3 => ?_)
    exact f_X11_asks_76_s v2 x3.1 (3 : Int32) x3.2
def f_X11_asks  (a1 : Int32) (a2 : Int32) (h : zHp) : Option (zHp) := zix a1 10 (zix (0 : Int32) 9 (zlt (zst h 20 (0 : Int32).toNatClampNeg (h 4 a1.toNatClampNeg)) fun h1 => zix ((5 : Int32) + a1) 77 (zix (1 : Int32) 9 (zlt (zst h1 20 (1 : Int32).toNatClampNeg (h1 1 ((5 : Int32) + a1).toNatClampNeg)) fun h2 => (if a2 = (-1 : Int32) then f_X11_asks_46 a2 (0 : Int32) (2 : Int32) h2 else zix a2 14 (f_X11_asks_46 a2 (h2 5 a2.toNatClampNeg) (2 : Int32) h2))))))
set_option maxHeartbeats 4000000 in
set_option maxRecDepth 100000 in
theorem s_X11_asks  (a1 : Int32) (a2 : Int32) (h : zHp) : Fn wM mX11_asks 1 rV [.ref 0, .int a1, .int a2] h (f_X11_asks a1 a2 h) := by
  refine Fn.of rfl (Nat.le_of_ble_eq_true rfl) ?_
  unfold f_X11_asks
  refine Sim.aload_n 0 dX11_asks_0 rfl ?_
  refine Sim.getR (j := 20) fl_X11_71 dX11_asks_1 mR_40 ?_
  refine Sim.iconst (v := (0 : Int32)) dX11_asks_4 rfl ?_
  refine Sim.aload_n 0 dX11_asks_5 rfl ?_
  refine Sim.getR (j := 4) fl_X11_19 dX11_asks_6 mR_8 ?_
  refine Sim.iload_n 1 dX11_asks_9 rfl ?_
  refine Sim.iald (n := 10) dX11_asks_10 mA_4 ?_
  refine Sim.iast (n := 9) dX11_asks_11 mA_20 ?_
  refine Sim.lth (fun h1 => ?_)
  refine Sim.aload_n 0 dX11_asks_12 rfl ?_
  refine Sim.getR (j := 20) fl_X11_71 dX11_asks_13 mR_40 ?_
  refine Sim.iconst (v := (1 : Int32)) dX11_asks_16 rfl ?_
  refine Sim.aload_n 0 dX11_asks_17 rfl ?_
  refine Sim.getR (j := 1) fl_X11_7 dX11_asks_18 mR_1 ?_
  refine Sim.iconst (v := (5 : Int32)) dX11_asks_21 rfl ?_
  refine Sim.iload_n 1 dX11_asks_22 rfl ?_
  refine Sim.iadd dX11_asks_23 ?_
  refine Sim.iald (n := 77) dX11_asks_24 mA_1 ?_
  refine Sim.iast (n := 9) dX11_asks_25 mA_20 ?_
  refine Sim.lth (fun h2 => ?_)
  refine Sim.aload_n 0 dX11_asks_26 rfl ?_
  refine Sim.getR (j := 20) fl_X11_71 dX11_asks_27 mR_40 ?_
  refine Sim.iconst (v := (2 : Int32)) dX11_asks_30 rfl ?_
  refine Sim.iload_n 2 dX11_asks_31 rfl ?_
  refine Sim.iconst (v := (-1 : Int32)) dX11_asks_32 rfl ?_
  refine Sim.icmp_ne 40 dX11_asks_33 rfl ?_ ?_
  · refine Sim.iconst (v := (0 : Int32)) dX11_asks_36 rfl ?_
    refine Sim.goto 46 dX11_asks_37 rfl ?_
    refine Sim.locs [0, 2] rfl ?_
    exact f_X11_asks_46_s a2 (0 : Int32) (2 : Int32) h2
  · refine Sim.aload_n 0 dX11_asks_40 rfl ?_
    refine Sim.getR (j := 5) fl_X11_22 dX11_asks_41 mR_9 ?_
    refine Sim.iload_n 2 dX11_asks_44 rfl ?_
    refine Sim.iald (n := 14) dX11_asks_45 mA_5 ?_
    refine Sim.locs [0, 2] rfl ?_
    exact f_X11_asks_46_s a2 (h2 5 a2.toNatClampNeg) (2 : Int32) h2
theorem mv_X11_asks : zMV mX11_asks 2 := ⟨⟨zTb_in 1742 (by decide +kernel) rfl, zTb_in 148 (by decide +kernel) rfl, ⟨by decide +kernel, by decide +kernel⟩, by decide +kernel⟩, zTb_in 1741 (by decide +kernel) rfl, zTb_in 87 (by decide +kernel) rfl⟩
-- ===== RockingPorchModel.lawTells(III)I
abbrev mX11_lawTells : zMt := (yX11_lawTells, cX11_lawTells, 5, some .int)
theorem ml_X11_332 : Cond.methodLink RX11 332 yX11_lineOf ∈ zTb := zTb_in 1755 (by decide +kernel) rfl
theorem ml_X11_335 : Cond.methodLink RX11 335 yX11_held ∈ zTb := zTb_in 1767 (by decide +kernel) rfl
theorem dX11_lawTells_0 : decode cX11_lawTells 0 = .ok (.aload_n 0, 1) := by decide +kernel
theorem dX11_lawTells_1 : decode cX11_lawTells 1 = .ok (.iload_n 1, 1) := by decide +kernel
theorem dX11_lawTells_2 : decode cX11_lawTells 2 = .ok (.invokevirtual 332, 3) := by decide +kernel
theorem dX11_lawTells_5 : decode cX11_lawTells 5 = .ok (.istore 4, 2) := by decide +kernel
theorem dX11_lawTells_7 : decode cX11_lawTells 7 = .ok (.aload_n 0, 1) := by decide +kernel
theorem dX11_lawTells_8 : decode cX11_lawTells 8 = .ok (.iload 4, 2) := by decide +kernel
theorem dX11_lawTells_10 : decode cX11_lawTells 10 = .ok (.iconst (-1), 1) := by decide +kernel
theorem dX11_lawTells_11 : decode cX11_lawTells 11 = .ok (.if_icmp .ne 7, 3) := by decide +kernel
theorem dX11_lawTells_14 : decode cX11_lawTells 14 = .ok (.iload_n 2, 1) := by decide +kernel
theorem dX11_lawTells_15 : decode cX11_lawTells 15 = .ok (.goto 22, 3) := by decide +kernel
theorem dX11_lawTells_18 : decode cX11_lawTells 18 = .ok (.aload_n 0, 1) := by decide +kernel
theorem dX11_lawTells_19 : decode cX11_lawTells 19 = .ok (.iconst 0, 1) := by decide +kernel
theorem dX11_lawTells_20 : decode cX11_lawTells 20 = .ok (.aload_n 0, 1) := by decide +kernel
theorem dX11_lawTells_21 : decode cX11_lawTells 21 = .ok (.getfield 40, 3) := by decide +kernel
theorem dX11_lawTells_24 : decode cX11_lawTells 24 = .ok (.iload 4, 2) := by decide +kernel
theorem dX11_lawTells_26 : decode cX11_lawTells 26 = .ok (.iaload, 1) := by decide +kernel
theorem dX11_lawTells_27 : decode cX11_lawTells 27 = .ok (.aload_n 0, 1) := by decide +kernel
theorem dX11_lawTells_28 : decode cX11_lawTells 28 = .ok (.getfield 43, 3) := by decide +kernel
theorem dX11_lawTells_31 : decode cX11_lawTells 31 = .ok (.iload 4, 2) := by decide +kernel
theorem dX11_lawTells_33 : decode cX11_lawTells 33 = .ok (.iaload, 1) := by decide +kernel
theorem dX11_lawTells_34 : decode cX11_lawTells 34 = .ok (.invokevirtual 323, 3) := by decide +kernel
theorem dX11_lawTells_37 : decode cX11_lawTells 37 = .ok (.iconst 0, 1) := by decide +kernel
theorem dX11_lawTells_38 : decode cX11_lawTells 38 = .ok (.iload_n 3, 1) := by decide +kernel
theorem dX11_lawTells_39 : decode cX11_lawTells 39 = .ok (.invokevirtual 335, 3) := by decide +kernel
theorem dX11_lawTells_42 : decode cX11_lawTells 42 = .ok (.ireturn, 1) := by decide +kernel
def f_X11_lawTells  (a1 : Int32) (a2 : Int32) (a3 : Int32) (h : zHp) : Option (Int32 × zHp) := (f_X11_lineOf a1 h).bind fun x1 => (if x1.1 = (-1 : Int32) then (f_X11_held a2 (0 : Int32) a3 x1.2).bind fun x2 => some (x2.1, x2.2) else zix x1.1 48 (zix x1.1 48 ((f_X11_runs (0 : Int32) (x1.2 11 x1.1.toNatClampNeg) (x1.2 12 x1.1.toNatClampNeg) x1.2).bind fun x3 => (f_X11_held x3.1 (0 : Int32) a3 x3.2).bind fun x4 => some (x4.1, x4.2))))
set_option maxHeartbeats 4000000 in
set_option maxRecDepth 100000 in
theorem s_X11_lawTells  (a1 : Int32) (a2 : Int32) (a3 : Int32) (h : zHp) : Fn wM mX11_lawTells 3 rI [.ref 0, .int a1, .int a2, .int a3] h (f_X11_lawTells a1 a2 a3 h) := by
  refine Fn.of rfl (Nat.le_of_ble_eq_true rfl) ?_
  unfold f_X11_lawTells
  refine Sim.aload_n 0 dX11_lawTells_0 rfl ?_
  refine Sim.iload_n 1 dX11_lawTells_1 rfl ?_
  refine Sim.callV1I (d1 := 2) (s_X11_lineOf a1 h) dX11_lawTells_2 ml_X11_332 mv_X11_lineOf mC (Nat.le_of_ble_eq_true rfl) (Nat.le_of_ble_eq_true rfl) (Nat.le_of_ble_eq_true rfl) (fun x1 => ?_)
  refine Sim.istore (L' := [(4, .int x1.1), (0, .ref 0), (1, .int a1), (2, .int a2), (3, .int a3)]) dX11_lawTells_5 (Nat.le_of_ble_eq_true rfl) rfl ?_
  refine Sim.aload_n 1 dX11_lawTells_7 rfl ?_
  refine Sim.iload 0 dX11_lawTells_8 rfl ?_
  refine Sim.iconst (v := (-1 : Int32)) dX11_lawTells_10 rfl ?_
  refine Sim.icmp_ne 18 dX11_lawTells_11 rfl ?_ ?_
  · refine Sim.iload_n 3 dX11_lawTells_14 rfl ?_
    refine Sim.goto 37 dX11_lawTells_15 rfl ?_
    refine Sim.iconst (v := (0 : Int32)) dX11_lawTells_37 rfl ?_
    refine Sim.iload_n 4 dX11_lawTells_38 rfl ?_
    refine Sim.callV3I (d1 := 0) (s_X11_held a2 (0 : Int32) a3 x1.2) dX11_lawTells_39 ml_X11_335 mv_X11_held mC (Nat.le_of_ble_eq_true rfl) (Nat.le_of_ble_eq_true rfl) (Nat.le_of_ble_eq_true rfl) (fun x2 => ?_)
    exact Sim.iret dX11_lawTells_42 rfl
  · refine Sim.aload_n 1 dX11_lawTells_18 rfl ?_
    refine Sim.iconst (v := (0 : Int32)) dX11_lawTells_19 rfl ?_
    refine Sim.aload_n 1 dX11_lawTells_20 rfl ?_
    refine Sim.getR (j := 11) fl_X11_40 dX11_lawTells_21 mR_20 ?_
    refine Sim.iload 0 dX11_lawTells_24 rfl ?_
    refine Sim.iald (n := 48) dX11_lawTells_26 mA_11 ?_
    refine Sim.aload_n 1 dX11_lawTells_27 rfl ?_
    refine Sim.getR (j := 12) fl_X11_43 dX11_lawTells_28 mR_21 ?_
    refine Sim.iload 0 dX11_lawTells_31 rfl ?_
    refine Sim.iald (n := 48) dX11_lawTells_33 mA_12 ?_
    refine Sim.callV3I (d1 := 1) (s_X11_runs (0 : Int32) (x1.2 11 x1.1.toNatClampNeg) (x1.2 12 x1.1.toNatClampNeg) x1.2) dX11_lawTells_34 ml_X11_323 mv_X11_runs mC (Nat.le_of_ble_eq_true rfl) (Nat.le_of_ble_eq_true rfl) (Nat.le_of_ble_eq_true rfl) (fun x3 => ?_)
    refine Sim.iconst (v := (0 : Int32)) dX11_lawTells_37 rfl ?_
    refine Sim.iload_n 4 dX11_lawTells_38 rfl ?_
    refine Sim.callV3I (d1 := 0) (s_X11_held x3.1 (0 : Int32) a3 x3.2) dX11_lawTells_39 ml_X11_335 mv_X11_held mC (Nat.le_of_ble_eq_true rfl) (Nat.le_of_ble_eq_true rfl) (Nat.le_of_ble_eq_true rfl) (fun x4 => ?_)
    exact Sim.iret dX11_lawTells_42 rfl
theorem mv_X11_lawTells : zMV mX11_lawTells 3 := ⟨⟨zTb_in 1754 (by decide +kernel) rfl, zTb_in 148 (by decide +kernel) rfl, ⟨by decide +kernel, by decide +kernel⟩, by decide +kernel⟩, zTb_in 1753 (by decide +kernel) rfl, zTb_in 90 (by decide +kernel) rfl⟩
-- ===== RockingPorchModel.swingsOf(II)I
abbrev mX11_swingsOf : zMt := (yX11_swingsOf, cX11_swingsOf, 3, some .int)
theorem ml_X11_338 : Cond.methodLink RX11 338 yX11_asks ∈ zTb := zTb_in 1739 (by decide +kernel) rfl
theorem ml_X11_341 : Cond.methodLink RX11 341 yX11_lawTells ∈ zTb := zTb_in 1751 (by decide +kernel) rfl
theorem dX11_swingsOf_0 : decode cX11_swingsOf 0 = .ok (.aload_n 0, 1) := by decide +kernel
theorem dX11_swingsOf_1 : decode cX11_swingsOf 1 = .ok (.iload_n 1, 1) := by decide +kernel
theorem dX11_swingsOf_2 : decode cX11_swingsOf 2 = .ok (.iload_n 2, 1) := by decide +kernel
theorem dX11_swingsOf_3 : decode cX11_swingsOf 3 = .ok (.invokevirtual 338, 3) := by decide +kernel
theorem dX11_swingsOf_6 : decode cX11_swingsOf 6 = .ok (.aload_n 0, 1) := by decide +kernel
theorem dX11_swingsOf_7 : decode cX11_swingsOf 7 = .ok (.iconst 0, 1) := by decide +kernel
theorem dX11_swingsOf_8 : decode cX11_swingsOf 8 = .ok (.bipush 10, 2) := by decide +kernel
theorem dX11_swingsOf_10 : decode cX11_swingsOf 10 = .ok (.aload_n 0, 1) := by decide +kernel
theorem dX11_swingsOf_11 : decode cX11_swingsOf 11 = .ok (.getfield 71, 3) := by decide +kernel
theorem dX11_swingsOf_14 : decode cX11_swingsOf 14 = .ok (.iconst 2, 1) := by decide +kernel
theorem dX11_swingsOf_15 : decode cX11_swingsOf 15 = .ok (.iaload, 1) := by decide +kernel
theorem dX11_swingsOf_16 : decode cX11_swingsOf 16 = .ok (.imul, 1) := by decide +kernel
theorem dX11_swingsOf_17 : decode cX11_swingsOf 17 = .ok (.iconst 5, 1) := by decide +kernel
theorem dX11_swingsOf_18 : decode cX11_swingsOf 18 = .ok (.aload_n 0, 1) := by decide +kernel
theorem dX11_swingsOf_19 : decode cX11_swingsOf 19 = .ok (.getfield 71, 3) := by decide +kernel
theorem dX11_swingsOf_22 : decode cX11_swingsOf 22 = .ok (.iconst 3, 1) := by decide +kernel
theorem dX11_swingsOf_23 : decode cX11_swingsOf 23 = .ok (.iaload, 1) := by decide +kernel
theorem dX11_swingsOf_24 : decode cX11_swingsOf 24 = .ok (.imul, 1) := by decide +kernel
theorem dX11_swingsOf_25 : decode cX11_swingsOf 25 = .ok (.iadd, 1) := by decide +kernel
theorem dX11_swingsOf_26 : decode cX11_swingsOf 26 = .ok (.bipush 99, 2) := by decide +kernel
theorem dX11_swingsOf_28 : decode cX11_swingsOf 28 = .ok (.invokevirtual 341, 3) := by decide +kernel
theorem dX11_swingsOf_31 : decode cX11_swingsOf 31 = .ok (.ireturn, 1) := by decide +kernel
def f_X11_swingsOf  (a1 : Int32) (a2 : Int32) (h : zHp) : Option (Int32 × zHp) := (f_X11_asks a1 a2 h).bind fun x1 => zix (2 : Int32) 9 (zix (3 : Int32) 9 ((f_X11_lawTells (0 : Int32) (((10 : Int32) * (x1 20 (2 : Int32).toNatClampNeg)) + ((5 : Int32) * (x1 20 (3 : Int32).toNatClampNeg))) (99 : Int32) x1).bind fun x2 => some (x2.1, x2.2)))
set_option maxHeartbeats 4000000 in
set_option maxRecDepth 100000 in
theorem s_X11_swingsOf  (a1 : Int32) (a2 : Int32) (h : zHp) : Fn wM mX11_swingsOf 4 rI [.ref 0, .int a1, .int a2] h (f_X11_swingsOf a1 a2 h) := by
  refine Fn.of rfl (Nat.le_of_ble_eq_true rfl) ?_
  unfold f_X11_swingsOf
  refine Sim.aload_n 0 dX11_swingsOf_0 rfl ?_
  refine Sim.iload_n 1 dX11_swingsOf_1 rfl ?_
  refine Sim.iload_n 2 dX11_swingsOf_2 rfl ?_
  refine Sim.callV2U (d1 := 1) (s_X11_asks a1 a2 h) dX11_swingsOf_3 ml_X11_338 mv_X11_asks mC (Nat.le_of_ble_eq_true rfl) (Nat.le_of_ble_eq_true rfl) (Nat.le_of_ble_eq_true rfl) (fun x1 => ?_)
  refine Sim.aload_n 0 dX11_swingsOf_6 rfl ?_
  refine Sim.iconst (v := (0 : Int32)) dX11_swingsOf_7 rfl ?_
  refine Sim.bipush (v := (10 : Int32)) dX11_swingsOf_8 rfl ?_
  refine Sim.aload_n 0 dX11_swingsOf_10 rfl ?_
  refine Sim.getR (j := 20) fl_X11_71 dX11_swingsOf_11 mR_40 ?_
  refine Sim.iconst (v := (2 : Int32)) dX11_swingsOf_14 rfl ?_
  refine Sim.iald (n := 9) dX11_swingsOf_15 mA_20 ?_
  refine Sim.imul dX11_swingsOf_16 ?_
  refine Sim.iconst (v := (5 : Int32)) dX11_swingsOf_17 rfl ?_
  refine Sim.aload_n 0 dX11_swingsOf_18 rfl ?_
  refine Sim.getR (j := 20) fl_X11_71 dX11_swingsOf_19 mR_40 ?_
  refine Sim.iconst (v := (3 : Int32)) dX11_swingsOf_22 rfl ?_
  refine Sim.iald (n := 9) dX11_swingsOf_23 mA_20 ?_
  refine Sim.imul dX11_swingsOf_24 ?_
  refine Sim.iadd dX11_swingsOf_25 ?_
  refine Sim.bipush (v := (99 : Int32)) dX11_swingsOf_26 rfl ?_
  refine Sim.callV3I (d1 := 3) (s_X11_lawTells (0 : Int32) (((10 : Int32) * (x1 20 (2 : Int32).toNatClampNeg)) + ((5 : Int32) * (x1 20 (3 : Int32).toNatClampNeg))) (99 : Int32) x1) dX11_swingsOf_28 ml_X11_341 mv_X11_lawTells mC (Nat.le_of_ble_eq_true rfl) (Nat.le_of_ble_eq_true rfl) (Nat.le_of_ble_eq_true rfl) (fun x2 => ?_)
  exact Sim.iret dX11_swingsOf_31 rfl
theorem mv_X11_swingsOf : zMV mX11_swingsOf 2 := ⟨⟨zTb_in 1738 (by decide +kernel) rfl, zTb_in 148 (by decide +kernel) rfl, ⟨by decide +kernel, by decide +kernel⟩, by decide +kernel⟩, zTb_in 1737 (by decide +kernel) rfl, zTb_in 86 (by decide +kernel) rfl⟩
-- ===== RockingPorchModel.fadesOf(I)I
abbrev mX11_fadesOf : zMt := (yX11_fadesOf, cX11_fadesOf, 2, some .int)
theorem ml_X11_344 : Cond.methodLink RX11 344 yX11_forWhom ∈ zTb := zTb_in 1779 (by decide +kernel) rfl
theorem dX11_fadesOf_0 : decode cX11_fadesOf 0 = .ok (.aload_n 0, 1) := by decide +kernel
theorem dX11_fadesOf_1 : decode cX11_fadesOf 1 = .ok (.iload_n 1, 1) := by decide +kernel
theorem dX11_fadesOf_2 : decode cX11_fadesOf 2 = .ok (.aload_n 0, 1) := by decide +kernel
theorem dX11_fadesOf_3 : decode cX11_fadesOf 3 = .ok (.iload_n 1, 1) := by decide +kernel
theorem dX11_fadesOf_4 : decode cX11_fadesOf 4 = .ok (.invokevirtual 344, 3) := by decide +kernel
theorem dX11_fadesOf_7 : decode cX11_fadesOf 7 = .ok (.invokevirtual 338, 3) := by decide +kernel
theorem dX11_fadesOf_10 : decode cX11_fadesOf 10 = .ok (.aload_n 0, 1) := by decide +kernel
theorem dX11_fadesOf_11 : decode cX11_fadesOf 11 = .ok (.iconst 1, 1) := by decide +kernel
theorem dX11_fadesOf_12 : decode cX11_fadesOf 12 = .ok (.bipush 10, 2) := by decide +kernel
theorem dX11_fadesOf_14 : decode cX11_fadesOf 14 = .ok (.aload_n 0, 1) := by decide +kernel
theorem dX11_fadesOf_15 : decode cX11_fadesOf 15 = .ok (.getfield 71, 3) := by decide +kernel
theorem dX11_fadesOf_18 : decode cX11_fadesOf 18 = .ok (.iconst 0, 1) := by decide +kernel
theorem dX11_fadesOf_19 : decode cX11_fadesOf 19 = .ok (.iaload, 1) := by decide +kernel
theorem dX11_fadesOf_20 : decode cX11_fadesOf 20 = .ok (.isub, 1) := by decide +kernel
theorem dX11_fadesOf_21 : decode cX11_fadesOf 21 = .ok (.aload_n 0, 1) := by decide +kernel
theorem dX11_fadesOf_22 : decode cX11_fadesOf 22 = .ok (.getfield 71, 3) := by decide +kernel
theorem dX11_fadesOf_25 : decode cX11_fadesOf 25 = .ok (.bipush 6, 2) := by decide +kernel
theorem dX11_fadesOf_27 : decode cX11_fadesOf 27 = .ok (.iaload, 1) := by decide +kernel
theorem dX11_fadesOf_28 : decode cX11_fadesOf 28 = .ok (.isub, 1) := by decide +kernel
theorem dX11_fadesOf_29 : decode cX11_fadesOf 29 = .ok (.bipush 20, 2) := by decide +kernel
theorem dX11_fadesOf_31 : decode cX11_fadesOf 31 = .ok (.invokevirtual 341, 3) := by decide +kernel
theorem dX11_fadesOf_34 : decode cX11_fadesOf 34 = .ok (.ireturn, 1) := by decide +kernel
def f_X11_fadesOf  (a1 : Int32) (h : zHp) : Option (Int32 × zHp) := (f_X11_forWhom a1 h).bind fun x1 => (f_X11_asks a1 x1.1 x1.2).bind fun x2 => zix (0 : Int32) 9 (zix (6 : Int32) 9 ((f_X11_lawTells (1 : Int32) (((10 : Int32) - (x2 20 (0 : Int32).toNatClampNeg)) - (x2 20 (6 : Int32).toNatClampNeg)) (20 : Int32) x2).bind fun x3 => some (x3.1, x3.2)))
set_option maxHeartbeats 4000000 in
set_option maxRecDepth 100000 in
theorem s_X11_fadesOf  (a1 : Int32) (h : zHp) : Fn wM mX11_fadesOf 4 rI [.ref 0, .int a1] h (f_X11_fadesOf a1 h) := by
  refine Fn.of rfl (Nat.le_of_ble_eq_true rfl) ?_
  unfold f_X11_fadesOf
  refine Sim.aload_n 0 dX11_fadesOf_0 rfl ?_
  refine Sim.iload_n 1 dX11_fadesOf_1 rfl ?_
  refine Sim.aload_n 0 dX11_fadesOf_2 rfl ?_
  refine Sim.iload_n 1 dX11_fadesOf_3 rfl ?_
  refine Sim.callV1I (d1 := 0) (s_X11_forWhom a1 h) dX11_fadesOf_4 ml_X11_344 mv_X11_forWhom mC (Nat.le_of_ble_eq_true rfl) (Nat.le_of_ble_eq_true rfl) (Nat.le_of_ble_eq_true rfl) (fun x1 => ?_)
  refine Sim.callV2U (d1 := 1) (s_X11_asks a1 x1.1 x1.2) dX11_fadesOf_7 ml_X11_338 mv_X11_asks mC (Nat.le_of_ble_eq_true rfl) (Nat.le_of_ble_eq_true rfl) (Nat.le_of_ble_eq_true rfl) (fun x2 => ?_)
  refine Sim.aload_n 0 dX11_fadesOf_10 rfl ?_
  refine Sim.iconst (v := (1 : Int32)) dX11_fadesOf_11 rfl ?_
  refine Sim.bipush (v := (10 : Int32)) dX11_fadesOf_12 rfl ?_
  refine Sim.aload_n 0 dX11_fadesOf_14 rfl ?_
  refine Sim.getR (j := 20) fl_X11_71 dX11_fadesOf_15 mR_40 ?_
  refine Sim.iconst (v := (0 : Int32)) dX11_fadesOf_18 rfl ?_
  refine Sim.iald (n := 9) dX11_fadesOf_19 mA_20 ?_
  refine Sim.isub dX11_fadesOf_20 ?_
  refine Sim.aload_n 0 dX11_fadesOf_21 rfl ?_
  refine Sim.getR (j := 20) fl_X11_71 dX11_fadesOf_22 mR_40 ?_
  refine Sim.bipush (v := (6 : Int32)) dX11_fadesOf_25 rfl ?_
  refine Sim.iald (n := 9) dX11_fadesOf_27 mA_20 ?_
  refine Sim.isub dX11_fadesOf_28 ?_
  refine Sim.bipush (v := (20 : Int32)) dX11_fadesOf_29 rfl ?_
  refine Sim.callV3I (d1 := 3) (s_X11_lawTells (1 : Int32) (((10 : Int32) - (x2 20 (0 : Int32).toNatClampNeg)) - (x2 20 (6 : Int32).toNatClampNeg)) (20 : Int32) x2) dX11_fadesOf_31 ml_X11_341 mv_X11_lawTells mC (Nat.le_of_ble_eq_true rfl) (Nat.le_of_ble_eq_true rfl) (Nat.le_of_ble_eq_true rfl) (fun x3 => ?_)
  exact Sim.iret dX11_fadesOf_34 rfl
theorem mv_X11_fadesOf : zMV mX11_fadesOf 1 := ⟨⟨zTb_in 1824 (by decide +kernel) rfl, zTb_in 148 (by decide +kernel) rfl, ⟨by decide +kernel, by decide +kernel⟩, by decide +kernel⟩, zTb_in 1823 (by decide +kernel) rfl, zTb_in 106 (by decide +kernel) rfl⟩
-- ===== RockingPorchModel.jumpsAt(I)I
abbrev mX11_jumpsAt : zMt := (yX11_jumpsAt, cX11_jumpsAt, 2, some .int)
theorem dX11_jumpsAt_0 : decode cX11_jumpsAt 0 = .ok (.aload_n 0, 1) := by decide +kernel
theorem dX11_jumpsAt_1 : decode cX11_jumpsAt 1 = .ok (.iload_n 1, 1) := by decide +kernel
theorem dX11_jumpsAt_2 : decode cX11_jumpsAt 2 = .ok (.aload_n 0, 1) := by decide +kernel
theorem dX11_jumpsAt_3 : decode cX11_jumpsAt 3 = .ok (.iload_n 1, 1) := by decide +kernel
theorem dX11_jumpsAt_4 : decode cX11_jumpsAt 4 = .ok (.invokevirtual 344, 3) := by decide +kernel
theorem dX11_jumpsAt_7 : decode cX11_jumpsAt 7 = .ok (.invokevirtual 338, 3) := by decide +kernel
theorem dX11_jumpsAt_10 : decode cX11_jumpsAt 10 = .ok (.aload_n 0, 1) := by decide +kernel
theorem dX11_jumpsAt_11 : decode cX11_jumpsAt 11 = .ok (.iconst 2, 1) := by decide +kernel
theorem dX11_jumpsAt_12 : decode cX11_jumpsAt 12 = .ok (.sipush 900, 3) := by decide +kernel
theorem dX11_jumpsAt_15 : decode cX11_jumpsAt 15 = .ok (.iconst 5, 1) := by decide +kernel
theorem dX11_jumpsAt_16 : decode cX11_jumpsAt 16 = .ok (.aload_n 0, 1) := by decide +kernel
theorem dX11_jumpsAt_17 : decode cX11_jumpsAt 17 = .ok (.getfield 71, 3) := by decide +kernel
theorem dX11_jumpsAt_20 : decode cX11_jumpsAt 20 = .ok (.iconst 1, 1) := by decide +kernel
theorem dX11_jumpsAt_21 : decode cX11_jumpsAt 21 = .ok (.iaload, 1) := by decide +kernel
theorem dX11_jumpsAt_22 : decode cX11_jumpsAt 22 = .ok (.imul, 1) := by decide +kernel
theorem dX11_jumpsAt_23 : decode cX11_jumpsAt 23 = .ok (.isub, 1) := by decide +kernel
theorem dX11_jumpsAt_24 : decode cX11_jumpsAt 24 = .ok (.sipush 1000, 3) := by decide +kernel
theorem dX11_jumpsAt_27 : decode cX11_jumpsAt 27 = .ok (.invokevirtual 341, 3) := by decide +kernel
theorem dX11_jumpsAt_30 : decode cX11_jumpsAt 30 = .ok (.ireturn, 1) := by decide +kernel
def f_X11_jumpsAt  (a1 : Int32) (h : zHp) : Option (Int32 × zHp) := (f_X11_forWhom a1 h).bind fun x1 => (f_X11_asks a1 x1.1 x1.2).bind fun x2 => zix (1 : Int32) 9 ((f_X11_lawTells (2 : Int32) ((900 : Int32) - ((5 : Int32) * (x2 20 (1 : Int32).toNatClampNeg))) (1000 : Int32) x2).bind fun x3 => some (x3.1, x3.2))
set_option maxHeartbeats 4000000 in
set_option maxRecDepth 100000 in
theorem s_X11_jumpsAt  (a1 : Int32) (h : zHp) : Fn wM mX11_jumpsAt 4 rI [.ref 0, .int a1] h (f_X11_jumpsAt a1 h) := by
  refine Fn.of rfl (Nat.le_of_ble_eq_true rfl) ?_
  unfold f_X11_jumpsAt
  refine Sim.aload_n 0 dX11_jumpsAt_0 rfl ?_
  refine Sim.iload_n 1 dX11_jumpsAt_1 rfl ?_
  refine Sim.aload_n 0 dX11_jumpsAt_2 rfl ?_
  refine Sim.iload_n 1 dX11_jumpsAt_3 rfl ?_
  refine Sim.callV1I (d1 := 0) (s_X11_forWhom a1 h) dX11_jumpsAt_4 ml_X11_344 mv_X11_forWhom mC (Nat.le_of_ble_eq_true rfl) (Nat.le_of_ble_eq_true rfl) (Nat.le_of_ble_eq_true rfl) (fun x1 => ?_)
  refine Sim.callV2U (d1 := 1) (s_X11_asks a1 x1.1 x1.2) dX11_jumpsAt_7 ml_X11_338 mv_X11_asks mC (Nat.le_of_ble_eq_true rfl) (Nat.le_of_ble_eq_true rfl) (Nat.le_of_ble_eq_true rfl) (fun x2 => ?_)
  refine Sim.aload_n 0 dX11_jumpsAt_10 rfl ?_
  refine Sim.iconst (v := (2 : Int32)) dX11_jumpsAt_11 rfl ?_
  refine Sim.sipush (v := (900 : Int32)) dX11_jumpsAt_12 rfl ?_
  refine Sim.iconst (v := (5 : Int32)) dX11_jumpsAt_15 rfl ?_
  refine Sim.aload_n 0 dX11_jumpsAt_16 rfl ?_
  refine Sim.getR (j := 20) fl_X11_71 dX11_jumpsAt_17 mR_40 ?_
  refine Sim.iconst (v := (1 : Int32)) dX11_jumpsAt_20 rfl ?_
  refine Sim.iald (n := 9) dX11_jumpsAt_21 mA_20 ?_
  refine Sim.imul dX11_jumpsAt_22 ?_
  refine Sim.isub dX11_jumpsAt_23 ?_
  refine Sim.sipush (v := (1000 : Int32)) dX11_jumpsAt_24 rfl ?_
  refine Sim.callV3I (d1 := 3) (s_X11_lawTells (2 : Int32) ((900 : Int32) - ((5 : Int32) * (x2 20 (1 : Int32).toNatClampNeg))) (1000 : Int32) x2) dX11_jumpsAt_27 ml_X11_341 mv_X11_lawTells mC (Nat.le_of_ble_eq_true rfl) (Nat.le_of_ble_eq_true rfl) (Nat.le_of_ble_eq_true rfl) (fun x3 => ?_)
  exact Sim.iret dX11_jumpsAt_30 rfl
theorem mv_X11_jumpsAt : zMV mX11_jumpsAt 1 := ⟨⟨zTb_in 1778 (by decide +kernel) rfl, zTb_in 148 (by decide +kernel) rfl, ⟨by decide +kernel, by decide +kernel⟩, by decide +kernel⟩, zTb_in 1777 (by decide +kernel) rfl, zTb_in 96 (by decide +kernel) rfl⟩
-- ===== RockingPorchModel.notes(III)V
abbrev mX11_notes : zMt := (yX11_notes, cX11_notes, 5, none)
theorem fl_X11_134 : zF RX11 134 11 5 := ⟨RX11, TX11, 69, rfl, Nat.le_of_ble_eq_true rfl, zTb_in 1304 (by decide +kernel) rfl, in_X11⟩
theorem fl_X11_25 : zF RX11 25 11 10 := ⟨RX11, TX11, 69, rfl, Nat.le_of_ble_eq_true rfl, zTb_in 1309 (by decide +kernel) rfl, in_X11⟩
theorem dX11_notes_0 : decode cX11_notes 0 = .ok (.aload_n 0, 1) := by decide +kernel
theorem dX11_notes_1 : decode cX11_notes 1 = .ok (.getfield 134, 3) := by decide +kernel
theorem dX11_notes_4 : decode cX11_notes 4 = .ok (.ifCond .ne 15, 3) := by decide +kernel
theorem dX11_notes_7 : decode cX11_notes 7 = .ok (.aload_n 0, 1) := by decide +kernel
theorem dX11_notes_8 : decode cX11_notes 8 = .ok (.getfield 7, 3) := by decide +kernel
theorem dX11_notes_11 : decode cX11_notes 11 = .ok (.iconst 2, 1) := by decide +kernel
theorem dX11_notes_12 : decode cX11_notes 12 = .ok (.iaload, 1) := by decide +kernel
theorem dX11_notes_13 : decode cX11_notes 13 = .ok (.sipush 150, 3) := by decide +kernel
theorem dX11_notes_16 : decode cX11_notes 16 = .ok (.if_icmp .ne 4, 3) := by decide +kernel
theorem dX11_notes_19 : decode cX11_notes 19 = .ok (.return_, 1) := by decide +kernel
theorem dX11_notes_20 : decode cX11_notes 20 = .ok (.iconst 4, 1) := by decide +kernel
theorem dX11_notes_21 : decode cX11_notes 21 = .ok (.aload_n 0, 1) := by decide +kernel
theorem dX11_notes_22 : decode cX11_notes 22 = .ok (.getfield 7, 3) := by decide +kernel
theorem dX11_notes_25 : decode cX11_notes 25 = .ok (.iconst 2, 1) := by decide +kernel
theorem dX11_notes_26 : decode cX11_notes 26 = .ok (.iaload, 1) := by decide +kernel
theorem dX11_notes_27 : decode cX11_notes 27 = .ok (.imul, 1) := by decide +kernel
theorem dX11_notes_28 : decode cX11_notes 28 = .ok (.istore 4, 2) := by decide +kernel
theorem dX11_notes_30 : decode cX11_notes 30 = .ok (.aload_n 0, 1) := by decide +kernel
theorem dX11_notes_31 : decode cX11_notes 31 = .ok (.getfield 25, 3) := by decide +kernel
theorem dX11_notes_34 : decode cX11_notes 34 = .ok (.iload 4, 2) := by decide +kernel
theorem dX11_notes_36 : decode cX11_notes 36 = .ok (.aload_n 0, 1) := by decide +kernel
theorem dX11_notes_37 : decode cX11_notes 37 = .ok (.getfield 7, 3) := by decide +kernel
theorem dX11_notes_40 : decode cX11_notes 40 = .ok (.iconst 0, 1) := by decide +kernel
theorem dX11_notes_41 : decode cX11_notes 41 = .ok (.iaload, 1) := by decide +kernel
theorem dX11_notes_42 : decode cX11_notes 42 = .ok (.iastore, 1) := by decide +kernel
theorem dX11_notes_43 : decode cX11_notes 43 = .ok (.aload_n 0, 1) := by decide +kernel
theorem dX11_notes_44 : decode cX11_notes 44 = .ok (.getfield 25, 3) := by decide +kernel
theorem dX11_notes_47 : decode cX11_notes 47 = .ok (.iload 4, 2) := by decide +kernel
theorem dX11_notes_49 : decode cX11_notes 49 = .ok (.iconst 1, 1) := by decide +kernel
theorem dX11_notes_50 : decode cX11_notes 50 = .ok (.iadd, 1) := by decide +kernel
theorem dX11_notes_51 : decode cX11_notes 51 = .ok (.iload_n 1, 1) := by decide +kernel
theorem dX11_notes_52 : decode cX11_notes 52 = .ok (.iastore, 1) := by decide +kernel
theorem dX11_notes_53 : decode cX11_notes 53 = .ok (.aload_n 0, 1) := by decide +kernel
theorem dX11_notes_54 : decode cX11_notes 54 = .ok (.getfield 25, 3) := by decide +kernel
theorem dX11_notes_57 : decode cX11_notes 57 = .ok (.iload 4, 2) := by decide +kernel
theorem dX11_notes_59 : decode cX11_notes 59 = .ok (.iconst 2, 1) := by decide +kernel
theorem dX11_notes_60 : decode cX11_notes 60 = .ok (.iadd, 1) := by decide +kernel
theorem dX11_notes_61 : decode cX11_notes 61 = .ok (.iload_n 2, 1) := by decide +kernel
theorem dX11_notes_62 : decode cX11_notes 62 = .ok (.iastore, 1) := by decide +kernel
theorem dX11_notes_63 : decode cX11_notes 63 = .ok (.aload_n 0, 1) := by decide +kernel
theorem dX11_notes_64 : decode cX11_notes 64 = .ok (.getfield 25, 3) := by decide +kernel
theorem dX11_notes_67 : decode cX11_notes 67 = .ok (.iload 4, 2) := by decide +kernel
theorem dX11_notes_69 : decode cX11_notes 69 = .ok (.iconst 3, 1) := by decide +kernel
theorem dX11_notes_70 : decode cX11_notes 70 = .ok (.iadd, 1) := by decide +kernel
theorem dX11_notes_71 : decode cX11_notes 71 = .ok (.iload_n 3, 1) := by decide +kernel
theorem dX11_notes_72 : decode cX11_notes 72 = .ok (.iastore, 1) := by decide +kernel
theorem dX11_notes_73 : decode cX11_notes 73 = .ok (.aload_n 0, 1) := by decide +kernel
theorem dX11_notes_74 : decode cX11_notes 74 = .ok (.getfield 7, 3) := by decide +kernel
theorem dX11_notes_77 : decode cX11_notes 77 = .ok (.iconst 2, 1) := by decide +kernel
theorem dX11_notes_78 : decode cX11_notes 78 = .ok (.aload_n 0, 1) := by decide +kernel
theorem dX11_notes_79 : decode cX11_notes 79 = .ok (.getfield 7, 3) := by decide +kernel
theorem dX11_notes_82 : decode cX11_notes 82 = .ok (.iconst 2, 1) := by decide +kernel
theorem dX11_notes_83 : decode cX11_notes 83 = .ok (.iaload, 1) := by decide +kernel
theorem dX11_notes_84 : decode cX11_notes 84 = .ok (.iconst 1, 1) := by decide +kernel
theorem dX11_notes_85 : decode cX11_notes 85 = .ok (.iadd, 1) := by decide +kernel
theorem dX11_notes_86 : decode cX11_notes 86 = .ok (.iastore, 1) := by decide +kernel
theorem dX11_notes_87 : decode cX11_notes 87 = .ok (.return_, 1) := by decide +kernel
def f_X11_notes  (a1 : Int32) (a2 : Int32) (a3 : Int32) (h : zHp) : Option (zHp) := (if (h 0 5) = 0 then zix (2 : Int32) 77 ((if (h 1 (2 : Int32).toNatClampNeg) = (150 : Int32) then some h else zix (2 : Int32) 77 (zlt ((4 : Int32) * (h 1 (2 : Int32).toNatClampNeg)) fun x1 => zix (0 : Int32) 77 (zix x1 600 (zlt (zst h 6 x1.toNatClampNeg (h 1 (0 : Int32).toNatClampNeg)) fun h2 => zix (x1 + (1 : Int32)) 600 (zlt (zst h2 6 (x1 + (1 : Int32)).toNatClampNeg a1) fun h3 => zix (x1 + (2 : Int32)) 600 (zlt (zst h3 6 (x1 + (2 : Int32)).toNatClampNeg a2) fun h4 => zix (x1 + (3 : Int32)) 600 (zlt (zst h4 6 (x1 + (3 : Int32)).toNatClampNeg a3) fun h5 => zix (2 : Int32) 77 (zix (2 : Int32) 77 (zlt (zst h5 1 (2 : Int32).toNatClampNeg ((h5 1 (2 : Int32).toNatClampNeg) + (1 : Int32))) fun h6 => some h6)))))))))) else some h)
set_option maxHeartbeats 4000000 in
set_option maxRecDepth 100000 in
theorem s_X11_notes  (a1 : Int32) (a2 : Int32) (a3 : Int32) (h : zHp) : Fn wM mX11_notes 0 rV [.ref 0, .int a1, .int a2, .int a3] h (f_X11_notes a1 a2 a3 h) := by
  refine Fn.of rfl (Nat.le_of_ble_eq_true rfl) ?_
  unfold f_X11_notes
  refine Sim.aload_n 0 dX11_notes_0 rfl ?_
  refine Sim.getI fl_X11_134 dX11_notes_1 mI_5 ?_
  refine Sim.if_ne 19 dX11_notes_4 rfl ?_ ?_
  · refine Sim.aload_n 0 dX11_notes_7 rfl ?_
    refine Sim.getR (j := 1) fl_X11_7 dX11_notes_8 mR_1 ?_
    refine Sim.iconst (v := (2 : Int32)) dX11_notes_11 rfl ?_
    refine Sim.iald (n := 77) dX11_notes_12 mA_1 ?_
    refine Sim.sipush (v := (150 : Int32)) dX11_notes_13 rfl ?_
    refine Sim.icmp_ne 20 dX11_notes_16 rfl ?_ ?_
    · exact Sim.vret dX11_notes_19 rfl
    · refine Sim.iconst (v := (4 : Int32)) dX11_notes_20 rfl ?_
      refine Sim.aload_n 0 dX11_notes_21 rfl ?_
      refine Sim.getR (j := 1) fl_X11_7 dX11_notes_22 mR_1 ?_
      refine Sim.iconst (v := (2 : Int32)) dX11_notes_25 rfl ?_
      refine Sim.iald (n := 77) dX11_notes_26 mA_1 ?_
      refine Sim.imul dX11_notes_27 ?_
      refine Sim.lti (fun x1 => ?_)
      refine Sim.istore (L' := [(4, .int x1), (0, .ref 0), (1, .int a1), (2, .int a2), (3, .int a3)]) dX11_notes_28 (Nat.le_of_ble_eq_true rfl) rfl ?_
      refine Sim.aload_n 1 dX11_notes_30 rfl ?_
      refine Sim.getR (j := 6) fl_X11_25 dX11_notes_31 mR_10 ?_
      refine Sim.iload 0 dX11_notes_34 rfl ?_
      refine Sim.aload_n 1 dX11_notes_36 rfl ?_
      refine Sim.getR (j := 1) fl_X11_7 dX11_notes_37 mR_1 ?_
      refine Sim.iconst (v := (0 : Int32)) dX11_notes_40 rfl ?_
      refine Sim.iald (n := 77) dX11_notes_41 mA_1 ?_
      refine Sim.iast (n := 600) dX11_notes_42 mA_6 ?_
      refine Sim.lth (fun h2 => ?_)
      refine Sim.aload_n 1 dX11_notes_43 rfl ?_
      refine Sim.getR (j := 6) fl_X11_25 dX11_notes_44 mR_10 ?_
      refine Sim.iload 0 dX11_notes_47 rfl ?_
      refine Sim.iconst (v := (1 : Int32)) dX11_notes_49 rfl ?_
      refine Sim.iadd dX11_notes_50 ?_
      refine Sim.iload_n 2 dX11_notes_51 rfl ?_
      refine Sim.iast (n := 600) dX11_notes_52 mA_6 ?_
      refine Sim.lth (fun h3 => ?_)
      refine Sim.aload_n 1 dX11_notes_53 rfl ?_
      refine Sim.getR (j := 6) fl_X11_25 dX11_notes_54 mR_10 ?_
      refine Sim.iload 0 dX11_notes_57 rfl ?_
      refine Sim.iconst (v := (2 : Int32)) dX11_notes_59 rfl ?_
      refine Sim.iadd dX11_notes_60 ?_
      refine Sim.iload_n 3 dX11_notes_61 rfl ?_
      refine Sim.iast (n := 600) dX11_notes_62 mA_6 ?_
      refine Sim.lth (fun h4 => ?_)
      refine Sim.aload_n 1 dX11_notes_63 rfl ?_
      refine Sim.getR (j := 6) fl_X11_25 dX11_notes_64 mR_10 ?_
      refine Sim.iload 0 dX11_notes_67 rfl ?_
      refine Sim.iconst (v := (3 : Int32)) dX11_notes_69 rfl ?_
      refine Sim.iadd dX11_notes_70 ?_
      refine Sim.iload_n 4 dX11_notes_71 rfl ?_
      refine Sim.iast (n := 600) dX11_notes_72 mA_6 ?_
      refine Sim.lth (fun h5 => ?_)
      refine Sim.aload_n 1 dX11_notes_73 rfl ?_
      refine Sim.getR (j := 1) fl_X11_7 dX11_notes_74 mR_1 ?_
      refine Sim.iconst (v := (2 : Int32)) dX11_notes_77 rfl ?_
      refine Sim.aload_n 1 dX11_notes_78 rfl ?_
      refine Sim.getR (j := 1) fl_X11_7 dX11_notes_79 mR_1 ?_
      refine Sim.iconst (v := (2 : Int32)) dX11_notes_82 rfl ?_
      refine Sim.iald (n := 77) dX11_notes_83 mA_1 ?_
      refine Sim.iconst (v := (1 : Int32)) dX11_notes_84 rfl ?_
      refine Sim.iadd dX11_notes_85 ?_
      refine Sim.iast (n := 77) dX11_notes_86 mA_1 ?_
      refine Sim.lth (fun h6 => ?_)
      exact Sim.vret dX11_notes_87 rfl
  · exact Sim.vret dX11_notes_19 rfl
theorem mv_X11_notes : zMV mX11_notes 3 := ⟨⟨zTb_in 1726 (by decide +kernel) rfl, zTb_in 148 (by decide +kernel) rfl, ⟨by decide +kernel, by decide +kernel⟩, by decide +kernel⟩, zTb_in 1725 (by decide +kernel) rfl, zTb_in 83 (by decide +kernel) rfl⟩
-- ===== RockingPorchModel.happens(I)Z
abbrev mX11_happens : zMt := (yX11_happens, cX11_happens, 2, some .boolean)
theorem ml_X11_347 : Cond.methodLink RX11 347 yX11_draw ∈ zTb := zTb_in 1787 (by decide +kernel) rfl
theorem dX11_happens_0 : decode cX11_happens 0 = .ok (.aload_n 0, 1) := by decide +kernel
theorem dX11_happens_1 : decode cX11_happens 1 = .ok (.getfield 134, 3) := by decide +kernel
theorem dX11_happens_4 : decode cX11_happens 4 = .ok (.ifCond .eq 20, 3) := by decide +kernel
theorem dX11_happens_7 : decode cX11_happens 7 = .ok (.iconst 2, 1) := by decide +kernel
theorem dX11_happens_8 : decode cX11_happens 8 = .ok (.iload_n 1, 1) := by decide +kernel
theorem dX11_happens_9 : decode cX11_happens 9 = .ok (.imul, 1) := by decide +kernel
theorem dX11_happens_10 : decode cX11_happens 10 = .ok (.sipush 1000, 3) := by decide +kernel
theorem dX11_happens_13 : decode cX11_happens 13 = .ok (.if_icmp .lt 7, 3) := by decide +kernel
theorem dX11_happens_16 : decode cX11_happens 16 = .ok (.iconst 1, 1) := by decide +kernel
theorem dX11_happens_17 : decode cX11_happens 17 = .ok (.goto 27, 3) := by decide +kernel
theorem dX11_happens_20 : decode cX11_happens 20 = .ok (.iconst 0, 1) := by decide +kernel
theorem dX11_happens_21 : decode cX11_happens 21 = .ok (.goto 23, 3) := by decide +kernel
theorem dX11_happens_24 : decode cX11_happens 24 = .ok (.iload_n 1, 1) := by decide +kernel
theorem dX11_happens_25 : decode cX11_happens 25 = .ok (.ifCond .le 18, 3) := by decide +kernel
theorem dX11_happens_28 : decode cX11_happens 28 = .ok (.aload_n 0, 1) := by decide +kernel
theorem dX11_happens_29 : decode cX11_happens 29 = .ok (.sipush 1000, 3) := by decide +kernel
theorem dX11_happens_32 : decode cX11_happens 32 = .ok (.invokevirtual 347, 3) := by decide +kernel
theorem dX11_happens_35 : decode cX11_happens 35 = .ok (.iload_n 1, 1) := by decide +kernel
theorem dX11_happens_36 : decode cX11_happens 36 = .ok (.if_icmp .ge 7, 3) := by decide +kernel
theorem dX11_happens_39 : decode cX11_happens 39 = .ok (.iconst 1, 1) := by decide +kernel
theorem dX11_happens_40 : decode cX11_happens 40 = .ok (.goto 4, 3) := by decide +kernel
theorem dX11_happens_43 : decode cX11_happens 43 = .ok (.iconst 0, 1) := by decide +kernel
theorem dX11_happens_44 : decode cX11_happens 44 = .ok (.ireturn, 1) := by decide +kernel
def f_X11_happens  (a1 : Int32) (h : zHp) : Option (Int32 × zHp) := (if (h 0 5) = 0 then (if 0 < a1 then (f_X11_draw (1000 : Int32) h).bind fun x1 => (if x1.1 < a1 then some ((1 : Int32), x1.2) else some ((0 : Int32), x1.2)) else some ((0 : Int32), h)) else (if ((2 : Int32) * a1) < (1000 : Int32) then some ((0 : Int32), h) else some ((1 : Int32), h)))
set_option maxHeartbeats 4000000 in
set_option maxRecDepth 100000 in
theorem s_X11_happens  (a1 : Int32) (h : zHp) : Fn wM mX11_happens 1 rI [.ref 0, .int a1] h (f_X11_happens a1 h) := by
  refine Fn.of rfl (Nat.le_of_ble_eq_true rfl) ?_
  unfold f_X11_happens
  refine Sim.aload_n 0 dX11_happens_0 rfl ?_
  refine Sim.getI fl_X11_134 dX11_happens_1 mI_5 ?_
  refine Sim.if_eq 24 dX11_happens_4 rfl ?_ ?_
  · refine Sim.iload_n 1 dX11_happens_24 rfl ?_
    refine Sim.if_le 43 dX11_happens_25 rfl ?_ ?_
    · refine Sim.aload_n 0 dX11_happens_28 rfl ?_
      refine Sim.sipush (v := (1000 : Int32)) dX11_happens_29 rfl ?_
      refine Sim.callV1I (d1 := 0) (s_X11_draw (1000 : Int32) h) dX11_happens_32 ml_X11_347 mv_X11_draw mC (Nat.le_of_ble_eq_true rfl) (Nat.le_of_ble_eq_true rfl) (Nat.le_of_ble_eq_true rfl) (fun x1 => ?_)
      refine Sim.iload_n 1 dX11_happens_35 rfl ?_
      refine Sim.icmp_ge 43 dX11_happens_36 rfl ?_ ?_
      · refine Sim.iconst (v := (1 : Int32)) dX11_happens_39 rfl ?_
        refine Sim.goto 44 dX11_happens_40 rfl ?_
        exact Sim.nret dX11_happens_44 rfl rfl
      · refine Sim.iconst (v := (0 : Int32)) dX11_happens_43 rfl ?_
        exact Sim.nret dX11_happens_44 rfl rfl
    · refine Sim.iconst (v := (0 : Int32)) dX11_happens_43 rfl ?_
      exact Sim.nret dX11_happens_44 rfl rfl
  · refine Sim.iconst (v := (2 : Int32)) dX11_happens_7 rfl ?_
    refine Sim.iload_n 1 dX11_happens_8 rfl ?_
    refine Sim.imul dX11_happens_9 ?_
    refine Sim.sipush (v := (1000 : Int32)) dX11_happens_10 rfl ?_
    refine Sim.icmp_lt 20 dX11_happens_13 rfl ?_ ?_
    · refine Sim.iconst (v := (0 : Int32)) dX11_happens_20 rfl ?_
      refine Sim.goto 44 dX11_happens_21 rfl ?_
      exact Sim.nret dX11_happens_44 rfl rfl
    · refine Sim.iconst (v := (1 : Int32)) dX11_happens_16 rfl ?_
      refine Sim.goto 44 dX11_happens_17 rfl ?_
      exact Sim.nret dX11_happens_44 rfl rfl
theorem mv_X11_happens : zMV mX11_happens 1 := ⟨⟨zTb_in 1786 (by decide +kernel) rfl, zTb_in 148 (by decide +kernel) rfl, ⟨by decide +kernel, by decide +kernel⟩, by decide +kernel⟩, zTb_in 1785 (by decide +kernel) rfl, zTb_in 98 (by decide +kernel) rfl⟩
-- ===== RockingPorchModel.sits(II)Z
abbrev mX11_sits : zMt := (yX11_sits, cX11_sits, 3, some .boolean)
theorem ml_X11_350 : Cond.methodLink RX11 350 yX11_isFree ∈ zTb := zTb_in 1707 (by decide +kernel) rfl
theorem ml_X11_353 : Cond.methodLink RX11 353 yX11_notes ∈ zTb := zTb_in 1723 (by decide +kernel) rfl
theorem dX11_sits_0 : decode cX11_sits 0 = .ok (.aload_n 0, 1) := by decide +kernel
theorem dX11_sits_1 : decode cX11_sits 1 = .ok (.iload_n 2, 1) := by decide +kernel
theorem dX11_sits_2 : decode cX11_sits 2 = .ok (.invokevirtual 350, 3) := by decide +kernel
theorem dX11_sits_5 : decode cX11_sits 5 = .ok (.ifCond .ne 12, 3) := by decide +kernel
theorem dX11_sits_8 : decode cX11_sits 8 = .ok (.aload_n 0, 1) := by decide +kernel
theorem dX11_sits_9 : decode cX11_sits 9 = .ok (.iconst 1, 1) := by decide +kernel
theorem dX11_sits_10 : decode cX11_sits 10 = .ok (.iload_n 1, 1) := by decide +kernel
theorem dX11_sits_11 : decode cX11_sits 11 = .ok (.iload_n 2, 1) := by decide +kernel
theorem dX11_sits_12 : decode cX11_sits 12 = .ok (.invokevirtual 353, 3) := by decide +kernel
theorem dX11_sits_15 : decode cX11_sits 15 = .ok (.iconst 0, 1) := by decide +kernel
theorem dX11_sits_16 : decode cX11_sits 16 = .ok (.ireturn, 1) := by decide +kernel
theorem dX11_sits_17 : decode cX11_sits 17 = .ok (.aload_n 0, 1) := by decide +kernel
theorem dX11_sits_18 : decode cX11_sits 18 = .ok (.getfield 7, 3) := by decide +kernel
theorem dX11_sits_21 : decode cX11_sits 21 = .ok (.bipush 25, 2) := by decide +kernel
theorem dX11_sits_23 : decode cX11_sits 23 = .ok (.iload_n 2, 1) := by decide +kernel
theorem dX11_sits_24 : decode cX11_sits 24 = .ok (.iadd, 1) := by decide +kernel
theorem dX11_sits_25 : decode cX11_sits 25 = .ok (.iload_n 1, 1) := by decide +kernel
theorem dX11_sits_26 : decode cX11_sits 26 = .ok (.iconst 1, 1) := by decide +kernel
theorem dX11_sits_27 : decode cX11_sits 27 = .ok (.iadd, 1) := by decide +kernel
theorem dX11_sits_28 : decode cX11_sits 28 = .ok (.iastore, 1) := by decide +kernel
theorem dX11_sits_29 : decode cX11_sits 29 = .ok (.aload_n 0, 1) := by decide +kernel
theorem dX11_sits_30 : decode cX11_sits 30 = .ok (.getfield 7, 3) := by decide +kernel
theorem dX11_sits_33 : decode cX11_sits 33 = .ok (.bipush 35, 2) := by decide +kernel
theorem dX11_sits_35 : decode cX11_sits 35 = .ok (.iload_n 1, 1) := by decide +kernel
theorem dX11_sits_36 : decode cX11_sits 36 = .ok (.iadd, 1) := by decide +kernel
theorem dX11_sits_37 : decode cX11_sits 37 = .ok (.iconst 2, 1) := by decide +kernel
theorem dX11_sits_38 : decode cX11_sits 38 = .ok (.iastore, 1) := by decide +kernel
theorem dX11_sits_39 : decode cX11_sits 39 = .ok (.aload_n 0, 1) := by decide +kernel
theorem dX11_sits_40 : decode cX11_sits 40 = .ok (.getfield 7, 3) := by decide +kernel
theorem dX11_sits_43 : decode cX11_sits 43 = .ok (.bipush 63, 2) := by decide +kernel
theorem dX11_sits_45 : decode cX11_sits 45 = .ok (.iload_n 1, 1) := by decide +kernel
theorem dX11_sits_46 : decode cX11_sits 46 = .ok (.iadd, 1) := by decide +kernel
theorem dX11_sits_47 : decode cX11_sits 47 = .ok (.aload_n 0, 1) := by decide +kernel
theorem dX11_sits_48 : decode cX11_sits 48 = .ok (.getfield 7, 3) := by decide +kernel
theorem dX11_sits_51 : decode cX11_sits 51 = .ok (.bipush 63, 2) := by decide +kernel
theorem dX11_sits_53 : decode cX11_sits 53 = .ok (.iload_n 1, 1) := by decide +kernel
theorem dX11_sits_54 : decode cX11_sits 54 = .ok (.iadd, 1) := by decide +kernel
theorem dX11_sits_55 : decode cX11_sits 55 = .ok (.iaload, 1) := by decide +kernel
theorem dX11_sits_56 : decode cX11_sits 56 = .ok (.iconst 1, 1) := by decide +kernel
theorem dX11_sits_57 : decode cX11_sits 57 = .ok (.iadd, 1) := by decide +kernel
theorem dX11_sits_58 : decode cX11_sits 58 = .ok (.iastore, 1) := by decide +kernel
theorem dX11_sits_59 : decode cX11_sits 59 = .ok (.aload_n 0, 1) := by decide +kernel
theorem dX11_sits_60 : decode cX11_sits 60 = .ok (.iconst 0, 1) := by decide +kernel
theorem dX11_sits_61 : decode cX11_sits 61 = .ok (.iload_n 1, 1) := by decide +kernel
theorem dX11_sits_62 : decode cX11_sits 62 = .ok (.iload_n 2, 1) := by decide +kernel
theorem dX11_sits_63 : decode cX11_sits 63 = .ok (.invokevirtual 353, 3) := by decide +kernel
theorem dX11_sits_66 : decode cX11_sits 66 = .ok (.iconst 1, 1) := by decide +kernel
theorem dX11_sits_67 : decode cX11_sits 67 = .ok (.ireturn, 1) := by decide +kernel
def f_X11_sits  (a1 : Int32) (a2 : Int32) (h : zHp) : Option (Int32 × zHp) := (f_X11_isFree a2 h).bind fun x1 => (if x1.1 = 0 then (f_X11_notes (1 : Int32) a1 a2 x1.2).bind fun x2 => some ((0 : Int32), x2) else zix ((25 : Int32) + a2) 77 (zlt (zst x1.2 1 ((25 : Int32) + a2).toNatClampNeg (a1 + (1 : Int32))) fun h3 => zix ((35 : Int32) + a1) 77 (zlt (zst h3 1 ((35 : Int32) + a1).toNatClampNeg (2 : Int32)) fun h4 => zix ((63 : Int32) + a1) 77 (zix ((63 : Int32) + a1) 77 (zlt (zst h4 1 ((63 : Int32) + a1).toNatClampNeg ((h4 1 ((63 : Int32) + a1).toNatClampNeg) + (1 : Int32))) fun h5 => (f_X11_notes (0 : Int32) a1 a2 h5).bind fun x6 => some ((1 : Int32), x6))))))
set_option maxHeartbeats 4000000 in
set_option maxRecDepth 100000 in
theorem s_X11_sits  (a1 : Int32) (a2 : Int32) (h : zHp) : Fn wM mX11_sits 2 rI [.ref 0, .int a1, .int a2] h (f_X11_sits a1 a2 h) := by
  refine Fn.of rfl (Nat.le_of_ble_eq_true rfl) ?_
  unfold f_X11_sits
  refine Sim.aload_n 0 dX11_sits_0 rfl ?_
  refine Sim.iload_n 2 dX11_sits_1 rfl ?_
  refine Sim.callV1I (d1 := 1) (s_X11_isFree a2 h) dX11_sits_2 ml_X11_350 mv_X11_isFree mC (Nat.le_of_ble_eq_true rfl) (Nat.le_of_ble_eq_true rfl) (Nat.le_of_ble_eq_true rfl) (fun x1 => ?_)
  refine Sim.if_ne 17 dX11_sits_5 rfl ?_ ?_
  · refine Sim.aload_n 0 dX11_sits_8 rfl ?_
    refine Sim.iconst (v := (1 : Int32)) dX11_sits_9 rfl ?_
    refine Sim.iload_n 1 dX11_sits_10 rfl ?_
    refine Sim.iload_n 2 dX11_sits_11 rfl ?_
    refine Sim.callV3U (d1 := 0) (s_X11_notes (1 : Int32) a1 a2 x1.2) dX11_sits_12 ml_X11_353 mv_X11_notes mC (Nat.le_of_ble_eq_true rfl) (Nat.le_of_ble_eq_true rfl) (Nat.le_of_ble_eq_true rfl) (fun x2 => ?_)
    refine Sim.iconst (v := (0 : Int32)) dX11_sits_15 rfl ?_
    exact Sim.nret dX11_sits_16 rfl rfl
  · refine Sim.aload_n 0 dX11_sits_17 rfl ?_
    refine Sim.getR (j := 1) fl_X11_7 dX11_sits_18 mR_1 ?_
    refine Sim.bipush (v := (25 : Int32)) dX11_sits_21 rfl ?_
    refine Sim.iload_n 2 dX11_sits_23 rfl ?_
    refine Sim.iadd dX11_sits_24 ?_
    refine Sim.iload_n 1 dX11_sits_25 rfl ?_
    refine Sim.iconst (v := (1 : Int32)) dX11_sits_26 rfl ?_
    refine Sim.iadd dX11_sits_27 ?_
    refine Sim.iast (n := 77) dX11_sits_28 mA_1 ?_
    refine Sim.lth (fun h3 => ?_)
    refine Sim.aload_n 0 dX11_sits_29 rfl ?_
    refine Sim.getR (j := 1) fl_X11_7 dX11_sits_30 mR_1 ?_
    refine Sim.bipush (v := (35 : Int32)) dX11_sits_33 rfl ?_
    refine Sim.iload_n 1 dX11_sits_35 rfl ?_
    refine Sim.iadd dX11_sits_36 ?_
    refine Sim.iconst (v := (2 : Int32)) dX11_sits_37 rfl ?_
    refine Sim.iast (n := 77) dX11_sits_38 mA_1 ?_
    refine Sim.lth (fun h4 => ?_)
    refine Sim.aload_n 0 dX11_sits_39 rfl ?_
    refine Sim.getR (j := 1) fl_X11_7 dX11_sits_40 mR_1 ?_
    refine Sim.bipush (v := (63 : Int32)) dX11_sits_43 rfl ?_
    refine Sim.iload_n 1 dX11_sits_45 rfl ?_
    refine Sim.iadd dX11_sits_46 ?_
    refine Sim.aload_n 0 dX11_sits_47 rfl ?_
    refine Sim.getR (j := 1) fl_X11_7 dX11_sits_48 mR_1 ?_
    refine Sim.bipush (v := (63 : Int32)) dX11_sits_51 rfl ?_
    refine Sim.iload_n 1 dX11_sits_53 rfl ?_
    refine Sim.iadd dX11_sits_54 ?_
    refine Sim.iald (n := 77) dX11_sits_55 mA_1 ?_
    refine Sim.iconst (v := (1 : Int32)) dX11_sits_56 rfl ?_
    refine Sim.iadd dX11_sits_57 ?_
    refine Sim.iast (n := 77) dX11_sits_58 mA_1 ?_
    refine Sim.lth (fun h5 => ?_)
    refine Sim.aload_n 0 dX11_sits_59 rfl ?_
    refine Sim.iconst (v := (0 : Int32)) dX11_sits_60 rfl ?_
    refine Sim.iload_n 1 dX11_sits_61 rfl ?_
    refine Sim.iload_n 2 dX11_sits_62 rfl ?_
    refine Sim.callV3U (d1 := 0) (s_X11_notes (0 : Int32) a1 a2 h5) dX11_sits_63 ml_X11_353 mv_X11_notes mC (Nat.le_of_ble_eq_true rfl) (Nat.le_of_ble_eq_true rfl) (Nat.le_of_ble_eq_true rfl) (fun x6 => ?_)
    refine Sim.iconst (v := (1 : Int32)) dX11_sits_66 rfl ?_
    exact Sim.nret dX11_sits_67 rfl rfl
theorem mv_X11_sits : zMV mX11_sits 2 := ⟨⟨zTb_in 1722 (by decide +kernel) rfl, zTb_in 148 (by decide +kernel) rfl, ⟨by decide +kernel, by decide +kernel⟩, by decide +kernel⟩, zTb_in 1721 (by decide +kernel) rfl, zTb_in 82 (by decide +kernel) rfl⟩
-- ===== RockingPorchModel.chairOf(I)I
abbrev mX11_chairOf : zMt := (yX11_chairOf, cX11_chairOf, 3, some .int)
theorem dX11_chairOf_0 : decode cX11_chairOf 0 = .ok (.iconst 0, 1) := by decide +kernel
theorem dX11_chairOf_1 : decode cX11_chairOf 1 = .ok (.istore_n 2, 1) := by decide +kernel
theorem dX11_chairOf_2 : decode cX11_chairOf 2 = .ok (.iload_n 2, 1) := by decide +kernel
theorem dX11_chairOf_3 : decode cX11_chairOf 3 = .ok (.aload_n 0, 1) := by decide +kernel
theorem dX11_chairOf_4 : decode cX11_chairOf 4 = .ok (.getfield 140, 3) := by decide +kernel
theorem dX11_chairOf_7 : decode cX11_chairOf 7 = .ok (.if_icmp .ge 20, 3) := by decide +kernel
theorem dX11_chairOf_10 : decode cX11_chairOf 10 = .ok (.aload_n 0, 1) := by decide +kernel
theorem dX11_chairOf_11 : decode cX11_chairOf 11 = .ok (.iload_n 2, 1) := by decide +kernel
theorem dX11_chairOf_12 : decode cX11_chairOf 12 = .ok (.invokevirtual 150, 3) := by decide +kernel
theorem dX11_chairOf_15 : decode cX11_chairOf 15 = .ok (.iload_n 1, 1) := by decide +kernel
theorem dX11_chairOf_16 : decode cX11_chairOf 16 = .ok (.if_icmp .ne 5, 3) := by decide +kernel
theorem dX11_chairOf_19 : decode cX11_chairOf 19 = .ok (.iload_n 2, 1) := by decide +kernel
theorem dX11_chairOf_20 : decode cX11_chairOf 20 = .ok (.ireturn, 1) := by decide +kernel
theorem dX11_chairOf_21 : decode cX11_chairOf 21 = .ok (.iinc 2 1, 3) := by decide +kernel
theorem dX11_chairOf_24 : decode cX11_chairOf 24 = .ok (.goto (-22), 3) := by decide +kernel
theorem dX11_chairOf_27 : decode cX11_chairOf 27 = .ok (.iconst (-1), 1) := by decide +kernel
theorem dX11_chairOf_28 : decode cX11_chairOf 28 = .ok (.ireturn, 1) := by decide +kernel
def f_X11_chairOf_2  (k2 : Int32 × Int32 × zHp → Option (Int32 × zHp)) (v1 : Int32) (v2 : Int32) (h : zHp) : Option (Int32 × zHp) := (if v2 < (h 0 6) then (f_X11_takenBy v2 h).bind fun x1 => (if x1.1 = v1 then some (v2, x1.2) else k2 (v1, (v2 + (1 : Int32)), x1.2)) else some ((-1 : Int32), h))
set_option maxHeartbeats 4000000 in
set_option maxRecDepth 100000 in
theorem f_X11_chairOf_2_s  (k2 : Int32 × Int32 × zHp → Option (Int32 × zHp)) (H2 : ∀ v : Int32 × Int32 × zHp, Sim wM mX11_chairOf 1 rI 2 [(0, .ref 0), (1, .int v.1), (2, .int v.2.1)] [] v.2.2 (k2 v)) (v1 : Int32) (v2 : Int32) (h : zHp) : Sim wM mX11_chairOf 1 rI 2 [(0, .ref 0), (1, .int v1), (2, .int v2)] [] h (f_X11_chairOf_2 k2 v1 v2 h) := by
  unfold f_X11_chairOf_2
  refine Sim.iload_n 2 dX11_chairOf_2 rfl ?_
  refine Sim.aload_n 0 dX11_chairOf_3 rfl ?_
  refine Sim.getI fl_X11_140 dX11_chairOf_4 mI_6 ?_
  refine Sim.icmp_ge 27 dX11_chairOf_7 rfl ?_ ?_
  · refine Sim.aload_n 0 dX11_chairOf_10 rfl ?_
    refine Sim.iload_n 2 dX11_chairOf_11 rfl ?_
    refine Sim.callV1I (d1 := 0) (s_X11_takenBy v2 h) dX11_chairOf_12 ml_X11_150 mv_X11_takenBy mC (Nat.le_of_ble_eq_true rfl) (Nat.le_of_ble_eq_true rfl) (Nat.le_of_ble_eq_true rfl) (fun x1 => ?_)
    refine Sim.iload_n 1 dX11_chairOf_15 rfl ?_
    refine Sim.icmp_ne 21 dX11_chairOf_16 rfl ?_ ?_
    · refine Sim.iload_n 2 dX11_chairOf_19 rfl ?_
      exact Sim.iret dX11_chairOf_20 rfl
    · refine Sim.iinc (L' := [(2, .int (v2 + (1 : Int32))), (0, .ref 0), (1, .int v1)]) 2 dX11_chairOf_21 rfl rfl (Nat.le_of_ble_eq_true rfl) rfl ?_
      refine Sim.goto 2 dX11_chairOf_24 rfl ?_
      refine Sim.locs [1, 2, 0] rfl ?_
      exact H2 (v1, (v2 + (1 : Int32)), x1.2)
  · refine Sim.iconst (v := (-1 : Int32)) dX11_chairOf_27 rfl ?_
    exact Sim.iret dX11_chairOf_28 rfl
def f_X11_chairOf_2_lp   (n : Nat) (v : Int32 × Int32 × zHp) : Option (Int32 × zHp) := zlp (fun k2 v => f_X11_chairOf_2 k2 v.1 v.2.1 v.2.2) n v
theorem f_X11_chairOf_2_ls  (n : Nat) (v : Int32 × Int32 × zHp) : Sim wM mX11_chairOf 1 rI 2 [(0, .ref 0), (1, .int v.1), (2, .int v.2.1)] [] v.2.2 (f_X11_chairOf_2_lp n v) :=
  Sim.lp (V := Int32 × Int32 × zHp) (Lf := fun v => [(0, .ref 0), (1, .int v.1), (2, .int v.2.1)]) (sf := fun v => []) (hf := fun v => v.2.2) (fun k2 H2 v => f_X11_chairOf_2_s k2 H2 v.1 v.2.1 v.2.2) n v
def f_X11_chairOf  (a1 : Int32) (h : zHp) : Option (Int32 × zHp) := f_X11_chairOf_2_lp  zN (a1, (0 : Int32), h)
set_option maxHeartbeats 4000000 in
set_option maxRecDepth 100000 in
theorem s_X11_chairOf  (a1 : Int32) (h : zHp) : Fn wM mX11_chairOf 1 rI [.ref 0, .int a1] h (f_X11_chairOf a1 h) := by
  refine Fn.of rfl (Nat.le_of_ble_eq_true rfl) ?_
  unfold f_X11_chairOf
  refine Sim.iconst (v := (0 : Int32)) dX11_chairOf_0 rfl ?_
  refine Sim.istore_n (L' := [(2, .int (0 : Int32)), (0, .ref 0), (1, .int a1)]) dX11_chairOf_1 (Nat.le_of_ble_eq_true rfl) rfl ?_
  refine Sim.locs [1, 2, 0] rfl ?_
  exact f_X11_chairOf_2_ls  zN (a1, (0 : Int32), h)
theorem mv_X11_chairOf : zMV mX11_chairOf 1 := ⟨⟨zTb_in 1734 (by decide +kernel) rfl, zTb_in 148 (by decide +kernel) rfl, ⟨by decide +kernel, by decide +kernel⟩, by decide +kernel⟩, zTb_in 1733 (by decide +kernel) rfl, zTb_in 85 (by decide +kernel) rfl⟩
-- ===== RockingPorchModel.rises(I)V
abbrev mX11_rises : zMt := (yX11_rises, cX11_rises, 4, none)
theorem ml_X11_357 : Cond.methodLink RX11 357 yX11_chairOf ∈ zTb := zTb_in 1731 (by decide +kernel) rfl
theorem ml_X11_360 : Cond.methodLink RX11 360 yX11_swingsOf ∈ zTb := zTb_in 1735 (by decide +kernel) rfl
theorem dX11_rises_0 : decode cX11_rises 0 = .ok (.aload_n 0, 1) := by decide +kernel
theorem dX11_rises_1 : decode cX11_rises 1 = .ok (.iload_n 1, 1) := by decide +kernel
theorem dX11_rises_2 : decode cX11_rises 2 = .ok (.invokevirtual 357, 3) := by decide +kernel
theorem dX11_rises_5 : decode cX11_rises 5 = .ok (.istore_n 2, 1) := by decide +kernel
theorem dX11_rises_6 : decode cX11_rises 6 = .ok (.aload_n 0, 1) := by decide +kernel
theorem dX11_rises_7 : decode cX11_rises 7 = .ok (.getfield 7, 3) := by decide +kernel
theorem dX11_rises_10 : decode cX11_rises 10 = .ok (.bipush 35, 2) := by decide +kernel
theorem dX11_rises_12 : decode cX11_rises 12 = .ok (.iload_n 1, 1) := by decide +kernel
theorem dX11_rises_13 : decode cX11_rises 13 = .ok (.iadd, 1) := by decide +kernel
theorem dX11_rises_14 : decode cX11_rises 14 = .ok (.iconst 1, 1) := by decide +kernel
theorem dX11_rises_15 : decode cX11_rises 15 = .ok (.iastore, 1) := by decide +kernel
theorem dX11_rises_16 : decode cX11_rises 16 = .ok (.aload_n 0, 1) := by decide +kernel
theorem dX11_rises_17 : decode cX11_rises 17 = .ok (.getfield 7, 3) := by decide +kernel
theorem dX11_rises_20 : decode cX11_rises 20 = .ok (.bipush 25, 2) := by decide +kernel
theorem dX11_rises_22 : decode cX11_rises 22 = .ok (.iload_n 2, 1) := by decide +kernel
theorem dX11_rises_23 : decode cX11_rises 23 = .ok (.iadd, 1) := by decide +kernel
theorem dX11_rises_24 : decode cX11_rises 24 = .ok (.iconst 0, 1) := by decide +kernel
theorem dX11_rises_25 : decode cX11_rises 25 = .ok (.iastore, 1) := by decide +kernel
theorem dX11_rises_26 : decode cX11_rises 26 = .ok (.aload_n 0, 1) := by decide +kernel
theorem dX11_rises_27 : decode cX11_rises 27 = .ok (.iload_n 2, 1) := by decide +kernel
theorem dX11_rises_28 : decode cX11_rises 28 = .ok (.iload_n 1, 1) := by decide +kernel
theorem dX11_rises_29 : decode cX11_rises 29 = .ok (.invokevirtual 360, 3) := by decide +kernel
theorem dX11_rises_32 : decode cX11_rises 32 = .ok (.istore_n 3, 1) := by decide +kernel
theorem dX11_rises_33 : decode cX11_rises 33 = .ok (.aload_n 0, 1) := by decide +kernel
theorem dX11_rises_34 : decode cX11_rises 34 = .ok (.getfield 7, 3) := by decide +kernel
theorem dX11_rises_37 : decode cX11_rises 37 = .ok (.bipush 15, 2) := by decide +kernel
theorem dX11_rises_39 : decode cX11_rises 39 = .ok (.iload_n 2, 1) := by decide +kernel
theorem dX11_rises_40 : decode cX11_rises 40 = .ok (.iadd, 1) := by decide +kernel
theorem dX11_rises_41 : decode cX11_rises 41 = .ok (.iload_n 1, 1) := by decide +kernel
theorem dX11_rises_42 : decode cX11_rises 42 = .ok (.iconst 1, 1) := by decide +kernel
theorem dX11_rises_43 : decode cX11_rises 43 = .ok (.iadd, 1) := by decide +kernel
theorem dX11_rises_44 : decode cX11_rises 44 = .ok (.iastore, 1) := by decide +kernel
theorem dX11_rises_45 : decode cX11_rises 45 = .ok (.aload_n 0, 1) := by decide +kernel
theorem dX11_rises_46 : decode cX11_rises 46 = .ok (.iload_n 2, 1) := by decide +kernel
theorem dX11_rises_47 : decode cX11_rises 47 = .ok (.iload_n 3, 1) := by decide +kernel
theorem dX11_rises_48 : decode cX11_rises 48 = .ok (.invokevirtual 167, 3) := by decide +kernel
theorem dX11_rises_51 : decode cX11_rises 51 = .ok (.aload_n 0, 1) := by decide +kernel
theorem dX11_rises_52 : decode cX11_rises 52 = .ok (.iconst 2, 1) := by decide +kernel
theorem dX11_rises_53 : decode cX11_rises 53 = .ok (.iload_n 1, 1) := by decide +kernel
theorem dX11_rises_54 : decode cX11_rises 54 = .ok (.iload_n 3, 1) := by decide +kernel
theorem dX11_rises_55 : decode cX11_rises 55 = .ok (.invokevirtual 353, 3) := by decide +kernel
theorem dX11_rises_58 : decode cX11_rises 58 = .ok (.return_, 1) := by decide +kernel
def f_X11_rises  (a1 : Int32) (h : zHp) : Option (zHp) := (f_X11_chairOf a1 h).bind fun x1 => zix ((35 : Int32) + a1) 77 (zlt (zst x1.2 1 ((35 : Int32) + a1).toNatClampNeg (1 : Int32)) fun h2 => zix ((25 : Int32) + x1.1) 77 (zlt (zst h2 1 ((25 : Int32) + x1.1).toNatClampNeg (0 : Int32)) fun h3 => (f_X11_swingsOf x1.1 a1 h3).bind fun x4 => zix ((15 : Int32) + x1.1) 77 (zlt (zst x4.2 1 ((15 : Int32) + x1.1).toNatClampNeg (a1 + (1 : Int32))) fun h5 => (f_X11_swings x1.1 x4.1 h5).bind fun x6 => (f_X11_notes (2 : Int32) a1 x4.1 x6).bind fun x7 => some x7)))
set_option maxHeartbeats 4000000 in
set_option maxRecDepth 100000 in
theorem s_X11_rises  (a1 : Int32) (h : zHp) : Fn wM mX11_rises 5 rV [.ref 0, .int a1] h (f_X11_rises a1 h) := by
  refine Fn.of rfl (Nat.le_of_ble_eq_true rfl) ?_
  unfold f_X11_rises
  refine Sim.aload_n 0 dX11_rises_0 rfl ?_
  refine Sim.iload_n 1 dX11_rises_1 rfl ?_
  refine Sim.callV1I (d1 := 1) (s_X11_chairOf a1 h) dX11_rises_2 ml_X11_357 mv_X11_chairOf mC (Nat.le_of_ble_eq_true rfl) (Nat.le_of_ble_eq_true rfl) (Nat.le_of_ble_eq_true rfl) (fun x1 => ?_)
  refine Sim.istore_n (L' := [(2, .int x1.1), (0, .ref 0), (1, .int a1)]) dX11_rises_5 (Nat.le_of_ble_eq_true rfl) rfl ?_
  refine Sim.aload_n 1 dX11_rises_6 rfl ?_
  refine Sim.getR (j := 1) fl_X11_7 dX11_rises_7 mR_1 ?_
  refine Sim.bipush (v := (35 : Int32)) dX11_rises_10 rfl ?_
  refine Sim.iload_n 2 dX11_rises_12 rfl ?_
  refine Sim.iadd dX11_rises_13 ?_
  refine Sim.iconst (v := (1 : Int32)) dX11_rises_14 rfl ?_
  refine Sim.iast (n := 77) dX11_rises_15 mA_1 ?_
  refine Sim.lth (fun h2 => ?_)
  refine Sim.aload_n 1 dX11_rises_16 rfl ?_
  refine Sim.getR (j := 1) fl_X11_7 dX11_rises_17 mR_1 ?_
  refine Sim.bipush (v := (25 : Int32)) dX11_rises_20 rfl ?_
  refine Sim.iload_n 0 dX11_rises_22 rfl ?_
  refine Sim.iadd dX11_rises_23 ?_
  refine Sim.iconst (v := (0 : Int32)) dX11_rises_24 rfl ?_
  refine Sim.iast (n := 77) dX11_rises_25 mA_1 ?_
  refine Sim.lth (fun h3 => ?_)
  refine Sim.aload_n 1 dX11_rises_26 rfl ?_
  refine Sim.iload_n 0 dX11_rises_27 rfl ?_
  refine Sim.iload_n 2 dX11_rises_28 rfl ?_
  refine Sim.callV2I (d1 := 4) (s_X11_swingsOf x1.1 a1 h3) dX11_rises_29 ml_X11_360 mv_X11_swingsOf mC (Nat.le_of_ble_eq_true rfl) (Nat.le_of_ble_eq_true rfl) (Nat.le_of_ble_eq_true rfl) (fun x4 => ?_)
  refine Sim.istore_n (L' := [(3, .int x4.1), (2, .int x1.1), (0, .ref 0), (1, .int a1)]) dX11_rises_32 (Nat.le_of_ble_eq_true rfl) rfl ?_
  refine Sim.aload_n 2 dX11_rises_33 rfl ?_
  refine Sim.getR (j := 1) fl_X11_7 dX11_rises_34 mR_1 ?_
  refine Sim.bipush (v := (15 : Int32)) dX11_rises_37 rfl ?_
  refine Sim.iload_n 1 dX11_rises_39 rfl ?_
  refine Sim.iadd dX11_rises_40 ?_
  refine Sim.iload_n 3 dX11_rises_41 rfl ?_
  refine Sim.iconst (v := (1 : Int32)) dX11_rises_42 rfl ?_
  refine Sim.iadd dX11_rises_43 ?_
  refine Sim.iast (n := 77) dX11_rises_44 mA_1 ?_
  refine Sim.lth (fun h5 => ?_)
  refine Sim.aload_n 2 dX11_rises_45 rfl ?_
  refine Sim.iload_n 1 dX11_rises_46 rfl ?_
  refine Sim.iload_n 0 dX11_rises_47 rfl ?_
  refine Sim.callV2U (d1 := 0) (s_X11_swings x1.1 x4.1 h5) dX11_rises_48 ml_X11_167 mv_X11_swings mC (Nat.le_of_ble_eq_true rfl) (Nat.le_of_ble_eq_true rfl) (Nat.le_of_ble_eq_true rfl) (fun x6 => ?_)
  refine Sim.aload_n 2 dX11_rises_51 rfl ?_
  refine Sim.iconst (v := (2 : Int32)) dX11_rises_52 rfl ?_
  refine Sim.iload_n 3 dX11_rises_53 rfl ?_
  refine Sim.iload_n 0 dX11_rises_54 rfl ?_
  refine Sim.callV3U (d1 := 0) (s_X11_notes (2 : Int32) a1 x4.1 x6) dX11_rises_55 ml_X11_353 mv_X11_notes mC (Nat.le_of_ble_eq_true rfl) (Nat.le_of_ble_eq_true rfl) (Nat.le_of_ble_eq_true rfl) (fun x7 => ?_)
  exact Sim.vret dX11_rises_58 rfl
theorem mv_X11_rises : zMV mX11_rises 1 := ⟨⟨zTb_in 1730 (by decide +kernel) rfl, zTb_in 148 (by decide +kernel) rfl, ⟨by decide +kernel, by decide +kernel⟩, by decide +kernel⟩, zTb_in 1729 (by decide +kernel) rfl, zTb_in 84 (by decide +kernel) rfl⟩
-- ===== RockingPorchModel.goesAway(I)V
abbrev mX11_goesAway : zMt := (yX11_goesAway, cX11_goesAway, 2, none)
theorem ml_X11_363 : Cond.methodLink RX11 363 yX11_rises ∈ zTb := zTb_in 1727 (by decide +kernel) rfl
theorem dX11_goesAway_0 : decode cX11_goesAway 0 = .ok (.aload_n 0, 1) := by decide +kernel
theorem dX11_goesAway_1 : decode cX11_goesAway 1 = .ok (.getfield 7, 3) := by decide +kernel
theorem dX11_goesAway_4 : decode cX11_goesAway 4 = .ok (.bipush 35, 2) := by decide +kernel
theorem dX11_goesAway_6 : decode cX11_goesAway 6 = .ok (.iload_n 1, 1) := by decide +kernel
theorem dX11_goesAway_7 : decode cX11_goesAway 7 = .ok (.iadd, 1) := by decide +kernel
theorem dX11_goesAway_8 : decode cX11_goesAway 8 = .ok (.iaload, 1) := by decide +kernel
theorem dX11_goesAway_9 : decode cX11_goesAway 9 = .ok (.iconst 2, 1) := by decide +kernel
theorem dX11_goesAway_10 : decode cX11_goesAway 10 = .ok (.if_icmp .ne 8, 3) := by decide +kernel
theorem dX11_goesAway_13 : decode cX11_goesAway 13 = .ok (.aload_n 0, 1) := by decide +kernel
theorem dX11_goesAway_14 : decode cX11_goesAway 14 = .ok (.iload_n 1, 1) := by decide +kernel
theorem dX11_goesAway_15 : decode cX11_goesAway 15 = .ok (.invokevirtual 363, 3) := by decide +kernel
theorem dX11_goesAway_18 : decode cX11_goesAway 18 = .ok (.aload_n 0, 1) := by decide +kernel
theorem dX11_goesAway_19 : decode cX11_goesAway 19 = .ok (.getfield 7, 3) := by decide +kernel
theorem dX11_goesAway_22 : decode cX11_goesAway 22 = .ok (.bipush 35, 2) := by decide +kernel
theorem dX11_goesAway_24 : decode cX11_goesAway 24 = .ok (.iload_n 1, 1) := by decide +kernel
theorem dX11_goesAway_25 : decode cX11_goesAway 25 = .ok (.iadd, 1) := by decide +kernel
theorem dX11_goesAway_26 : decode cX11_goesAway 26 = .ok (.iconst 0, 1) := by decide +kernel
theorem dX11_goesAway_27 : decode cX11_goesAway 27 = .ok (.iastore, 1) := by decide +kernel
theorem dX11_goesAway_28 : decode cX11_goesAway 28 = .ok (.aload_n 0, 1) := by decide +kernel
theorem dX11_goesAway_29 : decode cX11_goesAway 29 = .ok (.iconst 3, 1) := by decide +kernel
theorem dX11_goesAway_30 : decode cX11_goesAway 30 = .ok (.iload_n 1, 1) := by decide +kernel
theorem dX11_goesAway_31 : decode cX11_goesAway 31 = .ok (.aload_n 0, 1) := by decide +kernel
theorem dX11_goesAway_32 : decode cX11_goesAway 32 = .ok (.aload_n 0, 1) := by decide +kernel
theorem dX11_goesAway_33 : decode cX11_goesAway 33 = .ok (.invokevirtual 326, 3) := by decide +kernel
theorem dX11_goesAway_36 : decode cX11_goesAway 36 = .ok (.invokevirtual 329, 3) := by decide +kernel
theorem dX11_goesAway_39 : decode cX11_goesAway 39 = .ok (.invokevirtual 353, 3) := by decide +kernel
theorem dX11_goesAway_42 : decode cX11_goesAway 42 = .ok (.return_, 1) := by decide +kernel
def f_X11_goesAway_18   (v1 : Int32) (h : zHp) : Option (zHp) := zix ((35 : Int32) + v1) 77 (zlt (zst h 1 ((35 : Int32) + v1).toNatClampNeg (0 : Int32)) fun h1 => (f_X11_hereSet h1).bind fun x2 => (f_X11_onesOf x2.1 x2.2).bind fun x3 => (f_X11_notes (3 : Int32) v1 x3.1 x3.2).bind fun x4 => some x4)
set_option maxHeartbeats 4000000 in
set_option maxRecDepth 100000 in
theorem f_X11_goesAway_18_s  (v1 : Int32) (h : zHp) : Sim wM mX11_goesAway 6 rV 18 [(0, .ref 0), (1, .int v1)] [] h (f_X11_goesAway_18 v1 h) := by
  unfold f_X11_goesAway_18
  refine Sim.aload_n 0 dX11_goesAway_18 rfl ?_
  refine Sim.getR (j := 1) fl_X11_7 dX11_goesAway_19 mR_1 ?_
  refine Sim.bipush (v := (35 : Int32)) dX11_goesAway_22 rfl ?_
  refine Sim.iload_n 1 dX11_goesAway_24 rfl ?_
  refine Sim.iadd dX11_goesAway_25 ?_
  refine Sim.iconst (v := (0 : Int32)) dX11_goesAway_26 rfl ?_
  refine Sim.iast (n := 77) dX11_goesAway_27 mA_1 ?_
  refine Sim.lth (fun h1 => ?_)
  refine Sim.aload_n 0 dX11_goesAway_28 rfl ?_
  refine Sim.iconst (v := (3 : Int32)) dX11_goesAway_29 rfl ?_
  refine Sim.iload_n 1 dX11_goesAway_30 rfl ?_
  refine Sim.aload_n 0 dX11_goesAway_31 rfl ?_
  refine Sim.aload_n 0 dX11_goesAway_32 rfl ?_
  refine Sim.callV0I (d1 := 0) (s_X11_hereSet h1) dX11_goesAway_33 ml_X11_326 mv_X11_hereSet mC (Nat.le_of_ble_eq_true rfl) (Nat.le_of_ble_eq_true rfl) (Nat.le_of_ble_eq_true rfl) (fun x2 => ?_)
  refine Sim.callV1I (d1 := 0) (s_X11_onesOf x2.1 x2.2) dX11_goesAway_36 ml_X11_329 mv_X11_onesOf mC (Nat.le_of_ble_eq_true rfl) (Nat.le_of_ble_eq_true rfl) (Nat.le_of_ble_eq_true rfl) (fun x3 => ?_)
  refine Sim.callV3U (d1 := 0) (s_X11_notes (3 : Int32) v1 x3.1 x3.2) dX11_goesAway_39 ml_X11_353 mv_X11_notes mC (Nat.le_of_ble_eq_true rfl) (Nat.le_of_ble_eq_true rfl) (Nat.le_of_ble_eq_true rfl) (fun x4 => ?_)
  exact Sim.vret dX11_goesAway_42 rfl
def f_X11_goesAway  (a1 : Int32) (h : zHp) : Option (zHp) := zix ((35 : Int32) + a1) 77 ((if (h 1 ((35 : Int32) + a1).toNatClampNeg) = (2 : Int32) then (f_X11_rises a1 h).bind fun x1 => f_X11_goesAway_18 a1 x1 else f_X11_goesAway_18 a1 h))
set_option maxHeartbeats 4000000 in
set_option maxRecDepth 100000 in
theorem s_X11_goesAway  (a1 : Int32) (h : zHp) : Fn wM mX11_goesAway 6 rV [.ref 0, .int a1] h (f_X11_goesAway a1 h) := by
  refine Fn.of rfl (Nat.le_of_ble_eq_true rfl) ?_
  unfold f_X11_goesAway
  refine Sim.aload_n 0 dX11_goesAway_0 rfl ?_
  refine Sim.getR (j := 1) fl_X11_7 dX11_goesAway_1 mR_1 ?_
  refine Sim.bipush (v := (35 : Int32)) dX11_goesAway_4 rfl ?_
  refine Sim.iload_n 1 dX11_goesAway_6 rfl ?_
  refine Sim.iadd dX11_goesAway_7 ?_
  refine Sim.iald (n := 77) dX11_goesAway_8 mA_1 ?_
  refine Sim.iconst (v := (2 : Int32)) dX11_goesAway_9 rfl ?_
  refine Sim.icmp_ne 18 dX11_goesAway_10 rfl ?_ ?_
  · refine Sim.aload_n 0 dX11_goesAway_13 rfl ?_
    refine Sim.iload_n 1 dX11_goesAway_14 rfl ?_
    refine Sim.callV1U (d1 := 5) (s_X11_rises a1 h) dX11_goesAway_15 ml_X11_363 mv_X11_rises mC (Nat.le_of_ble_eq_true rfl) (Nat.le_of_ble_eq_true rfl) (Nat.le_of_ble_eq_true rfl) (fun x1 => ?_)
    exact f_X11_goesAway_18_s a1 x1
  · exact f_X11_goesAway_18_s a1 h
theorem mv_X11_goesAway : zMV mX11_goesAway 1 := ⟨⟨zTb_in 1808 (by decide +kernel) rfl, zTb_in 148 (by decide +kernel) rfl, ⟨by decide +kernel, by decide +kernel⟩, by decide +kernel⟩, zTb_in 1807 (by decide +kernel) rfl, zTb_in 102 (by decide +kernel) rfl⟩
-- ===== RockingPorchModel.comesBack(I)V
abbrev mX11_comesBack : zMt := (yX11_comesBack, cX11_comesBack, 2, none)
theorem dX11_comesBack_0 : decode cX11_comesBack 0 = .ok (.aload_n 0, 1) := by decide +kernel
theorem dX11_comesBack_1 : decode cX11_comesBack 1 = .ok (.getfield 7, 3) := by decide +kernel
theorem dX11_comesBack_4 : decode cX11_comesBack 4 = .ok (.bipush 35, 2) := by decide +kernel
theorem dX11_comesBack_6 : decode cX11_comesBack 6 = .ok (.iload_n 1, 1) := by decide +kernel
theorem dX11_comesBack_7 : decode cX11_comesBack 7 = .ok (.iadd, 1) := by decide +kernel
theorem dX11_comesBack_8 : decode cX11_comesBack 8 = .ok (.iconst 1, 1) := by decide +kernel
theorem dX11_comesBack_9 : decode cX11_comesBack 9 = .ok (.iastore, 1) := by decide +kernel
theorem dX11_comesBack_10 : decode cX11_comesBack 10 = .ok (.aload_n 0, 1) := by decide +kernel
theorem dX11_comesBack_11 : decode cX11_comesBack 11 = .ok (.iconst 4, 1) := by decide +kernel
theorem dX11_comesBack_12 : decode cX11_comesBack 12 = .ok (.iload_n 1, 1) := by decide +kernel
theorem dX11_comesBack_13 : decode cX11_comesBack 13 = .ok (.aload_n 0, 1) := by decide +kernel
theorem dX11_comesBack_14 : decode cX11_comesBack 14 = .ok (.aload_n 0, 1) := by decide +kernel
theorem dX11_comesBack_15 : decode cX11_comesBack 15 = .ok (.invokevirtual 326, 3) := by decide +kernel
theorem dX11_comesBack_18 : decode cX11_comesBack 18 = .ok (.invokevirtual 329, 3) := by decide +kernel
theorem dX11_comesBack_21 : decode cX11_comesBack 21 = .ok (.invokevirtual 353, 3) := by decide +kernel
theorem dX11_comesBack_24 : decode cX11_comesBack 24 = .ok (.return_, 1) := by decide +kernel
def f_X11_comesBack  (a1 : Int32) (h : zHp) : Option (zHp) := zix ((35 : Int32) + a1) 77 (zlt (zst h 1 ((35 : Int32) + a1).toNatClampNeg (1 : Int32)) fun h1 => (f_X11_hereSet h1).bind fun x2 => (f_X11_onesOf x2.1 x2.2).bind fun x3 => (f_X11_notes (4 : Int32) a1 x3.1 x3.2).bind fun x4 => some x4)
set_option maxHeartbeats 4000000 in
set_option maxRecDepth 100000 in
theorem s_X11_comesBack  (a1 : Int32) (h : zHp) : Fn wM mX11_comesBack 1 rV [.ref 0, .int a1] h (f_X11_comesBack a1 h) := by
  refine Fn.of rfl (Nat.le_of_ble_eq_true rfl) ?_
  unfold f_X11_comesBack
  refine Sim.aload_n 0 dX11_comesBack_0 rfl ?_
  refine Sim.getR (j := 1) fl_X11_7 dX11_comesBack_1 mR_1 ?_
  refine Sim.bipush (v := (35 : Int32)) dX11_comesBack_4 rfl ?_
  refine Sim.iload_n 1 dX11_comesBack_6 rfl ?_
  refine Sim.iadd dX11_comesBack_7 ?_
  refine Sim.iconst (v := (1 : Int32)) dX11_comesBack_8 rfl ?_
  refine Sim.iast (n := 77) dX11_comesBack_9 mA_1 ?_
  refine Sim.lth (fun h1 => ?_)
  refine Sim.aload_n 0 dX11_comesBack_10 rfl ?_
  refine Sim.iconst (v := (4 : Int32)) dX11_comesBack_11 rfl ?_
  refine Sim.iload_n 1 dX11_comesBack_12 rfl ?_
  refine Sim.aload_n 0 dX11_comesBack_13 rfl ?_
  refine Sim.aload_n 0 dX11_comesBack_14 rfl ?_
  refine Sim.callV0I (d1 := 0) (s_X11_hereSet h1) dX11_comesBack_15 ml_X11_326 mv_X11_hereSet mC (Nat.le_of_ble_eq_true rfl) (Nat.le_of_ble_eq_true rfl) (Nat.le_of_ble_eq_true rfl) (fun x2 => ?_)
  refine Sim.callV1I (d1 := 0) (s_X11_onesOf x2.1 x2.2) dX11_comesBack_18 ml_X11_329 mv_X11_onesOf mC (Nat.le_of_ble_eq_true rfl) (Nat.le_of_ble_eq_true rfl) (Nat.le_of_ble_eq_true rfl) (fun x3 => ?_)
  refine Sim.callV3U (d1 := 0) (s_X11_notes (4 : Int32) a1 x3.1 x3.2) dX11_comesBack_21 ml_X11_353 mv_X11_notes mC (Nat.le_of_ble_eq_true rfl) (Nat.le_of_ble_eq_true rfl) (Nat.le_of_ble_eq_true rfl) (fun x4 => ?_)
  exact Sim.vret dX11_comesBack_24 rfl
theorem mv_X11_comesBack : zMV mX11_comesBack 1 := ⟨⟨zTb_in 1812 (by decide +kernel) rfl, zTb_in 148 (by decide +kernel) rfl, ⟨by decide +kernel, by decide +kernel⟩, by decide +kernel⟩, zTb_in 1811 (by decide +kernel) rfl, zTb_in 103 (by decide +kernel) rfl⟩
-- ===== RockingPorchModel.catAt(I)V
abbrev mX11_catAt : zMt := (yX11_catAt, cX11_catAt, 2, none)
theorem ml_X11_366 : Cond.methodLink RX11 366 yX11_jumpsAt ∈ zTb := zTb_in 1775 (by decide +kernel) rfl
theorem ml_X11_369 : Cond.methodLink RX11 369 yX11_happens ∈ zTb := zTb_in 1783 (by decide +kernel) rfl
theorem dX11_catAt_0 : decode cX11_catAt 0 = .ok (.aload_n 0, 1) := by decide +kernel
theorem dX11_catAt_1 : decode cX11_catAt 1 = .ok (.aload_n 0, 1) := by decide +kernel
theorem dX11_catAt_2 : decode cX11_catAt 2 = .ok (.iload_n 1, 1) := by decide +kernel
theorem dX11_catAt_3 : decode cX11_catAt 3 = .ok (.invokevirtual 366, 3) := by decide +kernel
theorem dX11_catAt_6 : decode cX11_catAt 6 = .ok (.invokevirtual 369, 3) := by decide +kernel
theorem dX11_catAt_9 : decode cX11_catAt 9 = .ok (.ifCond .ne 4, 3) := by decide +kernel
theorem dX11_catAt_12 : decode cX11_catAt 12 = .ok (.return_, 1) := by decide +kernel
theorem dX11_catAt_13 : decode cX11_catAt 13 = .ok (.aload_n 0, 1) := by decide +kernel
theorem dX11_catAt_14 : decode cX11_catAt 14 = .ok (.iconst 5, 1) := by decide +kernel
theorem dX11_catAt_15 : decode cX11_catAt 15 = .ok (.iload_n 1, 1) := by decide +kernel
theorem dX11_catAt_16 : decode cX11_catAt 16 = .ok (.aload_n 0, 1) := by decide +kernel
theorem dX11_catAt_17 : decode cX11_catAt 17 = .ok (.getfield 7, 3) := by decide +kernel
theorem dX11_catAt_20 : decode cX11_catAt 20 = .ok (.iconst 5, 1) := by decide +kernel
theorem dX11_catAt_21 : decode cX11_catAt 21 = .ok (.iload_n 1, 1) := by decide +kernel
theorem dX11_catAt_22 : decode cX11_catAt 22 = .ok (.iadd, 1) := by decide +kernel
theorem dX11_catAt_23 : decode cX11_catAt 23 = .ok (.iaload, 1) := by decide +kernel
theorem dX11_catAt_24 : decode cX11_catAt 24 = .ok (.invokevirtual 353, 3) := by decide +kernel
theorem dX11_catAt_27 : decode cX11_catAt 27 = .ok (.aload_n 0, 1) := by decide +kernel
theorem dX11_catAt_28 : decode cX11_catAt 28 = .ok (.iload_n 1, 1) := by decide +kernel
theorem dX11_catAt_29 : decode cX11_catAt 29 = .ok (.iconst 0, 1) := by decide +kernel
theorem dX11_catAt_30 : decode cX11_catAt 30 = .ok (.invokevirtual 167, 3) := by decide +kernel
theorem dX11_catAt_33 : decode cX11_catAt 33 = .ok (.aload_n 0, 1) := by decide +kernel
theorem dX11_catAt_34 : decode cX11_catAt 34 = .ok (.getfield 7, 3) := by decide +kernel
theorem dX11_catAt_37 : decode cX11_catAt 37 = .ok (.iconst 4, 1) := by decide +kernel
theorem dX11_catAt_38 : decode cX11_catAt 38 = .ok (.aload_n 0, 1) := by decide +kernel
theorem dX11_catAt_39 : decode cX11_catAt 39 = .ok (.getfield 7, 3) := by decide +kernel
theorem dX11_catAt_42 : decode cX11_catAt 42 = .ok (.iconst 4, 1) := by decide +kernel
theorem dX11_catAt_43 : decode cX11_catAt 43 = .ok (.iaload, 1) := by decide +kernel
theorem dX11_catAt_44 : decode cX11_catAt 44 = .ok (.iconst 1, 1) := by decide +kernel
theorem dX11_catAt_45 : decode cX11_catAt 45 = .ok (.iadd, 1) := by decide +kernel
theorem dX11_catAt_46 : decode cX11_catAt 46 = .ok (.iastore, 1) := by decide +kernel
theorem dX11_catAt_47 : decode cX11_catAt 47 = .ok (.return_, 1) := by decide +kernel
def f_X11_catAt  (a1 : Int32) (h : zHp) : Option (zHp) := (f_X11_jumpsAt a1 h).bind fun x1 => (f_X11_happens x1.1 x1.2).bind fun x2 => (if x2.1 = 0 then some x2.2 else zix ((5 : Int32) + a1) 77 ((f_X11_notes (5 : Int32) a1 (x2.2 1 ((5 : Int32) + a1).toNatClampNeg) x2.2).bind fun x3 => (f_X11_swings a1 (0 : Int32) x3).bind fun x4 => zix (4 : Int32) 77 (zix (4 : Int32) 77 (zlt (zst x4 1 (4 : Int32).toNatClampNeg ((x4 1 (4 : Int32).toNatClampNeg) + (1 : Int32))) fun h5 => some h5))))
set_option maxHeartbeats 4000000 in
set_option maxRecDepth 100000 in
theorem s_X11_catAt  (a1 : Int32) (h : zHp) : Fn wM mX11_catAt 5 rV [.ref 0, .int a1] h (f_X11_catAt a1 h) := by
  refine Fn.of rfl (Nat.le_of_ble_eq_true rfl) ?_
  unfold f_X11_catAt
  refine Sim.aload_n 0 dX11_catAt_0 rfl ?_
  refine Sim.aload_n 0 dX11_catAt_1 rfl ?_
  refine Sim.iload_n 1 dX11_catAt_2 rfl ?_
  refine Sim.callV1I (d1 := 4) (s_X11_jumpsAt a1 h) dX11_catAt_3 ml_X11_366 mv_X11_jumpsAt mC (Nat.le_of_ble_eq_true rfl) (Nat.le_of_ble_eq_true rfl) (Nat.le_of_ble_eq_true rfl) (fun x1 => ?_)
  refine Sim.callV1I (d1 := 1) (s_X11_happens x1.1 x1.2) dX11_catAt_6 ml_X11_369 mv_X11_happens mC (Nat.le_of_ble_eq_true rfl) (Nat.le_of_ble_eq_true rfl) (Nat.le_of_ble_eq_true rfl) (fun x2 => ?_)
  refine Sim.if_ne 13 dX11_catAt_9 rfl ?_ ?_
  · exact Sim.vret dX11_catAt_12 rfl
  · refine Sim.aload_n 0 dX11_catAt_13 rfl ?_
    refine Sim.iconst (v := (5 : Int32)) dX11_catAt_14 rfl ?_
    refine Sim.iload_n 1 dX11_catAt_15 rfl ?_
    refine Sim.aload_n 0 dX11_catAt_16 rfl ?_
    refine Sim.getR (j := 1) fl_X11_7 dX11_catAt_17 mR_1 ?_
    refine Sim.iconst (v := (5 : Int32)) dX11_catAt_20 rfl ?_
    refine Sim.iload_n 1 dX11_catAt_21 rfl ?_
    refine Sim.iadd dX11_catAt_22 ?_
    refine Sim.iald (n := 77) dX11_catAt_23 mA_1 ?_
    refine Sim.callV3U (d1 := 0) (s_X11_notes (5 : Int32) a1 (x2.2 1 ((5 : Int32) + a1).toNatClampNeg) x2.2) dX11_catAt_24 ml_X11_353 mv_X11_notes mC (Nat.le_of_ble_eq_true rfl) (Nat.le_of_ble_eq_true rfl) (Nat.le_of_ble_eq_true rfl) (fun x3 => ?_)
    refine Sim.aload_n 0 dX11_catAt_27 rfl ?_
    refine Sim.iload_n 1 dX11_catAt_28 rfl ?_
    refine Sim.iconst (v := (0 : Int32)) dX11_catAt_29 rfl ?_
    refine Sim.callV2U (d1 := 0) (s_X11_swings a1 (0 : Int32) x3) dX11_catAt_30 ml_X11_167 mv_X11_swings mC (Nat.le_of_ble_eq_true rfl) (Nat.le_of_ble_eq_true rfl) (Nat.le_of_ble_eq_true rfl) (fun x4 => ?_)
    refine Sim.aload_n 0 dX11_catAt_33 rfl ?_
    refine Sim.getR (j := 1) fl_X11_7 dX11_catAt_34 mR_1 ?_
    refine Sim.iconst (v := (4 : Int32)) dX11_catAt_37 rfl ?_
    refine Sim.aload_n 0 dX11_catAt_38 rfl ?_
    refine Sim.getR (j := 1) fl_X11_7 dX11_catAt_39 mR_1 ?_
    refine Sim.iconst (v := (4 : Int32)) dX11_catAt_42 rfl ?_
    refine Sim.iald (n := 77) dX11_catAt_43 mA_1 ?_
    refine Sim.iconst (v := (1 : Int32)) dX11_catAt_44 rfl ?_
    refine Sim.iadd dX11_catAt_45 ?_
    refine Sim.iast (n := 77) dX11_catAt_46 mA_1 ?_
    refine Sim.lth (fun h5 => ?_)
    exact Sim.vret dX11_catAt_47 rfl
theorem mv_X11_catAt : zMV mX11_catAt 1 := ⟨⟨zTb_in 1774 (by decide +kernel) rfl, zTb_in 148 (by decide +kernel) rfl, ⟨by decide +kernel, by decide +kernel⟩, by decide +kernel⟩, zTb_in 1773 (by decide +kernel) rfl, zTb_in 95 (by decide +kernel) rfl⟩
-- ===== RockingPorchModel.canAct(III)Z
abbrev mX11_canAct : zMt := (yX11_canAct, cX11_canAct, 4, some .boolean)
theorem dX11_canAct_0 : decode cX11_canAct 0 = .ok (.iload_n 1, 1) := by decide +kernel
theorem dX11_canAct_1 : decode cX11_canAct 1 = .ok (.ifCond .ne 46, 3) := by decide +kernel
theorem dX11_canAct_4 : decode cX11_canAct 4 = .ok (.aload_n 0, 1) := by decide +kernel
theorem dX11_canAct_5 : decode cX11_canAct 5 = .ok (.iload_n 2, 1) := by decide +kernel
theorem dX11_canAct_6 : decode cX11_canAct 6 = .ok (.invokevirtual 161, 3) := by decide +kernel
theorem dX11_canAct_9 : decode cX11_canAct 9 = .ok (.ifCond .eq 36, 3) := by decide +kernel
theorem dX11_canAct_12 : decode cX11_canAct 12 = .ok (.aload_n 0, 1) := by decide +kernel
theorem dX11_canAct_13 : decode cX11_canAct 13 = .ok (.getfield 7, 3) := by decide +kernel
theorem dX11_canAct_16 : decode cX11_canAct 16 = .ok (.bipush 35, 2) := by decide +kernel
theorem dX11_canAct_18 : decode cX11_canAct 18 = .ok (.iload_n 2, 1) := by decide +kernel
theorem dX11_canAct_19 : decode cX11_canAct 19 = .ok (.iadd, 1) := by decide +kernel
theorem dX11_canAct_20 : decode cX11_canAct 20 = .ok (.iaload, 1) := by decide +kernel
theorem dX11_canAct_21 : decode cX11_canAct 21 = .ok (.iconst 1, 1) := by decide +kernel
theorem dX11_canAct_22 : decode cX11_canAct 22 = .ok (.if_icmp .ne 23, 3) := by decide +kernel
theorem dX11_canAct_25 : decode cX11_canAct 25 = .ok (.aload_n 0, 1) := by decide +kernel
theorem dX11_canAct_26 : decode cX11_canAct 26 = .ok (.iload_n 3, 1) := by decide +kernel
theorem dX11_canAct_27 : decode cX11_canAct 27 = .ok (.invokevirtual 158, 3) := by decide +kernel
theorem dX11_canAct_30 : decode cX11_canAct 30 = .ok (.ifCond .eq 15, 3) := by decide +kernel
theorem dX11_canAct_33 : decode cX11_canAct 33 = .ok (.aload_n 0, 1) := by decide +kernel
theorem dX11_canAct_34 : decode cX11_canAct 34 = .ok (.iload_n 3, 1) := by decide +kernel
theorem dX11_canAct_35 : decode cX11_canAct 35 = .ok (.invokevirtual 350, 3) := by decide +kernel
theorem dX11_canAct_38 : decode cX11_canAct 38 = .ok (.ifCond .eq 7, 3) := by decide +kernel
theorem dX11_canAct_41 : decode cX11_canAct 41 = .ok (.iconst 1, 1) := by decide +kernel
theorem dX11_canAct_42 : decode cX11_canAct 42 = .ok (.goto 4, 3) := by decide +kernel
theorem dX11_canAct_45 : decode cX11_canAct 45 = .ok (.iconst 0, 1) := by decide +kernel
theorem dX11_canAct_46 : decode cX11_canAct 46 = .ok (.ireturn, 1) := by decide +kernel
theorem dX11_canAct_47 : decode cX11_canAct 47 = .ok (.iload_n 1, 1) := by decide +kernel
theorem dX11_canAct_48 : decode cX11_canAct 48 = .ok (.iconst 1, 1) := by decide +kernel
theorem dX11_canAct_49 : decode cX11_canAct 49 = .ok (.if_icmp .ne 30, 3) := by decide +kernel
theorem dX11_canAct_52 : decode cX11_canAct 52 = .ok (.aload_n 0, 1) := by decide +kernel
theorem dX11_canAct_53 : decode cX11_canAct 53 = .ok (.iload_n 2, 1) := by decide +kernel
theorem dX11_canAct_54 : decode cX11_canAct 54 = .ok (.invokevirtual 161, 3) := by decide +kernel
theorem dX11_canAct_57 : decode cX11_canAct 57 = .ok (.ifCond .eq 20, 3) := by decide +kernel
theorem dX11_canAct_60 : decode cX11_canAct 60 = .ok (.aload_n 0, 1) := by decide +kernel
theorem dX11_canAct_61 : decode cX11_canAct 61 = .ok (.getfield 7, 3) := by decide +kernel
theorem dX11_canAct_64 : decode cX11_canAct 64 = .ok (.bipush 35, 2) := by decide +kernel
theorem dX11_canAct_66 : decode cX11_canAct 66 = .ok (.iload_n 2, 1) := by decide +kernel
theorem dX11_canAct_67 : decode cX11_canAct 67 = .ok (.iadd, 1) := by decide +kernel
theorem dX11_canAct_68 : decode cX11_canAct 68 = .ok (.iaload, 1) := by decide +kernel
theorem dX11_canAct_69 : decode cX11_canAct 69 = .ok (.iconst 2, 1) := by decide +kernel
theorem dX11_canAct_70 : decode cX11_canAct 70 = .ok (.if_icmp .ne 7, 3) := by decide +kernel
theorem dX11_canAct_73 : decode cX11_canAct 73 = .ok (.iconst 1, 1) := by decide +kernel
theorem dX11_canAct_74 : decode cX11_canAct 74 = .ok (.goto 4, 3) := by decide +kernel
theorem dX11_canAct_77 : decode cX11_canAct 77 = .ok (.iconst 0, 1) := by decide +kernel
theorem dX11_canAct_78 : decode cX11_canAct 78 = .ok (.ireturn, 1) := by decide +kernel
theorem dX11_canAct_79 : decode cX11_canAct 79 = .ok (.iload_n 1, 1) := by decide +kernel
theorem dX11_canAct_80 : decode cX11_canAct 80 = .ok (.iconst 2, 1) := by decide +kernel
theorem dX11_canAct_81 : decode cX11_canAct 81 = .ok (.if_icmp .eq 8, 3) := by decide +kernel
theorem dX11_canAct_84 : decode cX11_canAct 84 = .ok (.iload_n 1, 1) := by decide +kernel
theorem dX11_canAct_85 : decode cX11_canAct 85 = .ok (.iconst 3, 1) := by decide +kernel
theorem dX11_canAct_86 : decode cX11_canAct 86 = .ok (.if_icmp .ne 23, 3) := by decide +kernel
theorem dX11_canAct_89 : decode cX11_canAct 89 = .ok (.aload_n 0, 1) := by decide +kernel
theorem dX11_canAct_90 : decode cX11_canAct 90 = .ok (.iload_n 2, 1) := by decide +kernel
theorem dX11_canAct_91 : decode cX11_canAct 91 = .ok (.invokevirtual 158, 3) := by decide +kernel
theorem dX11_canAct_94 : decode cX11_canAct 94 = .ok (.ifCond .eq 15, 3) := by decide +kernel
theorem dX11_canAct_97 : decode cX11_canAct 97 = .ok (.aload_n 0, 1) := by decide +kernel
theorem dX11_canAct_98 : decode cX11_canAct 98 = .ok (.iload_n 2, 1) := by decide +kernel
theorem dX11_canAct_99 : decode cX11_canAct 99 = .ok (.invokevirtual 146, 3) := by decide +kernel
theorem dX11_canAct_102 : decode cX11_canAct 102 = .ok (.ifCond .eq 7, 3) := by decide +kernel
theorem dX11_canAct_105 : decode cX11_canAct 105 = .ok (.iconst 1, 1) := by decide +kernel
theorem dX11_canAct_106 : decode cX11_canAct 106 = .ok (.goto 4, 3) := by decide +kernel
theorem dX11_canAct_109 : decode cX11_canAct 109 = .ok (.iconst 0, 1) := by decide +kernel
theorem dX11_canAct_110 : decode cX11_canAct 110 = .ok (.ireturn, 1) := by decide +kernel
def f_X11_canAct_89   (v2 : Int32) (h : zHp) : Option (Int32 × zHp) := (f_X11_isChair v2 h).bind fun x1 => (if x1.1 = 0 then some ((0 : Int32), x1.2) else (f_X11_doesRock v2 x1.2).bind fun x2 => (if x2.1 = 0 then some ((0 : Int32), x2.2) else some ((1 : Int32), x2.2)))
set_option maxHeartbeats 4000000 in
set_option maxRecDepth 100000 in
theorem f_X11_canAct_89_s  (v2 : Int32) (h : zHp) : Sim wM mX11_canAct 2 rI 89 [(0, .ref 0), (2, .int v2)] [] h (f_X11_canAct_89 v2 h) := by
  unfold f_X11_canAct_89
  refine Sim.aload_n 0 dX11_canAct_89 rfl ?_
  refine Sim.iload_n 1 dX11_canAct_90 rfl ?_
  refine Sim.callV1I (d1 := 0) (s_X11_isChair v2 h) dX11_canAct_91 ml_X11_158 mv_X11_isChair mC (Nat.le_of_ble_eq_true rfl) (Nat.le_of_ble_eq_true rfl) (Nat.le_of_ble_eq_true rfl) (fun x1 => ?_)
  refine Sim.if_eq 109 dX11_canAct_94 rfl ?_ ?_
  · refine Sim.iconst (v := (0 : Int32)) dX11_canAct_109 rfl ?_
    exact Sim.nret dX11_canAct_110 rfl rfl
  · refine Sim.aload_n 0 dX11_canAct_97 rfl ?_
    refine Sim.iload_n 1 dX11_canAct_98 rfl ?_
    refine Sim.callV1I (d1 := 0) (s_X11_doesRock v2 x1.2) dX11_canAct_99 ml_X11_146 mv_X11_doesRock mC (Nat.le_of_ble_eq_true rfl) (Nat.le_of_ble_eq_true rfl) (Nat.le_of_ble_eq_true rfl) (fun x2 => ?_)
    refine Sim.if_eq 109 dX11_canAct_102 rfl ?_ ?_
    · refine Sim.iconst (v := (0 : Int32)) dX11_canAct_109 rfl ?_
      exact Sim.nret dX11_canAct_110 rfl rfl
    · refine Sim.iconst (v := (1 : Int32)) dX11_canAct_105 rfl ?_
      refine Sim.goto 110 dX11_canAct_106 rfl ?_
      exact Sim.nret dX11_canAct_110 rfl rfl
def f_X11_canAct  (a1 : Int32) (a2 : Int32) (a3 : Int32) (h : zHp) : Option (Int32 × zHp) := (if a1 = 0 then (f_X11_isPerson a2 h).bind fun x1 => (if x1.1 = 0 then some ((0 : Int32), x1.2) else zix ((35 : Int32) + a2) 77 ((if (x1.2 1 ((35 : Int32) + a2).toNatClampNeg) = (1 : Int32) then (f_X11_isChair a3 x1.2).bind fun x2 => (if x2.1 = 0 then some ((0 : Int32), x2.2) else (f_X11_isFree a3 x2.2).bind fun x3 => (if x3.1 = 0 then some ((0 : Int32), x3.2) else some ((1 : Int32), x3.2))) else some ((0 : Int32), x1.2)))) else (if a1 = (1 : Int32) then (f_X11_isPerson a2 h).bind fun x4 => (if x4.1 = 0 then some ((0 : Int32), x4.2) else zix ((35 : Int32) + a2) 77 ((if (x4.2 1 ((35 : Int32) + a2).toNatClampNeg) = (2 : Int32) then some ((1 : Int32), x4.2) else some ((0 : Int32), x4.2)))) else (if a1 = (2 : Int32) then f_X11_canAct_89 a2 h else (if a1 = (3 : Int32) then f_X11_canAct_89 a2 h else some ((0 : Int32), h)))))
set_option maxHeartbeats 4000000 in
set_option maxRecDepth 100000 in
theorem s_X11_canAct  (a1 : Int32) (a2 : Int32) (a3 : Int32) (h : zHp) : Fn wM mX11_canAct 2 rI [.ref 0, .int a1, .int a2, .int a3] h (f_X11_canAct a1 a2 a3 h) := by
  refine Fn.of rfl (Nat.le_of_ble_eq_true rfl) ?_
  unfold f_X11_canAct
  refine Sim.iload_n 1 dX11_canAct_0 rfl ?_
  refine Sim.if_ne 47 dX11_canAct_1 rfl ?_ ?_
  · refine Sim.aload_n 0 dX11_canAct_4 rfl ?_
    refine Sim.iload_n 2 dX11_canAct_5 rfl ?_
    refine Sim.callV1I (d1 := 0) (s_X11_isPerson a2 h) dX11_canAct_6 ml_X11_161 mv_X11_isPerson mC (Nat.le_of_ble_eq_true rfl) (Nat.le_of_ble_eq_true rfl) (Nat.le_of_ble_eq_true rfl) (fun x1 => ?_)
    refine Sim.if_eq 45 dX11_canAct_9 rfl ?_ ?_
    · refine Sim.iconst (v := (0 : Int32)) dX11_canAct_45 rfl ?_
      exact Sim.nret dX11_canAct_46 rfl rfl
    · refine Sim.aload_n 0 dX11_canAct_12 rfl ?_
      refine Sim.getR (j := 1) fl_X11_7 dX11_canAct_13 mR_1 ?_
      refine Sim.bipush (v := (35 : Int32)) dX11_canAct_16 rfl ?_
      refine Sim.iload_n 2 dX11_canAct_18 rfl ?_
      refine Sim.iadd dX11_canAct_19 ?_
      refine Sim.iald (n := 77) dX11_canAct_20 mA_1 ?_
      refine Sim.iconst (v := (1 : Int32)) dX11_canAct_21 rfl ?_
      refine Sim.icmp_ne 45 dX11_canAct_22 rfl ?_ ?_
      · refine Sim.aload_n 0 dX11_canAct_25 rfl ?_
        refine Sim.iload_n 3 dX11_canAct_26 rfl ?_
        refine Sim.callV1I (d1 := 0) (s_X11_isChair a3 x1.2) dX11_canAct_27 ml_X11_158 mv_X11_isChair mC (Nat.le_of_ble_eq_true rfl) (Nat.le_of_ble_eq_true rfl) (Nat.le_of_ble_eq_true rfl) (fun x2 => ?_)
        refine Sim.if_eq 45 dX11_canAct_30 rfl ?_ ?_
        · refine Sim.iconst (v := (0 : Int32)) dX11_canAct_45 rfl ?_
          exact Sim.nret dX11_canAct_46 rfl rfl
        · refine Sim.aload_n 0 dX11_canAct_33 rfl ?_
          refine Sim.iload_n 3 dX11_canAct_34 rfl ?_
          refine Sim.callV1I (d1 := 1) (s_X11_isFree a3 x2.2) dX11_canAct_35 ml_X11_350 mv_X11_isFree mC (Nat.le_of_ble_eq_true rfl) (Nat.le_of_ble_eq_true rfl) (Nat.le_of_ble_eq_true rfl) (fun x3 => ?_)
          refine Sim.if_eq 45 dX11_canAct_38 rfl ?_ ?_
          · refine Sim.iconst (v := (0 : Int32)) dX11_canAct_45 rfl ?_
            exact Sim.nret dX11_canAct_46 rfl rfl
          · refine Sim.iconst (v := (1 : Int32)) dX11_canAct_41 rfl ?_
            refine Sim.goto 46 dX11_canAct_42 rfl ?_
            exact Sim.nret dX11_canAct_46 rfl rfl
      · refine Sim.iconst (v := (0 : Int32)) dX11_canAct_45 rfl ?_
        exact Sim.nret dX11_canAct_46 rfl rfl
  · refine Sim.iload_n 1 dX11_canAct_47 rfl ?_
    refine Sim.iconst (v := (1 : Int32)) dX11_canAct_48 rfl ?_
    refine Sim.icmp_ne 79 dX11_canAct_49 rfl ?_ ?_
    · refine Sim.aload_n 0 dX11_canAct_52 rfl ?_
      refine Sim.iload_n 2 dX11_canAct_53 rfl ?_
      refine Sim.callV1I (d1 := 0) (s_X11_isPerson a2 h) dX11_canAct_54 ml_X11_161 mv_X11_isPerson mC (Nat.le_of_ble_eq_true rfl) (Nat.le_of_ble_eq_true rfl) (Nat.le_of_ble_eq_true rfl) (fun x4 => ?_)
      refine Sim.if_eq 77 dX11_canAct_57 rfl ?_ ?_
      · refine Sim.iconst (v := (0 : Int32)) dX11_canAct_77 rfl ?_
        exact Sim.nret dX11_canAct_78 rfl rfl
      · refine Sim.aload_n 0 dX11_canAct_60 rfl ?_
        refine Sim.getR (j := 1) fl_X11_7 dX11_canAct_61 mR_1 ?_
        refine Sim.bipush (v := (35 : Int32)) dX11_canAct_64 rfl ?_
        refine Sim.iload_n 2 dX11_canAct_66 rfl ?_
        refine Sim.iadd dX11_canAct_67 ?_
        refine Sim.iald (n := 77) dX11_canAct_68 mA_1 ?_
        refine Sim.iconst (v := (2 : Int32)) dX11_canAct_69 rfl ?_
        refine Sim.icmp_ne 77 dX11_canAct_70 rfl ?_ ?_
        · refine Sim.iconst (v := (1 : Int32)) dX11_canAct_73 rfl ?_
          refine Sim.goto 78 dX11_canAct_74 rfl ?_
          exact Sim.nret dX11_canAct_78 rfl rfl
        · refine Sim.iconst (v := (0 : Int32)) dX11_canAct_77 rfl ?_
          exact Sim.nret dX11_canAct_78 rfl rfl
    · refine Sim.iload_n 1 dX11_canAct_79 rfl ?_
      refine Sim.iconst (v := (2 : Int32)) dX11_canAct_80 rfl ?_
      refine Sim.icmp_eq 89 dX11_canAct_81 rfl ?_ ?_
      · refine Sim.locs [0, 2] rfl ?_
        exact f_X11_canAct_89_s a2 h
      · refine Sim.iload_n 1 dX11_canAct_84 rfl ?_
        refine Sim.iconst (v := (3 : Int32)) dX11_canAct_85 rfl ?_
        refine Sim.icmp_ne 109 dX11_canAct_86 rfl ?_ ?_
        · refine Sim.locs [0, 2] rfl ?_
          exact f_X11_canAct_89_s a2 h
        · refine Sim.iconst (v := (0 : Int32)) dX11_canAct_109 rfl ?_
          exact Sim.nret dX11_canAct_110 rfl rfl
theorem mv_X11_canAct : zMV mX11_canAct 3 := ⟨⟨zTb_in 1706 (by decide +kernel) rfl, zTb_in 148 (by decide +kernel) rfl, ⟨by decide +kernel, by decide +kernel⟩, by decide +kernel⟩, zTb_in 1705 (by decide +kernel) rfl, zTb_in 78 (by decide +kernel) rfl⟩
-- ===== RockingPorchModel.act(III)Z
abbrev mX11_act : zMt := (yX11_act, cX11_act, 4, some .boolean)
theorem ml_X11_372 : Cond.methodLink RX11 372 yX11_canAct ∈ zTb := zTb_in 1703 (by decide +kernel) rfl
theorem ml_X11_375 : Cond.methodLink RX11 375 yX11_keepsAhead ∈ zTb := zTb_in 1715 (by decide +kernel) rfl
theorem ml_X11_378 : Cond.methodLink RX11 378 yX11_sits ∈ zTb := zTb_in 1719 (by decide +kernel) rfl
theorem ml_X11_382 : Cond.methodLink RX11 382 yX11_catAt ∈ zTb := zTb_in 1771 (by decide +kernel) rfl
theorem dX11_act_0 : decode cX11_act 0 = .ok (.aload_n 0, 1) := by decide +kernel
theorem dX11_act_1 : decode cX11_act 1 = .ok (.iconst 0, 1) := by decide +kernel
theorem dX11_act_2 : decode cX11_act 2 = .ok (.putfield 128, 3) := by decide +kernel
theorem dX11_act_5 : decode cX11_act 5 = .ok (.aload_n 0, 1) := by decide +kernel
theorem dX11_act_6 : decode cX11_act 6 = .ok (.iload_n 1, 1) := by decide +kernel
theorem dX11_act_7 : decode cX11_act 7 = .ok (.iload_n 2, 1) := by decide +kernel
theorem dX11_act_8 : decode cX11_act 8 = .ok (.iload_n 3, 1) := by decide +kernel
theorem dX11_act_9 : decode cX11_act 9 = .ok (.invokevirtual 372, 3) := by decide +kernel
theorem dX11_act_12 : decode cX11_act 12 = .ok (.ifCond .ne 5, 3) := by decide +kernel
theorem dX11_act_15 : decode cX11_act 15 = .ok (.iconst 0, 1) := by decide +kernel
theorem dX11_act_16 : decode cX11_act 16 = .ok (.ireturn, 1) := by decide +kernel
theorem dX11_act_17 : decode cX11_act 17 = .ok (.aload_n 0, 1) := by decide +kernel
theorem dX11_act_18 : decode cX11_act 18 = .ok (.invokevirtual 375, 3) := by decide +kernel
theorem dX11_act_21 : decode cX11_act 21 = .ok (.iload_n 1, 1) := by decide +kernel
theorem dX11_act_22 : decode cX11_act 22 = .ok (.ifCond .ne 10, 3) := by decide +kernel
theorem dX11_act_25 : decode cX11_act 25 = .ok (.aload_n 0, 1) := by decide +kernel
theorem dX11_act_26 : decode cX11_act 26 = .ok (.iload_n 2, 1) := by decide +kernel
theorem dX11_act_27 : decode cX11_act 27 = .ok (.iload_n 3, 1) := by decide +kernel
theorem dX11_act_28 : decode cX11_act 28 = .ok (.invokevirtual 378, 3) := by decide +kernel
theorem dX11_act_31 : decode cX11_act 31 = .ok (.pop, 1) := by decide +kernel
theorem dX11_act_32 : decode cX11_act 32 = .ok (.iload_n 1, 1) := by decide +kernel
theorem dX11_act_33 : decode cX11_act 33 = .ok (.iconst 1, 1) := by decide +kernel
theorem dX11_act_34 : decode cX11_act 34 = .ok (.if_icmp .ne 8, 3) := by decide +kernel
theorem dX11_act_37 : decode cX11_act 37 = .ok (.aload_n 0, 1) := by decide +kernel
theorem dX11_act_38 : decode cX11_act 38 = .ok (.iload_n 2, 1) := by decide +kernel
theorem dX11_act_39 : decode cX11_act 39 = .ok (.invokevirtual 363, 3) := by decide +kernel
theorem dX11_act_42 : decode cX11_act 42 = .ok (.iload_n 1, 1) := by decide +kernel
theorem dX11_act_43 : decode cX11_act 43 = .ok (.iconst 2, 1) := by decide +kernel
theorem dX11_act_44 : decode cX11_act 44 = .ok (.if_icmp .ne 8, 3) := by decide +kernel
theorem dX11_act_47 : decode cX11_act 47 = .ok (.aload_n 0, 1) := by decide +kernel
theorem dX11_act_48 : decode cX11_act 48 = .ok (.iload_n 2, 1) := by decide +kernel
theorem dX11_act_49 : decode cX11_act 49 = .ok (.invokevirtual 382, 3) := by decide +kernel
theorem dX11_act_52 : decode cX11_act 52 = .ok (.iload_n 1, 1) := by decide +kernel
theorem dX11_act_53 : decode cX11_act 53 = .ok (.iconst 3, 1) := by decide +kernel
theorem dX11_act_54 : decode cX11_act 54 = .ok (.if_icmp .ne 9, 3) := by decide +kernel
theorem dX11_act_57 : decode cX11_act 57 = .ok (.aload_n 0, 1) := by decide +kernel
theorem dX11_act_58 : decode cX11_act 58 = .ok (.iload_n 2, 1) := by decide +kernel
theorem dX11_act_59 : decode cX11_act 59 = .ok (.iconst 0, 1) := by decide +kernel
theorem dX11_act_60 : decode cX11_act 60 = .ok (.invokevirtual 167, 3) := by decide +kernel
theorem dX11_act_63 : decode cX11_act 63 = .ok (.iconst 1, 1) := by decide +kernel
theorem dX11_act_64 : decode cX11_act 64 = .ok (.ireturn, 1) := by decide +kernel
def f_X11_act_52   (v1 : Int32) (v2 : Int32) (h : zHp) : Option (Int32 × zHp) := (if v1 = (3 : Int32) then (f_X11_swings v2 (0 : Int32) h).bind fun x1 => some ((1 : Int32), x1) else some ((1 : Int32), h))
set_option maxHeartbeats 4000000 in
set_option maxRecDepth 100000 in
theorem f_X11_act_52_s  (v1 : Int32) (v2 : Int32) (h : zHp) : Sim wM mX11_act 6 rI 52 [(0, .ref 0), (1, .int v1), (2, .int v2)] [] h (f_X11_act_52 v1 v2 h) := by
  unfold f_X11_act_52
  refine Sim.iload_n 1 dX11_act_52 rfl ?_
  refine Sim.iconst (v := (3 : Int32)) dX11_act_53 rfl ?_
  refine Sim.icmp_ne 63 dX11_act_54 rfl ?_ ?_
  · refine Sim.aload_n 0 dX11_act_57 rfl ?_
    refine Sim.iload_n 2 dX11_act_58 rfl ?_
    refine Sim.iconst (v := (0 : Int32)) dX11_act_59 rfl ?_
    refine Sim.callV2U (d1 := 0) (s_X11_swings v2 (0 : Int32) h) dX11_act_60 ml_X11_167 mv_X11_swings mC (Nat.le_of_ble_eq_true rfl) (Nat.le_of_ble_eq_true rfl) (Nat.le_of_ble_eq_true rfl) (fun x1 => ?_)
    refine Sim.iconst (v := (1 : Int32)) dX11_act_63 rfl ?_
    exact Sim.nret dX11_act_64 rfl rfl
  · refine Sim.iconst (v := (1 : Int32)) dX11_act_63 rfl ?_
    exact Sim.nret dX11_act_64 rfl rfl
def f_X11_act_42   (v1 : Int32) (v2 : Int32) (h : zHp) : Option (Int32 × zHp) := (if v1 = (2 : Int32) then (f_X11_catAt v2 h).bind fun x1 => f_X11_act_52 v1 v2 x1 else f_X11_act_52 v1 v2 h)
set_option maxHeartbeats 4000000 in
set_option maxRecDepth 100000 in
theorem f_X11_act_42_s  (v1 : Int32) (v2 : Int32) (h : zHp) : Sim wM mX11_act 6 rI 42 [(0, .ref 0), (1, .int v1), (2, .int v2)] [] h (f_X11_act_42 v1 v2 h) := by
  unfold f_X11_act_42
  refine Sim.iload_n 1 dX11_act_42 rfl ?_
  refine Sim.iconst (v := (2 : Int32)) dX11_act_43 rfl ?_
  refine Sim.icmp_ne 52 dX11_act_44 rfl ?_ ?_
  · refine Sim.aload_n 0 dX11_act_47 rfl ?_
    refine Sim.iload_n 2 dX11_act_48 rfl ?_
    refine Sim.callV1U (d1 := 5) (s_X11_catAt v2 h) dX11_act_49 ml_X11_382 mv_X11_catAt mC (Nat.le_of_ble_eq_true rfl) (Nat.le_of_ble_eq_true rfl) (Nat.le_of_ble_eq_true rfl) (fun x1 => ?_)
    exact f_X11_act_52_s v1 v2 x1
  · exact f_X11_act_52_s v1 v2 h
def f_X11_act_32   (v1 : Int32) (v2 : Int32) (h : zHp) : Option (Int32 × zHp) := (if v1 = (1 : Int32) then (f_X11_rises v2 h).bind fun x1 => f_X11_act_42 v1 v2 x1 else f_X11_act_42 v1 v2 h)
set_option maxHeartbeats 4000000 in
set_option maxRecDepth 100000 in
theorem f_X11_act_32_s  (v1 : Int32) (v2 : Int32) (h : zHp) : Sim wM mX11_act 6 rI 32 [(0, .ref 0), (1, .int v1), (2, .int v2)] [] h (f_X11_act_32 v1 v2 h) := by
  unfold f_X11_act_32
  refine Sim.iload_n 1 dX11_act_32 rfl ?_
  refine Sim.iconst (v := (1 : Int32)) dX11_act_33 rfl ?_
  refine Sim.icmp_ne 42 dX11_act_34 rfl ?_ ?_
  · refine Sim.aload_n 0 dX11_act_37 rfl ?_
    refine Sim.iload_n 2 dX11_act_38 rfl ?_
    refine Sim.callV1U (d1 := 5) (s_X11_rises v2 h) dX11_act_39 ml_X11_363 mv_X11_rises mC (Nat.le_of_ble_eq_true rfl) (Nat.le_of_ble_eq_true rfl) (Nat.le_of_ble_eq_true rfl) (fun x1 => ?_)
    exact f_X11_act_42_s v1 v2 x1
  · exact f_X11_act_42_s v1 v2 h
def f_X11_act  (a1 : Int32) (a2 : Int32) (a3 : Int32) (h : zHp) : Option (Int32 × zHp) := zlt (zst h 0 0 (0 : Int32)) fun h1 => (f_X11_canAct a1 a2 a3 h1).bind fun x2 => (if x2.1 = 0 then some ((0 : Int32), x2.2) else (f_X11_keepsAhead x2.2).bind fun x3 => (if a1 = 0 then (f_X11_sits a2 a3 x3).bind fun x4 => f_X11_act_32 a1 a2 x4.2 else f_X11_act_32 a1 a2 x3))
set_option maxHeartbeats 4000000 in
set_option maxRecDepth 100000 in
theorem s_X11_act  (a1 : Int32) (a2 : Int32) (a3 : Int32) (h : zHp) : Fn wM mX11_act 6 rI [.ref 0, .int a1, .int a2, .int a3] h (f_X11_act a1 a2 a3 h) := by
  refine Fn.of rfl (Nat.le_of_ble_eq_true rfl) ?_
  unfold f_X11_act
  refine Sim.aload_n 0 dX11_act_0 rfl ?_
  refine Sim.iconst (v := (0 : Int32)) dX11_act_1 rfl ?_
  refine Sim.put fp_X11_128 dX11_act_2 mI_0 rfl rfl ?_
  refine Sim.lth (fun h1 => ?_)
  refine Sim.aload_n 0 dX11_act_5 rfl ?_
  refine Sim.iload_n 1 dX11_act_6 rfl ?_
  refine Sim.iload_n 2 dX11_act_7 rfl ?_
  refine Sim.iload_n 3 dX11_act_8 rfl ?_
  refine Sim.callV3I (d1 := 2) (s_X11_canAct a1 a2 a3 h1) dX11_act_9 ml_X11_372 mv_X11_canAct mC (Nat.le_of_ble_eq_true rfl) (Nat.le_of_ble_eq_true rfl) (Nat.le_of_ble_eq_true rfl) (fun x2 => ?_)
  refine Sim.if_ne 17 dX11_act_12 rfl ?_ ?_
  · refine Sim.iconst (v := (0 : Int32)) dX11_act_15 rfl ?_
    exact Sim.nret dX11_act_16 rfl rfl
  · refine Sim.aload_n 0 dX11_act_17 rfl ?_
    refine Sim.callV0U (d1 := 0) (s_X11_keepsAhead x2.2) dX11_act_18 ml_X11_375 mv_X11_keepsAhead mC (Nat.le_of_ble_eq_true rfl) (Nat.le_of_ble_eq_true rfl) (Nat.le_of_ble_eq_true rfl) (fun x3 => ?_)
    refine Sim.iload_n 1 dX11_act_21 rfl ?_
    refine Sim.if_ne 32 dX11_act_22 rfl ?_ ?_
    · refine Sim.aload_n 0 dX11_act_25 rfl ?_
      refine Sim.iload_n 2 dX11_act_26 rfl ?_
      refine Sim.iload_n 3 dX11_act_27 rfl ?_
      refine Sim.callV2I (d1 := 2) (s_X11_sits a2 a3 x3) dX11_act_28 ml_X11_378 mv_X11_sits mC (Nat.le_of_ble_eq_true rfl) (Nat.le_of_ble_eq_true rfl) (Nat.le_of_ble_eq_true rfl) (fun x4 => ?_)
      refine Sim.pop dX11_act_31 rfl ?_
      refine Sim.locs [0, 1, 2] rfl ?_
      exact f_X11_act_32_s a1 a2 x4.2
    · refine Sim.locs [0, 1, 2] rfl ?_
      exact f_X11_act_32_s a1 a2 x3
theorem mv_X11_act : zMV mX11_act 3 := ⟨⟨zTb_in 1702 (by decide +kernel) rfl, zTb_in 148 (by decide +kernel) rfl, ⟨by decide +kernel, by decide +kernel⟩, by decide +kernel⟩, zTb_in 1700 (by decide +kernel) rfl, zTb_in 1701 (by decide +kernel) rfl⟩
-- ===== RockingPorchModel.callsOne(I)Z
abbrev mX11_callsOne : zMt := (yX11_callsOne, cX11_callsOne, 5, some .boolean)
theorem ml_X11_385 : Cond.methodLink RX11 385 yX11_goesAway ∈ zTb := zTb_in 1805 (by decide +kernel) rfl
theorem ml_X11_388 : Cond.methodLink RX11 388 yX11_comesBack ∈ zTb := zTb_in 1809 (by decide +kernel) rfl
theorem dX11_callsOne_0 : decode cX11_callsOne 0 = .ok (.aload_n 0, 1) := by decide +kernel
theorem dX11_callsOne_1 : decode cX11_callsOne 1 = .ok (.getfield 62, 3) := by decide +kernel
theorem dX11_callsOne_4 : decode cX11_callsOne 4 = .ok (.iload_n 1, 1) := by decide +kernel
theorem dX11_callsOne_5 : decode cX11_callsOne 5 = .ok (.iconst 1, 1) := by decide +kernel
theorem dX11_callsOne_6 : decode cX11_callsOne 6 = .ok (.iadd, 1) := by decide +kernel
theorem dX11_callsOne_7 : decode cX11_callsOne 7 = .ok (.iaload, 1) := by decide +kernel
theorem dX11_callsOne_8 : decode cX11_callsOne 8 = .ok (.istore_n 2, 1) := by decide +kernel
theorem dX11_callsOne_9 : decode cX11_callsOne 9 = .ok (.aload_n 0, 1) := by decide +kernel
theorem dX11_callsOne_10 : decode cX11_callsOne 10 = .ok (.getfield 62, 3) := by decide +kernel
theorem dX11_callsOne_13 : decode cX11_callsOne 13 = .ok (.iload_n 1, 1) := by decide +kernel
theorem dX11_callsOne_14 : decode cX11_callsOne 14 = .ok (.iconst 2, 1) := by decide +kernel
theorem dX11_callsOne_15 : decode cX11_callsOne 15 = .ok (.iadd, 1) := by decide +kernel
theorem dX11_callsOne_16 : decode cX11_callsOne 16 = .ok (.iaload, 1) := by decide +kernel
theorem dX11_callsOne_17 : decode cX11_callsOne 17 = .ok (.istore_n 3, 1) := by decide +kernel
theorem dX11_callsOne_18 : decode cX11_callsOne 18 = .ok (.aload_n 0, 1) := by decide +kernel
theorem dX11_callsOne_19 : decode cX11_callsOne 19 = .ok (.getfield 7, 3) := by decide +kernel
theorem dX11_callsOne_22 : decode cX11_callsOne 22 = .ok (.bipush 35, 2) := by decide +kernel
theorem dX11_callsOne_24 : decode cX11_callsOne 24 = .ok (.iload_n 2, 1) := by decide +kernel
theorem dX11_callsOne_25 : decode cX11_callsOne 25 = .ok (.iadd, 1) := by decide +kernel
theorem dX11_callsOne_26 : decode cX11_callsOne 26 = .ok (.iaload, 1) := by decide +kernel
theorem dX11_callsOne_27 : decode cX11_callsOne 27 = .ok (.istore 4, 2) := by decide +kernel
theorem dX11_callsOne_29 : decode cX11_callsOne 29 = .ok (.iload_n 3, 1) := by decide +kernel
theorem dX11_callsOne_30 : decode cX11_callsOne 30 = .ok (.ifCond .ne 31, 3) := by decide +kernel
theorem dX11_callsOne_33 : decode cX11_callsOne 33 = .ok (.iload 4, 2) := by decide +kernel
theorem dX11_callsOne_35 : decode cX11_callsOne 35 = .ok (.iconst 1, 1) := by decide +kernel
theorem dX11_callsOne_36 : decode cX11_callsOne 36 = .ok (.if_icmp .ne 25, 3) := by decide +kernel
theorem dX11_callsOne_39 : decode cX11_callsOne 39 = .ok (.aload_n 0, 1) := by decide +kernel
theorem dX11_callsOne_40 : decode cX11_callsOne 40 = .ok (.iload_n 2, 1) := by decide +kernel
theorem dX11_callsOne_41 : decode cX11_callsOne 41 = .ok (.aload_n 0, 1) := by decide +kernel
theorem dX11_callsOne_42 : decode cX11_callsOne 42 = .ok (.getfield 62, 3) := by decide +kernel
theorem dX11_callsOne_45 : decode cX11_callsOne 45 = .ok (.iload_n 1, 1) := by decide +kernel
theorem dX11_callsOne_46 : decode cX11_callsOne 46 = .ok (.iconst 3, 1) := by decide +kernel
theorem dX11_callsOne_47 : decode cX11_callsOne 47 = .ok (.iadd, 1) := by decide +kernel
theorem dX11_callsOne_48 : decode cX11_callsOne 48 = .ok (.iaload, 1) := by decide +kernel
theorem dX11_callsOne_49 : decode cX11_callsOne 49 = .ok (.invokevirtual 378, 3) := by decide +kernel
theorem dX11_callsOne_52 : decode cX11_callsOne 52 = .ok (.ifCond .ne 7, 3) := by decide +kernel
theorem dX11_callsOne_55 : decode cX11_callsOne 55 = .ok (.iconst 1, 1) := by decide +kernel
theorem dX11_callsOne_56 : decode cX11_callsOne 56 = .ok (.goto 4, 3) := by decide +kernel
theorem dX11_callsOne_59 : decode cX11_callsOne 59 = .ok (.iconst 0, 1) := by decide +kernel
theorem dX11_callsOne_60 : decode cX11_callsOne 60 = .ok (.ireturn, 1) := by decide +kernel
theorem dX11_callsOne_61 : decode cX11_callsOne 61 = .ok (.iload_n 3, 1) := by decide +kernel
theorem dX11_callsOne_62 : decode cX11_callsOne 62 = .ok (.iconst 1, 1) := by decide +kernel
theorem dX11_callsOne_63 : decode cX11_callsOne 63 = .ok (.if_icmp .ne 14, 3) := by decide +kernel
theorem dX11_callsOne_66 : decode cX11_callsOne 66 = .ok (.iload 4, 2) := by decide +kernel
theorem dX11_callsOne_68 : decode cX11_callsOne 68 = .ok (.iconst 2, 1) := by decide +kernel
theorem dX11_callsOne_69 : decode cX11_callsOne 69 = .ok (.if_icmp .ne 8, 3) := by decide +kernel
theorem dX11_callsOne_72 : decode cX11_callsOne 72 = .ok (.aload_n 0, 1) := by decide +kernel
theorem dX11_callsOne_73 : decode cX11_callsOne 73 = .ok (.iload_n 2, 1) := by decide +kernel
theorem dX11_callsOne_74 : decode cX11_callsOne 74 = .ok (.invokevirtual 363, 3) := by decide +kernel
theorem dX11_callsOne_77 : decode cX11_callsOne 77 = .ok (.iload_n 3, 1) := by decide +kernel
theorem dX11_callsOne_78 : decode cX11_callsOne 78 = .ok (.iconst 2, 1) := by decide +kernel
theorem dX11_callsOne_79 : decode cX11_callsOne 79 = .ok (.if_icmp .ne 13, 3) := by decide +kernel
theorem dX11_callsOne_82 : decode cX11_callsOne 82 = .ok (.iload 4, 2) := by decide +kernel
theorem dX11_callsOne_84 : decode cX11_callsOne 84 = .ok (.ifCond .eq 8, 3) := by decide +kernel
theorem dX11_callsOne_87 : decode cX11_callsOne 87 = .ok (.aload_n 0, 1) := by decide +kernel
theorem dX11_callsOne_88 : decode cX11_callsOne 88 = .ok (.iload_n 2, 1) := by decide +kernel
theorem dX11_callsOne_89 : decode cX11_callsOne 89 = .ok (.invokevirtual 385, 3) := by decide +kernel
theorem dX11_callsOne_92 : decode cX11_callsOne 92 = .ok (.iload_n 3, 1) := by decide +kernel
theorem dX11_callsOne_93 : decode cX11_callsOne 93 = .ok (.iconst 3, 1) := by decide +kernel
theorem dX11_callsOne_94 : decode cX11_callsOne 94 = .ok (.if_icmp .ne 13, 3) := by decide +kernel
theorem dX11_callsOne_97 : decode cX11_callsOne 97 = .ok (.iload 4, 2) := by decide +kernel
theorem dX11_callsOne_99 : decode cX11_callsOne 99 = .ok (.ifCond .ne 8, 3) := by decide +kernel
theorem dX11_callsOne_102 : decode cX11_callsOne 102 = .ok (.aload_n 0, 1) := by decide +kernel
theorem dX11_callsOne_103 : decode cX11_callsOne 103 = .ok (.iload_n 2, 1) := by decide +kernel
theorem dX11_callsOne_104 : decode cX11_callsOne 104 = .ok (.invokevirtual 388, 3) := by decide +kernel
theorem dX11_callsOne_107 : decode cX11_callsOne 107 = .ok (.iconst 0, 1) := by decide +kernel
theorem dX11_callsOne_108 : decode cX11_callsOne 108 = .ok (.ireturn, 1) := by decide +kernel
def f_X11_callsOne_92   (v2 : Int32) (v3 : Int32) (v4 : Int32) (h : zHp) : Option (Int32 × zHp) := (if v3 = (3 : Int32) then (if v4 = 0 then (f_X11_comesBack v2 h).bind fun x1 => some ((0 : Int32), x1) else some ((0 : Int32), h)) else some ((0 : Int32), h))
set_option maxHeartbeats 4000000 in
set_option maxRecDepth 100000 in
theorem f_X11_callsOne_92_s  (v2 : Int32) (v3 : Int32) (v4 : Int32) (h : zHp) : Sim wM mX11_callsOne 7 rI 92 [(0, .ref 0), (2, .int v2), (3, .int v3), (4, .int v4)] [] h (f_X11_callsOne_92 v2 v3 v4 h) := by
  unfold f_X11_callsOne_92
  refine Sim.iload_n 2 dX11_callsOne_92 rfl ?_
  refine Sim.iconst (v := (3 : Int32)) dX11_callsOne_93 rfl ?_
  refine Sim.icmp_ne 107 dX11_callsOne_94 rfl ?_ ?_
  · refine Sim.iload 3 dX11_callsOne_97 rfl ?_
    refine Sim.if_ne 107 dX11_callsOne_99 rfl ?_ ?_
    · refine Sim.aload_n 0 dX11_callsOne_102 rfl ?_
      refine Sim.iload_n 1 dX11_callsOne_103 rfl ?_
      refine Sim.callV1U (d1 := 1) (s_X11_comesBack v2 h) dX11_callsOne_104 ml_X11_388 mv_X11_comesBack mC (Nat.le_of_ble_eq_true rfl) (Nat.le_of_ble_eq_true rfl) (Nat.le_of_ble_eq_true rfl) (fun x1 => ?_)
      refine Sim.iconst (v := (0 : Int32)) dX11_callsOne_107 rfl ?_
      exact Sim.nret dX11_callsOne_108 rfl rfl
    · refine Sim.iconst (v := (0 : Int32)) dX11_callsOne_107 rfl ?_
      exact Sim.nret dX11_callsOne_108 rfl rfl
  · refine Sim.iconst (v := (0 : Int32)) dX11_callsOne_107 rfl ?_
    exact Sim.nret dX11_callsOne_108 rfl rfl
def f_X11_callsOne_77   (v2 : Int32) (v3 : Int32) (v4 : Int32) (h : zHp) : Option (Int32 × zHp) := (if v3 = (2 : Int32) then (if v4 = 0 then f_X11_callsOne_92 v2 v3 v4 h else (f_X11_goesAway v2 h).bind fun x1 => f_X11_callsOne_92 v2 v3 v4 x1) else f_X11_callsOne_92 v2 v3 v4 h)
set_option maxHeartbeats 4000000 in
set_option maxRecDepth 100000 in
theorem f_X11_callsOne_77_s  (v2 : Int32) (v3 : Int32) (v4 : Int32) (h : zHp) : Sim wM mX11_callsOne 7 rI 77 [(0, .ref 0), (2, .int v2), (3, .int v3), (4, .int v4)] [] h (f_X11_callsOne_77 v2 v3 v4 h) := by
  unfold f_X11_callsOne_77
  refine Sim.iload_n 2 dX11_callsOne_77 rfl ?_
  refine Sim.iconst (v := (2 : Int32)) dX11_callsOne_78 rfl ?_
  refine Sim.icmp_ne 92 dX11_callsOne_79 rfl ?_ ?_
  · refine Sim.iload 3 dX11_callsOne_82 rfl ?_
    refine Sim.if_eq 92 dX11_callsOne_84 rfl ?_ ?_
    · exact f_X11_callsOne_92_s v2 v3 v4 h
    · refine Sim.aload_n 0 dX11_callsOne_87 rfl ?_
      refine Sim.iload_n 1 dX11_callsOne_88 rfl ?_
      refine Sim.callV1U (d1 := 6) (s_X11_goesAway v2 h) dX11_callsOne_89 ml_X11_385 mv_X11_goesAway mC (Nat.le_of_ble_eq_true rfl) (Nat.le_of_ble_eq_true rfl) (Nat.le_of_ble_eq_true rfl) (fun x1 => ?_)
      exact f_X11_callsOne_92_s v2 v3 v4 x1
  · exact f_X11_callsOne_92_s v2 v3 v4 h
def f_X11_callsOne_61   (v2 : Int32) (v3 : Int32) (v4 : Int32) (h : zHp) : Option (Int32 × zHp) := (if v3 = (1 : Int32) then (if v4 = (2 : Int32) then (f_X11_rises v2 h).bind fun x1 => f_X11_callsOne_77 v2 v3 v4 x1 else f_X11_callsOne_77 v2 v3 v4 h) else f_X11_callsOne_77 v2 v3 v4 h)
set_option maxHeartbeats 4000000 in
set_option maxRecDepth 100000 in
theorem f_X11_callsOne_61_s  (v2 : Int32) (v3 : Int32) (v4 : Int32) (h : zHp) : Sim wM mX11_callsOne 7 rI 61 [(0, .ref 0), (2, .int v2), (3, .int v3), (4, .int v4)] [] h (f_X11_callsOne_61 v2 v3 v4 h) := by
  unfold f_X11_callsOne_61
  refine Sim.iload_n 2 dX11_callsOne_61 rfl ?_
  refine Sim.iconst (v := (1 : Int32)) dX11_callsOne_62 rfl ?_
  refine Sim.icmp_ne 77 dX11_callsOne_63 rfl ?_ ?_
  · refine Sim.iload 3 dX11_callsOne_66 rfl ?_
    refine Sim.iconst (v := (2 : Int32)) dX11_callsOne_68 rfl ?_
    refine Sim.icmp_ne 77 dX11_callsOne_69 rfl ?_ ?_
    · refine Sim.aload_n 0 dX11_callsOne_72 rfl ?_
      refine Sim.iload_n 1 dX11_callsOne_73 rfl ?_
      refine Sim.callV1U (d1 := 5) (s_X11_rises v2 h) dX11_callsOne_74 ml_X11_363 mv_X11_rises mC (Nat.le_of_ble_eq_true rfl) (Nat.le_of_ble_eq_true rfl) (Nat.le_of_ble_eq_true rfl) (fun x1 => ?_)
      exact f_X11_callsOne_77_s v2 v3 v4 x1
    · exact f_X11_callsOne_77_s v2 v3 v4 h
  · exact f_X11_callsOne_77_s v2 v3 v4 h
def f_X11_callsOne  (a1 : Int32) (h : zHp) : Option (Int32 × zHp) := zix (a1 + (1 : Int32)) 128 (zlt (h 17 (a1 + (1 : Int32)).toNatClampNeg) fun x1 => zix (a1 + (2 : Int32)) 128 (zlt (h 17 (a1 + (2 : Int32)).toNatClampNeg) fun x2 => zix ((35 : Int32) + x1) 77 (zlt (h 1 ((35 : Int32) + x1).toNatClampNeg) fun x3 => (if x2 = 0 then (if x3 = (1 : Int32) then zix (a1 + (3 : Int32)) 128 ((f_X11_sits x1 (h 17 (a1 + (3 : Int32)).toNatClampNeg) h).bind fun x4 => (if x4.1 = 0 then some ((1 : Int32), x4.2) else some ((0 : Int32), x4.2))) else f_X11_callsOne_61 x1 x2 x3 h) else f_X11_callsOne_61 x1 x2 x3 h))))
set_option maxHeartbeats 4000000 in
set_option maxRecDepth 100000 in
theorem s_X11_callsOne  (a1 : Int32) (h : zHp) : Fn wM mX11_callsOne 7 rI [.ref 0, .int a1] h (f_X11_callsOne a1 h) := by
  refine Fn.of rfl (Nat.le_of_ble_eq_true rfl) ?_
  unfold f_X11_callsOne
  refine Sim.aload_n 0 dX11_callsOne_0 rfl ?_
  refine Sim.getR (j := 17) fl_X11_62 dX11_callsOne_1 mR_35 ?_
  refine Sim.iload_n 1 dX11_callsOne_4 rfl ?_
  refine Sim.iconst (v := (1 : Int32)) dX11_callsOne_5 rfl ?_
  refine Sim.iadd dX11_callsOne_6 ?_
  refine Sim.iald (n := 128) dX11_callsOne_7 mA_17 ?_
  refine Sim.lti (fun x1 => ?_)
  refine Sim.istore_n (L' := [(2, .int x1), (0, .ref 0), (1, .int a1)]) dX11_callsOne_8 (Nat.le_of_ble_eq_true rfl) rfl ?_
  refine Sim.aload_n 1 dX11_callsOne_9 rfl ?_
  refine Sim.getR (j := 17) fl_X11_62 dX11_callsOne_10 mR_35 ?_
  refine Sim.iload_n 2 dX11_callsOne_13 rfl ?_
  refine Sim.iconst (v := (2 : Int32)) dX11_callsOne_14 rfl ?_
  refine Sim.iadd dX11_callsOne_15 ?_
  refine Sim.iald (n := 128) dX11_callsOne_16 mA_17 ?_
  refine Sim.lti (fun x2 => ?_)
  refine Sim.istore_n (L' := [(3, .int x2), (2, .int x1), (0, .ref 0), (1, .int a1)]) dX11_callsOne_17 (Nat.le_of_ble_eq_true rfl) rfl ?_
  refine Sim.aload_n 2 dX11_callsOne_18 rfl ?_
  refine Sim.getR (j := 1) fl_X11_7 dX11_callsOne_19 mR_1 ?_
  refine Sim.bipush (v := (35 : Int32)) dX11_callsOne_22 rfl ?_
  refine Sim.iload_n 1 dX11_callsOne_24 rfl ?_
  refine Sim.iadd dX11_callsOne_25 ?_
  refine Sim.iald (n := 77) dX11_callsOne_26 mA_1 ?_
  refine Sim.lti (fun x3 => ?_)
  refine Sim.istore (L' := [(4, .int x3), (3, .int x2), (2, .int x1), (0, .ref 0), (1, .int a1)]) dX11_callsOne_27 (Nat.le_of_ble_eq_true rfl) rfl ?_
  refine Sim.iload_n 1 dX11_callsOne_29 rfl ?_
  refine Sim.if_ne 61 dX11_callsOne_30 rfl ?_ ?_
  · refine Sim.iload 0 dX11_callsOne_33 rfl ?_
    refine Sim.iconst (v := (1 : Int32)) dX11_callsOne_35 rfl ?_
    refine Sim.icmp_ne 61 dX11_callsOne_36 rfl ?_ ?_
    · refine Sim.aload_n 3 dX11_callsOne_39 rfl ?_
      refine Sim.iload_n 2 dX11_callsOne_40 rfl ?_
      refine Sim.aload_n 3 dX11_callsOne_41 rfl ?_
      refine Sim.getR (j := 17) fl_X11_62 dX11_callsOne_42 mR_35 ?_
      refine Sim.iload_n 4 dX11_callsOne_45 rfl ?_
      refine Sim.iconst (v := (3 : Int32)) dX11_callsOne_46 rfl ?_
      refine Sim.iadd dX11_callsOne_47 ?_
      refine Sim.iald (n := 128) dX11_callsOne_48 mA_17 ?_
      refine Sim.callV2I (d1 := 2) (s_X11_sits x1 (h 17 (a1 + (3 : Int32)).toNatClampNeg) h) dX11_callsOne_49 ml_X11_378 mv_X11_sits mC (Nat.le_of_ble_eq_true rfl) (Nat.le_of_ble_eq_true rfl) (Nat.le_of_ble_eq_true rfl) (fun x4 => ?_)
      refine Sim.if_ne 59 dX11_callsOne_52 rfl ?_ ?_
      · refine Sim.iconst (v := (1 : Int32)) dX11_callsOne_55 rfl ?_
        refine Sim.goto 60 dX11_callsOne_56 rfl ?_
        exact Sim.nret dX11_callsOne_60 rfl rfl
      · refine Sim.iconst (v := (0 : Int32)) dX11_callsOne_59 rfl ?_
        exact Sim.nret dX11_callsOne_60 rfl rfl
    · refine Sim.locs [3, 2, 1, 0] rfl ?_
      exact f_X11_callsOne_61_s x1 x2 x3 h
  · refine Sim.locs [3, 2, 1, 0] rfl ?_
    exact f_X11_callsOne_61_s x1 x2 x3 h
theorem mv_X11_callsOne : zMV mX11_callsOne 1 := ⟨⟨zTb_in 1804 (by decide +kernel) rfl, zTb_in 148 (by decide +kernel) rfl, ⟨by decide +kernel, by decide +kernel⟩, by decide +kernel⟩, zTb_in 1803 (by decide +kernel) rfl, zTb_in 101 (by decide +kernel) rfl⟩
-- ===== RockingPorchModel.houseDoes(I)V
abbrev mX11_houseDoes : zMt := (yX11_houseDoes, cX11_houseDoes, 5, none)
theorem dX11_houseDoes_0 : decode cX11_houseDoes 0 = .ok (.aload_n 0, 1) := by decide +kernel
theorem dX11_houseDoes_1 : decode cX11_houseDoes 1 = .ok (.getfield 65, 3) := by decide +kernel
theorem dX11_houseDoes_4 : decode cX11_houseDoes 4 = .ok (.iload_n 1, 1) := by decide +kernel
theorem dX11_houseDoes_5 : decode cX11_houseDoes 5 = .ok (.iconst 1, 1) := by decide +kernel
theorem dX11_houseDoes_6 : decode cX11_houseDoes 6 = .ok (.iadd, 1) := by decide +kernel
theorem dX11_houseDoes_7 : decode cX11_houseDoes 7 = .ok (.iaload, 1) := by decide +kernel
theorem dX11_houseDoes_8 : decode cX11_houseDoes 8 = .ok (.istore_n 2, 1) := by decide +kernel
theorem dX11_houseDoes_9 : decode cX11_houseDoes 9 = .ok (.aload_n 0, 1) := by decide +kernel
theorem dX11_houseDoes_10 : decode cX11_houseDoes 10 = .ok (.getfield 65, 3) := by decide +kernel
theorem dX11_houseDoes_13 : decode cX11_houseDoes 13 = .ok (.iload_n 1, 1) := by decide +kernel
theorem dX11_houseDoes_14 : decode cX11_houseDoes 14 = .ok (.iconst 2, 1) := by decide +kernel
theorem dX11_houseDoes_15 : decode cX11_houseDoes 15 = .ok (.iadd, 1) := by decide +kernel
theorem dX11_houseDoes_16 : decode cX11_houseDoes 16 = .ok (.iaload, 1) := by decide +kernel
theorem dX11_houseDoes_17 : decode cX11_houseDoes 17 = .ok (.istore_n 3, 1) := by decide +kernel
theorem dX11_houseDoes_18 : decode cX11_houseDoes 18 = .ok (.iload_n 2, 1) := by decide +kernel
theorem dX11_houseDoes_19 : decode cX11_houseDoes 19 = .ok (.ifCond .ne 16, 3) := by decide +kernel
theorem dX11_houseDoes_22 : decode cX11_houseDoes 22 = .ok (.aload_n 0, 1) := by decide +kernel
theorem dX11_houseDoes_23 : decode cX11_houseDoes 23 = .ok (.iload_n 3, 1) := by decide +kernel
theorem dX11_houseDoes_24 : decode cX11_houseDoes 24 = .ok (.invokevirtual 146, 3) := by decide +kernel
theorem dX11_houseDoes_27 : decode cX11_houseDoes 27 = .ok (.ifCond .eq 8, 3) := by decide +kernel
theorem dX11_houseDoes_30 : decode cX11_houseDoes 30 = .ok (.aload_n 0, 1) := by decide +kernel
theorem dX11_houseDoes_31 : decode cX11_houseDoes 31 = .ok (.iload_n 3, 1) := by decide +kernel
theorem dX11_houseDoes_32 : decode cX11_houseDoes 32 = .ok (.invokevirtual 382, 3) := by decide +kernel
theorem dX11_houseDoes_35 : decode cX11_houseDoes 35 = .ok (.iload_n 2, 1) := by decide +kernel
theorem dX11_houseDoes_36 : decode cX11_houseDoes 36 = .ok (.iconst 1, 1) := by decide +kernel
theorem dX11_houseDoes_37 : decode cX11_houseDoes 37 = .ok (.if_icmp .ne 10, 3) := by decide +kernel
theorem dX11_houseDoes_40 : decode cX11_houseDoes 40 = .ok (.aload_n 0, 1) := by decide +kernel
theorem dX11_houseDoes_41 : decode cX11_houseDoes 41 = .ok (.getfield 7, 3) := by decide +kernel
theorem dX11_houseDoes_44 : decode cX11_houseDoes 44 = .ok (.iconst 3, 1) := by decide +kernel
theorem dX11_houseDoes_45 : decode cX11_houseDoes 45 = .ok (.iload_n 3, 1) := by decide +kernel
theorem dX11_houseDoes_46 : decode cX11_houseDoes 46 = .ok (.iastore, 1) := by decide +kernel
theorem dX11_houseDoes_47 : decode cX11_houseDoes 47 = .ok (.iconst 0, 1) := by decide +kernel
theorem dX11_houseDoes_48 : decode cX11_houseDoes 48 = .ok (.istore 4, 2) := by decide +kernel
theorem dX11_houseDoes_50 : decode cX11_houseDoes 50 = .ok (.iload 4, 2) := by decide +kernel
theorem dX11_houseDoes_52 : decode cX11_houseDoes 52 = .ok (.aload_n 0, 1) := by decide +kernel
theorem dX11_houseDoes_53 : decode cX11_houseDoes 53 = .ok (.getfield 140, 3) := by decide +kernel
theorem dX11_houseDoes_56 : decode cX11_houseDoes 56 = .ok (.if_icmp .ge 31, 3) := by decide +kernel
theorem dX11_houseDoes_59 : decode cX11_houseDoes 59 = .ok (.iload_n 2, 1) := by decide +kernel
theorem dX11_houseDoes_60 : decode cX11_houseDoes 60 = .ok (.iconst 2, 1) := by decide +kernel
theorem dX11_houseDoes_61 : decode cX11_houseDoes 61 = .ok (.if_icmp .ne 26, 3) := by decide +kernel
theorem dX11_houseDoes_64 : decode cX11_houseDoes 64 = .ok (.aload_n 0, 1) := by decide +kernel
theorem dX11_houseDoes_65 : decode cX11_houseDoes 65 = .ok (.iload 4, 2) := by decide +kernel
theorem dX11_houseDoes_67 : decode cX11_houseDoes 67 = .ok (.aload_n 0, 1) := by decide +kernel
theorem dX11_houseDoes_68 : decode cX11_houseDoes 68 = .ok (.getfield 7, 3) := by decide +kernel
theorem dX11_houseDoes_71 : decode cX11_houseDoes 71 = .ok (.iconst 5, 1) := by decide +kernel
theorem dX11_houseDoes_72 : decode cX11_houseDoes 72 = .ok (.iload 4, 2) := by decide +kernel
theorem dX11_houseDoes_74 : decode cX11_houseDoes 74 = .ok (.iadd, 1) := by decide +kernel
theorem dX11_houseDoes_75 : decode cX11_houseDoes 75 = .ok (.iaload, 1) := by decide +kernel
theorem dX11_houseDoes_76 : decode cX11_houseDoes 76 = .ok (.iconst 2, 1) := by decide +kernel
theorem dX11_houseDoes_77 : decode cX11_houseDoes 77 = .ok (.idiv, 1) := by decide +kernel
theorem dX11_houseDoes_78 : decode cX11_houseDoes 78 = .ok (.invokevirtual 167, 3) := by decide +kernel
theorem dX11_houseDoes_81 : decode cX11_houseDoes 81 = .ok (.iinc 4 1, 3) := by decide +kernel
theorem dX11_houseDoes_84 : decode cX11_houseDoes 84 = .ok (.goto (-34), 3) := by decide +kernel
theorem dX11_houseDoes_87 : decode cX11_houseDoes 87 = .ok (.return_, 1) := by decide +kernel
def f_X11_houseDoes_50  (k50 : Int32 × Int32 × zHp → Option (zHp)) (v2 : Int32) (v4 : Int32) (h : zHp) : Option (zHp) := (if v4 < (h 0 6) then (if v2 = (2 : Int32) then zix ((5 : Int32) + v4) 77 ((f_X11_swings v4 ((h 1 ((5 : Int32) + v4).toNatClampNeg) / (2 : Int32)) h).bind fun x1 => k50 (v2, (v4 + (1 : Int32)), x1)) else some h) else some h)
set_option maxHeartbeats 4000000 in
set_option maxRecDepth 100000 in
theorem f_X11_houseDoes_50_s  (k50 : Int32 × Int32 × zHp → Option (zHp)) (H50 : ∀ v : Int32 × Int32 × zHp, Sim wM mX11_houseDoes 6 rV 50 [(0, .ref 0), (2, .int v.1), (4, .int v.2.1)] [] v.2.2 (k50 v)) (v2 : Int32) (v4 : Int32) (h : zHp) : Sim wM mX11_houseDoes 6 rV 50 [(0, .ref 0), (2, .int v2), (4, .int v4)] [] h (f_X11_houseDoes_50 k50 v2 v4 h) := by
  unfold f_X11_houseDoes_50
  refine Sim.iload 2 dX11_houseDoes_50 rfl ?_
  refine Sim.aload_n 0 dX11_houseDoes_52 rfl ?_
  refine Sim.getI fl_X11_140 dX11_houseDoes_53 mI_6 ?_
  refine Sim.icmp_ge 87 dX11_houseDoes_56 rfl ?_ ?_
  · refine Sim.iload_n 1 dX11_houseDoes_59 rfl ?_
    refine Sim.iconst (v := (2 : Int32)) dX11_houseDoes_60 rfl ?_
    refine Sim.icmp_ne 87 dX11_houseDoes_61 rfl ?_ ?_
    · refine Sim.aload_n 0 dX11_houseDoes_64 rfl ?_
      refine Sim.iload 2 dX11_houseDoes_65 rfl ?_
      refine Sim.aload_n 0 dX11_houseDoes_67 rfl ?_
      refine Sim.getR (j := 1) fl_X11_7 dX11_houseDoes_68 mR_1 ?_
      refine Sim.iconst (v := (5 : Int32)) dX11_houseDoes_71 rfl ?_
      refine Sim.iload 2 dX11_houseDoes_72 rfl ?_
      refine Sim.iadd dX11_houseDoes_74 ?_
      refine Sim.iald (n := 77) dX11_houseDoes_75 mA_1 ?_
      refine Sim.iconst (v := (2 : Int32)) dX11_houseDoes_76 rfl ?_
      refine Sim.idivL dX11_houseDoes_77 (by decide) ?_
      refine Sim.callV2U (d1 := 0) (s_X11_swings v4 ((h 1 ((5 : Int32) + v4).toNatClampNeg) / (2 : Int32)) h) dX11_houseDoes_78 ml_X11_167 mv_X11_swings mC (Nat.le_of_ble_eq_true rfl) (Nat.le_of_ble_eq_true rfl) (Nat.le_of_ble_eq_true rfl) (fun x1 => ?_)
      refine Sim.iinc (L' := [(4, .int (v4 + (1 : Int32))), (0, .ref 0), (2, .int v2)]) 2 dX11_houseDoes_81 rfl rfl (Nat.le_of_ble_eq_true rfl) rfl ?_
      refine Sim.goto 50 dX11_houseDoes_84 rfl ?_
      refine Sim.locs [1, 2, 0] rfl ?_
      exact H50 (v2, (v4 + (1 : Int32)), x1)
    · exact Sim.vret dX11_houseDoes_87 rfl
  · exact Sim.vret dX11_houseDoes_87 rfl
def f_X11_houseDoes_50_lp   (n : Nat) (v : Int32 × Int32 × zHp) : Option (zHp) := zlp (fun k50 v => f_X11_houseDoes_50 k50 v.1 v.2.1 v.2.2) n v
theorem f_X11_houseDoes_50_ls  (n : Nat) (v : Int32 × Int32 × zHp) : Sim wM mX11_houseDoes 6 rV 50 [(0, .ref 0), (2, .int v.1), (4, .int v.2.1)] [] v.2.2 (f_X11_houseDoes_50_lp n v) :=
  Sim.lp (V := Int32 × Int32 × zHp) (Lf := fun v => [(0, .ref 0), (2, .int v.1), (4, .int v.2.1)]) (sf := fun v => []) (hf := fun v => v.2.2) (fun k50 H50 v => f_X11_houseDoes_50_s k50 H50 v.1 v.2.1 v.2.2) n v
def f_X11_houseDoes_35   (v2 : Int32) (v3 : Int32) (h : zHp) : Option (zHp) := (if v2 = (1 : Int32) then zix (3 : Int32) 77 (zlt (zst h 1 (3 : Int32).toNatClampNeg v3) fun h1 => f_X11_houseDoes_50_lp  zN (v2, (0 : Int32), h1)) else f_X11_houseDoes_50_lp  zN (v2, (0 : Int32), h))
set_option maxHeartbeats 4000000 in
set_option maxRecDepth 100000 in
theorem f_X11_houseDoes_35_s  (v2 : Int32) (v3 : Int32) (h : zHp) : Sim wM mX11_houseDoes 6 rV 35 [(0, .ref 0), (2, .int v2), (3, .int v3)] [] h (f_X11_houseDoes_35 v2 v3 h) := by
  unfold f_X11_houseDoes_35
  refine Sim.iload_n 1 dX11_houseDoes_35 rfl ?_
  refine Sim.iconst (v := (1 : Int32)) dX11_houseDoes_36 rfl ?_
  refine Sim.icmp_ne 47 dX11_houseDoes_37 rfl ?_ ?_
  · refine Sim.aload_n 0 dX11_houseDoes_40 rfl ?_
    refine Sim.getR (j := 1) fl_X11_7 dX11_houseDoes_41 mR_1 ?_
    refine Sim.iconst (v := (3 : Int32)) dX11_houseDoes_44 rfl ?_
    refine Sim.iload_n 2 dX11_houseDoes_45 rfl ?_
    refine Sim.iast (n := 77) dX11_houseDoes_46 mA_1 ?_
    refine Sim.lth (fun h1 => ?_)
    refine Sim.iconst (v := (0 : Int32)) dX11_houseDoes_47 rfl ?_
    refine Sim.istore (L' := [(4, .int (0 : Int32)), (0, .ref 0), (2, .int v2), (3, .int v3)]) dX11_houseDoes_48 (Nat.le_of_ble_eq_true rfl) rfl ?_
    refine Sim.locs [1, 2, 0] rfl ?_
    exact f_X11_houseDoes_50_ls  zN (v2, (0 : Int32), h1)
  · refine Sim.iconst (v := (0 : Int32)) dX11_houseDoes_47 rfl ?_
    refine Sim.istore (L' := [(4, .int (0 : Int32)), (0, .ref 0), (2, .int v2), (3, .int v3)]) dX11_houseDoes_48 (Nat.le_of_ble_eq_true rfl) rfl ?_
    refine Sim.locs [1, 2, 0] rfl ?_
    exact f_X11_houseDoes_50_ls  zN (v2, (0 : Int32), h)
def f_X11_houseDoes  (a1 : Int32) (h : zHp) : Option (zHp) := zix (a1 + (1 : Int32)) 96 (zlt (h 18 (a1 + (1 : Int32)).toNatClampNeg) fun x1 => zix (a1 + (2 : Int32)) 96 (zlt (h 18 (a1 + (2 : Int32)).toNatClampNeg) fun x2 => (if x1 = 0 then (f_X11_doesRock x2 h).bind fun x3 => (if x3.1 = 0 then f_X11_houseDoes_35 x1 x2 x3.2 else (f_X11_catAt x2 x3.2).bind fun x4 => f_X11_houseDoes_35 x1 x2 x4) else f_X11_houseDoes_35 x1 x2 h)))
set_option maxHeartbeats 4000000 in
set_option maxRecDepth 100000 in
theorem s_X11_houseDoes  (a1 : Int32) (h : zHp) : Fn wM mX11_houseDoes 6 rV [.ref 0, .int a1] h (f_X11_houseDoes a1 h) := by
  refine Fn.of rfl (Nat.le_of_ble_eq_true rfl) ?_
  unfold f_X11_houseDoes
  refine Sim.aload_n 0 dX11_houseDoes_0 rfl ?_
  refine Sim.getR (j := 18) fl_X11_65 dX11_houseDoes_1 mR_37 ?_
  refine Sim.iload_n 1 dX11_houseDoes_4 rfl ?_
  refine Sim.iconst (v := (1 : Int32)) dX11_houseDoes_5 rfl ?_
  refine Sim.iadd dX11_houseDoes_6 ?_
  refine Sim.iald (n := 96) dX11_houseDoes_7 mA_18 ?_
  refine Sim.lti (fun x1 => ?_)
  refine Sim.istore_n (L' := [(2, .int x1), (0, .ref 0), (1, .int a1)]) dX11_houseDoes_8 (Nat.le_of_ble_eq_true rfl) rfl ?_
  refine Sim.aload_n 1 dX11_houseDoes_9 rfl ?_
  refine Sim.getR (j := 18) fl_X11_65 dX11_houseDoes_10 mR_37 ?_
  refine Sim.iload_n 2 dX11_houseDoes_13 rfl ?_
  refine Sim.iconst (v := (2 : Int32)) dX11_houseDoes_14 rfl ?_
  refine Sim.iadd dX11_houseDoes_15 ?_
  refine Sim.iald (n := 96) dX11_houseDoes_16 mA_18 ?_
  refine Sim.lti (fun x2 => ?_)
  refine Sim.istore_n (L' := [(3, .int x2), (2, .int x1), (0, .ref 0), (1, .int a1)]) dX11_houseDoes_17 (Nat.le_of_ble_eq_true rfl) rfl ?_
  refine Sim.iload_n 1 dX11_houseDoes_18 rfl ?_
  refine Sim.if_ne 35 dX11_houseDoes_19 rfl ?_ ?_
  · refine Sim.aload_n 2 dX11_houseDoes_22 rfl ?_
    refine Sim.iload_n 0 dX11_houseDoes_23 rfl ?_
    refine Sim.callV1I (d1 := 0) (s_X11_doesRock x2 h) dX11_houseDoes_24 ml_X11_146 mv_X11_doesRock mC (Nat.le_of_ble_eq_true rfl) (Nat.le_of_ble_eq_true rfl) (Nat.le_of_ble_eq_true rfl) (fun x3 => ?_)
    refine Sim.if_eq 35 dX11_houseDoes_27 rfl ?_ ?_
    · refine Sim.locs [2, 1, 0] rfl ?_
      exact f_X11_houseDoes_35_s x1 x2 x3.2
    · refine Sim.aload_n 2 dX11_houseDoes_30 rfl ?_
      refine Sim.iload_n 0 dX11_houseDoes_31 rfl ?_
      refine Sim.callV1U (d1 := 5) (s_X11_catAt x2 x3.2) dX11_houseDoes_32 ml_X11_382 mv_X11_catAt mC (Nat.le_of_ble_eq_true rfl) (Nat.le_of_ble_eq_true rfl) (Nat.le_of_ble_eq_true rfl) (fun x4 => ?_)
      refine Sim.locs [2, 1, 0] rfl ?_
      exact f_X11_houseDoes_35_s x1 x2 x4
  · refine Sim.locs [2, 1, 0] rfl ?_
    exact f_X11_houseDoes_35_s x1 x2 h
theorem mv_X11_houseDoes : zMV mX11_houseDoes 1 := ⟨⟨zTb_in 1816 (by decide +kernel) rfl, zTb_in 148 (by decide +kernel) rfl, ⟨by decide +kernel, by decide +kernel⟩, by decide +kernel⟩, zTb_in 1815 (by decide +kernel) rfl, zTb_in 104 (by decide +kernel) rfl⟩
