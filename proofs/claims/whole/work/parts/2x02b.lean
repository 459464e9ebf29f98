-- ===== RockingPorch$Puzzles.orders(IZ)I
abbrev mX5_orders : zMt := (yX5_orders, cX5_orders, 7, some .int)
theorem ml_X5_58 : Cond.methodLink RX5 58 yX5_forbid ∈ zTb := zTb_in 1081 (by decide +kernel) rfl
theorem ml_X5_61 : Cond.methodLink RX5 61 yX5_seatNext ∈ zTb := zTb_in 1085 (by decide +kernel) rfl
theorem dX5_orders_0 : decode cX5_orders 0 = .ok (.iconst 1, 1) := by decide +kernel
theorem dX5_orders_1 : decode cX5_orders 1 = .ok (.iload_n 1, 1) := by decide +kernel
theorem dX5_orders_2 : decode cX5_orders 2 = .ok (.ishl, 1) := by decide +kernel
theorem dX5_orders_3 : decode cX5_orders 3 = .ok (.iconst 1, 1) := by decide +kernel
theorem dX5_orders_4 : decode cX5_orders 4 = .ok (.isub, 1) := by decide +kernel
theorem dX5_orders_5 : decode cX5_orders 5 = .ok (.istore_n 3, 1) := by decide +kernel
theorem dX5_orders_6 : decode cX5_orders 6 = .ok (.aload_n 0, 1) := by decide +kernel
theorem dX5_orders_7 : decode cX5_orders 7 = .ok (.invokevirtual 58, 3) := by decide +kernel
theorem dX5_orders_10 : decode cX5_orders 10 = .ok (.iconst 0, 1) := by decide +kernel
theorem dX5_orders_11 : decode cX5_orders 11 = .ok (.istore 4, 2) := by decide +kernel
theorem dX5_orders_13 : decode cX5_orders 13 = .ok (.iload 4, 2) := by decide +kernel
theorem dX5_orders_15 : decode cX5_orders 15 = .ok (.iload_n 3, 1) := by decide +kernel
theorem dX5_orders_16 : decode cX5_orders 16 = .ok (.iconst 1, 1) := by decide +kernel
theorem dX5_orders_17 : decode cX5_orders 17 = .ok (.iadd, 1) := by decide +kernel
theorem dX5_orders_18 : decode cX5_orders 18 = .ok (.bipush 7, 2) := by decide +kernel
theorem dX5_orders_20 : decode cX5_orders 20 = .ok (.imul, 1) := by decide +kernel
theorem dX5_orders_21 : decode cX5_orders 21 = .ok (.if_icmp .ge 27, 3) := by decide +kernel
theorem dX5_orders_24 : decode cX5_orders 24 = .ok (.iload 4, 2) := by decide +kernel
theorem dX5_orders_26 : decode cX5_orders 26 = .ok (.aload_n 0, 1) := by decide +kernel
theorem dX5_orders_27 : decode cX5_orders 27 = .ok (.getfield 18, 3) := by decide +kernel
theorem dX5_orders_30 : decode cX5_orders 30 = .ok (.arraylength, 1) := by decide +kernel
theorem dX5_orders_31 : decode cX5_orders 31 = .ok (.if_icmp .ge 17, 3) := by decide +kernel
theorem dX5_orders_34 : decode cX5_orders 34 = .ok (.aload_n 0, 1) := by decide +kernel
theorem dX5_orders_35 : decode cX5_orders 35 = .ok (.getfield 18, 3) := by decide +kernel
theorem dX5_orders_38 : decode cX5_orders 38 = .ok (.iload 4, 2) := by decide +kernel
theorem dX5_orders_40 : decode cX5_orders 40 = .ok (.iconst 0, 1) := by decide +kernel
theorem dX5_orders_41 : decode cX5_orders 41 = .ok (.iastore, 1) := by decide +kernel
theorem dX5_orders_42 : decode cX5_orders 42 = .ok (.iinc 4 1, 3) := by decide +kernel
theorem dX5_orders_45 : decode cX5_orders 45 = .ok (.goto (-32), 3) := by decide +kernel
theorem dX5_orders_48 : decode cX5_orders 48 = .ok (.iconst 0, 1) := by decide +kernel
theorem dX5_orders_49 : decode cX5_orders 49 = .ok (.istore 4, 2) := by decide +kernel
theorem dX5_orders_51 : decode cX5_orders 51 = .ok (.iload 4, 2) := by decide +kernel
theorem dX5_orders_53 : decode cX5_orders 53 = .ok (.iload_n 2, 1) := by decide +kernel
theorem dX5_orders_54 : decode cX5_orders 54 = .ok (.ifCond .eq 7, 3) := by decide +kernel
theorem dX5_orders_57 : decode cX5_orders 57 = .ok (.iconst 1, 1) := by decide +kernel
theorem dX5_orders_58 : decode cX5_orders 58 = .ok (.goto 4, 3) := by decide +kernel
theorem dX5_orders_61 : decode cX5_orders 61 = .ok (.iload_n 1, 1) := by decide +kernel
theorem dX5_orders_62 : decode cX5_orders 62 = .ok (.if_icmp .ge 25, 3) := by decide +kernel
theorem dX5_orders_65 : decode cX5_orders 65 = .ok (.aload_n 0, 1) := by decide +kernel
theorem dX5_orders_66 : decode cX5_orders 66 = .ok (.getfield 18, 3) := by decide +kernel
theorem dX5_orders_69 : decode cX5_orders 69 = .ok (.iconst 1, 1) := by decide +kernel
theorem dX5_orders_70 : decode cX5_orders 70 = .ok (.iload 4, 2) := by decide +kernel
theorem dX5_orders_72 : decode cX5_orders 72 = .ok (.ishl, 1) := by decide +kernel
theorem dX5_orders_73 : decode cX5_orders 73 = .ok (.bipush 7, 2) := by decide +kernel
theorem dX5_orders_75 : decode cX5_orders 75 = .ok (.imul, 1) := by decide +kernel
theorem dX5_orders_76 : decode cX5_orders 76 = .ok (.iload 4, 2) := by decide +kernel
theorem dX5_orders_78 : decode cX5_orders 78 = .ok (.iadd, 1) := by decide +kernel
theorem dX5_orders_79 : decode cX5_orders 79 = .ok (.iconst 1, 1) := by decide +kernel
theorem dX5_orders_80 : decode cX5_orders 80 = .ok (.iastore, 1) := by decide +kernel
theorem dX5_orders_81 : decode cX5_orders 81 = .ok (.iinc 4 1, 3) := by decide +kernel
theorem dX5_orders_84 : decode cX5_orders 84 = .ok (.goto (-33), 3) := by decide +kernel
theorem dX5_orders_87 : decode cX5_orders 87 = .ok (.iconst 1, 1) := by decide +kernel
theorem dX5_orders_88 : decode cX5_orders 88 = .ok (.istore 4, 2) := by decide +kernel
theorem dX5_orders_90 : decode cX5_orders 90 = .ok (.iload 4, 2) := by decide +kernel
theorem dX5_orders_92 : decode cX5_orders 92 = .ok (.iload_n 3, 1) := by decide +kernel
theorem dX5_orders_93 : decode cX5_orders 93 = .ok (.if_icmp .ge 33, 3) := by decide +kernel
theorem dX5_orders_96 : decode cX5_orders 96 = .ok (.iconst 0, 1) := by decide +kernel
theorem dX5_orders_97 : decode cX5_orders 97 = .ok (.istore 5, 2) := by decide +kernel
theorem dX5_orders_99 : decode cX5_orders 99 = .ok (.iload 5, 2) := by decide +kernel
theorem dX5_orders_101 : decode cX5_orders 101 = .ok (.iload_n 1, 1) := by decide +kernel
theorem dX5_orders_102 : decode cX5_orders 102 = .ok (.if_icmp .ge 18, 3) := by decide +kernel
theorem dX5_orders_105 : decode cX5_orders 105 = .ok (.aload_n 0, 1) := by decide +kernel
theorem dX5_orders_106 : decode cX5_orders 106 = .ok (.iload 4, 2) := by decide +kernel
theorem dX5_orders_108 : decode cX5_orders 108 = .ok (.iload 5, 2) := by decide +kernel
theorem dX5_orders_110 : decode cX5_orders 110 = .ok (.iload_n 1, 1) := by decide +kernel
theorem dX5_orders_111 : decode cX5_orders 111 = .ok (.invokevirtual 61, 3) := by decide +kernel
theorem dX5_orders_114 : decode cX5_orders 114 = .ok (.iinc 5 1, 3) := by decide +kernel
theorem dX5_orders_117 : decode cX5_orders 117 = .ok (.goto (-18), 3) := by decide +kernel
theorem dX5_orders_120 : decode cX5_orders 120 = .ok (.iinc 4 1, 3) := by decide +kernel
theorem dX5_orders_123 : decode cX5_orders 123 = .ok (.goto (-33), 3) := by decide +kernel
theorem dX5_orders_126 : decode cX5_orders 126 = .ok (.iconst 0, 1) := by decide +kernel
theorem dX5_orders_127 : decode cX5_orders 127 = .ok (.istore 4, 2) := by decide +kernel
theorem dX5_orders_129 : decode cX5_orders 129 = .ok (.iconst 0, 1) := by decide +kernel
theorem dX5_orders_130 : decode cX5_orders 130 = .ok (.istore 5, 2) := by decide +kernel
theorem dX5_orders_132 : decode cX5_orders 132 = .ok (.iload 5, 2) := by decide +kernel
theorem dX5_orders_134 : decode cX5_orders 134 = .ok (.iload_n 1, 1) := by decide +kernel
theorem dX5_orders_135 : decode cX5_orders 135 = .ok (.if_icmp .ge 58, 3) := by decide +kernel
theorem dX5_orders_138 : decode cX5_orders 138 = .ok (.iload_n 2, 1) := by decide +kernel
theorem dX5_orders_139 : decode cX5_orders 139 = .ok (.ifCond .eq 15, 3) := by decide +kernel
theorem dX5_orders_142 : decode cX5_orders 142 = .ok (.aload_n 0, 1) := by decide +kernel
theorem dX5_orders_143 : decode cX5_orders 143 = .ok (.getfield 9, 3) := by decide +kernel
theorem dX5_orders_146 : decode cX5_orders 146 = .ok (.iload 5, 2) := by decide +kernel
theorem dX5_orders_148 : decode cX5_orders 148 = .ok (.iaload, 1) := by decide +kernel
theorem dX5_orders_149 : decode cX5_orders 149 = .ok (.iconst 1, 1) := by decide +kernel
theorem dX5_orders_150 : decode cX5_orders 150 = .ok (.iand, 1) := by decide +kernel
theorem dX5_orders_151 : decode cX5_orders 151 = .ok (.ifCond .ne 7, 3) := by decide +kernel
theorem dX5_orders_154 : decode cX5_orders 154 = .ok (.iconst 1, 1) := by decide +kernel
theorem dX5_orders_155 : decode cX5_orders 155 = .ok (.goto 4, 3) := by decide +kernel
theorem dX5_orders_158 : decode cX5_orders 158 = .ok (.iconst 0, 1) := by decide +kernel
theorem dX5_orders_159 : decode cX5_orders 159 = .ok (.istore 6, 2) := by decide +kernel
theorem dX5_orders_161 : decode cX5_orders 161 = .ok (.iload 4, 2) := by decide +kernel
theorem dX5_orders_163 : decode cX5_orders 163 = .ok (.iload 6, 2) := by decide +kernel
theorem dX5_orders_165 : decode cX5_orders 165 = .ok (.ifCond .eq 18, 3) := by decide +kernel
theorem dX5_orders_168 : decode cX5_orders 168 = .ok (.aload_n 0, 1) := by decide +kernel
theorem dX5_orders_169 : decode cX5_orders 169 = .ok (.getfield 18, 3) := by decide +kernel
theorem dX5_orders_172 : decode cX5_orders 172 = .ok (.iload_n 3, 1) := by decide +kernel
theorem dX5_orders_173 : decode cX5_orders 173 = .ok (.bipush 7, 2) := by decide +kernel
theorem dX5_orders_175 : decode cX5_orders 175 = .ok (.imul, 1) := by decide +kernel
theorem dX5_orders_176 : decode cX5_orders 176 = .ok (.iload 5, 2) := by decide +kernel
theorem dX5_orders_178 : decode cX5_orders 178 = .ok (.iadd, 1) := by decide +kernel
theorem dX5_orders_179 : decode cX5_orders 179 = .ok (.iaload, 1) := by decide +kernel
theorem dX5_orders_180 : decode cX5_orders 180 = .ok (.goto 4, 3) := by decide +kernel
theorem dX5_orders_183 : decode cX5_orders 183 = .ok (.iconst 0, 1) := by decide +kernel
theorem dX5_orders_184 : decode cX5_orders 184 = .ok (.iadd, 1) := by decide +kernel
theorem dX5_orders_185 : decode cX5_orders 185 = .ok (.istore 4, 2) := by decide +kernel
theorem dX5_orders_187 : decode cX5_orders 187 = .ok (.iinc 5 1, 3) := by decide +kernel
theorem dX5_orders_190 : decode cX5_orders 190 = .ok (.goto (-58), 3) := by decide +kernel
theorem dX5_orders_193 : decode cX5_orders 193 = .ok (.iload_n 2, 1) := by decide +kernel
theorem dX5_orders_194 : decode cX5_orders 194 = .ok (.ifCond .eq 10, 3) := by decide +kernel
theorem dX5_orders_197 : decode cX5_orders 197 = .ok (.iload_n 1, 1) := by decide +kernel
theorem dX5_orders_198 : decode cX5_orders 198 = .ok (.iload 4, 2) := by decide +kernel
theorem dX5_orders_200 : decode cX5_orders 200 = .ok (.imul, 1) := by decide +kernel
theorem dX5_orders_201 : decode cX5_orders 201 = .ok (.goto 5, 3) := by decide +kernel
theorem dX5_orders_204 : decode cX5_orders 204 = .ok (.iload 4, 2) := by decide +kernel
theorem dX5_orders_206 : decode cX5_orders 206 = .ok (.ireturn, 1) := by decide +kernel
def f_X5_orders_159  (k132 : Int32 × Int32 × Int32 × Int32 × Int32 × zHp → Option (Int32 × zHp)) (v1 : Int32) (v2 : Int32) (v3 : Int32) (v4 : Int32) (v5 : Int32) (s0 : Int32) (h : zHp) : Option (Int32 × zHp) := (if s0 = 0 then zlt (v4 + (0 : Int32)) fun x1 => k132 (v1, v2, v3, x1, (v5 + (1 : Int32)), h) else zix ((v3 * (7 : Int32)) + v5) 896 (zlt (v4 + (h 164 ((v3 * (7 : Int32)) + v5).toNatClampNeg)) fun x2 => k132 (v1, v2, v3, x2, (v5 + (1 : Int32)), h)))
set_option maxHeartbeats 4000000 in
set_option maxRecDepth 100000 in
theorem f_X5_orders_159_s  (k132 : Int32 × Int32 × Int32 × Int32 × Int32 × zHp → Option (Int32 × zHp)) (H132 : ∀ v : Int32 × Int32 × Int32 × Int32 × Int32 × zHp, Sim wX mX5_orders 2 rI 132 [(0, .ref 161), (1, .int v.1), (2, .int v.2.1), (3, .int v.2.2.1), (4, .int v.2.2.2.1), (5, .int v.2.2.2.2.1)] [] v.2.2.2.2.2 (k132 v)) (v1 : Int32) (v2 : Int32) (v3 : Int32) (v4 : Int32) (v5 : Int32) (s0 : Int32) (h : zHp) : Sim wX mX5_orders 2 rI 159 [(0, .ref 161), (1, .int v1), (2, .int v2), (3, .int v3), (4, .int v4), (5, .int v5)] [.int s0] h (f_X5_orders_159 k132 v1 v2 v3 v4 v5 s0 h) := by
  unfold f_X5_orders_159
  refine Sim.istore (L' := [(6, .int s0), (0, .ref 161), (1, .int v1), (2, .int v2), (3, .int v3), (4, .int v4), (5, .int v5)]) dX5_orders_159 (Nat.le_of_ble_eq_true rfl) rfl ?_
  refine Sim.iload 5 dX5_orders_161 rfl ?_
  refine Sim.iload 0 dX5_orders_163 rfl ?_
  refine Sim.if_eq 183 dX5_orders_165 rfl ?_ ?_
  · refine Sim.iconst (v := (0 : Int32)) dX5_orders_183 rfl ?_
    refine Sim.iadd dX5_orders_184 ?_
    refine Sim.lti (fun x1 => ?_)
    refine Sim.istore (L' := [(4, .int x1), (6, .int s0), (0, .ref 161), (1, .int v1), (2, .int v2), (3, .int v3), (5, .int v5)]) dX5_orders_185 (Nat.le_of_ble_eq_true rfl) rfl ?_
    refine Sim.iinc (L' := [(5, .int (v5 + (1 : Int32))), (4, .int x1), (6, .int s0), (0, .ref 161), (1, .int v1), (2, .int v2), (3, .int v3)]) 6 dX5_orders_187 rfl rfl (Nat.le_of_ble_eq_true rfl) rfl ?_
    refine Sim.goto 132 dX5_orders_190 rfl ?_
    refine Sim.locs [3, 4, 5, 6, 1, 0] rfl ?_
    exact H132 (v1, v2, v3, x1, (v5 + (1 : Int32)), h)
  · refine Sim.aload_n 1 dX5_orders_168 rfl ?_
    refine Sim.getR (j := 164) fl_X5_18 dX5_orders_169 xR_161_3 ?_
    refine Sim.iload_n 4 dX5_orders_172 rfl ?_
    refine Sim.bipush (v := (7 : Int32)) dX5_orders_173 rfl ?_
    refine Sim.imul dX5_orders_175 ?_
    refine Sim.iload 6 dX5_orders_176 rfl ?_
    refine Sim.iadd dX5_orders_178 ?_
    refine Sim.iald (n := 896) dX5_orders_179 xA_164 ?_
    refine Sim.goto 184 dX5_orders_180 rfl ?_
    refine Sim.iadd dX5_orders_184 ?_
    refine Sim.lti (fun x2 => ?_)
    refine Sim.istore (L' := [(4, .int x2), (6, .int s0), (0, .ref 161), (1, .int v1), (2, .int v2), (3, .int v3), (5, .int v5)]) dX5_orders_185 (Nat.le_of_ble_eq_true rfl) rfl ?_
    refine Sim.iinc (L' := [(5, .int (v5 + (1 : Int32))), (4, .int x2), (6, .int s0), (0, .ref 161), (1, .int v1), (2, .int v2), (3, .int v3)]) 6 dX5_orders_187 rfl rfl (Nat.le_of_ble_eq_true rfl) rfl ?_
    refine Sim.goto 132 dX5_orders_190 rfl ?_
    refine Sim.locs [3, 4, 5, 6, 1, 0] rfl ?_
    exact H132 (v1, v2, v3, x2, (v5 + (1 : Int32)), h)
def f_X5_orders_132  (k132 : Int32 × Int32 × Int32 × Int32 × Int32 × zHp → Option (Int32 × zHp)) (v1 : Int32) (v2 : Int32) (v3 : Int32) (v4 : Int32) (v5 : Int32) (h : zHp) : Option (Int32 × zHp) := (if v5 < v1 then (if v2 = 0 then f_X5_orders_159 k132 v1 v2 v3 v4 v5 (1 : Int32) h else zix v5 10 ((if ((h 162 v5.toNatClampNeg) &&& (1 : Int32)) = 0 then f_X5_orders_159 k132 v1 v2 v3 v4 v5 (1 : Int32) h else f_X5_orders_159 k132 v1 v2 v3 v4 v5 (0 : Int32) h))) else (if v2 = 0 then some (v4, h) else some ((v1 * v4), h)))
set_option maxHeartbeats 4000000 in
set_option maxRecDepth 100000 in
theorem f_X5_orders_132_s  (k132 : Int32 × Int32 × Int32 × Int32 × Int32 × zHp → Option (Int32 × zHp)) (H132 : ∀ v : Int32 × Int32 × Int32 × Int32 × Int32 × zHp, Sim wX mX5_orders 2 rI 132 [(0, .ref 161), (1, .int v.1), (2, .int v.2.1), (3, .int v.2.2.1), (4, .int v.2.2.2.1), (5, .int v.2.2.2.2.1)] [] v.2.2.2.2.2 (k132 v)) (v1 : Int32) (v2 : Int32) (v3 : Int32) (v4 : Int32) (v5 : Int32) (h : zHp) : Sim wX mX5_orders 2 rI 132 [(0, .ref 161), (1, .int v1), (2, .int v2), (3, .int v3), (4, .int v4), (5, .int v5)] [] h (f_X5_orders_132 k132 v1 v2 v3 v4 v5 h) := by
  unfold f_X5_orders_132
  refine Sim.iload 5 dX5_orders_132 rfl ?_
  refine Sim.iload_n 1 dX5_orders_134 rfl ?_
  refine Sim.icmp_ge 193 dX5_orders_135 rfl ?_ ?_
  · refine Sim.iload_n 2 dX5_orders_138 rfl ?_
    refine Sim.if_eq 154 dX5_orders_139 rfl ?_ ?_
    · refine Sim.iconst (v := (1 : Int32)) dX5_orders_154 rfl ?_
      refine Sim.goto 159 dX5_orders_155 rfl ?_
      exact f_X5_orders_159_s k132 H132 v1 v2 v3 v4 v5 (1 : Int32) h
    · refine Sim.aload_n 0 dX5_orders_142 rfl ?_
      refine Sim.getR (j := 162) fl_X5_9 dX5_orders_143 xR_161_1 ?_
      refine Sim.iload 5 dX5_orders_146 rfl ?_
      refine Sim.iald (n := 10) dX5_orders_148 xA_162 ?_
      refine Sim.iconst (v := (1 : Int32)) dX5_orders_149 rfl ?_
      refine Sim.iand dX5_orders_150 ?_
      refine Sim.if_ne 158 dX5_orders_151 rfl ?_ ?_
      · refine Sim.iconst (v := (1 : Int32)) dX5_orders_154 rfl ?_
        refine Sim.goto 159 dX5_orders_155 rfl ?_
        exact f_X5_orders_159_s k132 H132 v1 v2 v3 v4 v5 (1 : Int32) h
      · refine Sim.iconst (v := (0 : Int32)) dX5_orders_158 rfl ?_
        exact f_X5_orders_159_s k132 H132 v1 v2 v3 v4 v5 (0 : Int32) h
  · refine Sim.iload_n 2 dX5_orders_193 rfl ?_
    refine Sim.if_eq 204 dX5_orders_194 rfl ?_ ?_
    · refine Sim.iload 4 dX5_orders_204 rfl ?_
      exact Sim.iret dX5_orders_206 rfl
    · refine Sim.iload_n 1 dX5_orders_197 rfl ?_
      refine Sim.iload 4 dX5_orders_198 rfl ?_
      refine Sim.imul dX5_orders_200 ?_
      refine Sim.goto 206 dX5_orders_201 rfl ?_
      exact Sim.iret dX5_orders_206 rfl
def f_X5_orders_132_lp   (n : Nat) (v : Int32 × Int32 × Int32 × Int32 × Int32 × zHp) : Option (Int32 × zHp) := zlp (fun k132 v => f_X5_orders_132 k132 v.1 v.2.1 v.2.2.1 v.2.2.2.1 v.2.2.2.2.1 v.2.2.2.2.2) n v
theorem f_X5_orders_132_ls  (n : Nat) (v : Int32 × Int32 × Int32 × Int32 × Int32 × zHp) : Sim wX mX5_orders 2 rI 132 [(0, .ref 161), (1, .int v.1), (2, .int v.2.1), (3, .int v.2.2.1), (4, .int v.2.2.2.1), (5, .int v.2.2.2.2.1)] [] v.2.2.2.2.2 (f_X5_orders_132_lp n v) :=
  Sim.lp (V := Int32 × Int32 × Int32 × Int32 × Int32 × zHp) (Lf := fun v => [(0, .ref 161), (1, .int v.1), (2, .int v.2.1), (3, .int v.2.2.1), (4, .int v.2.2.2.1), (5, .int v.2.2.2.2.1)]) (sf := fun v => []) (hf := fun v => v.2.2.2.2.2) (fun k132 H132 v => f_X5_orders_132_s k132 H132 v.1 v.2.1 v.2.2.1 v.2.2.2.1 v.2.2.2.2.1 v.2.2.2.2.2) n v
def f_X5_orders_99  (k90 : Int32 × Int32 × Int32 × Int32 × zHp → Option (Int32 × zHp)) (k99 : Int32 × Int32 × Int32 × Int32 × Int32 × zHp → Option (Int32 × zHp)) (v1 : Int32) (v2 : Int32) (v3 : Int32) (v4 : Int32) (v5 : Int32) (h : zHp) : Option (Int32 × zHp) := (if v5 < v1 then (f_X5_seatNext v4 v5 v1 h).bind fun x1 => k99 (v1, v2, v3, v4, (v5 + (1 : Int32)), x1) else k90 (v1, v2, v3, (v4 + (1 : Int32)), h))
set_option maxHeartbeats 4000000 in
set_option maxRecDepth 100000 in
theorem f_X5_orders_99_s  (k90 : Int32 × Int32 × Int32 × Int32 × zHp → Option (Int32 × zHp)) (H90 : ∀ v : Int32 × Int32 × Int32 × Int32 × zHp, Sim wX mX5_orders 2 rI 90 [(0, .ref 161), (1, .int v.1), (2, .int v.2.1), (3, .int v.2.2.1), (4, .int v.2.2.2.1)] [] v.2.2.2.2 (k90 v)) (k99 : Int32 × Int32 × Int32 × Int32 × Int32 × zHp → Option (Int32 × zHp)) (H99 : ∀ v : Int32 × Int32 × Int32 × Int32 × Int32 × zHp, Sim wX mX5_orders 2 rI 99 [(0, .ref 161), (1, .int v.1), (2, .int v.2.1), (3, .int v.2.2.1), (4, .int v.2.2.2.1), (5, .int v.2.2.2.2.1)] [] v.2.2.2.2.2 (k99 v)) (v1 : Int32) (v2 : Int32) (v3 : Int32) (v4 : Int32) (v5 : Int32) (h : zHp) : Sim wX mX5_orders 2 rI 99 [(0, .ref 161), (1, .int v1), (2, .int v2), (3, .int v3), (4, .int v4), (5, .int v5)] [] h (f_X5_orders_99 k90 k99 v1 v2 v3 v4 v5 h) := by
  unfold f_X5_orders_99
  refine Sim.iload 5 dX5_orders_99 rfl ?_
  refine Sim.iload_n 1 dX5_orders_101 rfl ?_
  refine Sim.icmp_ge 120 dX5_orders_102 rfl ?_ ?_
  · refine Sim.aload_n 0 dX5_orders_105 rfl ?_
    refine Sim.iload 4 dX5_orders_106 rfl ?_
    refine Sim.iload 5 dX5_orders_108 rfl ?_
    refine Sim.iload_n 1 dX5_orders_110 rfl ?_
    refine Sim.callV3U (d1 := 0) (s_X5_seatNext v4 v5 v1 h) dX5_orders_111 ml_X5_61 mv_X5_seatNext xO_X5 (Nat.le_of_ble_eq_true rfl) (Nat.le_of_ble_eq_true rfl) (Nat.le_of_ble_eq_true rfl) (fun x1 => ?_)
    refine Sim.iinc (L' := [(5, .int (v5 + (1 : Int32))), (0, .ref 161), (1, .int v1), (2, .int v2), (3, .int v3), (4, .int v4)]) 5 dX5_orders_114 rfl rfl (Nat.le_of_ble_eq_true rfl) rfl ?_
    refine Sim.goto 99 dX5_orders_117 rfl ?_
    refine Sim.locs [1, 2, 3, 4, 5, 0] rfl ?_
    exact H99 (v1, v2, v3, v4, (v5 + (1 : Int32)), x1)
  · refine Sim.iinc (L' := [(4, .int (v4 + (1 : Int32))), (0, .ref 161), (1, .int v1), (2, .int v2), (3, .int v3), (5, .int v5)]) 4 dX5_orders_120 rfl rfl (Nat.le_of_ble_eq_true rfl) rfl ?_
    refine Sim.goto 90 dX5_orders_123 rfl ?_
    refine Sim.locs [1, 2, 3, 4, 0] rfl ?_
    exact H90 (v1, v2, v3, (v4 + (1 : Int32)), h)
def f_X5_orders_99_lp  (k90 : Int32 × Int32 × Int32 × Int32 × zHp → Option (Int32 × zHp)) (n : Nat) (v : Int32 × Int32 × Int32 × Int32 × Int32 × zHp) : Option (Int32 × zHp) := zlp (fun k99 v => f_X5_orders_99 k90 k99 v.1 v.2.1 v.2.2.1 v.2.2.2.1 v.2.2.2.2.1 v.2.2.2.2.2) n v
theorem f_X5_orders_99_ls  (k90 : Int32 × Int32 × Int32 × Int32 × zHp → Option (Int32 × zHp)) (H90 : ∀ v : Int32 × Int32 × Int32 × Int32 × zHp, Sim wX mX5_orders 2 rI 90 [(0, .ref 161), (1, .int v.1), (2, .int v.2.1), (3, .int v.2.2.1), (4, .int v.2.2.2.1)] [] v.2.2.2.2 (k90 v)) (n : Nat) (v : Int32 × Int32 × Int32 × Int32 × Int32 × zHp) : Sim wX mX5_orders 2 rI 99 [(0, .ref 161), (1, .int v.1), (2, .int v.2.1), (3, .int v.2.2.1), (4, .int v.2.2.2.1), (5, .int v.2.2.2.2.1)] [] v.2.2.2.2.2 (f_X5_orders_99_lp k90 n v) :=
  Sim.lp (V := Int32 × Int32 × Int32 × Int32 × Int32 × zHp) (Lf := fun v => [(0, .ref 161), (1, .int v.1), (2, .int v.2.1), (3, .int v.2.2.1), (4, .int v.2.2.2.1), (5, .int v.2.2.2.2.1)]) (sf := fun v => []) (hf := fun v => v.2.2.2.2.2) (fun k99 H99 v => f_X5_orders_99_s k90 H90 k99 H99 v.1 v.2.1 v.2.2.1 v.2.2.2.1 v.2.2.2.2.1 v.2.2.2.2.2) n v
def f_X5_orders_90  (k90 : Int32 × Int32 × Int32 × Int32 × zHp → Option (Int32 × zHp)) (v1 : Int32) (v2 : Int32) (v3 : Int32) (v4 : Int32) (h : zHp) : Option (Int32 × zHp) := (if v4 < v3 then f_X5_orders_99_lp k90 zN (v1, v2, v3, v4, (0 : Int32), h) else f_X5_orders_132_lp  zN (v1, v2, v3, (0 : Int32), (0 : Int32), h))
set_option maxHeartbeats 4000000 in
set_option maxRecDepth 100000 in
theorem f_X5_orders_90_s  (k90 : Int32 × Int32 × Int32 × Int32 × zHp → Option (Int32 × zHp)) (H90 : ∀ v : Int32 × Int32 × Int32 × Int32 × zHp, Sim wX mX5_orders 2 rI 90 [(0, .ref 161), (1, .int v.1), (2, .int v.2.1), (3, .int v.2.2.1), (4, .int v.2.2.2.1)] [] v.2.2.2.2 (k90 v)) (v1 : Int32) (v2 : Int32) (v3 : Int32) (v4 : Int32) (h : zHp) : Sim wX mX5_orders 2 rI 90 [(0, .ref 161), (1, .int v1), (2, .int v2), (3, .int v3), (4, .int v4)] [] h (f_X5_orders_90 k90 v1 v2 v3 v4 h) := by
  unfold f_X5_orders_90
  refine Sim.iload 4 dX5_orders_90 rfl ?_
  refine Sim.iload_n 3 dX5_orders_92 rfl ?_
  refine Sim.icmp_ge 126 dX5_orders_93 rfl ?_ ?_
  · refine Sim.iconst (v := (0 : Int32)) dX5_orders_96 rfl ?_
    refine Sim.istore (L' := [(5, .int (0 : Int32)), (0, .ref 161), (1, .int v1), (2, .int v2), (3, .int v3), (4, .int v4)]) dX5_orders_97 (Nat.le_of_ble_eq_true rfl) rfl ?_
    refine Sim.locs [1, 2, 3, 4, 5, 0] rfl ?_
    exact f_X5_orders_99_ls k90 H90 zN (v1, v2, v3, v4, (0 : Int32), h)
  · refine Sim.iconst (v := (0 : Int32)) dX5_orders_126 rfl ?_
    refine Sim.istore (L' := [(4, .int (0 : Int32)), (0, .ref 161), (1, .int v1), (2, .int v2), (3, .int v3)]) dX5_orders_127 (Nat.le_of_ble_eq_true rfl) rfl ?_
    refine Sim.iconst (v := (0 : Int32)) dX5_orders_129 rfl ?_
    refine Sim.istore (L' := [(5, .int (0 : Int32)), (4, .int (0 : Int32)), (0, .ref 161), (1, .int v1), (2, .int v2), (3, .int v3)]) dX5_orders_130 (Nat.le_of_ble_eq_true rfl) rfl ?_
    refine Sim.locs [2, 3, 4, 5, 1, 0] rfl ?_
    exact f_X5_orders_132_ls  zN (v1, v2, v3, (0 : Int32), (0 : Int32), h)
def f_X5_orders_90_lp   (n : Nat) (v : Int32 × Int32 × Int32 × Int32 × zHp) : Option (Int32 × zHp) := zlp (fun k90 v => f_X5_orders_90 k90 v.1 v.2.1 v.2.2.1 v.2.2.2.1 v.2.2.2.2) n v
theorem f_X5_orders_90_ls  (n : Nat) (v : Int32 × Int32 × Int32 × Int32 × zHp) : Sim wX mX5_orders 2 rI 90 [(0, .ref 161), (1, .int v.1), (2, .int v.2.1), (3, .int v.2.2.1), (4, .int v.2.2.2.1)] [] v.2.2.2.2 (f_X5_orders_90_lp n v) :=
  Sim.lp (V := Int32 × Int32 × Int32 × Int32 × zHp) (Lf := fun v => [(0, .ref 161), (1, .int v.1), (2, .int v.2.1), (3, .int v.2.2.1), (4, .int v.2.2.2.1)]) (sf := fun v => []) (hf := fun v => v.2.2.2.2) (fun k90 H90 v => f_X5_orders_90_s k90 H90 v.1 v.2.1 v.2.2.1 v.2.2.2.1 v.2.2.2.2) n v
def f_X5_orders_62  (k51 : Int32 × Int32 × Int32 × Int32 × zHp → Option (Int32 × zHp)) (v1 : Int32) (v2 : Int32) (v3 : Int32) (v4 : Int32) (s0 : Int32) (s1 : Int32) (h : zHp) : Option (Int32 × zHp) := (if s1 < s0 then zix ((((1 : Int32) <<< (v4 &&& 31)) * (7 : Int32)) + v4) 896 (zlt (zst h 164 ((((1 : Int32) <<< (v4 &&& 31)) * (7 : Int32)) + v4).toNatClampNeg (1 : Int32)) fun h1 => k51 (v1, v2, v3, (v4 + (1 : Int32)), h1)) else f_X5_orders_90_lp  zN (v1, v2, v3, (1 : Int32), h))
set_option maxHeartbeats 4000000 in
set_option maxRecDepth 100000 in
theorem f_X5_orders_62_s  (k51 : Int32 × Int32 × Int32 × Int32 × zHp → Option (Int32 × zHp)) (H51 : ∀ v : Int32 × Int32 × Int32 × Int32 × zHp, Sim wX mX5_orders 2 rI 51 [(0, .ref 161), (1, .int v.1), (2, .int v.2.1), (3, .int v.2.2.1), (4, .int v.2.2.2.1)] [] v.2.2.2.2 (k51 v)) (v1 : Int32) (v2 : Int32) (v3 : Int32) (v4 : Int32) (s0 : Int32) (s1 : Int32) (h : zHp) : Sim wX mX5_orders 2 rI 62 [(0, .ref 161), (1, .int v1), (2, .int v2), (3, .int v3), (4, .int v4)] [.int s0, .int s1] h (f_X5_orders_62 k51 v1 v2 v3 v4 s0 s1 h) := by
  unfold f_X5_orders_62
  refine Sim.icmp_ge 87 dX5_orders_62 rfl ?_ ?_
  · refine Sim.aload_n 0 dX5_orders_65 rfl ?_
    refine Sim.getR (j := 164) fl_X5_18 dX5_orders_66 xR_161_3 ?_
    refine Sim.iconst (v := (1 : Int32)) dX5_orders_69 rfl ?_
    refine Sim.iload 4 dX5_orders_70 rfl ?_
    refine Sim.ishl dX5_orders_72 ?_
    refine Sim.bipush (v := (7 : Int32)) dX5_orders_73 rfl ?_
    refine Sim.imul dX5_orders_75 ?_
    refine Sim.iload 4 dX5_orders_76 rfl ?_
    refine Sim.iadd dX5_orders_78 ?_
    refine Sim.iconst (v := (1 : Int32)) dX5_orders_79 rfl ?_
    refine Sim.iast (n := 896) dX5_orders_80 xA_164 ?_
    refine Sim.lth (fun h1 => ?_)
    refine Sim.iinc (L' := [(4, .int (v4 + (1 : Int32))), (0, .ref 161), (1, .int v1), (2, .int v2), (3, .int v3)]) 4 dX5_orders_81 rfl rfl (Nat.le_of_ble_eq_true rfl) rfl ?_
    refine Sim.goto 51 dX5_orders_84 rfl ?_
    refine Sim.locs [1, 2, 3, 4, 0] rfl ?_
    exact H51 (v1, v2, v3, (v4 + (1 : Int32)), h1)
  · refine Sim.iconst (v := (1 : Int32)) dX5_orders_87 rfl ?_
    refine Sim.istore (L' := [(4, .int (1 : Int32)), (0, .ref 161), (1, .int v1), (2, .int v2), (3, .int v3)]) dX5_orders_88 (Nat.le_of_ble_eq_true rfl) rfl ?_
    refine Sim.locs [1, 2, 3, 4, 0] rfl ?_
    exact f_X5_orders_90_ls  zN (v1, v2, v3, (1 : Int32), h)
def f_X5_orders_51  (k51 : Int32 × Int32 × Int32 × Int32 × zHp → Option (Int32 × zHp)) (v1 : Int32) (v2 : Int32) (v3 : Int32) (v4 : Int32) (h : zHp) : Option (Int32 × zHp) := (if v2 = 0 then f_X5_orders_62 k51 v1 v2 v3 v4 v1 v4 h else f_X5_orders_62 k51 v1 v2 v3 v4 (1 : Int32) v4 h)
set_option maxHeartbeats 4000000 in
set_option maxRecDepth 100000 in
theorem f_X5_orders_51_s  (k51 : Int32 × Int32 × Int32 × Int32 × zHp → Option (Int32 × zHp)) (H51 : ∀ v : Int32 × Int32 × Int32 × Int32 × zHp, Sim wX mX5_orders 2 rI 51 [(0, .ref 161), (1, .int v.1), (2, .int v.2.1), (3, .int v.2.2.1), (4, .int v.2.2.2.1)] [] v.2.2.2.2 (k51 v)) (v1 : Int32) (v2 : Int32) (v3 : Int32) (v4 : Int32) (h : zHp) : Sim wX mX5_orders 2 rI 51 [(0, .ref 161), (1, .int v1), (2, .int v2), (3, .int v3), (4, .int v4)] [] h (f_X5_orders_51 k51 v1 v2 v3 v4 h) := by
  unfold f_X5_orders_51
  refine Sim.iload 4 dX5_orders_51 rfl ?_
  refine Sim.iload_n 2 dX5_orders_53 rfl ?_
  refine Sim.if_eq 61 dX5_orders_54 rfl ?_ ?_
  · refine Sim.iload_n 1 dX5_orders_61 rfl ?_
    exact f_X5_orders_62_s k51 H51 v1 v2 v3 v4 v1 v4 h
  · refine Sim.iconst (v := (1 : Int32)) dX5_orders_57 rfl ?_
    refine Sim.goto 62 dX5_orders_58 rfl ?_
    exact f_X5_orders_62_s k51 H51 v1 v2 v3 v4 (1 : Int32) v4 h
def f_X5_orders_51_lp   (n : Nat) (v : Int32 × Int32 × Int32 × Int32 × zHp) : Option (Int32 × zHp) := zlp (fun k51 v => f_X5_orders_51 k51 v.1 v.2.1 v.2.2.1 v.2.2.2.1 v.2.2.2.2) n v
theorem f_X5_orders_51_ls  (n : Nat) (v : Int32 × Int32 × Int32 × Int32 × zHp) : Sim wX mX5_orders 2 rI 51 [(0, .ref 161), (1, .int v.1), (2, .int v.2.1), (3, .int v.2.2.1), (4, .int v.2.2.2.1)] [] v.2.2.2.2 (f_X5_orders_51_lp n v) :=
  Sim.lp (V := Int32 × Int32 × Int32 × Int32 × zHp) (Lf := fun v => [(0, .ref 161), (1, .int v.1), (2, .int v.2.1), (3, .int v.2.2.1), (4, .int v.2.2.2.1)]) (sf := fun v => []) (hf := fun v => v.2.2.2.2) (fun k51 H51 v => f_X5_orders_51_s k51 H51 v.1 v.2.1 v.2.2.1 v.2.2.2.1 v.2.2.2.2) n v
def f_X5_orders_13  (k13 : Int32 × Int32 × Int32 × Int32 × zHp → Option (Int32 × zHp)) (v1 : Int32) (v2 : Int32) (v3 : Int32) (v4 : Int32) (h : zHp) : Option (Int32 × zHp) := (if v4 < ((v3 + (1 : Int32)) * (7 : Int32)) then (if v4 < (Int32.ofNat 896) then zix v4 896 (zlt (zst h 164 v4.toNatClampNeg (0 : Int32)) fun h1 => k13 (v1, v2, v3, (v4 + (1 : Int32)), h1)) else f_X5_orders_51_lp  zN (v1, v2, v3, (0 : Int32), h)) else f_X5_orders_51_lp  zN (v1, v2, v3, (0 : Int32), h))
set_option maxHeartbeats 4000000 in
set_option maxRecDepth 100000 in
theorem f_X5_orders_13_s  (k13 : Int32 × Int32 × Int32 × Int32 × zHp → Option (Int32 × zHp)) (H13 : ∀ v : Int32 × Int32 × Int32 × Int32 × zHp, Sim wX mX5_orders 2 rI 13 [(0, .ref 161), (1, .int v.1), (2, .int v.2.1), (3, .int v.2.2.1), (4, .int v.2.2.2.1)] [] v.2.2.2.2 (k13 v)) (v1 : Int32) (v2 : Int32) (v3 : Int32) (v4 : Int32) (h : zHp) : Sim wX mX5_orders 2 rI 13 [(0, .ref 161), (1, .int v1), (2, .int v2), (3, .int v3), (4, .int v4)] [] h (f_X5_orders_13 k13 v1 v2 v3 v4 h) := by
  unfold f_X5_orders_13
  refine Sim.iload 4 dX5_orders_13 rfl ?_
  refine Sim.iload_n 3 dX5_orders_15 rfl ?_
  refine Sim.iconst (v := (1 : Int32)) dX5_orders_16 rfl ?_
  refine Sim.iadd dX5_orders_17 ?_
  refine Sim.bipush (v := (7 : Int32)) dX5_orders_18 rfl ?_
  refine Sim.imul dX5_orders_20 ?_
  refine Sim.icmp_ge 48 dX5_orders_21 rfl ?_ ?_
  · refine Sim.iload 4 dX5_orders_24 rfl ?_
    refine Sim.aload_n 0 dX5_orders_26 rfl ?_
    refine Sim.getR (j := 164) fl_X5_18 dX5_orders_27 xR_161_3 ?_
    refine Sim.alen (n := 896) dX5_orders_30 xA_164 ?_
    refine Sim.icmp_ge 48 dX5_orders_31 rfl ?_ ?_
    · refine Sim.aload_n 0 dX5_orders_34 rfl ?_
      refine Sim.getR (j := 164) fl_X5_18 dX5_orders_35 xR_161_3 ?_
      refine Sim.iload 4 dX5_orders_38 rfl ?_
      refine Sim.iconst (v := (0 : Int32)) dX5_orders_40 rfl ?_
      refine Sim.iast (n := 896) dX5_orders_41 xA_164 ?_
      refine Sim.lth (fun h1 => ?_)
      refine Sim.iinc (L' := [(4, .int (v4 + (1 : Int32))), (0, .ref 161), (1, .int v1), (2, .int v2), (3, .int v3)]) 4 dX5_orders_42 rfl rfl (Nat.le_of_ble_eq_true rfl) rfl ?_
      refine Sim.goto 13 dX5_orders_45 rfl ?_
      refine Sim.locs [1, 2, 3, 4, 0] rfl ?_
      exact H13 (v1, v2, v3, (v4 + (1 : Int32)), h1)
    · refine Sim.iconst (v := (0 : Int32)) dX5_orders_48 rfl ?_
      refine Sim.istore (L' := [(4, .int (0 : Int32)), (0, .ref 161), (1, .int v1), (2, .int v2), (3, .int v3)]) dX5_orders_49 (Nat.le_of_ble_eq_true rfl) rfl ?_
      refine Sim.locs [1, 2, 3, 4, 0] rfl ?_
      exact f_X5_orders_51_ls  zN (v1, v2, v3, (0 : Int32), h)
  · refine Sim.iconst (v := (0 : Int32)) dX5_orders_48 rfl ?_
    refine Sim.istore (L' := [(4, .int (0 : Int32)), (0, .ref 161), (1, .int v1), (2, .int v2), (3, .int v3)]) dX5_orders_49 (Nat.le_of_ble_eq_true rfl) rfl ?_
    refine Sim.locs [1, 2, 3, 4, 0] rfl ?_
    exact f_X5_orders_51_ls  zN (v1, v2, v3, (0 : Int32), h)
def f_X5_orders_13_lp   (n : Nat) (v : Int32 × Int32 × Int32 × Int32 × zHp) : Option (Int32 × zHp) := zlp (fun k13 v => f_X5_orders_13 k13 v.1 v.2.1 v.2.2.1 v.2.2.2.1 v.2.2.2.2) n v
theorem f_X5_orders_13_ls  (n : Nat) (v : Int32 × Int32 × Int32 × Int32 × zHp) : Sim wX mX5_orders 2 rI 13 [(0, .ref 161), (1, .int v.1), (2, .int v.2.1), (3, .int v.2.2.1), (4, .int v.2.2.2.1)] [] v.2.2.2.2 (f_X5_orders_13_lp n v) :=
  Sim.lp (V := Int32 × Int32 × Int32 × Int32 × zHp) (Lf := fun v => [(0, .ref 161), (1, .int v.1), (2, .int v.2.1), (3, .int v.2.2.1), (4, .int v.2.2.2.1)]) (sf := fun v => []) (hf := fun v => v.2.2.2.2) (fun k13 H13 v => f_X5_orders_13_s k13 H13 v.1 v.2.1 v.2.2.1 v.2.2.2.1 v.2.2.2.2) n v
def f_X5_orders  (a1 : Int32) (a2 : Int32) (h : zHp) : Option (Int32 × zHp) := zlt (((1 : Int32) <<< (a1 &&& 31)) - (1 : Int32)) fun x1 => (f_X5_forbid h).bind fun x2 => f_X5_orders_13_lp  zN (a1, a2, x1, (0 : Int32), x2)
set_option maxHeartbeats 4000000 in
set_option maxRecDepth 100000 in
theorem s_X5_orders  (a1 : Int32) (a2 : Int32) (h : zHp) : Fn wX mX5_orders 2 rI [.ref 161, .int a1, .int a2] h (f_X5_orders a1 a2 h) := by
  refine Fn.of rfl (Nat.le_of_ble_eq_true rfl) ?_
  unfold f_X5_orders
  refine Sim.iconst (v := (1 : Int32)) dX5_orders_0 rfl ?_
  refine Sim.iload_n 1 dX5_orders_1 rfl ?_
  refine Sim.ishl dX5_orders_2 ?_
  refine Sim.iconst (v := (1 : Int32)) dX5_orders_3 rfl ?_
  refine Sim.isub dX5_orders_4 ?_
  refine Sim.lti (fun x1 => ?_)
  refine Sim.istore_n (L' := [(3, .int x1), (0, .ref 161), (1, .int a1), (2, .int a2)]) dX5_orders_5 (Nat.le_of_ble_eq_true rfl) rfl ?_
  refine Sim.aload_n 1 dX5_orders_6 rfl ?_
  refine Sim.callV0U (d1 := 1) (s_X5_forbid h) dX5_orders_7 ml_X5_58 mv_X5_forbid xO_X5 (Nat.le_of_ble_eq_true rfl) (Nat.le_of_ble_eq_true rfl) (Nat.le_of_ble_eq_true rfl) (fun x2 => ?_)
  refine Sim.iconst (v := (0 : Int32)) dX5_orders_10 rfl ?_
  refine Sim.istore (L' := [(4, .int (0 : Int32)), (3, .int x1), (0, .ref 161), (1, .int a1), (2, .int a2)]) dX5_orders_11 (Nat.le_of_ble_eq_true rfl) rfl ?_
  refine Sim.locs [2, 3, 4, 1, 0] rfl ?_
  exact f_X5_orders_13_ls  zN (a1, a2, x1, (0 : Int32), x2)
theorem mv_X5_orders : zMV mX5_orders 2 := ⟨⟨zTb_in 1080 (by decide +kernel) rfl, zTb_in 147 (by decide +kernel) rfl, ⟨by decide +kernel, by decide +kernel⟩, by decide +kernel⟩, zTb_in 1078 (by decide +kernel) rfl, zTb_in 1079 (by decide +kernel) rfl⟩
-- ===== RockingPorch$Puzzles.x(I)I
abbrev mX5_x : zMt := (yX5_x, cX5_x, 2, some .int)
theorem fl_X5_68 : zF RX5 68 8 2 := ⟨RX8, TX8, 7, rfl, Nat.le_of_ble_eq_true rfl, zTb_in 331 (by decide +kernel) rfl, in_X8⟩
theorem dX5_x_0 : decode cX5_x 0 = .ok (.aload_n 0, 1) := by decide +kernel
theorem dX5_x_1 : decode cX5_x 1 = .ok (.getfield 24, 3) := by decide +kernel
theorem dX5_x_4 : decode cX5_x 4 = .ok (.getfield 68, 3) := by decide +kernel
theorem dX5_x_7 : decode cX5_x 7 = .ok (.iload_n 1, 1) := by decide +kernel
theorem dX5_x_8 : decode cX5_x 8 = .ok (.invokevirtual 40, 3) := by decide +kernel
theorem dX5_x_11 : decode cX5_x 11 = .ok (.invokestatic 44, 3) := by decide +kernel
theorem dX5_x_14 : decode cX5_x 14 = .ok (.ireturn, 1) := by decide +kernel
def f_X5_x  (a1 : Int32) (h : zHp) : Option (Int32 × zHp) := (f_X7_get 31 a1 h).bind fun x1 => (f_X8_first x1.1 x1.2).bind fun x2 => some (x2.1, x2.2)
set_option maxHeartbeats 4000000 in
set_option maxRecDepth 100000 in
theorem s_X5_x  (a1 : Int32) (h : zHp) : Fn wX mX5_x 1 rI [.ref 161, .int a1] h (f_X5_x a1 h) := by
  refine Fn.of rfl (Nat.le_of_ble_eq_true rfl) ?_
  unfold f_X5_x
  refine Sim.aload_n 0 dX5_x_0 rfl ?_
  refine Sim.getR (j := 26) fl_X5_24 dX5_x_1 xR_161_0 ?_
  refine Sim.getR (j := 31) fl_X5_68 dX5_x_4 (xR_X8_2 _ xL_X8_26) ?_
  refine Sim.iload_n 1 dX5_x_7 rfl ?_
  refine Sim.callV1I (d1 := 0) (s_X7_get 31 xL_X7_31 a1 h) dX5_x_8 ml_X5_40 mv_X7_get (xOC_X7 _ xL_X7_31) (Nat.le_of_ble_eq_true rfl) (Nat.le_of_ble_eq_true rfl) (Nat.le_of_ble_eq_true rfl) (fun x1 => ?_)
  refine Sim.callS1I (d1 := 0) (s_X8_first x1.1 x1.2) dX5_x_11 ml_X5_44 mv_X8_first (Nat.le_of_ble_eq_true rfl) (Nat.le_of_ble_eq_true rfl) (Nat.le_of_ble_eq_true rfl) (fun x2 => ?_)
  exact Sim.iret dX5_x_14 rfl
theorem mv_X5_x : zMV mX5_x 1 := ⟨⟨zTb_in 1110 (by decide +kernel) rfl, zTb_in 147 (by decide +kernel) rfl, ⟨by decide +kernel, by decide +kernel⟩, by decide +kernel⟩, zTb_in 1109 (by decide +kernel) rfl, zTb_in 32 (by decide +kernel) rfl⟩
-- ===== RockingPorch$Puzzles.y(I)I
abbrev mX5_y : zMt := (yX5_y, cX5_y, 2, some .int)
theorem dX5_y_0 : decode cX5_y 0 = .ok (.aload_n 0, 1) := by decide +kernel
theorem dX5_y_1 : decode cX5_y 1 = .ok (.getfield 24, 3) := by decide +kernel
theorem dX5_y_4 : decode cX5_y 4 = .ok (.getfield 68, 3) := by decide +kernel
theorem dX5_y_7 : decode cX5_y 7 = .ok (.iload_n 1, 1) := by decide +kernel
theorem dX5_y_8 : decode cX5_y 8 = .ok (.invokevirtual 40, 3) := by decide +kernel
theorem dX5_y_11 : decode cX5_y 11 = .ok (.invokestatic 53, 3) := by decide +kernel
theorem dX5_y_14 : decode cX5_y 14 = .ok (.ireturn, 1) := by decide +kernel
def f_X5_y  (a1 : Int32) (h : zHp) : Option (Int32 × zHp) := (f_X7_get 31 a1 h).bind fun x1 => (f_X8_second x1.1 x1.2).bind fun x2 => some (x2.1, x2.2)
set_option maxHeartbeats 4000000 in
set_option maxRecDepth 100000 in
theorem s_X5_y  (a1 : Int32) (h : zHp) : Fn wX mX5_y 1 rI [.ref 161, .int a1] h (f_X5_y a1 h) := by
  refine Fn.of rfl (Nat.le_of_ble_eq_true rfl) ?_
  unfold f_X5_y
  refine Sim.aload_n 0 dX5_y_0 rfl ?_
  refine Sim.getR (j := 26) fl_X5_24 dX5_y_1 xR_161_0 ?_
  refine Sim.getR (j := 31) fl_X5_68 dX5_y_4 (xR_X8_2 _ xL_X8_26) ?_
  refine Sim.iload_n 1 dX5_y_7 rfl ?_
  refine Sim.callV1I (d1 := 0) (s_X7_get 31 xL_X7_31 a1 h) dX5_y_8 ml_X5_40 mv_X7_get (xOC_X7 _ xL_X7_31) (Nat.le_of_ble_eq_true rfl) (Nat.le_of_ble_eq_true rfl) (Nat.le_of_ble_eq_true rfl) (fun x1 => ?_)
  refine Sim.callS1I (d1 := 0) (s_X8_second x1.1 x1.2) dX5_y_11 ml_X5_53 mv_X8_second (Nat.le_of_ble_eq_true rfl) (Nat.le_of_ble_eq_true rfl) (Nat.le_of_ble_eq_true rfl) (fun x2 => ?_)
  exact Sim.iret dX5_y_14 rfl
theorem mv_X5_y : zMV mX5_y 1 := ⟨⟨zTb_in 1114 (by decide +kernel) rfl, zTb_in 147 (by decide +kernel) rfl, ⟨by decide +kernel, by decide +kernel⟩, by decide +kernel⟩, zTb_in 1113 (by decide +kernel) rfl, zTb_in 33 (by decide +kernel) rfl⟩
-- ===== RockingPorch$Puzzles.mostOnLine()I
abbrev mX5_mostOnLine : zMt := (yX5_mostOnLine, cX5_mostOnLine, 7, some .int)
theorem ml_X5_71 : Cond.methodLink RX5 71 Lib.Math.min.name ∈ zTb := zTb_in 1106 (by decide +kernel) rfl
theorem ml_X5_74 : Cond.methodLink RX5 74 yX5_x ∈ zTb := zTb_in 1107 (by decide +kernel) rfl
theorem ml_X5_77 : Cond.methodLink RX5 77 yX5_y ∈ zTb := zTb_in 1111 (by decide +kernel) rfl
theorem dX5_mostOnLine_0 : decode cX5_mostOnLine 0 = .ok (.aload_n 0, 1) := by decide +kernel
theorem dX5_mostOnLine_1 : decode cX5_mostOnLine 1 = .ok (.getfield 24, 3) := by decide +kernel
theorem dX5_mostOnLine_4 : decode cX5_mostOnLine 4 = .ok (.getfield 68, 3) := by decide +kernel
theorem dX5_mostOnLine_7 : decode cX5_mostOnLine 7 = .ok (.getfield 34, 3) := by decide +kernel
theorem dX5_mostOnLine_10 : decode cX5_mostOnLine 10 = .ok (.istore_n 1, 1) := by decide +kernel
theorem dX5_mostOnLine_11 : decode cX5_mostOnLine 11 = .ok (.iload_n 1, 1) := by decide +kernel
theorem dX5_mostOnLine_12 : decode cX5_mostOnLine 12 = .ok (.iconst 1, 1) := by decide +kernel
theorem dX5_mostOnLine_13 : decode cX5_mostOnLine 13 = .ok (.invokestatic 71, 3) := by decide +kernel
theorem dX5_mostOnLine_16 : decode cX5_mostOnLine 16 = .ok (.istore_n 2, 1) := by decide +kernel
theorem dX5_mostOnLine_17 : decode cX5_mostOnLine 17 = .ok (.iconst 0, 1) := by decide +kernel
theorem dX5_mostOnLine_18 : decode cX5_mostOnLine 18 = .ok (.istore_n 3, 1) := by decide +kernel
theorem dX5_mostOnLine_19 : decode cX5_mostOnLine 19 = .ok (.iload_n 3, 1) := by decide +kernel
theorem dX5_mostOnLine_20 : decode cX5_mostOnLine 20 = .ok (.iload_n 1, 1) := by decide +kernel
theorem dX5_mostOnLine_21 : decode cX5_mostOnLine 21 = .ok (.if_icmp .ge 114, 3) := by decide +kernel
theorem dX5_mostOnLine_24 : decode cX5_mostOnLine 24 = .ok (.iload_n 3, 1) := by decide +kernel
theorem dX5_mostOnLine_25 : decode cX5_mostOnLine 25 = .ok (.iconst 1, 1) := by decide +kernel
theorem dX5_mostOnLine_26 : decode cX5_mostOnLine 26 = .ok (.iadd, 1) := by decide +kernel
theorem dX5_mostOnLine_27 : decode cX5_mostOnLine 27 = .ok (.istore 4, 2) := by decide +kernel
theorem dX5_mostOnLine_29 : decode cX5_mostOnLine 29 = .ok (.iload 4, 2) := by decide +kernel
theorem dX5_mostOnLine_31 : decode cX5_mostOnLine 31 = .ok (.iload_n 1, 1) := by decide +kernel
theorem dX5_mostOnLine_32 : decode cX5_mostOnLine 32 = .ok (.if_icmp .ge 97, 3) := by decide +kernel
theorem dX5_mostOnLine_35 : decode cX5_mostOnLine 35 = .ok (.iconst 0, 1) := by decide +kernel
theorem dX5_mostOnLine_36 : decode cX5_mostOnLine 36 = .ok (.istore 5, 2) := by decide +kernel
theorem dX5_mostOnLine_38 : decode cX5_mostOnLine 38 = .ok (.iconst 0, 1) := by decide +kernel
theorem dX5_mostOnLine_39 : decode cX5_mostOnLine 39 = .ok (.istore 6, 2) := by decide +kernel
theorem dX5_mostOnLine_41 : decode cX5_mostOnLine 41 = .ok (.iload 6, 2) := by decide +kernel
theorem dX5_mostOnLine_43 : decode cX5_mostOnLine 43 = .ok (.iload_n 1, 1) := by decide +kernel
theorem dX5_mostOnLine_44 : decode cX5_mostOnLine 44 = .ok (.if_icmp .ge 72, 3) := by decide +kernel
theorem dX5_mostOnLine_47 : decode cX5_mostOnLine 47 = .ok (.iload 5, 2) := by decide +kernel
theorem dX5_mostOnLine_49 : decode cX5_mostOnLine 49 = .ok (.aload_n 0, 1) := by decide +kernel
theorem dX5_mostOnLine_50 : decode cX5_mostOnLine 50 = .ok (.iload 4, 2) := by decide +kernel
theorem dX5_mostOnLine_52 : decode cX5_mostOnLine 52 = .ok (.invokevirtual 74, 3) := by decide +kernel
theorem dX5_mostOnLine_55 : decode cX5_mostOnLine 55 = .ok (.aload_n 0, 1) := by decide +kernel
theorem dX5_mostOnLine_56 : decode cX5_mostOnLine 56 = .ok (.iload_n 3, 1) := by decide +kernel
theorem dX5_mostOnLine_57 : decode cX5_mostOnLine 57 = .ok (.invokevirtual 74, 3) := by decide +kernel
theorem dX5_mostOnLine_60 : decode cX5_mostOnLine 60 = .ok (.isub, 1) := by decide +kernel
theorem dX5_mostOnLine_61 : decode cX5_mostOnLine 61 = .ok (.aload_n 0, 1) := by decide +kernel
theorem dX5_mostOnLine_62 : decode cX5_mostOnLine 62 = .ok (.iload 6, 2) := by decide +kernel
theorem dX5_mostOnLine_64 : decode cX5_mostOnLine 64 = .ok (.invokevirtual 77, 3) := by decide +kernel
theorem dX5_mostOnLine_67 : decode cX5_mostOnLine 67 = .ok (.aload_n 0, 1) := by decide +kernel
theorem dX5_mostOnLine_68 : decode cX5_mostOnLine 68 = .ok (.iload_n 3, 1) := by decide +kernel
theorem dX5_mostOnLine_69 : decode cX5_mostOnLine 69 = .ok (.invokevirtual 77, 3) := by decide +kernel
theorem dX5_mostOnLine_72 : decode cX5_mostOnLine 72 = .ok (.isub, 1) := by decide +kernel
theorem dX5_mostOnLine_73 : decode cX5_mostOnLine 73 = .ok (.imul, 1) := by decide +kernel
theorem dX5_mostOnLine_74 : decode cX5_mostOnLine 74 = .ok (.aload_n 0, 1) := by decide +kernel
theorem dX5_mostOnLine_75 : decode cX5_mostOnLine 75 = .ok (.iload 6, 2) := by decide +kernel
theorem dX5_mostOnLine_77 : decode cX5_mostOnLine 77 = .ok (.invokevirtual 74, 3) := by decide +kernel
theorem dX5_mostOnLine_80 : decode cX5_mostOnLine 80 = .ok (.aload_n 0, 1) := by decide +kernel
theorem dX5_mostOnLine_81 : decode cX5_mostOnLine 81 = .ok (.iload_n 3, 1) := by decide +kernel
theorem dX5_mostOnLine_82 : decode cX5_mostOnLine 82 = .ok (.invokevirtual 74, 3) := by decide +kernel
theorem dX5_mostOnLine_85 : decode cX5_mostOnLine 85 = .ok (.isub, 1) := by decide +kernel
theorem dX5_mostOnLine_86 : decode cX5_mostOnLine 86 = .ok (.aload_n 0, 1) := by decide +kernel
theorem dX5_mostOnLine_87 : decode cX5_mostOnLine 87 = .ok (.iload 4, 2) := by decide +kernel
theorem dX5_mostOnLine_89 : decode cX5_mostOnLine 89 = .ok (.invokevirtual 77, 3) := by decide +kernel
theorem dX5_mostOnLine_92 : decode cX5_mostOnLine 92 = .ok (.aload_n 0, 1) := by decide +kernel
theorem dX5_mostOnLine_93 : decode cX5_mostOnLine 93 = .ok (.iload_n 3, 1) := by decide +kernel
theorem dX5_mostOnLine_94 : decode cX5_mostOnLine 94 = .ok (.invokevirtual 77, 3) := by decide +kernel
theorem dX5_mostOnLine_97 : decode cX5_mostOnLine 97 = .ok (.isub, 1) := by decide +kernel
theorem dX5_mostOnLine_98 : decode cX5_mostOnLine 98 = .ok (.imul, 1) := by decide +kernel
theorem dX5_mostOnLine_99 : decode cX5_mostOnLine 99 = .ok (.if_icmp .ne 7, 3) := by decide +kernel
theorem dX5_mostOnLine_102 : decode cX5_mostOnLine 102 = .ok (.iconst 1, 1) := by decide +kernel
theorem dX5_mostOnLine_103 : decode cX5_mostOnLine 103 = .ok (.goto 4, 3) := by decide +kernel
theorem dX5_mostOnLine_106 : decode cX5_mostOnLine 106 = .ok (.iconst 0, 1) := by decide +kernel
theorem dX5_mostOnLine_107 : decode cX5_mostOnLine 107 = .ok (.iadd, 1) := by decide +kernel
theorem dX5_mostOnLine_108 : decode cX5_mostOnLine 108 = .ok (.istore 5, 2) := by decide +kernel
theorem dX5_mostOnLine_110 : decode cX5_mostOnLine 110 = .ok (.iinc 6 1, 3) := by decide +kernel
theorem dX5_mostOnLine_113 : decode cX5_mostOnLine 113 = .ok (.goto (-72), 3) := by decide +kernel
theorem dX5_mostOnLine_116 : decode cX5_mostOnLine 116 = .ok (.iload_n 2, 1) := by decide +kernel
theorem dX5_mostOnLine_117 : decode cX5_mostOnLine 117 = .ok (.iload 5, 2) := by decide +kernel
theorem dX5_mostOnLine_119 : decode cX5_mostOnLine 119 = .ok (.invokestatic 47, 3) := by decide +kernel
theorem dX5_mostOnLine_122 : decode cX5_mostOnLine 122 = .ok (.istore_n 2, 1) := by decide +kernel
theorem dX5_mostOnLine_123 : decode cX5_mostOnLine 123 = .ok (.iinc 4 1, 3) := by decide +kernel
theorem dX5_mostOnLine_126 : decode cX5_mostOnLine 126 = .ok (.goto (-97), 3) := by decide +kernel
theorem dX5_mostOnLine_129 : decode cX5_mostOnLine 129 = .ok (.iinc 3 1, 3) := by decide +kernel
theorem dX5_mostOnLine_132 : decode cX5_mostOnLine 132 = .ok (.goto (-113), 3) := by decide +kernel
theorem dX5_mostOnLine_135 : decode cX5_mostOnLine 135 = .ok (.iload_n 2, 1) := by decide +kernel
theorem dX5_mostOnLine_136 : decode cX5_mostOnLine 136 = .ok (.ireturn, 1) := by decide +kernel
def f_X5_mostOnLine_41  (k19 : Int32 × Int32 × Int32 × zHp → Option (Int32 × zHp)) (k29 : Int32 × Int32 × Int32 × Int32 × zHp → Option (Int32 × zHp)) (k41 : Int32 × Int32 × Int32 × Int32 × Int32 × Int32 × zHp → Option (Int32 × zHp)) (v1 : Int32) (v2 : Int32) (v3 : Int32) (v4 : Int32) (v5 : Int32) (v6 : Int32) (h : zHp) : Option (Int32 × zHp) := (if v6 < v1 then (f_X5_x v4 h).bind fun x1 => (f_X5_x v3 x1.2).bind fun x2 => (f_X5_y v6 x2.2).bind fun x3 => (f_X5_y v3 x3.2).bind fun x4 => (f_X5_x v6 x4.2).bind fun x5 => (f_X5_x v3 x5.2).bind fun x6 => (f_X5_y v4 x6.2).bind fun x7 => (f_X5_y v3 x7.2).bind fun x8 => (if ((x1.1 - x2.1) * (x3.1 - x4.1)) = ((x5.1 - x6.1) * (x7.1 - x8.1)) then zlt (v5 + (1 : Int32)) fun x9 => k41 (v1, v2, v3, v4, x9, (v6 + (1 : Int32)), x8.2) else zlt (v5 + (0 : Int32)) fun x10 => k41 (v1, v2, v3, v4, x10, (v6 + (1 : Int32)), x8.2)) else zlt (if v2 < v5 then v5 else v2) fun x11 => k29 (v1, x11, v3, (v4 + (1 : Int32)), h))
set_option maxHeartbeats 4000000 in
set_option maxRecDepth 100000 in
theorem f_X5_mostOnLine_41_s  (k19 : Int32 × Int32 × Int32 × zHp → Option (Int32 × zHp)) (H19 : ∀ v : Int32 × Int32 × Int32 × zHp, Sim wX mX5_mostOnLine 2 rI 19 [(0, .ref 161), (1, .int v.1), (2, .int v.2.1), (3, .int v.2.2.1)] [] v.2.2.2 (k19 v)) (k29 : Int32 × Int32 × Int32 × Int32 × zHp → Option (Int32 × zHp)) (H29 : ∀ v : Int32 × Int32 × Int32 × Int32 × zHp, Sim wX mX5_mostOnLine 2 rI 29 [(0, .ref 161), (1, .int v.1), (2, .int v.2.1), (3, .int v.2.2.1), (4, .int v.2.2.2.1)] [] v.2.2.2.2 (k29 v)) (k41 : Int32 × Int32 × Int32 × Int32 × Int32 × Int32 × zHp → Option (Int32 × zHp)) (H41 : ∀ v : Int32 × Int32 × Int32 × Int32 × Int32 × Int32 × zHp, Sim wX mX5_mostOnLine 2 rI 41 [(0, .ref 161), (1, .int v.1), (2, .int v.2.1), (3, .int v.2.2.1), (4, .int v.2.2.2.1), (5, .int v.2.2.2.2.1), (6, .int v.2.2.2.2.2.1)] [] v.2.2.2.2.2.2 (k41 v)) (v1 : Int32) (v2 : Int32) (v3 : Int32) (v4 : Int32) (v5 : Int32) (v6 : Int32) (h : zHp) : Sim wX mX5_mostOnLine 2 rI 41 [(0, .ref 161), (1, .int v1), (2, .int v2), (3, .int v3), (4, .int v4), (5, .int v5), (6, .int v6)] [] h (f_X5_mostOnLine_41 k19 k29 k41 v1 v2 v3 v4 v5 v6 h) := by
  unfold f_X5_mostOnLine_41
  refine Sim.iload 6 dX5_mostOnLine_41 rfl ?_
  refine Sim.iload_n 1 dX5_mostOnLine_43 rfl ?_
  refine Sim.icmp_ge 116 dX5_mostOnLine_44 rfl ?_ ?_
  · refine Sim.iload 5 dX5_mostOnLine_47 rfl ?_
    refine Sim.aload_n 0 dX5_mostOnLine_49 rfl ?_
    refine Sim.iload 4 dX5_mostOnLine_50 rfl ?_
    refine Sim.callV1I (d1 := 1) (s_X5_x v4 h) dX5_mostOnLine_52 ml_X5_74 mv_X5_x xO_X5 (Nat.le_of_ble_eq_true rfl) (Nat.le_of_ble_eq_true rfl) (Nat.le_of_ble_eq_true rfl) (fun x1 => ?_)
    refine Sim.aload_n 0 dX5_mostOnLine_55 rfl ?_
    refine Sim.iload_n 3 dX5_mostOnLine_56 rfl ?_
    refine Sim.callV1I (d1 := 1) (s_X5_x v3 x1.2) dX5_mostOnLine_57 ml_X5_74 mv_X5_x xO_X5 (Nat.le_of_ble_eq_true rfl) (Nat.le_of_ble_eq_true rfl) (Nat.le_of_ble_eq_true rfl) (fun x2 => ?_)
    refine Sim.isub dX5_mostOnLine_60 ?_
    refine Sim.aload_n 0 dX5_mostOnLine_61 rfl ?_
    refine Sim.iload 6 dX5_mostOnLine_62 rfl ?_
    refine Sim.callV1I (d1 := 1) (s_X5_y v6 x2.2) dX5_mostOnLine_64 ml_X5_77 mv_X5_y xO_X5 (Nat.le_of_ble_eq_true rfl) (Nat.le_of_ble_eq_true rfl) (Nat.le_of_ble_eq_true rfl) (fun x3 => ?_)
    refine Sim.aload_n 0 dX5_mostOnLine_67 rfl ?_
    refine Sim.iload_n 3 dX5_mostOnLine_68 rfl ?_
    refine Sim.callV1I (d1 := 1) (s_X5_y v3 x3.2) dX5_mostOnLine_69 ml_X5_77 mv_X5_y xO_X5 (Nat.le_of_ble_eq_true rfl) (Nat.le_of_ble_eq_true rfl) (Nat.le_of_ble_eq_true rfl) (fun x4 => ?_)
    refine Sim.isub dX5_mostOnLine_72 ?_
    refine Sim.imul dX5_mostOnLine_73 ?_
    refine Sim.aload_n 0 dX5_mostOnLine_74 rfl ?_
    refine Sim.iload 6 dX5_mostOnLine_75 rfl ?_
    refine Sim.callV1I (d1 := 1) (s_X5_x v6 x4.2) dX5_mostOnLine_77 ml_X5_74 mv_X5_x xO_X5 (Nat.le_of_ble_eq_true rfl) (Nat.le_of_ble_eq_true rfl) (Nat.le_of_ble_eq_true rfl) (fun x5 => ?_)
    refine Sim.aload_n 0 dX5_mostOnLine_80 rfl ?_
    refine Sim.iload_n 3 dX5_mostOnLine_81 rfl ?_
    refine Sim.callV1I (d1 := 1) (s_X5_x v3 x5.2) dX5_mostOnLine_82 ml_X5_74 mv_X5_x xO_X5 (Nat.le_of_ble_eq_true rfl) (Nat.le_of_ble_eq_true rfl) (Nat.le_of_ble_eq_true rfl) (fun x6 => ?_)
    refine Sim.isub dX5_mostOnLine_85 ?_
    refine Sim.aload_n 0 dX5_mostOnLine_86 rfl ?_
    refine Sim.iload 4 dX5_mostOnLine_87 rfl ?_
    refine Sim.callV1I (d1 := 1) (s_X5_y v4 x6.2) dX5_mostOnLine_89 ml_X5_77 mv_X5_y xO_X5 (Nat.le_of_ble_eq_true rfl) (Nat.le_of_ble_eq_true rfl) (Nat.le_of_ble_eq_true rfl) (fun x7 => ?_)
    refine Sim.aload_n 0 dX5_mostOnLine_92 rfl ?_
    refine Sim.iload_n 3 dX5_mostOnLine_93 rfl ?_
    refine Sim.callV1I (d1 := 1) (s_X5_y v3 x7.2) dX5_mostOnLine_94 ml_X5_77 mv_X5_y xO_X5 (Nat.le_of_ble_eq_true rfl) (Nat.le_of_ble_eq_true rfl) (Nat.le_of_ble_eq_true rfl) (fun x8 => ?_)
    refine Sim.isub dX5_mostOnLine_97 ?_
    refine Sim.imul dX5_mostOnLine_98 ?_
    refine Sim.icmp_ne 106 dX5_mostOnLine_99 rfl ?_ ?_
    · refine Sim.iconst (v := (1 : Int32)) dX5_mostOnLine_102 rfl ?_
      refine Sim.goto 107 dX5_mostOnLine_103 rfl ?_
      refine Sim.iadd dX5_mostOnLine_107 ?_
      refine Sim.lti (fun x9 => ?_)
      refine Sim.istore (L' := [(5, .int x9), (0, .ref 161), (1, .int v1), (2, .int v2), (3, .int v3), (4, .int v4), (6, .int v6)]) dX5_mostOnLine_108 (Nat.le_of_ble_eq_true rfl) rfl ?_
      refine Sim.iinc (L' := [(6, .int (v6 + (1 : Int32))), (5, .int x9), (0, .ref 161), (1, .int v1), (2, .int v2), (3, .int v3), (4, .int v4)]) 6 dX5_mostOnLine_110 rfl rfl (Nat.le_of_ble_eq_true rfl) rfl ?_
      refine Sim.goto 41 dX5_mostOnLine_113 rfl ?_
      refine Sim.locs [2, 3, 4, 5, 6, 1, 0] rfl ?_
      exact H41 (v1, v2, v3, v4, x9, (v6 + (1 : Int32)), x8.2)
    · refine Sim.iconst (v := (0 : Int32)) dX5_mostOnLine_106 rfl ?_
      refine Sim.iadd dX5_mostOnLine_107 ?_
      refine Sim.lti (fun x10 => ?_)
      refine Sim.istore (L' := [(5, .int x10), (0, .ref 161), (1, .int v1), (2, .int v2), (3, .int v3), (4, .int v4), (6, .int v6)]) dX5_mostOnLine_108 (Nat.le_of_ble_eq_true rfl) rfl ?_
      refine Sim.iinc (L' := [(6, .int (v6 + (1 : Int32))), (5, .int x10), (0, .ref 161), (1, .int v1), (2, .int v2), (3, .int v3), (4, .int v4)]) 6 dX5_mostOnLine_110 rfl rfl (Nat.le_of_ble_eq_true rfl) rfl ?_
      refine Sim.goto 41 dX5_mostOnLine_113 rfl ?_
      refine Sim.locs [2, 3, 4, 5, 6, 1, 0] rfl ?_
      exact H41 (v1, v2, v3, v4, x10, (v6 + (1 : Int32)), x8.2)
  · refine Sim.iload_n 2 dX5_mostOnLine_116 rfl ?_
    refine Sim.iload 5 dX5_mostOnLine_117 rfl ?_
    refine Sim.mmax dX5_mostOnLine_119 ml_X5_47 ms_max ms_Math mc_max (Nat.le_of_ble_eq_true rfl) (Nat.le_of_ble_eq_true rfl) ?_
    refine Sim.lti (fun x11 => ?_)
    refine Sim.istore_n (L' := [(2, .int x11), (0, .ref 161), (1, .int v1), (3, .int v3), (4, .int v4), (5, .int v5), (6, .int v6)]) dX5_mostOnLine_122 (Nat.le_of_ble_eq_true rfl) rfl ?_
    refine Sim.iinc (L' := [(4, .int (v4 + (1 : Int32))), (2, .int x11), (0, .ref 161), (1, .int v1), (3, .int v3), (5, .int v5), (6, .int v6)]) 4 dX5_mostOnLine_123 rfl rfl (Nat.le_of_ble_eq_true rfl) rfl ?_
    refine Sim.goto 29 dX5_mostOnLine_126 rfl ?_
    refine Sim.locs [2, 3, 1, 4, 0] rfl ?_
    exact H29 (v1, x11, v3, (v4 + (1 : Int32)), h)
def f_X5_mostOnLine_41_lp  (k19 : Int32 × Int32 × Int32 × zHp → Option (Int32 × zHp)) (k29 : Int32 × Int32 × Int32 × Int32 × zHp → Option (Int32 × zHp)) (n : Nat) (v : Int32 × Int32 × Int32 × Int32 × Int32 × Int32 × zHp) : Option (Int32 × zHp) := zlp (fun k41 v => f_X5_mostOnLine_41 k19 k29 k41 v.1 v.2.1 v.2.2.1 v.2.2.2.1 v.2.2.2.2.1 v.2.2.2.2.2.1 v.2.2.2.2.2.2) n v
theorem f_X5_mostOnLine_41_ls  (k19 : Int32 × Int32 × Int32 × zHp → Option (Int32 × zHp)) (H19 : ∀ v : Int32 × Int32 × Int32 × zHp, Sim wX mX5_mostOnLine 2 rI 19 [(0, .ref 161), (1, .int v.1), (2, .int v.2.1), (3, .int v.2.2.1)] [] v.2.2.2 (k19 v)) (k29 : Int32 × Int32 × Int32 × Int32 × zHp → Option (Int32 × zHp)) (H29 : ∀ v : Int32 × Int32 × Int32 × Int32 × zHp, Sim wX mX5_mostOnLine 2 rI 29 [(0, .ref 161), (1, .int v.1), (2, .int v.2.1), (3, .int v.2.2.1), (4, .int v.2.2.2.1)] [] v.2.2.2.2 (k29 v)) (n : Nat) (v : Int32 × Int32 × Int32 × Int32 × Int32 × Int32 × zHp) : Sim wX mX5_mostOnLine 2 rI 41 [(0, .ref 161), (1, .int v.1), (2, .int v.2.1), (3, .int v.2.2.1), (4, .int v.2.2.2.1), (5, .int v.2.2.2.2.1), (6, .int v.2.2.2.2.2.1)] [] v.2.2.2.2.2.2 (f_X5_mostOnLine_41_lp k19 k29 n v) :=
  Sim.lp (V := Int32 × Int32 × Int32 × Int32 × Int32 × Int32 × zHp) (Lf := fun v => [(0, .ref 161), (1, .int v.1), (2, .int v.2.1), (3, .int v.2.2.1), (4, .int v.2.2.2.1), (5, .int v.2.2.2.2.1), (6, .int v.2.2.2.2.2.1)]) (sf := fun v => []) (hf := fun v => v.2.2.2.2.2.2) (fun k41 H41 v => f_X5_mostOnLine_41_s k19 H19 k29 H29 k41 H41 v.1 v.2.1 v.2.2.1 v.2.2.2.1 v.2.2.2.2.1 v.2.2.2.2.2.1 v.2.2.2.2.2.2) n v
def f_X5_mostOnLine_29  (k19 : Int32 × Int32 × Int32 × zHp → Option (Int32 × zHp)) (k29 : Int32 × Int32 × Int32 × Int32 × zHp → Option (Int32 × zHp)) (v1 : Int32) (v2 : Int32) (v3 : Int32) (v4 : Int32) (h : zHp) : Option (Int32 × zHp) := (if v4 < v1 then f_X5_mostOnLine_41_lp k19 k29 zN (v1, v2, v3, v4, (0 : Int32), (0 : Int32), h) else k19 (v1, v2, (v3 + (1 : Int32)), h))
set_option maxHeartbeats 4000000 in
set_option maxRecDepth 100000 in
theorem f_X5_mostOnLine_29_s  (k19 : Int32 × Int32 × Int32 × zHp → Option (Int32 × zHp)) (H19 : ∀ v : Int32 × Int32 × Int32 × zHp, Sim wX mX5_mostOnLine 2 rI 19 [(0, .ref 161), (1, .int v.1), (2, .int v.2.1), (3, .int v.2.2.1)] [] v.2.2.2 (k19 v)) (k29 : Int32 × Int32 × Int32 × Int32 × zHp → Option (Int32 × zHp)) (H29 : ∀ v : Int32 × Int32 × Int32 × Int32 × zHp, Sim wX mX5_mostOnLine 2 rI 29 [(0, .ref 161), (1, .int v.1), (2, .int v.2.1), (3, .int v.2.2.1), (4, .int v.2.2.2.1)] [] v.2.2.2.2 (k29 v)) (v1 : Int32) (v2 : Int32) (v3 : Int32) (v4 : Int32) (h : zHp) : Sim wX mX5_mostOnLine 2 rI 29 [(0, .ref 161), (1, .int v1), (2, .int v2), (3, .int v3), (4, .int v4)] [] h (f_X5_mostOnLine_29 k19 k29 v1 v2 v3 v4 h) := by
  unfold f_X5_mostOnLine_29
  refine Sim.iload 4 dX5_mostOnLine_29 rfl ?_
  refine Sim.iload_n 1 dX5_mostOnLine_31 rfl ?_
  refine Sim.icmp_ge 129 dX5_mostOnLine_32 rfl ?_ ?_
  · refine Sim.iconst (v := (0 : Int32)) dX5_mostOnLine_35 rfl ?_
    refine Sim.istore (L' := [(5, .int (0 : Int32)), (0, .ref 161), (1, .int v1), (2, .int v2), (3, .int v3), (4, .int v4)]) dX5_mostOnLine_36 (Nat.le_of_ble_eq_true rfl) rfl ?_
    refine Sim.iconst (v := (0 : Int32)) dX5_mostOnLine_38 rfl ?_
    refine Sim.istore (L' := [(6, .int (0 : Int32)), (5, .int (0 : Int32)), (0, .ref 161), (1, .int v1), (2, .int v2), (3, .int v3), (4, .int v4)]) dX5_mostOnLine_39 (Nat.le_of_ble_eq_true rfl) rfl ?_
    refine Sim.locs [2, 3, 4, 5, 6, 1, 0] rfl ?_
    exact f_X5_mostOnLine_41_ls k19 H19 k29 H29 zN (v1, v2, v3, v4, (0 : Int32), (0 : Int32), h)
  · refine Sim.iinc (L' := [(3, .int (v3 + (1 : Int32))), (0, .ref 161), (1, .int v1), (2, .int v2), (4, .int v4)]) 3 dX5_mostOnLine_129 rfl rfl (Nat.le_of_ble_eq_true rfl) rfl ?_
    refine Sim.goto 19 dX5_mostOnLine_132 rfl ?_
    refine Sim.locs [1, 2, 3, 0] rfl ?_
    exact H19 (v1, v2, (v3 + (1 : Int32)), h)
def f_X5_mostOnLine_29_lp  (k19 : Int32 × Int32 × Int32 × zHp → Option (Int32 × zHp)) (n : Nat) (v : Int32 × Int32 × Int32 × Int32 × zHp) : Option (Int32 × zHp) := zlp (fun k29 v => f_X5_mostOnLine_29 k19 k29 v.1 v.2.1 v.2.2.1 v.2.2.2.1 v.2.2.2.2) n v
theorem f_X5_mostOnLine_29_ls  (k19 : Int32 × Int32 × Int32 × zHp → Option (Int32 × zHp)) (H19 : ∀ v : Int32 × Int32 × Int32 × zHp, Sim wX mX5_mostOnLine 2 rI 19 [(0, .ref 161), (1, .int v.1), (2, .int v.2.1), (3, .int v.2.2.1)] [] v.2.2.2 (k19 v)) (n : Nat) (v : Int32 × Int32 × Int32 × Int32 × zHp) : Sim wX mX5_mostOnLine 2 rI 29 [(0, .ref 161), (1, .int v.1), (2, .int v.2.1), (3, .int v.2.2.1), (4, .int v.2.2.2.1)] [] v.2.2.2.2 (f_X5_mostOnLine_29_lp k19 n v) :=
  Sim.lp (V := Int32 × Int32 × Int32 × Int32 × zHp) (Lf := fun v => [(0, .ref 161), (1, .int v.1), (2, .int v.2.1), (3, .int v.2.2.1), (4, .int v.2.2.2.1)]) (sf := fun v => []) (hf := fun v => v.2.2.2.2) (fun k29 H29 v => f_X5_mostOnLine_29_s k19 H19 k29 H29 v.1 v.2.1 v.2.2.1 v.2.2.2.1 v.2.2.2.2) n v
def f_X5_mostOnLine_19  (k19 : Int32 × Int32 × Int32 × zHp → Option (Int32 × zHp)) (v1 : Int32) (v2 : Int32) (v3 : Int32) (h : zHp) : Option (Int32 × zHp) := (if v3 < v1 then zlt (v3 + (1 : Int32)) fun x1 => f_X5_mostOnLine_29_lp k19 zN (v1, v2, v3, x1, h) else some (v2, h))
set_option maxHeartbeats 4000000 in
set_option maxRecDepth 100000 in
theorem f_X5_mostOnLine_19_s  (k19 : Int32 × Int32 × Int32 × zHp → Option (Int32 × zHp)) (H19 : ∀ v : Int32 × Int32 × Int32 × zHp, Sim wX mX5_mostOnLine 2 rI 19 [(0, .ref 161), (1, .int v.1), (2, .int v.2.1), (3, .int v.2.2.1)] [] v.2.2.2 (k19 v)) (v1 : Int32) (v2 : Int32) (v3 : Int32) (h : zHp) : Sim wX mX5_mostOnLine 2 rI 19 [(0, .ref 161), (1, .int v1), (2, .int v2), (3, .int v3)] [] h (f_X5_mostOnLine_19 k19 v1 v2 v3 h) := by
  unfold f_X5_mostOnLine_19
  refine Sim.iload_n 3 dX5_mostOnLine_19 rfl ?_
  refine Sim.iload_n 1 dX5_mostOnLine_20 rfl ?_
  refine Sim.icmp_ge 135 dX5_mostOnLine_21 rfl ?_ ?_
  · refine Sim.iload_n 3 dX5_mostOnLine_24 rfl ?_
    refine Sim.iconst (v := (1 : Int32)) dX5_mostOnLine_25 rfl ?_
    refine Sim.iadd dX5_mostOnLine_26 ?_
    refine Sim.lti (fun x1 => ?_)
    refine Sim.istore (L' := [(4, .int x1), (0, .ref 161), (1, .int v1), (2, .int v2), (3, .int v3)]) dX5_mostOnLine_27 (Nat.le_of_ble_eq_true rfl) rfl ?_
    refine Sim.locs [1, 2, 3, 4, 0] rfl ?_
    exact f_X5_mostOnLine_29_ls k19 H19 zN (v1, v2, v3, x1, h)
  · refine Sim.iload_n 2 dX5_mostOnLine_135 rfl ?_
    exact Sim.iret dX5_mostOnLine_136 rfl
def f_X5_mostOnLine_19_lp   (n : Nat) (v : Int32 × Int32 × Int32 × zHp) : Option (Int32 × zHp) := zlp (fun k19 v => f_X5_mostOnLine_19 k19 v.1 v.2.1 v.2.2.1 v.2.2.2) n v
theorem f_X5_mostOnLine_19_ls  (n : Nat) (v : Int32 × Int32 × Int32 × zHp) : Sim wX mX5_mostOnLine 2 rI 19 [(0, .ref 161), (1, .int v.1), (2, .int v.2.1), (3, .int v.2.2.1)] [] v.2.2.2 (f_X5_mostOnLine_19_lp n v) :=
  Sim.lp (V := Int32 × Int32 × Int32 × zHp) (Lf := fun v => [(0, .ref 161), (1, .int v.1), (2, .int v.2.1), (3, .int v.2.2.1)]) (sf := fun v => []) (hf := fun v => v.2.2.2) (fun k19 H19 v => f_X5_mostOnLine_19_s k19 H19 v.1 v.2.1 v.2.2.1 v.2.2.2) n v
def f_X5_mostOnLine   (h : zHp) : Option (Int32 × zHp) := zlt (h 31 1) fun x1 => zlt (if (1 : Int32) < x1 then (1 : Int32) else x1) fun x2 => f_X5_mostOnLine_19_lp  zN (x1, x2, (0 : Int32), h)
set_option maxHeartbeats 4000000 in
set_option maxRecDepth 100000 in
theorem s_X5_mostOnLine   (h : zHp) : Fn wX mX5_mostOnLine 2 rI [.ref 161] h (f_X5_mostOnLine  h) := by
  refine Fn.of rfl (Nat.le_of_ble_eq_true rfl) ?_
  unfold f_X5_mostOnLine
  refine Sim.aload_n 0 dX5_mostOnLine_0 rfl ?_
  refine Sim.getR (j := 26) fl_X5_24 dX5_mostOnLine_1 xR_161_0 ?_
  refine Sim.getR (j := 31) fl_X5_68 dX5_mostOnLine_4 (xR_X8_2 _ xL_X8_26) ?_
  refine Sim.getI fl_X5_34 dX5_mostOnLine_7 (xI_X7_1 _ xL_X7_31) ?_
  refine Sim.lti (fun x1 => ?_)
  refine Sim.istore_n (L' := [(1, .int x1), (0, .ref 161)]) dX5_mostOnLine_10 (Nat.le_of_ble_eq_true rfl) rfl ?_
  refine Sim.iload_n 0 dX5_mostOnLine_11 rfl ?_
  refine Sim.iconst (v := (1 : Int32)) dX5_mostOnLine_12 rfl ?_
  refine Sim.mmin dX5_mostOnLine_13 ml_X5_71 ms_min ms_Math mc_min (Nat.le_of_ble_eq_true rfl) (Nat.le_of_ble_eq_true rfl) ?_
  refine Sim.lti (fun x2 => ?_)
  refine Sim.istore_n (L' := [(2, .int x2), (1, .int x1), (0, .ref 161)]) dX5_mostOnLine_16 (Nat.le_of_ble_eq_true rfl) rfl ?_
  refine Sim.iconst (v := (0 : Int32)) dX5_mostOnLine_17 rfl ?_
  refine Sim.istore_n (L' := [(3, .int (0 : Int32)), (2, .int x2), (1, .int x1), (0, .ref 161)]) dX5_mostOnLine_18 (Nat.le_of_ble_eq_true rfl) rfl ?_
  refine Sim.locs [3, 2, 1, 0] rfl ?_
  exact f_X5_mostOnLine_19_ls  zN (x1, x2, (0 : Int32), h)
theorem mv_X5_mostOnLine : zMV mX5_mostOnLine 0 := ⟨⟨zTb_in 1105 (by decide +kernel) rfl, zTb_in 147 (by decide +kernel) rfl, ⟨by decide +kernel, by decide +kernel⟩, by decide +kernel⟩, zTb_in 1103 (by decide +kernel) rfl, zTb_in 1104 (by decide +kernel) rfl⟩
-- ===== RockingPorch$Puzzles.distance(Z)I
abbrev mX5_distance : zMt := (yX5_distance, cX5_distance, 8, some .int)
theorem dX5_distance_0 : decode cX5_distance 0 = .ok (.iconst (-1), 1) := by decide +kernel
theorem dX5_distance_1 : decode cX5_distance 1 = .ok (.istore_n 2, 1) := by decide +kernel
theorem dX5_distance_2 : decode cX5_distance 2 = .ok (.iconst 0, 1) := by decide +kernel
theorem dX5_distance_3 : decode cX5_distance 3 = .ok (.istore_n 3, 1) := by decide +kernel
theorem dX5_distance_4 : decode cX5_distance 4 = .ok (.iload_n 3, 1) := by decide +kernel
theorem dX5_distance_5 : decode cX5_distance 5 = .ok (.aload_n 0, 1) := by decide +kernel
theorem dX5_distance_6 : decode cX5_distance 6 = .ok (.getfield 24, 3) := by decide +kernel
theorem dX5_distance_9 : decode cX5_distance 9 = .ok (.getfield 68, 3) := by decide +kernel
theorem dX5_distance_12 : decode cX5_distance 12 = .ok (.getfield 34, 3) := by decide +kernel
theorem dX5_distance_15 : decode cX5_distance 15 = .ok (.if_icmp .ge 103, 3) := by decide +kernel
theorem dX5_distance_18 : decode cX5_distance 18 = .ok (.iload_n 3, 1) := by decide +kernel
theorem dX5_distance_19 : decode cX5_distance 19 = .ok (.iconst 1, 1) := by decide +kernel
theorem dX5_distance_20 : decode cX5_distance 20 = .ok (.iadd, 1) := by decide +kernel
theorem dX5_distance_21 : decode cX5_distance 21 = .ok (.istore 4, 2) := by decide +kernel
theorem dX5_distance_23 : decode cX5_distance 23 = .ok (.iload 4, 2) := by decide +kernel
theorem dX5_distance_25 : decode cX5_distance 25 = .ok (.aload_n 0, 1) := by decide +kernel
theorem dX5_distance_26 : decode cX5_distance 26 = .ok (.getfield 24, 3) := by decide +kernel
theorem dX5_distance_29 : decode cX5_distance 29 = .ok (.getfield 68, 3) := by decide +kernel
theorem dX5_distance_32 : decode cX5_distance 32 = .ok (.getfield 34, 3) := by decide +kernel
theorem dX5_distance_35 : decode cX5_distance 35 = .ok (.if_icmp .ge 77, 3) := by decide +kernel
theorem dX5_distance_38 : decode cX5_distance 38 = .ok (.aload_n 0, 1) := by decide +kernel
theorem dX5_distance_39 : decode cX5_distance 39 = .ok (.iload 4, 2) := by decide +kernel
theorem dX5_distance_41 : decode cX5_distance 41 = .ok (.invokevirtual 74, 3) := by decide +kernel
theorem dX5_distance_44 : decode cX5_distance 44 = .ok (.aload_n 0, 1) := by decide +kernel
theorem dX5_distance_45 : decode cX5_distance 45 = .ok (.iload_n 3, 1) := by decide +kernel
theorem dX5_distance_46 : decode cX5_distance 46 = .ok (.invokevirtual 74, 3) := by decide +kernel
theorem dX5_distance_49 : decode cX5_distance 49 = .ok (.isub, 1) := by decide +kernel
theorem dX5_distance_50 : decode cX5_distance 50 = .ok (.istore 5, 2) := by decide +kernel
theorem dX5_distance_52 : decode cX5_distance 52 = .ok (.aload_n 0, 1) := by decide +kernel
theorem dX5_distance_53 : decode cX5_distance 53 = .ok (.iload 4, 2) := by decide +kernel
theorem dX5_distance_55 : decode cX5_distance 55 = .ok (.invokevirtual 77, 3) := by decide +kernel
theorem dX5_distance_58 : decode cX5_distance 58 = .ok (.aload_n 0, 1) := by decide +kernel
theorem dX5_distance_59 : decode cX5_distance 59 = .ok (.iload_n 3, 1) := by decide +kernel
theorem dX5_distance_60 : decode cX5_distance 60 = .ok (.invokevirtual 77, 3) := by decide +kernel
theorem dX5_distance_63 : decode cX5_distance 63 = .ok (.isub, 1) := by decide +kernel
theorem dX5_distance_64 : decode cX5_distance 64 = .ok (.istore 6, 2) := by decide +kernel
theorem dX5_distance_66 : decode cX5_distance 66 = .ok (.iload 5, 2) := by decide +kernel
theorem dX5_distance_68 : decode cX5_distance 68 = .ok (.iload 5, 2) := by decide +kernel
theorem dX5_distance_70 : decode cX5_distance 70 = .ok (.imul, 1) := by decide +kernel
theorem dX5_distance_71 : decode cX5_distance 71 = .ok (.iload 6, 2) := by decide +kernel
theorem dX5_distance_73 : decode cX5_distance 73 = .ok (.iload 6, 2) := by decide +kernel
theorem dX5_distance_75 : decode cX5_distance 75 = .ok (.imul, 1) := by decide +kernel
theorem dX5_distance_76 : decode cX5_distance 76 = .ok (.iadd, 1) := by decide +kernel
theorem dX5_distance_77 : decode cX5_distance 77 = .ok (.istore 7, 2) := by decide +kernel
theorem dX5_distance_79 : decode cX5_distance 79 = .ok (.iload_n 2, 1) := by decide +kernel
theorem dX5_distance_80 : decode cX5_distance 80 = .ok (.iconst (-1), 1) := by decide +kernel
theorem dX5_distance_81 : decode cX5_distance 81 = .ok (.if_icmp .eq 22, 3) := by decide +kernel
theorem dX5_distance_84 : decode cX5_distance 84 = .ok (.iload_n 1, 1) := by decide +kernel
theorem dX5_distance_85 : decode cX5_distance 85 = .ok (.ifCond .eq 12, 3) := by decide +kernel
theorem dX5_distance_88 : decode cX5_distance 88 = .ok (.iload 7, 2) := by decide +kernel
theorem dX5_distance_90 : decode cX5_distance 90 = .ok (.iload_n 2, 1) := by decide +kernel
theorem dX5_distance_91 : decode cX5_distance 91 = .ok (.if_icmp .le 15, 3) := by decide +kernel
theorem dX5_distance_94 : decode cX5_distance 94 = .ok (.goto 9, 3) := by decide +kernel
theorem dX5_distance_97 : decode cX5_distance 97 = .ok (.iload 7, 2) := by decide +kernel
theorem dX5_distance_99 : decode cX5_distance 99 = .ok (.iload_n 2, 1) := by decide +kernel
theorem dX5_distance_100 : decode cX5_distance 100 = .ok (.if_icmp .ge 6, 3) := by decide +kernel
theorem dX5_distance_103 : decode cX5_distance 103 = .ok (.iload 7, 2) := by decide +kernel
theorem dX5_distance_105 : decode cX5_distance 105 = .ok (.istore_n 2, 1) := by decide +kernel
theorem dX5_distance_106 : decode cX5_distance 106 = .ok (.iinc 4 1, 3) := by decide +kernel
theorem dX5_distance_109 : decode cX5_distance 109 = .ok (.goto (-86), 3) := by decide +kernel
theorem dX5_distance_112 : decode cX5_distance 112 = .ok (.iinc 3 1, 3) := by decide +kernel
theorem dX5_distance_115 : decode cX5_distance 115 = .ok (.goto (-111), 3) := by decide +kernel
theorem dX5_distance_118 : decode cX5_distance 118 = .ok (.iload_n 2, 1) := by decide +kernel
theorem dX5_distance_119 : decode cX5_distance 119 = .ok (.ireturn, 1) := by decide +kernel
def f_X5_distance_23  (k4 : Int32 × Int32 × Int32 × zHp → Option (Int32 × zHp)) (k23 : Int32 × Int32 × Int32 × Int32 × zHp → Option (Int32 × zHp)) (v1 : Int32) (v2 : Int32) (v3 : Int32) (v4 : Int32) (h : zHp) : Option (Int32 × zHp) := (if v4 < (h 31 1) then (f_X5_x v4 h).bind fun x1 => (f_X5_x v3 x1.2).bind fun x2 => zlt (x1.1 - x2.1) fun x3 => (f_X5_y v4 x2.2).bind fun x4 => (f_X5_y v3 x4.2).bind fun x5 => zlt (x4.1 - x5.1) fun x6 => zlt ((x3 * x3) + (x6 * x6)) fun x7 => (if v2 = (-1 : Int32) then k23 (v1, x7, v3, (v4 + (1 : Int32)), x5.2) else (if v1 = 0 then (if x7 < v2 then k23 (v1, x7, v3, (v4 + (1 : Int32)), x5.2) else k23 (v1, v2, v3, (v4 + (1 : Int32)), x5.2)) else (if v2 < x7 then k23 (v1, x7, v3, (v4 + (1 : Int32)), x5.2) else k23 (v1, v2, v3, (v4 + (1 : Int32)), x5.2)))) else k4 (v1, v2, (v3 + (1 : Int32)), h))
set_option maxHeartbeats 4000000 in
set_option maxRecDepth 100000 in
theorem f_X5_distance_23_s  (k4 : Int32 × Int32 × Int32 × zHp → Option (Int32 × zHp)) (H4 : ∀ v : Int32 × Int32 × Int32 × zHp, Sim wX mX5_distance 2 rI 4 [(0, .ref 161), (1, .int v.1), (2, .int v.2.1), (3, .int v.2.2.1)] [] v.2.2.2 (k4 v)) (k23 : Int32 × Int32 × Int32 × Int32 × zHp → Option (Int32 × zHp)) (H23 : ∀ v : Int32 × Int32 × Int32 × Int32 × zHp, Sim wX mX5_distance 2 rI 23 [(0, .ref 161), (1, .int v.1), (2, .int v.2.1), (3, .int v.2.2.1), (4, .int v.2.2.2.1)] [] v.2.2.2.2 (k23 v)) (v1 : Int32) (v2 : Int32) (v3 : Int32) (v4 : Int32) (h : zHp) : Sim wX mX5_distance 2 rI 23 [(0, .ref 161), (1, .int v1), (2, .int v2), (3, .int v3), (4, .int v4)] [] h (f_X5_distance_23 k4 k23 v1 v2 v3 v4 h) := by
  unfold f_X5_distance_23
  refine Sim.iload 4 dX5_distance_23 rfl ?_
  refine Sim.aload_n 0 dX5_distance_25 rfl ?_
  refine Sim.getR (j := 26) fl_X5_24 dX5_distance_26 xR_161_0 ?_
  refine Sim.getR (j := 31) fl_X5_68 dX5_distance_29 (xR_X8_2 _ xL_X8_26) ?_
  refine Sim.getI fl_X5_34 dX5_distance_32 (xI_X7_1 _ xL_X7_31) ?_
  refine Sim.icmp_ge 112 dX5_distance_35 rfl ?_ ?_
  · refine Sim.aload_n 0 dX5_distance_38 rfl ?_
    refine Sim.iload 4 dX5_distance_39 rfl ?_
    refine Sim.callV1I (d1 := 1) (s_X5_x v4 h) dX5_distance_41 ml_X5_74 mv_X5_x xO_X5 (Nat.le_of_ble_eq_true rfl) (Nat.le_of_ble_eq_true rfl) (Nat.le_of_ble_eq_true rfl) (fun x1 => ?_)
    refine Sim.aload_n 0 dX5_distance_44 rfl ?_
    refine Sim.iload_n 3 dX5_distance_45 rfl ?_
    refine Sim.callV1I (d1 := 1) (s_X5_x v3 x1.2) dX5_distance_46 ml_X5_74 mv_X5_x xO_X5 (Nat.le_of_ble_eq_true rfl) (Nat.le_of_ble_eq_true rfl) (Nat.le_of_ble_eq_true rfl) (fun x2 => ?_)
    refine Sim.isub dX5_distance_49 ?_
    refine Sim.lti (fun x3 => ?_)
    refine Sim.istore (L' := [(5, .int x3), (0, .ref 161), (1, .int v1), (2, .int v2), (3, .int v3), (4, .int v4)]) dX5_distance_50 (Nat.le_of_ble_eq_true rfl) rfl ?_
    refine Sim.aload_n 1 dX5_distance_52 rfl ?_
    refine Sim.iload 5 dX5_distance_53 rfl ?_
    refine Sim.callV1I (d1 := 1) (s_X5_y v4 x2.2) dX5_distance_55 ml_X5_77 mv_X5_y xO_X5 (Nat.le_of_ble_eq_true rfl) (Nat.le_of_ble_eq_true rfl) (Nat.le_of_ble_eq_true rfl) (fun x4 => ?_)
    refine Sim.aload_n 1 dX5_distance_58 rfl ?_
    refine Sim.iload_n 4 dX5_distance_59 rfl ?_
    refine Sim.callV1I (d1 := 1) (s_X5_y v3 x4.2) dX5_distance_60 ml_X5_77 mv_X5_y xO_X5 (Nat.le_of_ble_eq_true rfl) (Nat.le_of_ble_eq_true rfl) (Nat.le_of_ble_eq_true rfl) (fun x5 => ?_)
    refine Sim.isub dX5_distance_63 ?_
    refine Sim.lti (fun x6 => ?_)
    refine Sim.istore (L' := [(6, .int x6), (5, .int x3), (0, .ref 161), (1, .int v1), (2, .int v2), (3, .int v3), (4, .int v4)]) dX5_distance_64 (Nat.le_of_ble_eq_true rfl) rfl ?_
    refine Sim.iload 1 dX5_distance_66 rfl ?_
    refine Sim.iload 1 dX5_distance_68 rfl ?_
    refine Sim.imul dX5_distance_70 ?_
    refine Sim.iload 0 dX5_distance_71 rfl ?_
    refine Sim.iload 0 dX5_distance_73 rfl ?_
    refine Sim.imul dX5_distance_75 ?_
    refine Sim.iadd dX5_distance_76 ?_
    refine Sim.lti (fun x7 => ?_)
    refine Sim.istore (L' := [(7, .int x7), (6, .int x6), (5, .int x3), (0, .ref 161), (1, .int v1), (2, .int v2), (3, .int v3), (4, .int v4)]) dX5_distance_77 (Nat.le_of_ble_eq_true rfl) rfl ?_
    refine Sim.iload_n 5 dX5_distance_79 rfl ?_
    refine Sim.iconst (v := (-1 : Int32)) dX5_distance_80 rfl ?_
    refine Sim.icmp_eq 103 dX5_distance_81 rfl ?_ ?_
    · refine Sim.iload 0 dX5_distance_103 rfl ?_
      refine Sim.istore_n (L' := [(2, .int x7), (7, .int x7), (6, .int x6), (5, .int x3), (0, .ref 161), (1, .int v1), (3, .int v3), (4, .int v4)]) dX5_distance_105 (Nat.le_of_ble_eq_true rfl) rfl ?_
      refine Sim.iinc (L' := [(4, .int (v4 + (1 : Int32))), (2, .int x7), (7, .int x7), (6, .int x6), (5, .int x3), (0, .ref 161), (1, .int v1), (3, .int v3)]) 7 dX5_distance_106 rfl rfl (Nat.le_of_ble_eq_true rfl) rfl ?_
      refine Sim.goto 23 dX5_distance_109 rfl ?_
      refine Sim.locs [5, 6, 1, 7, 0] rfl ?_
      exact H23 (v1, x7, v3, (v4 + (1 : Int32)), x5.2)
    · refine Sim.iload_n 4 dX5_distance_84 rfl ?_
      refine Sim.if_eq 97 dX5_distance_85 rfl ?_ ?_
      · refine Sim.iload 0 dX5_distance_97 rfl ?_
        refine Sim.iload_n 5 dX5_distance_99 rfl ?_
        refine Sim.icmp_ge 106 dX5_distance_100 rfl ?_ ?_
        · refine Sim.iload 0 dX5_distance_103 rfl ?_
          refine Sim.istore_n (L' := [(2, .int x7), (7, .int x7), (6, .int x6), (5, .int x3), (0, .ref 161), (1, .int v1), (3, .int v3), (4, .int v4)]) dX5_distance_105 (Nat.le_of_ble_eq_true rfl) rfl ?_
          refine Sim.iinc (L' := [(4, .int (v4 + (1 : Int32))), (2, .int x7), (7, .int x7), (6, .int x6), (5, .int x3), (0, .ref 161), (1, .int v1), (3, .int v3)]) 7 dX5_distance_106 rfl rfl (Nat.le_of_ble_eq_true rfl) rfl ?_
          refine Sim.goto 23 dX5_distance_109 rfl ?_
          refine Sim.locs [5, 6, 1, 7, 0] rfl ?_
          exact H23 (v1, x7, v3, (v4 + (1 : Int32)), x5.2)
        · refine Sim.iinc (L' := [(4, .int (v4 + (1 : Int32))), (7, .int x7), (6, .int x6), (5, .int x3), (0, .ref 161), (1, .int v1), (2, .int v2), (3, .int v3)]) 7 dX5_distance_106 rfl rfl (Nat.le_of_ble_eq_true rfl) rfl ?_
          refine Sim.goto 23 dX5_distance_109 rfl ?_
          refine Sim.locs [4, 5, 6, 7, 0] rfl ?_
          exact H23 (v1, v2, v3, (v4 + (1 : Int32)), x5.2)
      · refine Sim.iload 0 dX5_distance_88 rfl ?_
        refine Sim.iload_n 5 dX5_distance_90 rfl ?_
        refine Sim.icmp_le 106 dX5_distance_91 rfl ?_ ?_
        · refine Sim.goto 103 dX5_distance_94 rfl ?_
          refine Sim.iload 0 dX5_distance_103 rfl ?_
          refine Sim.istore_n (L' := [(2, .int x7), (7, .int x7), (6, .int x6), (5, .int x3), (0, .ref 161), (1, .int v1), (3, .int v3), (4, .int v4)]) dX5_distance_105 (Nat.le_of_ble_eq_true rfl) rfl ?_
          refine Sim.iinc (L' := [(4, .int (v4 + (1 : Int32))), (2, .int x7), (7, .int x7), (6, .int x6), (5, .int x3), (0, .ref 161), (1, .int v1), (3, .int v3)]) 7 dX5_distance_106 rfl rfl (Nat.le_of_ble_eq_true rfl) rfl ?_
          refine Sim.goto 23 dX5_distance_109 rfl ?_
          refine Sim.locs [5, 6, 1, 7, 0] rfl ?_
          exact H23 (v1, x7, v3, (v4 + (1 : Int32)), x5.2)
        · refine Sim.iinc (L' := [(4, .int (v4 + (1 : Int32))), (7, .int x7), (6, .int x6), (5, .int x3), (0, .ref 161), (1, .int v1), (2, .int v2), (3, .int v3)]) 7 dX5_distance_106 rfl rfl (Nat.le_of_ble_eq_true rfl) rfl ?_
          refine Sim.goto 23 dX5_distance_109 rfl ?_
          refine Sim.locs [4, 5, 6, 7, 0] rfl ?_
          exact H23 (v1, v2, v3, (v4 + (1 : Int32)), x5.2)
  · refine Sim.iinc (L' := [(3, .int (v3 + (1 : Int32))), (0, .ref 161), (1, .int v1), (2, .int v2), (4, .int v4)]) 3 dX5_distance_112 rfl rfl (Nat.le_of_ble_eq_true rfl) rfl ?_
    refine Sim.goto 4 dX5_distance_115 rfl ?_
    refine Sim.locs [1, 2, 3, 0] rfl ?_
    exact H4 (v1, v2, (v3 + (1 : Int32)), h)
def f_X5_distance_23_lp  (k4 : Int32 × Int32 × Int32 × zHp → Option (Int32 × zHp)) (n : Nat) (v : Int32 × Int32 × Int32 × Int32 × zHp) : Option (Int32 × zHp) := zlp (fun k23 v => f_X5_distance_23 k4 k23 v.1 v.2.1 v.2.2.1 v.2.2.2.1 v.2.2.2.2) n v
theorem f_X5_distance_23_ls  (k4 : Int32 × Int32 × Int32 × zHp → Option (Int32 × zHp)) (H4 : ∀ v : Int32 × Int32 × Int32 × zHp, Sim wX mX5_distance 2 rI 4 [(0, .ref 161), (1, .int v.1), (2, .int v.2.1), (3, .int v.2.2.1)] [] v.2.2.2 (k4 v)) (n : Nat) (v : Int32 × Int32 × Int32 × Int32 × zHp) : Sim wX mX5_distance 2 rI 23 [(0, .ref 161), (1, .int v.1), (2, .int v.2.1), (3, .int v.2.2.1), (4, .int v.2.2.2.1)] [] v.2.2.2.2 (f_X5_distance_23_lp k4 n v) :=
  Sim.lp (V := Int32 × Int32 × Int32 × Int32 × zHp) (Lf := fun v => [(0, .ref 161), (1, .int v.1), (2, .int v.2.1), (3, .int v.2.2.1), (4, .int v.2.2.2.1)]) (sf := fun v => []) (hf := fun v => v.2.2.2.2) (fun k23 H23 v => f_X5_distance_23_s k4 H4 k23 H23 v.1 v.2.1 v.2.2.1 v.2.2.2.1 v.2.2.2.2) n v
def f_X5_distance_4  (k4 : Int32 × Int32 × Int32 × zHp → Option (Int32 × zHp)) (v1 : Int32) (v2 : Int32) (v3 : Int32) (h : zHp) : Option (Int32 × zHp) := (if v3 < (h 31 1) then zlt (v3 + (1 : Int32)) fun x1 => f_X5_distance_23_lp k4 zN (v1, v2, v3, x1, h) else some (v2, h))
set_option maxHeartbeats 4000000 in
set_option maxRecDepth 100000 in
theorem f_X5_distance_4_s  (k4 : Int32 × Int32 × Int32 × zHp → Option (Int32 × zHp)) (H4 : ∀ v : Int32 × Int32 × Int32 × zHp, Sim wX mX5_distance 2 rI 4 [(0, .ref 161), (1, .int v.1), (2, .int v.2.1), (3, .int v.2.2.1)] [] v.2.2.2 (k4 v)) (v1 : Int32) (v2 : Int32) (v3 : Int32) (h : zHp) : Sim wX mX5_distance 2 rI 4 [(0, .ref 161), (1, .int v1), (2, .int v2), (3, .int v3)] [] h (f_X5_distance_4 k4 v1 v2 v3 h) := by
  unfold f_X5_distance_4
  refine Sim.iload_n 3 dX5_distance_4 rfl ?_
  refine Sim.aload_n 0 dX5_distance_5 rfl ?_
  refine Sim.getR (j := 26) fl_X5_24 dX5_distance_6 xR_161_0 ?_
  refine Sim.getR (j := 31) fl_X5_68 dX5_distance_9 (xR_X8_2 _ xL_X8_26) ?_
  refine Sim.getI fl_X5_34 dX5_distance_12 (xI_X7_1 _ xL_X7_31) ?_
  refine Sim.icmp_ge 118 dX5_distance_15 rfl ?_ ?_
  · refine Sim.iload_n 3 dX5_distance_18 rfl ?_
    refine Sim.iconst (v := (1 : Int32)) dX5_distance_19 rfl ?_
    refine Sim.iadd dX5_distance_20 ?_
    refine Sim.lti (fun x1 => ?_)
    refine Sim.istore (L' := [(4, .int x1), (0, .ref 161), (1, .int v1), (2, .int v2), (3, .int v3)]) dX5_distance_21 (Nat.le_of_ble_eq_true rfl) rfl ?_
    refine Sim.locs [1, 2, 3, 4, 0] rfl ?_
    exact f_X5_distance_23_ls k4 H4 zN (v1, v2, v3, x1, h)
  · refine Sim.iload_n 2 dX5_distance_118 rfl ?_
    exact Sim.iret dX5_distance_119 rfl
def f_X5_distance_4_lp   (n : Nat) (v : Int32 × Int32 × Int32 × zHp) : Option (Int32 × zHp) := zlp (fun k4 v => f_X5_distance_4 k4 v.1 v.2.1 v.2.2.1 v.2.2.2) n v
theorem f_X5_distance_4_ls  (n : Nat) (v : Int32 × Int32 × Int32 × zHp) : Sim wX mX5_distance 2 rI 4 [(0, .ref 161), (1, .int v.1), (2, .int v.2.1), (3, .int v.2.2.1)] [] v.2.2.2 (f_X5_distance_4_lp n v) :=
  Sim.lp (V := Int32 × Int32 × Int32 × zHp) (Lf := fun v => [(0, .ref 161), (1, .int v.1), (2, .int v.2.1), (3, .int v.2.2.1)]) (sf := fun v => []) (hf := fun v => v.2.2.2) (fun k4 H4 v => f_X5_distance_4_s k4 H4 v.1 v.2.1 v.2.2.1 v.2.2.2) n v
def f_X5_distance  (a1 : Int32) (h : zHp) : Option (Int32 × zHp) := f_X5_distance_4_lp  zN (a1, (-1 : Int32), (0 : Int32), h)
set_option maxHeartbeats 4000000 in
set_option maxRecDepth 100000 in
theorem s_X5_distance  (a1 : Int32) (h : zHp) : Fn wX mX5_distance 2 rI [.ref 161, .int a1] h (f_X5_distance a1 h) := by
  refine Fn.of rfl (Nat.le_of_ble_eq_true rfl) ?_
  unfold f_X5_distance
  refine Sim.iconst (v := (-1 : Int32)) dX5_distance_0 rfl ?_
  refine Sim.istore_n (L' := [(2, .int (-1 : Int32)), (0, .ref 161), (1, .int a1)]) dX5_distance_1 (Nat.le_of_ble_eq_true rfl) rfl ?_
  refine Sim.iconst (v := (0 : Int32)) dX5_distance_2 rfl ?_
  refine Sim.istore_n (L' := [(3, .int (0 : Int32)), (2, .int (-1 : Int32)), (0, .ref 161), (1, .int a1)]) dX5_distance_3 (Nat.le_of_ble_eq_true rfl) rfl ?_
  refine Sim.locs [2, 3, 1, 0] rfl ?_
  exact f_X5_distance_4_ls  zN (a1, (-1 : Int32), (0 : Int32), h)
theorem mv_X5_distance : zMV mX5_distance 1 := ⟨⟨zTb_in 1118 (by decide +kernel) rfl, zTb_in 147 (by decide +kernel) rfl, ⟨by decide +kernel, by decide +kernel⟩, by decide +kernel⟩, zTb_in 1116 (by decide +kernel) rfl, zTb_in 1117 (by decide +kernel) rfl⟩
-- ===== RockingPorch$Puzzles.freeFrom(II)I
abbrev mX5_freeFrom : zMt := (yX5_freeFrom, cX5_freeFrom, 4, some .int)
theorem fl_X5_83 : zF RX5 83 8 6 := ⟨RX8, TX8, 7, rfl, Nat.le_of_ble_eq_true rfl, zTb_in 343 (by decide +kernel) rfl, in_X8⟩
theorem dX5_freeFrom_0 : decode cX5_freeFrom 0 = .ok (.iconst 0, 1) := by decide +kernel
theorem dX5_freeFrom_1 : decode cX5_freeFrom 1 = .ok (.istore_n 3, 1) := by decide +kernel
theorem dX5_freeFrom_2 : decode cX5_freeFrom 2 = .ok (.iload_n 1, 1) := by decide +kernel
theorem dX5_freeFrom_3 : decode cX5_freeFrom 3 = .ok (.iload_n 3, 1) := by decide +kernel
theorem dX5_freeFrom_4 : decode cX5_freeFrom 4 = .ok (.iadd, 1) := by decide +kernel
theorem dX5_freeFrom_5 : decode cX5_freeFrom 5 = .ok (.bipush 6, 2) := by decide +kernel
theorem dX5_freeFrom_7 : decode cX5_freeFrom 7 = .ok (.if_icmp .ge 28, 3) := by decide +kernel
theorem dX5_freeFrom_10 : decode cX5_freeFrom 10 = .ok (.aload_n 0, 1) := by decide +kernel
theorem dX5_freeFrom_11 : decode cX5_freeFrom 11 = .ok (.getfield 24, 3) := by decide +kernel
theorem dX5_freeFrom_14 : decode cX5_freeFrom 14 = .ok (.getfield 83, 3) := by decide +kernel
theorem dX5_freeFrom_17 : decode cX5_freeFrom 17 = .ok (.iload_n 2, 1) := by decide +kernel
theorem dX5_freeFrom_18 : decode cX5_freeFrom 18 = .ok (.bipush 6, 2) := by decide +kernel
theorem dX5_freeFrom_20 : decode cX5_freeFrom 20 = .ok (.imul, 1) := by decide +kernel
theorem dX5_freeFrom_21 : decode cX5_freeFrom 21 = .ok (.iload_n 1, 1) := by decide +kernel
theorem dX5_freeFrom_22 : decode cX5_freeFrom 22 = .ok (.iadd, 1) := by decide +kernel
theorem dX5_freeFrom_23 : decode cX5_freeFrom 23 = .ok (.iload_n 3, 1) := by decide +kernel
theorem dX5_freeFrom_24 : decode cX5_freeFrom 24 = .ok (.iadd, 1) := by decide +kernel
theorem dX5_freeFrom_25 : decode cX5_freeFrom 25 = .ok (.iaload, 1) := by decide +kernel
theorem dX5_freeFrom_26 : decode cX5_freeFrom 26 = .ok (.ifCond .ne 9, 3) := by decide +kernel
theorem dX5_freeFrom_29 : decode cX5_freeFrom 29 = .ok (.iinc 3 1, 3) := by decide +kernel
theorem dX5_freeFrom_32 : decode cX5_freeFrom 32 = .ok (.goto (-30), 3) := by decide +kernel
theorem dX5_freeFrom_35 : decode cX5_freeFrom 35 = .ok (.iload_n 3, 1) := by decide +kernel
theorem dX5_freeFrom_36 : decode cX5_freeFrom 36 = .ok (.ireturn, 1) := by decide +kernel
def f_X5_freeFrom_2  (k2 : Int32 × Int32 × Int32 × zHp → Option (Int32 × zHp)) (v1 : Int32) (v2 : Int32) (v3 : Int32) (h : zHp) : Option (Int32 × zHp) := (if (v1 + v3) < (6 : Int32) then zix (((v2 * (6 : Int32)) + v1) + v3) 36 ((if (h 39 (((v2 * (6 : Int32)) + v1) + v3).toNatClampNeg) = 0 then k2 (v1, v2, (v3 + (1 : Int32)), h) else some (v3, h))) else some (v3, h))
set_option maxHeartbeats 4000000 in
set_option maxRecDepth 100000 in
theorem f_X5_freeFrom_2_s  (k2 : Int32 × Int32 × Int32 × zHp → Option (Int32 × zHp)) (H2 : ∀ v : Int32 × Int32 × Int32 × zHp, Sim wX mX5_freeFrom 0 rI 2 [(0, .ref 161), (1, .int v.1), (2, .int v.2.1), (3, .int v.2.2.1)] [] v.2.2.2 (k2 v)) (v1 : Int32) (v2 : Int32) (v3 : Int32) (h : zHp) : Sim wX mX5_freeFrom 0 rI 2 [(0, .ref 161), (1, .int v1), (2, .int v2), (3, .int v3)] [] h (f_X5_freeFrom_2 k2 v1 v2 v3 h) := by
  unfold f_X5_freeFrom_2
  refine Sim.iload_n 1 dX5_freeFrom_2 rfl ?_
  refine Sim.iload_n 3 dX5_freeFrom_3 rfl ?_
  refine Sim.iadd dX5_freeFrom_4 ?_
  refine Sim.bipush (v := (6 : Int32)) dX5_freeFrom_5 rfl ?_
  refine Sim.icmp_ge 35 dX5_freeFrom_7 rfl ?_ ?_
  · refine Sim.aload_n 0 dX5_freeFrom_10 rfl ?_
    refine Sim.getR (j := 26) fl_X5_24 dX5_freeFrom_11 xR_161_0 ?_
    refine Sim.getR (j := 39) fl_X5_83 dX5_freeFrom_14 (xR_X8_6 _ xL_X8_26) ?_
    refine Sim.iload_n 2 dX5_freeFrom_17 rfl ?_
    refine Sim.bipush (v := (6 : Int32)) dX5_freeFrom_18 rfl ?_
    refine Sim.imul dX5_freeFrom_20 ?_
    refine Sim.iload_n 1 dX5_freeFrom_21 rfl ?_
    refine Sim.iadd dX5_freeFrom_22 ?_
    refine Sim.iload_n 3 dX5_freeFrom_23 rfl ?_
    refine Sim.iadd dX5_freeFrom_24 ?_
    refine Sim.iald (n := 36) dX5_freeFrom_25 xA_39 ?_
    refine Sim.if_ne 35 dX5_freeFrom_26 rfl ?_ ?_
    · refine Sim.iinc (L' := [(3, .int (v3 + (1 : Int32))), (0, .ref 161), (1, .int v1), (2, .int v2)]) 3 dX5_freeFrom_29 rfl rfl (Nat.le_of_ble_eq_true rfl) rfl ?_
      refine Sim.goto 2 dX5_freeFrom_32 rfl ?_
      refine Sim.locs [1, 2, 3, 0] rfl ?_
      exact H2 (v1, v2, (v3 + (1 : Int32)), h)
    · refine Sim.iload_n 3 dX5_freeFrom_35 rfl ?_
      exact Sim.iret dX5_freeFrom_36 rfl
  · refine Sim.iload_n 3 dX5_freeFrom_35 rfl ?_
    exact Sim.iret dX5_freeFrom_36 rfl
def f_X5_freeFrom_2_lp   (n : Nat) (v : Int32 × Int32 × Int32 × zHp) : Option (Int32 × zHp) := zlp (fun k2 v => f_X5_freeFrom_2 k2 v.1 v.2.1 v.2.2.1 v.2.2.2) n v
theorem f_X5_freeFrom_2_ls  (n : Nat) (v : Int32 × Int32 × Int32 × zHp) : Sim wX mX5_freeFrom 0 rI 2 [(0, .ref 161), (1, .int v.1), (2, .int v.2.1), (3, .int v.2.2.1)] [] v.2.2.2 (f_X5_freeFrom_2_lp n v) :=
  Sim.lp (V := Int32 × Int32 × Int32 × zHp) (Lf := fun v => [(0, .ref 161), (1, .int v.1), (2, .int v.2.1), (3, .int v.2.2.1)]) (sf := fun v => []) (hf := fun v => v.2.2.2) (fun k2 H2 v => f_X5_freeFrom_2_s k2 H2 v.1 v.2.1 v.2.2.1 v.2.2.2) n v
def f_X5_freeFrom  (a1 : Int32) (a2 : Int32) (h : zHp) : Option (Int32 × zHp) := f_X5_freeFrom_2_lp  zN (a1, a2, (0 : Int32), h)
set_option maxHeartbeats 4000000 in
set_option maxRecDepth 100000 in
theorem s_X5_freeFrom  (a1 : Int32) (a2 : Int32) (h : zHp) : Fn wX mX5_freeFrom 0 rI [.ref 161, .int a1, .int a2] h (f_X5_freeFrom a1 a2 h) := by
  refine Fn.of rfl (Nat.le_of_ble_eq_true rfl) ?_
  unfold f_X5_freeFrom
  refine Sim.iconst (v := (0 : Int32)) dX5_freeFrom_0 rfl ?_
  refine Sim.istore_n (L' := [(3, .int (0 : Int32)), (0, .ref 161), (1, .int a1), (2, .int a2)]) dX5_freeFrom_1 (Nat.le_of_ble_eq_true rfl) rfl ?_
  refine Sim.locs [1, 2, 3, 0] rfl ?_
  exact f_X5_freeFrom_2_ls  zN (a1, a2, (0 : Int32), h)
theorem mv_X5_freeFrom : zMV mX5_freeFrom 2 := ⟨⟨zTb_in 1134 (by decide +kernel) rfl, zTb_in 147 (by decide +kernel) rfl, ⟨by decide +kernel, by decide +kernel⟩, by decide +kernel⟩, zTb_in 1133 (by decide +kernel) rfl, zTb_in 34 (by decide +kernel) rfl⟩
-- ===== RockingPorch$Puzzles.rugs(Z)I
abbrev mX5_rugs : zMt := (yX5_rugs, cX5_rugs, 9, some .int)
theorem ml_X5_80 : Cond.methodLink RX5 80 yX5_freeFrom ∈ zTb := zTb_in 1131 (by decide +kernel) rfl
theorem dX5_rugs_0 : decode cX5_rugs 0 = .ok (.iconst 0, 1) := by decide +kernel
theorem dX5_rugs_1 : decode cX5_rugs 1 = .ok (.istore_n 2, 1) := by decide +kernel
theorem dX5_rugs_2 : decode cX5_rugs 2 = .ok (.iconst 0, 1) := by decide +kernel
theorem dX5_rugs_3 : decode cX5_rugs 3 = .ok (.istore_n 3, 1) := by decide +kernel
theorem dX5_rugs_4 : decode cX5_rugs 4 = .ok (.iconst 0, 1) := by decide +kernel
theorem dX5_rugs_5 : decode cX5_rugs 5 = .ok (.istore 4, 2) := by decide +kernel
theorem dX5_rugs_7 : decode cX5_rugs 7 = .ok (.iload 4, 2) := by decide +kernel
theorem dX5_rugs_9 : decode cX5_rugs 9 = .ok (.bipush 36, 2) := by decide +kernel
theorem dX5_rugs_11 : decode cX5_rugs 11 = .ok (.if_icmp .ge 87, 3) := by decide +kernel
theorem dX5_rugs_14 : decode cX5_rugs 14 = .ok (.iload 4, 2) := by decide +kernel
theorem dX5_rugs_16 : decode cX5_rugs 16 = .ok (.bipush 6, 2) := by decide +kernel
theorem dX5_rugs_18 : decode cX5_rugs 18 = .ok (.irem, 1) := by decide +kernel
theorem dX5_rugs_19 : decode cX5_rugs 19 = .ok (.istore 5, 2) := by decide +kernel
theorem dX5_rugs_21 : decode cX5_rugs 21 = .ok (.bipush 6, 2) := by decide +kernel
theorem dX5_rugs_23 : decode cX5_rugs 23 = .ok (.iload 5, 2) := by decide +kernel
theorem dX5_rugs_25 : decode cX5_rugs 25 = .ok (.isub, 1) := by decide +kernel
theorem dX5_rugs_26 : decode cX5_rugs 26 = .ok (.istore 6, 2) := by decide +kernel
theorem dX5_rugs_28 : decode cX5_rugs 28 = .ok (.iload 4, 2) := by decide +kernel
theorem dX5_rugs_30 : decode cX5_rugs 30 = .ok (.bipush 6, 2) := by decide +kernel
theorem dX5_rugs_32 : decode cX5_rugs 32 = .ok (.idiv, 1) := by decide +kernel
theorem dX5_rugs_33 : decode cX5_rugs 33 = .ok (.istore 7, 2) := by decide +kernel
theorem dX5_rugs_35 : decode cX5_rugs 35 = .ok (.iload 7, 2) := by decide +kernel
theorem dX5_rugs_37 : decode cX5_rugs 37 = .ok (.istore 8, 2) := by decide +kernel
theorem dX5_rugs_39 : decode cX5_rugs 39 = .ok (.iload 8, 2) := by decide +kernel
theorem dX5_rugs_41 : decode cX5_rugs 41 = .ok (.bipush 6, 2) := by decide +kernel
theorem dX5_rugs_43 : decode cX5_rugs 43 = .ok (.if_icmp .ge 49, 3) := by decide +kernel
theorem dX5_rugs_46 : decode cX5_rugs 46 = .ok (.iload 6, 2) := by decide +kernel
theorem dX5_rugs_48 : decode cX5_rugs 48 = .ok (.ifCond .le 44, 3) := by decide +kernel
theorem dX5_rugs_51 : decode cX5_rugs 51 = .ok (.iload 6, 2) := by decide +kernel
theorem dX5_rugs_53 : decode cX5_rugs 53 = .ok (.aload_n 0, 1) := by decide +kernel
theorem dX5_rugs_54 : decode cX5_rugs 54 = .ok (.iload 5, 2) := by decide +kernel
theorem dX5_rugs_56 : decode cX5_rugs 56 = .ok (.iload 8, 2) := by decide +kernel
theorem dX5_rugs_58 : decode cX5_rugs 58 = .ok (.invokevirtual 80, 3) := by decide +kernel
theorem dX5_rugs_61 : decode cX5_rugs 61 = .ok (.invokestatic 71, 3) := by decide +kernel
theorem dX5_rugs_64 : decode cX5_rugs 64 = .ok (.istore 6, 2) := by decide +kernel
theorem dX5_rugs_66 : decode cX5_rugs 66 = .ok (.iload_n 2, 1) := by decide +kernel
theorem dX5_rugs_67 : decode cX5_rugs 67 = .ok (.iload 6, 2) := by decide +kernel
theorem dX5_rugs_69 : decode cX5_rugs 69 = .ok (.iadd, 1) := by decide +kernel
theorem dX5_rugs_70 : decode cX5_rugs 70 = .ok (.istore_n 2, 1) := by decide +kernel
theorem dX5_rugs_71 : decode cX5_rugs 71 = .ok (.iload_n 3, 1) := by decide +kernel
theorem dX5_rugs_72 : decode cX5_rugs 72 = .ok (.iload 6, 2) := by decide +kernel
theorem dX5_rugs_74 : decode cX5_rugs 74 = .ok (.iload 8, 2) := by decide +kernel
theorem dX5_rugs_76 : decode cX5_rugs 76 = .ok (.iload 7, 2) := by decide +kernel
theorem dX5_rugs_78 : decode cX5_rugs 78 = .ok (.isub, 1) := by decide +kernel
theorem dX5_rugs_79 : decode cX5_rugs 79 = .ok (.iconst 1, 1) := by decide +kernel
theorem dX5_rugs_80 : decode cX5_rugs 80 = .ok (.iadd, 1) := by decide +kernel
theorem dX5_rugs_81 : decode cX5_rugs 81 = .ok (.imul, 1) := by decide +kernel
theorem dX5_rugs_82 : decode cX5_rugs 82 = .ok (.invokestatic 47, 3) := by decide +kernel
theorem dX5_rugs_85 : decode cX5_rugs 85 = .ok (.istore_n 3, 1) := by decide +kernel
theorem dX5_rugs_86 : decode cX5_rugs 86 = .ok (.iinc 8 1, 3) := by decide +kernel
theorem dX5_rugs_89 : decode cX5_rugs 89 = .ok (.goto (-50), 3) := by decide +kernel
theorem dX5_rugs_92 : decode cX5_rugs 92 = .ok (.iinc 4 1, 3) := by decide +kernel
theorem dX5_rugs_95 : decode cX5_rugs 95 = .ok (.goto (-88), 3) := by decide +kernel
theorem dX5_rugs_98 : decode cX5_rugs 98 = .ok (.iload_n 1, 1) := by decide +kernel
theorem dX5_rugs_99 : decode cX5_rugs 99 = .ok (.ifCond .eq 7, 3) := by decide +kernel
theorem dX5_rugs_102 : decode cX5_rugs 102 = .ok (.iload_n 3, 1) := by decide +kernel
theorem dX5_rugs_103 : decode cX5_rugs 103 = .ok (.goto 4, 3) := by decide +kernel
theorem dX5_rugs_106 : decode cX5_rugs 106 = .ok (.iload_n 2, 1) := by decide +kernel
theorem dX5_rugs_107 : decode cX5_rugs 107 = .ok (.ireturn, 1) := by decide +kernel
def f_X5_rugs_39  (k7 : Int32 × Int32 × Int32 × Int32 × zHp → Option (Int32 × zHp)) (k39 : Int32 × Int32 × Int32 × Int32 × Int32 × Int32 × Int32 × Int32 × zHp → Option (Int32 × zHp)) (v1 : Int32) (v2 : Int32) (v3 : Int32) (v4 : Int32) (v5 : Int32) (v6 : Int32) (v7 : Int32) (v8 : Int32) (h : zHp) : Option (Int32 × zHp) := (if v8 < (6 : Int32) then (if 0 < v6 then (f_X5_freeFrom v5 v8 h).bind fun x1 => zlt (if x1.1 < v6 then x1.1 else v6) fun x2 => zlt (v2 + x2) fun x3 => zlt (if v3 < (x2 * ((v8 - v7) + (1 : Int32))) then (x2 * ((v8 - v7) + (1 : Int32))) else v3) fun x4 => k39 (v1, x3, x4, v4, v5, x2, v7, (v8 + (1 : Int32)), x1.2) else k7 (v1, v2, v3, (v4 + (1 : Int32)), h)) else k7 (v1, v2, v3, (v4 + (1 : Int32)), h))
set_option maxHeartbeats 4000000 in
set_option maxRecDepth 100000 in
theorem f_X5_rugs_39_s  (k7 : Int32 × Int32 × Int32 × Int32 × zHp → Option (Int32 × zHp)) (H7 : ∀ v : Int32 × Int32 × Int32 × Int32 × zHp, Sim wX mX5_rugs 1 rI 7 [(0, .ref 161), (1, .int v.1), (2, .int v.2.1), (3, .int v.2.2.1), (4, .int v.2.2.2.1)] [] v.2.2.2.2 (k7 v)) (k39 : Int32 × Int32 × Int32 × Int32 × Int32 × Int32 × Int32 × Int32 × zHp → Option (Int32 × zHp)) (H39 : ∀ v : Int32 × Int32 × Int32 × Int32 × Int32 × Int32 × Int32 × Int32 × zHp, Sim wX mX5_rugs 1 rI 39 [(0, .ref 161), (1, .int v.1), (2, .int v.2.1), (3, .int v.2.2.1), (4, .int v.2.2.2.1), (5, .int v.2.2.2.2.1), (6, .int v.2.2.2.2.2.1), (7, .int v.2.2.2.2.2.2.1), (8, .int v.2.2.2.2.2.2.2.1)] [] v.2.2.2.2.2.2.2.2 (k39 v)) (v1 : Int32) (v2 : Int32) (v3 : Int32) (v4 : Int32) (v5 : Int32) (v6 : Int32) (v7 : Int32) (v8 : Int32) (h : zHp) : Sim wX mX5_rugs 1 rI 39 [(0, .ref 161), (1, .int v1), (2, .int v2), (3, .int v3), (4, .int v4), (5, .int v5), (6, .int v6), (7, .int v7), (8, .int v8)] [] h (f_X5_rugs_39 k7 k39 v1 v2 v3 v4 v5 v6 v7 v8 h) := by
  unfold f_X5_rugs_39
  refine Sim.iload 8 dX5_rugs_39 rfl ?_
  refine Sim.bipush (v := (6 : Int32)) dX5_rugs_41 rfl ?_
  refine Sim.icmp_ge 92 dX5_rugs_43 rfl ?_ ?_
  · refine Sim.iload 6 dX5_rugs_46 rfl ?_
    refine Sim.if_le 92 dX5_rugs_48 rfl ?_ ?_
    · refine Sim.iload 6 dX5_rugs_51 rfl ?_
      refine Sim.aload_n 0 dX5_rugs_53 rfl ?_
      refine Sim.iload 5 dX5_rugs_54 rfl ?_
      refine Sim.iload 8 dX5_rugs_56 rfl ?_
      refine Sim.callV2I (d1 := 0) (s_X5_freeFrom v5 v8 h) dX5_rugs_58 ml_X5_80 mv_X5_freeFrom xO_X5 (Nat.le_of_ble_eq_true rfl) (Nat.le_of_ble_eq_true rfl) (Nat.le_of_ble_eq_true rfl) (fun x1 => ?_)
      refine Sim.mmin dX5_rugs_61 ml_X5_71 ms_min ms_Math mc_min (Nat.le_of_ble_eq_true rfl) (Nat.le_of_ble_eq_true rfl) ?_
      refine Sim.lti (fun x2 => ?_)
      refine Sim.istore (L' := [(6, .int x2), (0, .ref 161), (1, .int v1), (2, .int v2), (3, .int v3), (4, .int v4), (5, .int v5), (7, .int v7), (8, .int v8)]) dX5_rugs_64 (Nat.le_of_ble_eq_true rfl) rfl ?_
      refine Sim.iload_n 3 dX5_rugs_66 rfl ?_
      refine Sim.iload 0 dX5_rugs_67 rfl ?_
      refine Sim.iadd dX5_rugs_69 ?_
      refine Sim.lti (fun x3 => ?_)
      refine Sim.istore_n (L' := [(2, .int x3), (6, .int x2), (0, .ref 161), (1, .int v1), (3, .int v3), (4, .int v4), (5, .int v5), (7, .int v7), (8, .int v8)]) dX5_rugs_70 (Nat.le_of_ble_eq_true rfl) rfl ?_
      refine Sim.iload_n 4 dX5_rugs_71 rfl ?_
      refine Sim.iload 1 dX5_rugs_72 rfl ?_
      refine Sim.iload 8 dX5_rugs_74 rfl ?_
      refine Sim.iload 7 dX5_rugs_76 rfl ?_
      refine Sim.isub dX5_rugs_78 ?_
      refine Sim.iconst (v := (1 : Int32)) dX5_rugs_79 rfl ?_
      refine Sim.iadd dX5_rugs_80 ?_
      refine Sim.imul dX5_rugs_81 ?_
      refine Sim.mmax dX5_rugs_82 ml_X5_47 ms_max ms_Math mc_max (Nat.le_of_ble_eq_true rfl) (Nat.le_of_ble_eq_true rfl) ?_
      refine Sim.lti (fun x4 => ?_)
      refine Sim.istore_n (L' := [(3, .int x4), (2, .int x3), (6, .int x2), (0, .ref 161), (1, .int v1), (4, .int v4), (5, .int v5), (7, .int v7), (8, .int v8)]) dX5_rugs_85 (Nat.le_of_ble_eq_true rfl) rfl ?_
      refine Sim.iinc (L' := [(8, .int (v8 + (1 : Int32))), (3, .int x4), (2, .int x3), (6, .int x2), (0, .ref 161), (1, .int v1), (4, .int v4), (5, .int v5), (7, .int v7)]) 8 dX5_rugs_86 rfl rfl (Nat.le_of_ble_eq_true rfl) rfl ?_
      refine Sim.goto 39 dX5_rugs_89 rfl ?_
      refine Sim.locs [4, 5, 2, 1, 6, 7, 3, 8, 0] rfl ?_
      exact H39 (v1, x3, x4, v4, v5, x2, v7, (v8 + (1 : Int32)), x1.2)
    · refine Sim.iinc (L' := [(4, .int (v4 + (1 : Int32))), (0, .ref 161), (1, .int v1), (2, .int v2), (3, .int v3), (5, .int v5), (6, .int v6), (7, .int v7), (8, .int v8)]) 4 dX5_rugs_92 rfl rfl (Nat.le_of_ble_eq_true rfl) rfl ?_
      refine Sim.goto 7 dX5_rugs_95 rfl ?_
      refine Sim.locs [1, 2, 3, 4, 0] rfl ?_
      exact H7 (v1, v2, v3, (v4 + (1 : Int32)), h)
  · refine Sim.iinc (L' := [(4, .int (v4 + (1 : Int32))), (0, .ref 161), (1, .int v1), (2, .int v2), (3, .int v3), (5, .int v5), (6, .int v6), (7, .int v7), (8, .int v8)]) 4 dX5_rugs_92 rfl rfl (Nat.le_of_ble_eq_true rfl) rfl ?_
    refine Sim.goto 7 dX5_rugs_95 rfl ?_
    refine Sim.locs [1, 2, 3, 4, 0] rfl ?_
    exact H7 (v1, v2, v3, (v4 + (1 : Int32)), h)
def f_X5_rugs_39_lp  (k7 : Int32 × Int32 × Int32 × Int32 × zHp → Option (Int32 × zHp)) (n : Nat) (v : Int32 × Int32 × Int32 × Int32 × Int32 × Int32 × Int32 × Int32 × zHp) : Option (Int32 × zHp) := zlp (fun k39 v => f_X5_rugs_39 k7 k39 v.1 v.2.1 v.2.2.1 v.2.2.2.1 v.2.2.2.2.1 v.2.2.2.2.2.1 v.2.2.2.2.2.2.1 v.2.2.2.2.2.2.2.1 v.2.2.2.2.2.2.2.2) n v
theorem f_X5_rugs_39_ls  (k7 : Int32 × Int32 × Int32 × Int32 × zHp → Option (Int32 × zHp)) (H7 : ∀ v : Int32 × Int32 × Int32 × Int32 × zHp, Sim wX mX5_rugs 1 rI 7 [(0, .ref 161), (1, .int v.1), (2, .int v.2.1), (3, .int v.2.2.1), (4, .int v.2.2.2.1)] [] v.2.2.2.2 (k7 v)) (n : Nat) (v : Int32 × Int32 × Int32 × Int32 × Int32 × Int32 × Int32 × Int32 × zHp) : Sim wX mX5_rugs 1 rI 39 [(0, .ref 161), (1, .int v.1), (2, .int v.2.1), (3, .int v.2.2.1), (4, .int v.2.2.2.1), (5, .int v.2.2.2.2.1), (6, .int v.2.2.2.2.2.1), (7, .int v.2.2.2.2.2.2.1), (8, .int v.2.2.2.2.2.2.2.1)] [] v.2.2.2.2.2.2.2.2 (f_X5_rugs_39_lp k7 n v) :=
  Sim.lp (V := Int32 × Int32 × Int32 × Int32 × Int32 × Int32 × Int32 × Int32 × zHp) (Lf := fun v => [(0, .ref 161), (1, .int v.1), (2, .int v.2.1), (3, .int v.2.2.1), (4, .int v.2.2.2.1), (5, .int v.2.2.2.2.1), (6, .int v.2.2.2.2.2.1), (7, .int v.2.2.2.2.2.2.1), (8, .int v.2.2.2.2.2.2.2.1)]) (sf := fun v => []) (hf := fun v => v.2.2.2.2.2.2.2.2) (fun k39 H39 v => f_X5_rugs_39_s k7 H7 k39 H39 v.1 v.2.1 v.2.2.1 v.2.2.2.1 v.2.2.2.2.1 v.2.2.2.2.2.1 v.2.2.2.2.2.2.1 v.2.2.2.2.2.2.2.1 v.2.2.2.2.2.2.2.2) n v
def f_X5_rugs_7  (k7 : Int32 × Int32 × Int32 × Int32 × zHp → Option (Int32 × zHp)) (v1 : Int32) (v2 : Int32) (v3 : Int32) (v4 : Int32) (h : zHp) : Option (Int32 × zHp) := (if v4 < (36 : Int32) then zlt (v4 - v4 / (6 : Int32) * (6 : Int32)) fun x1 => zlt ((6 : Int32) - x1) fun x2 => zlt (v4 / (6 : Int32)) fun x3 => f_X5_rugs_39_lp k7 zN (v1, v2, v3, v4, x1, x2, x3, x3, h) else (if v1 = 0 then some (v2, h) else some (v3, h)))
set_option maxHeartbeats 4000000 in
set_option maxRecDepth 100000 in
theorem f_X5_rugs_7_s  (k7 : Int32 × Int32 × Int32 × Int32 × zHp → Option (Int32 × zHp)) (H7 : ∀ v : Int32 × Int32 × Int32 × Int32 × zHp, Sim wX mX5_rugs 1 rI 7 [(0, .ref 161), (1, .int v.1), (2, .int v.2.1), (3, .int v.2.2.1), (4, .int v.2.2.2.1)] [] v.2.2.2.2 (k7 v)) (v1 : Int32) (v2 : Int32) (v3 : Int32) (v4 : Int32) (h : zHp) : Sim wX mX5_rugs 1 rI 7 [(0, .ref 161), (1, .int v1), (2, .int v2), (3, .int v3), (4, .int v4)] [] h (f_X5_rugs_7 k7 v1 v2 v3 v4 h) := by
  unfold f_X5_rugs_7
  refine Sim.iload 4 dX5_rugs_7 rfl ?_
  refine Sim.bipush (v := (36 : Int32)) dX5_rugs_9 rfl ?_
  refine Sim.icmp_ge 98 dX5_rugs_11 rfl ?_ ?_
  · refine Sim.iload 4 dX5_rugs_14 rfl ?_
    refine Sim.bipush (v := (6 : Int32)) dX5_rugs_16 rfl ?_
    refine Sim.iremL dX5_rugs_18 (by decide) ?_
    refine Sim.lti (fun x1 => ?_)
    refine Sim.istore (L' := [(5, .int x1), (0, .ref 161), (1, .int v1), (2, .int v2), (3, .int v3), (4, .int v4)]) dX5_rugs_19 (Nat.le_of_ble_eq_true rfl) rfl ?_
    refine Sim.bipush (v := (6 : Int32)) dX5_rugs_21 rfl ?_
    refine Sim.iload 0 dX5_rugs_23 rfl ?_
    refine Sim.isub dX5_rugs_25 ?_
    refine Sim.lti (fun x2 => ?_)
    refine Sim.istore (L' := [(6, .int x2), (5, .int x1), (0, .ref 161), (1, .int v1), (2, .int v2), (3, .int v3), (4, .int v4)]) dX5_rugs_26 (Nat.le_of_ble_eq_true rfl) rfl ?_
    refine Sim.iload 6 dX5_rugs_28 rfl ?_
    refine Sim.bipush (v := (6 : Int32)) dX5_rugs_30 rfl ?_
    refine Sim.idivL dX5_rugs_32 (by decide) ?_
    refine Sim.lti (fun x3 => ?_)
    refine Sim.istore (L' := [(7, .int x3), (6, .int x2), (5, .int x1), (0, .ref 161), (1, .int v1), (2, .int v2), (3, .int v3), (4, .int v4)]) dX5_rugs_33 (Nat.le_of_ble_eq_true rfl) rfl ?_
    refine Sim.iload 0 dX5_rugs_35 rfl ?_
    refine Sim.istore (L' := [(8, .int x3), (7, .int x3), (6, .int x2), (5, .int x1), (0, .ref 161), (1, .int v1), (2, .int v2), (3, .int v3), (4, .int v4)]) dX5_rugs_37 (Nat.le_of_ble_eq_true rfl) rfl ?_
    refine Sim.locs [4, 5, 6, 7, 8, 3, 2, 1, 0] rfl ?_
    exact f_X5_rugs_39_ls k7 H7 zN (v1, v2, v3, v4, x1, x2, x3, x3, h)
  · refine Sim.iload_n 1 dX5_rugs_98 rfl ?_
    refine Sim.if_eq 106 dX5_rugs_99 rfl ?_ ?_
    · refine Sim.iload_n 2 dX5_rugs_106 rfl ?_
      exact Sim.iret dX5_rugs_107 rfl
    · refine Sim.iload_n 3 dX5_rugs_102 rfl ?_
      refine Sim.goto 107 dX5_rugs_103 rfl ?_
      exact Sim.iret dX5_rugs_107 rfl
def f_X5_rugs_7_lp   (n : Nat) (v : Int32 × Int32 × Int32 × Int32 × zHp) : Option (Int32 × zHp) := zlp (fun k7 v => f_X5_rugs_7 k7 v.1 v.2.1 v.2.2.1 v.2.2.2.1 v.2.2.2.2) n v
theorem f_X5_rugs_7_ls  (n : Nat) (v : Int32 × Int32 × Int32 × Int32 × zHp) : Sim wX mX5_rugs 1 rI 7 [(0, .ref 161), (1, .int v.1), (2, .int v.2.1), (3, .int v.2.2.1), (4, .int v.2.2.2.1)] [] v.2.2.2.2 (f_X5_rugs_7_lp n v) :=
  Sim.lp (V := Int32 × Int32 × Int32 × Int32 × zHp) (Lf := fun v => [(0, .ref 161), (1, .int v.1), (2, .int v.2.1), (3, .int v.2.2.1), (4, .int v.2.2.2.1)]) (sf := fun v => []) (hf := fun v => v.2.2.2.2) (fun k7 H7 v => f_X5_rugs_7_s k7 H7 v.1 v.2.1 v.2.2.1 v.2.2.2.1 v.2.2.2.2) n v
def f_X5_rugs  (a1 : Int32) (h : zHp) : Option (Int32 × zHp) := f_X5_rugs_7_lp  zN (a1, (0 : Int32), (0 : Int32), (0 : Int32), h)
set_option maxHeartbeats 4000000 in
set_option maxRecDepth 100000 in
theorem s_X5_rugs  (a1 : Int32) (h : zHp) : Fn wX mX5_rugs 1 rI [.ref 161, .int a1] h (f_X5_rugs a1 h) := by
  refine Fn.of rfl (Nat.le_of_ble_eq_true rfl) ?_
  unfold f_X5_rugs
  refine Sim.iconst (v := (0 : Int32)) dX5_rugs_0 rfl ?_
  refine Sim.istore_n (L' := [(2, .int (0 : Int32)), (0, .ref 161), (1, .int a1)]) dX5_rugs_1 (Nat.le_of_ble_eq_true rfl) rfl ?_
  refine Sim.iconst (v := (0 : Int32)) dX5_rugs_2 rfl ?_
  refine Sim.istore_n (L' := [(3, .int (0 : Int32)), (2, .int (0 : Int32)), (0, .ref 161), (1, .int a1)]) dX5_rugs_3 (Nat.le_of_ble_eq_true rfl) rfl ?_
  refine Sim.iconst (v := (0 : Int32)) dX5_rugs_4 rfl ?_
  refine Sim.istore (L' := [(4, .int (0 : Int32)), (3, .int (0 : Int32)), (2, .int (0 : Int32)), (0, .ref 161), (1, .int a1)]) dX5_rugs_5 (Nat.le_of_ble_eq_true rfl) rfl ?_
  refine Sim.locs [3, 4, 2, 1, 0] rfl ?_
  exact f_X5_rugs_7_ls  zN (a1, (0 : Int32), (0 : Int32), (0 : Int32), h)
theorem mv_X5_rugs : zMV mX5_rugs 1 := ⟨⟨zTb_in 1130 (by decide +kernel) rfl, zTb_in 147 (by decide +kernel) rfl, ⟨by decide +kernel, by decide +kernel⟩, by decide +kernel⟩, zTb_in 1128 (by decide +kernel) rfl, zTb_in 1129 (by decide +kernel) rfl⟩
-- ===== RockingPorch$Puzzles.readOrder(I)I
abbrev mX5_readOrder : zMt := (yX5_readOrder, cX5_readOrder, 7, some .int)
theorem dX5_readOrder_0 : decode cX5_readOrder 0 = .ok (.bipush 10, 2) := by decide +kernel
theorem dX5_readOrder_2 : decode cX5_readOrder 2 = .ok (.istore_n 2, 1) := by decide +kernel
theorem dX5_readOrder_3 : decode cX5_readOrder 3 = .ok (.iconst 1, 1) := by decide +kernel
theorem dX5_readOrder_4 : decode cX5_readOrder 4 = .ok (.istore_n 3, 1) := by decide +kernel
theorem dX5_readOrder_5 : decode cX5_readOrder 5 = .ok (.iload_n 3, 1) := by decide +kernel
theorem dX5_readOrder_6 : decode cX5_readOrder 6 = .ok (.bipush 8, 2) := by decide +kernel
theorem dX5_readOrder_8 : decode cX5_readOrder 8 = .ok (.if_icmp .ge 22, 3) := by decide +kernel
theorem dX5_readOrder_11 : decode cX5_readOrder 11 = .ok (.iload_n 1, 1) := by decide +kernel
theorem dX5_readOrder_12 : decode cX5_readOrder 12 = .ok (.iload_n 2, 1) := by decide +kernel
theorem dX5_readOrder_13 : decode cX5_readOrder 13 = .ok (.idiv, 1) := by decide +kernel
theorem dX5_readOrder_14 : decode cX5_readOrder 14 = .ok (.bipush 10, 2) := by decide +kernel
theorem dX5_readOrder_16 : decode cX5_readOrder 16 = .ok (.if_icmp .lt 14, 3) := by decide +kernel
theorem dX5_readOrder_19 : decode cX5_readOrder 19 = .ok (.iload_n 2, 1) := by decide +kernel
theorem dX5_readOrder_20 : decode cX5_readOrder 20 = .ok (.bipush 10, 2) := by decide +kernel
theorem dX5_readOrder_22 : decode cX5_readOrder 22 = .ok (.imul, 1) := by decide +kernel
theorem dX5_readOrder_23 : decode cX5_readOrder 23 = .ok (.istore_n 2, 1) := by decide +kernel
theorem dX5_readOrder_24 : decode cX5_readOrder 24 = .ok (.iinc 3 1, 3) := by decide +kernel
theorem dX5_readOrder_27 : decode cX5_readOrder 27 = .ok (.goto (-22), 3) := by decide +kernel
theorem dX5_readOrder_30 : decode cX5_readOrder 30 = .ok (.iload_n 1, 1) := by decide +kernel
theorem dX5_readOrder_31 : decode cX5_readOrder 31 = .ok (.iload_n 2, 1) := by decide +kernel
theorem dX5_readOrder_32 : decode cX5_readOrder 32 = .ok (.idiv, 1) := by decide +kernel
theorem dX5_readOrder_33 : decode cX5_readOrder 33 = .ok (.iconst 1, 1) := by decide +kernel
theorem dX5_readOrder_34 : decode cX5_readOrder 34 = .ok (.if_icmp .eq 5, 3) := by decide +kernel
theorem dX5_readOrder_37 : decode cX5_readOrder 37 = .ok (.iconst 0, 1) := by decide +kernel
theorem dX5_readOrder_38 : decode cX5_readOrder 38 = .ok (.ireturn, 1) := by decide +kernel
theorem dX5_readOrder_39 : decode cX5_readOrder 39 = .ok (.iload_n 1, 1) := by decide +kernel
theorem dX5_readOrder_40 : decode cX5_readOrder 40 = .ok (.iload_n 2, 1) := by decide +kernel
theorem dX5_readOrder_41 : decode cX5_readOrder 41 = .ok (.isub, 1) := by decide +kernel
theorem dX5_readOrder_42 : decode cX5_readOrder 42 = .ok (.istore 4, 2) := by decide +kernel
theorem dX5_readOrder_44 : decode cX5_readOrder 44 = .ok (.iconst 0, 1) := by decide +kernel
theorem dX5_readOrder_45 : decode cX5_readOrder 45 = .ok (.istore 5, 2) := by decide +kernel
theorem dX5_readOrder_47 : decode cX5_readOrder 47 = .ok (.iload_n 3, 1) := by decide +kernel
theorem dX5_readOrder_48 : decode cX5_readOrder 48 = .ok (.iconst 1, 1) := by decide +kernel
theorem dX5_readOrder_49 : decode cX5_readOrder 49 = .ok (.isub, 1) := by decide +kernel
theorem dX5_readOrder_50 : decode cX5_readOrder 50 = .ok (.istore 6, 2) := by decide +kernel
theorem dX5_readOrder_52 : decode cX5_readOrder 52 = .ok (.iload 6, 2) := by decide +kernel
theorem dX5_readOrder_54 : decode cX5_readOrder 54 = .ok (.ifCond .lt 42, 3) := by decide +kernel
theorem dX5_readOrder_57 : decode cX5_readOrder 57 = .ok (.aload_n 0, 1) := by decide +kernel
theorem dX5_readOrder_58 : decode cX5_readOrder 58 = .ok (.getfield 9, 3) := by decide +kernel
theorem dX5_readOrder_61 : decode cX5_readOrder 61 = .ok (.iload 6, 2) := by decide +kernel
theorem dX5_readOrder_63 : decode cX5_readOrder 63 = .ok (.iload 4, 2) := by decide +kernel
theorem dX5_readOrder_65 : decode cX5_readOrder 65 = .ok (.bipush 10, 2) := by decide +kernel
theorem dX5_readOrder_67 : decode cX5_readOrder 67 = .ok (.irem, 1) := by decide +kernel
theorem dX5_readOrder_68 : decode cX5_readOrder 68 = .ok (.iastore, 1) := by decide +kernel
theorem dX5_readOrder_69 : decode cX5_readOrder 69 = .ok (.iload 5, 2) := by decide +kernel
theorem dX5_readOrder_71 : decode cX5_readOrder 71 = .ok (.iconst 1, 1) := by decide +kernel
theorem dX5_readOrder_72 : decode cX5_readOrder 72 = .ok (.aload_n 0, 1) := by decide +kernel
theorem dX5_readOrder_73 : decode cX5_readOrder 73 = .ok (.getfield 9, 3) := by decide +kernel
theorem dX5_readOrder_76 : decode cX5_readOrder 76 = .ok (.iload 6, 2) := by decide +kernel
theorem dX5_readOrder_78 : decode cX5_readOrder 78 = .ok (.iaload, 1) := by decide +kernel
theorem dX5_readOrder_79 : decode cX5_readOrder 79 = .ok (.ishl, 1) := by decide +kernel
theorem dX5_readOrder_80 : decode cX5_readOrder 80 = .ok (.ior, 1) := by decide +kernel
theorem dX5_readOrder_81 : decode cX5_readOrder 81 = .ok (.istore 5, 2) := by decide +kernel
theorem dX5_readOrder_83 : decode cX5_readOrder 83 = .ok (.iload 4, 2) := by decide +kernel
theorem dX5_readOrder_85 : decode cX5_readOrder 85 = .ok (.bipush 10, 2) := by decide +kernel
theorem dX5_readOrder_87 : decode cX5_readOrder 87 = .ok (.idiv, 1) := by decide +kernel
theorem dX5_readOrder_88 : decode cX5_readOrder 88 = .ok (.istore 4, 2) := by decide +kernel
theorem dX5_readOrder_90 : decode cX5_readOrder 90 = .ok (.iinc 6 (-1), 3) := by decide +kernel
theorem dX5_readOrder_93 : decode cX5_readOrder 93 = .ok (.goto (-41), 3) := by decide +kernel
theorem dX5_readOrder_96 : decode cX5_readOrder 96 = .ok (.iload 5, 2) := by decide +kernel
theorem dX5_readOrder_98 : decode cX5_readOrder 98 = .ok (.iconst 1, 1) := by decide +kernel
theorem dX5_readOrder_99 : decode cX5_readOrder 99 = .ok (.iload_n 3, 1) := by decide +kernel
theorem dX5_readOrder_100 : decode cX5_readOrder 100 = .ok (.ishl, 1) := by decide +kernel
theorem dX5_readOrder_101 : decode cX5_readOrder 101 = .ok (.iconst 1, 1) := by decide +kernel
theorem dX5_readOrder_102 : decode cX5_readOrder 102 = .ok (.isub, 1) := by decide +kernel
theorem dX5_readOrder_103 : decode cX5_readOrder 103 = .ok (.if_icmp .ne 7, 3) := by decide +kernel
theorem dX5_readOrder_106 : decode cX5_readOrder 106 = .ok (.iload_n 3, 1) := by decide +kernel
theorem dX5_readOrder_107 : decode cX5_readOrder 107 = .ok (.goto 4, 3) := by decide +kernel
theorem dX5_readOrder_110 : decode cX5_readOrder 110 = .ok (.iconst 0, 1) := by decide +kernel
theorem dX5_readOrder_111 : decode cX5_readOrder 111 = .ok (.ireturn, 1) := by decide +kernel
def f_X5_readOrder_52  (k52 : Int32 × Int32 × Int32 × Int32 × zHp → Option (Int32 × zHp)) (v3 : Int32) (v4 : Int32) (v5 : Int32) (v6 : Int32) (h : zHp) : Option (Int32 × zHp) := (if v6 < 0 then (if v5 = (((1 : Int32) <<< (v3 &&& 31)) - (1 : Int32)) then some (v3, h) else some ((0 : Int32), h)) else zix v6 10 (zlt (zst h 162 v6.toNatClampNeg (v4 - v4 / (10 : Int32) * (10 : Int32))) fun h1 => zix v6 10 (zlt (v5 ||| ((1 : Int32) <<< ((h1 162 v6.toNatClampNeg) &&& 31))) fun x2 => zlt (v4 / (10 : Int32)) fun x3 => k52 (v3, x3, x2, (v6 + (-1 : Int32)), h1))))
set_option maxHeartbeats 4000000 in
set_option maxRecDepth 100000 in
theorem f_X5_readOrder_52_s  (k52 : Int32 × Int32 × Int32 × Int32 × zHp → Option (Int32 × zHp)) (H52 : ∀ v : Int32 × Int32 × Int32 × Int32 × zHp, Sim wX mX5_readOrder 0 rI 52 [(0, .ref 161), (3, .int v.1), (4, .int v.2.1), (5, .int v.2.2.1), (6, .int v.2.2.2.1)] [] v.2.2.2.2 (k52 v)) (v3 : Int32) (v4 : Int32) (v5 : Int32) (v6 : Int32) (h : zHp) : Sim wX mX5_readOrder 0 rI 52 [(0, .ref 161), (3, .int v3), (4, .int v4), (5, .int v5), (6, .int v6)] [] h (f_X5_readOrder_52 k52 v3 v4 v5 v6 h) := by
  unfold f_X5_readOrder_52
  refine Sim.iload 4 dX5_readOrder_52 rfl ?_
  refine Sim.if_lt 96 dX5_readOrder_54 rfl ?_ ?_
  · refine Sim.iload 3 dX5_readOrder_96 rfl ?_
    refine Sim.iconst (v := (1 : Int32)) dX5_readOrder_98 rfl ?_
    refine Sim.iload_n 1 dX5_readOrder_99 rfl ?_
    refine Sim.ishl dX5_readOrder_100 ?_
    refine Sim.iconst (v := (1 : Int32)) dX5_readOrder_101 rfl ?_
    refine Sim.isub dX5_readOrder_102 ?_
    refine Sim.icmp_ne 110 dX5_readOrder_103 rfl ?_ ?_
    · refine Sim.iload_n 1 dX5_readOrder_106 rfl ?_
      refine Sim.goto 111 dX5_readOrder_107 rfl ?_
      exact Sim.iret dX5_readOrder_111 rfl
    · refine Sim.iconst (v := (0 : Int32)) dX5_readOrder_110 rfl ?_
      exact Sim.iret dX5_readOrder_111 rfl
  · refine Sim.aload_n 0 dX5_readOrder_57 rfl ?_
    refine Sim.getR (j := 162) fl_X5_9 dX5_readOrder_58 xR_161_1 ?_
    refine Sim.iload 4 dX5_readOrder_61 rfl ?_
    refine Sim.iload 2 dX5_readOrder_63 rfl ?_
    refine Sim.bipush (v := (10 : Int32)) dX5_readOrder_65 rfl ?_
    refine Sim.iremL dX5_readOrder_67 (by decide) ?_
    refine Sim.iast (n := 10) dX5_readOrder_68 xA_162 ?_
    refine Sim.lth (fun h1 => ?_)
    refine Sim.iload 3 dX5_readOrder_69 rfl ?_
    refine Sim.iconst (v := (1 : Int32)) dX5_readOrder_71 rfl ?_
    refine Sim.aload_n 0 dX5_readOrder_72 rfl ?_
    refine Sim.getR (j := 162) fl_X5_9 dX5_readOrder_73 xR_161_1 ?_
    refine Sim.iload 4 dX5_readOrder_76 rfl ?_
    refine Sim.iald (n := 10) dX5_readOrder_78 xA_162 ?_
    refine Sim.ishl dX5_readOrder_79 ?_
    refine Sim.ior dX5_readOrder_80 ?_
    refine Sim.lti (fun x2 => ?_)
    refine Sim.istore (L' := [(5, .int x2), (0, .ref 161), (3, .int v3), (4, .int v4), (6, .int v6)]) dX5_readOrder_81 (Nat.le_of_ble_eq_true rfl) rfl ?_
    refine Sim.iload 3 dX5_readOrder_83 rfl ?_
    refine Sim.bipush (v := (10 : Int32)) dX5_readOrder_85 rfl ?_
    refine Sim.idivL dX5_readOrder_87 (by decide) ?_
    refine Sim.lti (fun x3 => ?_)
    refine Sim.istore (L' := [(4, .int x3), (5, .int x2), (0, .ref 161), (3, .int v3), (6, .int v6)]) dX5_readOrder_88 (Nat.le_of_ble_eq_true rfl) rfl ?_
    refine Sim.iinc (L' := [(6, .int (v6 + (-1 : Int32))), (4, .int x3), (5, .int x2), (0, .ref 161), (3, .int v3)]) 4 dX5_readOrder_90 rfl rfl (Nat.le_of_ble_eq_true rfl) rfl ?_
    refine Sim.goto 52 dX5_readOrder_93 rfl ?_
    refine Sim.locs [3, 4, 1, 2, 0] rfl ?_
    exact H52 (v3, x3, x2, (v6 + (-1 : Int32)), h1)
def f_X5_readOrder_52_lp   (n : Nat) (v : Int32 × Int32 × Int32 × Int32 × zHp) : Option (Int32 × zHp) := zlp (fun k52 v => f_X5_readOrder_52 k52 v.1 v.2.1 v.2.2.1 v.2.2.2.1 v.2.2.2.2) n v
theorem f_X5_readOrder_52_ls  (n : Nat) (v : Int32 × Int32 × Int32 × Int32 × zHp) : Sim wX mX5_readOrder 0 rI 52 [(0, .ref 161), (3, .int v.1), (4, .int v.2.1), (5, .int v.2.2.1), (6, .int v.2.2.2.1)] [] v.2.2.2.2 (f_X5_readOrder_52_lp n v) :=
  Sim.lp (V := Int32 × Int32 × Int32 × Int32 × zHp) (Lf := fun v => [(0, .ref 161), (3, .int v.1), (4, .int v.2.1), (5, .int v.2.2.1), (6, .int v.2.2.2.1)]) (sf := fun v => []) (hf := fun v => v.2.2.2.2) (fun k52 H52 v => f_X5_readOrder_52_s k52 H52 v.1 v.2.1 v.2.2.1 v.2.2.2.1 v.2.2.2.2) n v
def f_X5_readOrder_30   (v1 : Int32) (v2 : Int32) (v3 : Int32) (h : zHp) : Option (Int32 × zHp) := zdz v2 ((if (v1 / v2) = (1 : Int32) then zlt (v1 - v2) fun x1 => zlt (v3 - (1 : Int32)) fun x2 => f_X5_readOrder_52_lp  zN (v3, x1, (0 : Int32), x2, h) else some ((0 : Int32), h)))
set_option maxHeartbeats 4000000 in
set_option maxRecDepth 100000 in
theorem f_X5_readOrder_30_s  (v1 : Int32) (v2 : Int32) (v3 : Int32) (h : zHp) : Sim wX mX5_readOrder 0 rI 30 [(0, .ref 161), (1, .int v1), (2, .int v2), (3, .int v3)] [] h (f_X5_readOrder_30 v1 v2 v3 h) := by
  unfold f_X5_readOrder_30
  refine Sim.iload_n 1 dX5_readOrder_30 rfl ?_
  refine Sim.iload_n 2 dX5_readOrder_31 rfl ?_
  refine Sim.idiv dX5_readOrder_32 ?_
  refine Sim.iconst (v := (1 : Int32)) dX5_readOrder_33 rfl ?_
  refine Sim.icmp_eq 39 dX5_readOrder_34 rfl ?_ ?_
  · refine Sim.iload_n 1 dX5_readOrder_39 rfl ?_
    refine Sim.iload_n 2 dX5_readOrder_40 rfl ?_
    refine Sim.isub dX5_readOrder_41 ?_
    refine Sim.lti (fun x1 => ?_)
    refine Sim.istore (L' := [(4, .int x1), (0, .ref 161), (1, .int v1), (2, .int v2), (3, .int v3)]) dX5_readOrder_42 (Nat.le_of_ble_eq_true rfl) rfl ?_
    refine Sim.iconst (v := (0 : Int32)) dX5_readOrder_44 rfl ?_
    refine Sim.istore (L' := [(5, .int (0 : Int32)), (4, .int x1), (0, .ref 161), (1, .int v1), (2, .int v2), (3, .int v3)]) dX5_readOrder_45 (Nat.le_of_ble_eq_true rfl) rfl ?_
    refine Sim.iload_n 5 dX5_readOrder_47 rfl ?_
    refine Sim.iconst (v := (1 : Int32)) dX5_readOrder_48 rfl ?_
    refine Sim.isub dX5_readOrder_49 ?_
    refine Sim.lti (fun x2 => ?_)
    refine Sim.istore (L' := [(6, .int x2), (5, .int (0 : Int32)), (4, .int x1), (0, .ref 161), (1, .int v1), (2, .int v2), (3, .int v3)]) dX5_readOrder_50 (Nat.le_of_ble_eq_true rfl) rfl ?_
    refine Sim.locs [3, 6, 2, 1, 0] rfl ?_
    exact f_X5_readOrder_52_ls  zN (v3, x1, (0 : Int32), x2, h)
  · refine Sim.iconst (v := (0 : Int32)) dX5_readOrder_37 rfl ?_
    exact Sim.iret dX5_readOrder_38 rfl
def f_X5_readOrder_5  (k5 : Int32 × Int32 × Int32 × zHp → Option (Int32 × zHp)) (v1 : Int32) (v2 : Int32) (v3 : Int32) (h : zHp) : Option (Int32 × zHp) := (if v3 < (8 : Int32) then zdz v2 ((if (v1 / v2) < (10 : Int32) then f_X5_readOrder_30 v1 v2 v3 h else zlt (v2 * (10 : Int32)) fun x1 => k5 (v1, x1, (v3 + (1 : Int32)), h))) else f_X5_readOrder_30 v1 v2 v3 h)
set_option maxHeartbeats 4000000 in
set_option maxRecDepth 100000 in
theorem f_X5_readOrder_5_s  (k5 : Int32 × Int32 × Int32 × zHp → Option (Int32 × zHp)) (H5 : ∀ v : Int32 × Int32 × Int32 × zHp, Sim wX mX5_readOrder 0 rI 5 [(0, .ref 161), (1, .int v.1), (2, .int v.2.1), (3, .int v.2.2.1)] [] v.2.2.2 (k5 v)) (v1 : Int32) (v2 : Int32) (v3 : Int32) (h : zHp) : Sim wX mX5_readOrder 0 rI 5 [(0, .ref 161), (1, .int v1), (2, .int v2), (3, .int v3)] [] h (f_X5_readOrder_5 k5 v1 v2 v3 h) := by
  unfold f_X5_readOrder_5
  refine Sim.iload_n 3 dX5_readOrder_5 rfl ?_
  refine Sim.bipush (v := (8 : Int32)) dX5_readOrder_6 rfl ?_
  refine Sim.icmp_ge 30 dX5_readOrder_8 rfl ?_ ?_
  · refine Sim.iload_n 1 dX5_readOrder_11 rfl ?_
    refine Sim.iload_n 2 dX5_readOrder_12 rfl ?_
    refine Sim.idiv dX5_readOrder_13 ?_
    refine Sim.bipush (v := (10 : Int32)) dX5_readOrder_14 rfl ?_
    refine Sim.icmp_lt 30 dX5_readOrder_16 rfl ?_ ?_
    · exact f_X5_readOrder_30_s v1 v2 v3 h
    · refine Sim.iload_n 2 dX5_readOrder_19 rfl ?_
      refine Sim.bipush (v := (10 : Int32)) dX5_readOrder_20 rfl ?_
      refine Sim.imul dX5_readOrder_22 ?_
      refine Sim.lti (fun x1 => ?_)
      refine Sim.istore_n (L' := [(2, .int x1), (0, .ref 161), (1, .int v1), (3, .int v3)]) dX5_readOrder_23 (Nat.le_of_ble_eq_true rfl) rfl ?_
      refine Sim.iinc (L' := [(3, .int (v3 + (1 : Int32))), (2, .int x1), (0, .ref 161), (1, .int v1)]) 3 dX5_readOrder_24 rfl rfl (Nat.le_of_ble_eq_true rfl) rfl ?_
      refine Sim.goto 5 dX5_readOrder_27 rfl ?_
      refine Sim.locs [2, 3, 1, 0] rfl ?_
      exact H5 (v1, x1, (v3 + (1 : Int32)), h)
  · exact f_X5_readOrder_30_s v1 v2 v3 h
def f_X5_readOrder_5_lp   (n : Nat) (v : Int32 × Int32 × Int32 × zHp) : Option (Int32 × zHp) := zlp (fun k5 v => f_X5_readOrder_5 k5 v.1 v.2.1 v.2.2.1 v.2.2.2) n v
theorem f_X5_readOrder_5_ls  (n : Nat) (v : Int32 × Int32 × Int32 × zHp) : Sim wX mX5_readOrder 0 rI 5 [(0, .ref 161), (1, .int v.1), (2, .int v.2.1), (3, .int v.2.2.1)] [] v.2.2.2 (f_X5_readOrder_5_lp n v) :=
  Sim.lp (V := Int32 × Int32 × Int32 × zHp) (Lf := fun v => [(0, .ref 161), (1, .int v.1), (2, .int v.2.1), (3, .int v.2.2.1)]) (sf := fun v => []) (hf := fun v => v.2.2.2) (fun k5 H5 v => f_X5_readOrder_5_s k5 H5 v.1 v.2.1 v.2.2.1 v.2.2.2) n v
def f_X5_readOrder  (a1 : Int32) (h : zHp) : Option (Int32 × zHp) := f_X5_readOrder_5_lp  zN (a1, (10 : Int32), (1 : Int32), h)
set_option maxHeartbeats 4000000 in
set_option maxRecDepth 100000 in
theorem s_X5_readOrder  (a1 : Int32) (h : zHp) : Fn wX mX5_readOrder 0 rI [.ref 161, .int a1] h (f_X5_readOrder a1 h) := by
  refine Fn.of rfl (Nat.le_of_ble_eq_true rfl) ?_
  unfold f_X5_readOrder
  refine Sim.bipush (v := (10 : Int32)) dX5_readOrder_0 rfl ?_
  refine Sim.istore_n (L' := [(2, .int (10 : Int32)), (0, .ref 161), (1, .int a1)]) dX5_readOrder_2 (Nat.le_of_ble_eq_true rfl) rfl ?_
  refine Sim.iconst (v := (1 : Int32)) dX5_readOrder_3 rfl ?_
  refine Sim.istore_n (L' := [(3, .int (1 : Int32)), (2, .int (10 : Int32)), (0, .ref 161), (1, .int a1)]) dX5_readOrder_4 (Nat.le_of_ble_eq_true rfl) rfl ?_
  refine Sim.locs [2, 3, 1, 0] rfl ?_
  exact f_X5_readOrder_5_ls  zN (a1, (10 : Int32), (1 : Int32), h)
theorem mv_X5_readOrder : zMV mX5_readOrder 1 := ⟨⟨zTb_in 1142 (by decide +kernel) rfl, zTb_in 147 (by decide +kernel) rfl, ⟨by decide +kernel, by decide +kernel⟩, by decide +kernel⟩, zTb_in 1140 (by decide +kernel) rfl, zTb_in 1141 (by decide +kernel) rfl⟩
-- ===== RockingPorch$Puzzles.letsOut(I)I
abbrev mX5_letsOut : zMt := (yX5_letsOut, cX5_letsOut, 5, some .int)
theorem fl_X5_15 : zF RX5 15 5 2 := ⟨RX5, TX5, 5, rfl, Nat.le_of_ble_eq_true rfl, zTb_in 499 (by decide +kernel) rfl, in_X5⟩
theorem dX5_letsOut_0 : decode cX5_letsOut 0 = .ok (.iconst 0, 1) := by decide +kernel
theorem dX5_letsOut_1 : decode cX5_letsOut 1 = .ok (.istore_n 2, 1) := by decide +kernel
theorem dX5_letsOut_2 : decode cX5_letsOut 2 = .ok (.iconst 0, 1) := by decide +kernel
theorem dX5_letsOut_3 : decode cX5_letsOut 3 = .ok (.istore_n 3, 1) := by decide +kernel
theorem dX5_letsOut_4 : decode cX5_letsOut 4 = .ok (.iconst 0, 1) := by decide +kernel
theorem dX5_letsOut_5 : decode cX5_letsOut 5 = .ok (.istore 4, 2) := by decide +kernel
theorem dX5_letsOut_7 : decode cX5_letsOut 7 = .ok (.iload 4, 2) := by decide +kernel
theorem dX5_letsOut_9 : decode cX5_letsOut 9 = .ok (.iload_n 1, 1) := by decide +kernel
theorem dX5_letsOut_10 : decode cX5_letsOut 10 = .ok (.if_icmp .ge 76, 3) := by decide +kernel
theorem dX5_letsOut_13 : decode cX5_letsOut 13 = .ok (.iload 4, 2) := by decide +kernel
theorem dX5_letsOut_15 : decode cX5_letsOut 15 = .ok (.bipush 10, 2) := by decide +kernel
theorem dX5_letsOut_17 : decode cX5_letsOut 17 = .ok (.if_icmp .ge 69, 3) := by decide +kernel
theorem dX5_letsOut_20 : decode cX5_letsOut 20 = .ok (.iload_n 2, 1) := by decide +kernel
theorem dX5_letsOut_21 : decode cX5_letsOut 21 = .ok (.aload_n 0, 1) := by decide +kernel
theorem dX5_letsOut_22 : decode cX5_letsOut 22 = .ok (.getfield 9, 3) := by decide +kernel
theorem dX5_letsOut_25 : decode cX5_letsOut 25 = .ok (.iload 4, 2) := by decide +kernel
theorem dX5_letsOut_27 : decode cX5_letsOut 27 = .ok (.iaload, 1) := by decide +kernel
theorem dX5_letsOut_28 : decode cX5_letsOut 28 = .ok (.if_icmp .gt 25, 3) := by decide +kernel
theorem dX5_letsOut_31 : decode cX5_letsOut 31 = .ok (.iload_n 3, 1) := by decide +kernel
theorem dX5_letsOut_32 : decode cX5_letsOut 32 = .ok (.bipush 10, 2) := by decide +kernel
theorem dX5_letsOut_34 : decode cX5_letsOut 34 = .ok (.if_icmp .ge 19, 3) := by decide +kernel
theorem dX5_letsOut_37 : decode cX5_letsOut 37 = .ok (.aload_n 0, 1) := by decide +kernel
theorem dX5_letsOut_38 : decode cX5_letsOut 38 = .ok (.getfield 15, 3) := by decide +kernel
theorem dX5_letsOut_41 : decode cX5_letsOut 41 = .ok (.iload_n 3, 1) := by decide +kernel
theorem dX5_letsOut_42 : decode cX5_letsOut 42 = .ok (.iload_n 2, 1) := by decide +kernel
theorem dX5_letsOut_43 : decode cX5_letsOut 43 = .ok (.iastore, 1) := by decide +kernel
theorem dX5_letsOut_44 : decode cX5_letsOut 44 = .ok (.iinc 3 1, 3) := by decide +kernel
theorem dX5_letsOut_47 : decode cX5_letsOut 47 = .ok (.iinc 2 1, 3) := by decide +kernel
theorem dX5_letsOut_50 : decode cX5_letsOut 50 = .ok (.goto (-30), 3) := by decide +kernel
theorem dX5_letsOut_53 : decode cX5_letsOut 53 = .ok (.iload_n 3, 1) := by decide +kernel
theorem dX5_letsOut_54 : decode cX5_letsOut 54 = .ok (.ifCond .eq 21, 3) := by decide +kernel
theorem dX5_letsOut_57 : decode cX5_letsOut 57 = .ok (.aload_n 0, 1) := by decide +kernel
theorem dX5_letsOut_58 : decode cX5_letsOut 58 = .ok (.getfield 15, 3) := by decide +kernel
theorem dX5_letsOut_61 : decode cX5_letsOut 61 = .ok (.iload_n 3, 1) := by decide +kernel
theorem dX5_letsOut_62 : decode cX5_letsOut 62 = .ok (.iconst 1, 1) := by decide +kernel
theorem dX5_letsOut_63 : decode cX5_letsOut 63 = .ok (.isub, 1) := by decide +kernel
theorem dX5_letsOut_64 : decode cX5_letsOut 64 = .ok (.iaload, 1) := by decide +kernel
theorem dX5_letsOut_65 : decode cX5_letsOut 65 = .ok (.aload_n 0, 1) := by decide +kernel
theorem dX5_letsOut_66 : decode cX5_letsOut 66 = .ok (.getfield 9, 3) := by decide +kernel
theorem dX5_letsOut_69 : decode cX5_letsOut 69 = .ok (.iload 4, 2) := by decide +kernel
theorem dX5_letsOut_71 : decode cX5_letsOut 71 = .ok (.iaload, 1) := by decide +kernel
theorem dX5_letsOut_72 : decode cX5_letsOut 72 = .ok (.if_icmp .eq 5, 3) := by decide +kernel
theorem dX5_letsOut_75 : decode cX5_letsOut 75 = .ok (.iconst 0, 1) := by decide +kernel
theorem dX5_letsOut_76 : decode cX5_letsOut 76 = .ok (.ireturn, 1) := by decide +kernel
theorem dX5_letsOut_77 : decode cX5_letsOut 77 = .ok (.iinc 3 (-1), 3) := by decide +kernel
theorem dX5_letsOut_80 : decode cX5_letsOut 80 = .ok (.iinc 4 1, 3) := by decide +kernel
theorem dX5_letsOut_83 : decode cX5_letsOut 83 = .ok (.goto (-76), 3) := by decide +kernel
theorem dX5_letsOut_86 : decode cX5_letsOut 86 = .ok (.iconst 1, 1) := by decide +kernel
theorem dX5_letsOut_87 : decode cX5_letsOut 87 = .ok (.ireturn, 1) := by decide +kernel
def f_X5_letsOut_53  (k7 : Int32 × Int32 × Int32 × Int32 × zHp → Option (Int32 × zHp)) (v1 : Int32) (v2 : Int32) (v3 : Int32) (v4 : Int32) (h : zHp) : Option (Int32 × zHp) := (if v3 = 0 then some ((0 : Int32), h) else zix (v3 - (1 : Int32)) 10 (zix v4 10 ((if (h 163 (v3 - (1 : Int32)).toNatClampNeg) = (h 162 v4.toNatClampNeg) then k7 (v1, v2, (v3 + (-1 : Int32)), (v4 + (1 : Int32)), h) else some ((0 : Int32), h)))))
set_option maxHeartbeats 4000000 in
set_option maxRecDepth 100000 in
theorem f_X5_letsOut_53_s  (k7 : Int32 × Int32 × Int32 × Int32 × zHp → Option (Int32 × zHp)) (H7 : ∀ v : Int32 × Int32 × Int32 × Int32 × zHp, Sim wX mX5_letsOut 0 rI 7 [(0, .ref 161), (1, .int v.1), (2, .int v.2.1), (3, .int v.2.2.1), (4, .int v.2.2.2.1)] [] v.2.2.2.2 (k7 v)) (v1 : Int32) (v2 : Int32) (v3 : Int32) (v4 : Int32) (h : zHp) : Sim wX mX5_letsOut 0 rI 53 [(0, .ref 161), (1, .int v1), (2, .int v2), (3, .int v3), (4, .int v4)] [] h (f_X5_letsOut_53 k7 v1 v2 v3 v4 h) := by
  unfold f_X5_letsOut_53
  refine Sim.iload_n 3 dX5_letsOut_53 rfl ?_
  refine Sim.if_eq 75 dX5_letsOut_54 rfl ?_ ?_
  · refine Sim.iconst (v := (0 : Int32)) dX5_letsOut_75 rfl ?_
    exact Sim.iret dX5_letsOut_76 rfl
  · refine Sim.aload_n 0 dX5_letsOut_57 rfl ?_
    refine Sim.getR (j := 163) fl_X5_15 dX5_letsOut_58 xR_161_2 ?_
    refine Sim.iload_n 3 dX5_letsOut_61 rfl ?_
    refine Sim.iconst (v := (1 : Int32)) dX5_letsOut_62 rfl ?_
    refine Sim.isub dX5_letsOut_63 ?_
    refine Sim.iald (n := 10) dX5_letsOut_64 xA_163 ?_
    refine Sim.aload_n 0 dX5_letsOut_65 rfl ?_
    refine Sim.getR (j := 162) fl_X5_9 dX5_letsOut_66 xR_161_1 ?_
    refine Sim.iload 4 dX5_letsOut_69 rfl ?_
    refine Sim.iald (n := 10) dX5_letsOut_71 xA_162 ?_
    refine Sim.icmp_eq 77 dX5_letsOut_72 rfl ?_ ?_
    · refine Sim.iinc (L' := [(3, .int (v3 + (-1 : Int32))), (0, .ref 161), (1, .int v1), (2, .int v2), (4, .int v4)]) 3 dX5_letsOut_77 rfl rfl (Nat.le_of_ble_eq_true rfl) rfl ?_
      refine Sim.iinc (L' := [(4, .int (v4 + (1 : Int32))), (3, .int (v3 + (-1 : Int32))), (0, .ref 161), (1, .int v1), (2, .int v2)]) 4 dX5_letsOut_80 rfl rfl (Nat.le_of_ble_eq_true rfl) rfl ?_
      refine Sim.goto 7 dX5_letsOut_83 rfl ?_
      refine Sim.locs [2, 3, 4, 1, 0] rfl ?_
      exact H7 (v1, v2, (v3 + (-1 : Int32)), (v4 + (1 : Int32)), h)
    · refine Sim.iconst (v := (0 : Int32)) dX5_letsOut_75 rfl ?_
      exact Sim.iret dX5_letsOut_76 rfl
def f_X5_letsOut_20  (k7 : Int32 × Int32 × Int32 × Int32 × zHp → Option (Int32 × zHp)) (k20 : Int32 × Int32 × Int32 × Int32 × zHp → Option (Int32 × zHp)) (v1 : Int32) (v2 : Int32) (v3 : Int32) (v4 : Int32) (h : zHp) : Option (Int32 × zHp) := zix v4 10 ((if (h 162 v4.toNatClampNeg) < v2 then f_X5_letsOut_53 k7 v1 v2 v3 v4 h else (if v3 < (10 : Int32) then zix v3 10 (zlt (zst h 163 v3.toNatClampNeg v2) fun h1 => k20 (v1, (v2 + (1 : Int32)), (v3 + (1 : Int32)), v4, h1)) else f_X5_letsOut_53 k7 v1 v2 v3 v4 h)))
set_option maxHeartbeats 4000000 in
set_option maxRecDepth 100000 in
theorem f_X5_letsOut_20_s  (k7 : Int32 × Int32 × Int32 × Int32 × zHp → Option (Int32 × zHp)) (H7 : ∀ v : Int32 × Int32 × Int32 × Int32 × zHp, Sim wX mX5_letsOut 0 rI 7 [(0, .ref 161), (1, .int v.1), (2, .int v.2.1), (3, .int v.2.2.1), (4, .int v.2.2.2.1)] [] v.2.2.2.2 (k7 v)) (k20 : Int32 × Int32 × Int32 × Int32 × zHp → Option (Int32 × zHp)) (H20 : ∀ v : Int32 × Int32 × Int32 × Int32 × zHp, Sim wX mX5_letsOut 0 rI 20 [(0, .ref 161), (1, .int v.1), (2, .int v.2.1), (3, .int v.2.2.1), (4, .int v.2.2.2.1)] [] v.2.2.2.2 (k20 v)) (v1 : Int32) (v2 : Int32) (v3 : Int32) (v4 : Int32) (h : zHp) : Sim wX mX5_letsOut 0 rI 20 [(0, .ref 161), (1, .int v1), (2, .int v2), (3, .int v3), (4, .int v4)] [] h (f_X5_letsOut_20 k7 k20 v1 v2 v3 v4 h) := by
  unfold f_X5_letsOut_20
  refine Sim.iload_n 2 dX5_letsOut_20 rfl ?_
  refine Sim.aload_n 0 dX5_letsOut_21 rfl ?_
  refine Sim.getR (j := 162) fl_X5_9 dX5_letsOut_22 xR_161_1 ?_
  refine Sim.iload 4 dX5_letsOut_25 rfl ?_
  refine Sim.iald (n := 10) dX5_letsOut_27 xA_162 ?_
  refine Sim.icmp_gt 53 dX5_letsOut_28 rfl ?_ ?_
  · exact f_X5_letsOut_53_s k7 H7 v1 v2 v3 v4 h
  · refine Sim.iload_n 3 dX5_letsOut_31 rfl ?_
    refine Sim.bipush (v := (10 : Int32)) dX5_letsOut_32 rfl ?_
    refine Sim.icmp_ge 53 dX5_letsOut_34 rfl ?_ ?_
    · refine Sim.aload_n 0 dX5_letsOut_37 rfl ?_
      refine Sim.getR (j := 163) fl_X5_15 dX5_letsOut_38 xR_161_2 ?_
      refine Sim.iload_n 3 dX5_letsOut_41 rfl ?_
      refine Sim.iload_n 2 dX5_letsOut_42 rfl ?_
      refine Sim.iast (n := 10) dX5_letsOut_43 xA_163 ?_
      refine Sim.lth (fun h1 => ?_)
      refine Sim.iinc (L' := [(3, .int (v3 + (1 : Int32))), (0, .ref 161), (1, .int v1), (2, .int v2), (4, .int v4)]) 3 dX5_letsOut_44 rfl rfl (Nat.le_of_ble_eq_true rfl) rfl ?_
      refine Sim.iinc (L' := [(2, .int (v2 + (1 : Int32))), (3, .int (v3 + (1 : Int32))), (0, .ref 161), (1, .int v1), (4, .int v4)]) 3 dX5_letsOut_47 rfl rfl (Nat.le_of_ble_eq_true rfl) rfl ?_
      refine Sim.goto 20 dX5_letsOut_50 rfl ?_
      refine Sim.locs [2, 3, 0, 1, 4] rfl ?_
      exact H20 (v1, (v2 + (1 : Int32)), (v3 + (1 : Int32)), v4, h1)
    · exact f_X5_letsOut_53_s k7 H7 v1 v2 v3 v4 h
def f_X5_letsOut_20_lp  (k7 : Int32 × Int32 × Int32 × Int32 × zHp → Option (Int32 × zHp)) (n : Nat) (v : Int32 × Int32 × Int32 × Int32 × zHp) : Option (Int32 × zHp) := zlp (fun k20 v => f_X5_letsOut_20 k7 k20 v.1 v.2.1 v.2.2.1 v.2.2.2.1 v.2.2.2.2) n v
theorem f_X5_letsOut_20_ls  (k7 : Int32 × Int32 × Int32 × Int32 × zHp → Option (Int32 × zHp)) (H7 : ∀ v : Int32 × Int32 × Int32 × Int32 × zHp, Sim wX mX5_letsOut 0 rI 7 [(0, .ref 161), (1, .int v.1), (2, .int v.2.1), (3, .int v.2.2.1), (4, .int v.2.2.2.1)] [] v.2.2.2.2 (k7 v)) (n : Nat) (v : Int32 × Int32 × Int32 × Int32 × zHp) : Sim wX mX5_letsOut 0 rI 20 [(0, .ref 161), (1, .int v.1), (2, .int v.2.1), (3, .int v.2.2.1), (4, .int v.2.2.2.1)] [] v.2.2.2.2 (f_X5_letsOut_20_lp k7 n v) :=
  Sim.lp (V := Int32 × Int32 × Int32 × Int32 × zHp) (Lf := fun v => [(0, .ref 161), (1, .int v.1), (2, .int v.2.1), (3, .int v.2.2.1), (4, .int v.2.2.2.1)]) (sf := fun v => []) (hf := fun v => v.2.2.2.2) (fun k20 H20 v => f_X5_letsOut_20_s k7 H7 k20 H20 v.1 v.2.1 v.2.2.1 v.2.2.2.1 v.2.2.2.2) n v
def f_X5_letsOut_7  (k7 : Int32 × Int32 × Int32 × Int32 × zHp → Option (Int32 × zHp)) (v1 : Int32) (v2 : Int32) (v3 : Int32) (v4 : Int32) (h : zHp) : Option (Int32 × zHp) := (if v4 < v1 then (if v4 < (10 : Int32) then f_X5_letsOut_20_lp k7 zN (v1, v2, v3, v4, h) else some ((1 : Int32), h)) else some ((1 : Int32), h))
set_option maxHeartbeats 4000000 in
set_option maxRecDepth 100000 in
theorem f_X5_letsOut_7_s  (k7 : Int32 × Int32 × Int32 × Int32 × zHp → Option (Int32 × zHp)) (H7 : ∀ v : Int32 × Int32 × Int32 × Int32 × zHp, Sim wX mX5_letsOut 0 rI 7 [(0, .ref 161), (1, .int v.1), (2, .int v.2.1), (3, .int v.2.2.1), (4, .int v.2.2.2.1)] [] v.2.2.2.2 (k7 v)) (v1 : Int32) (v2 : Int32) (v3 : Int32) (v4 : Int32) (h : zHp) : Sim wX mX5_letsOut 0 rI 7 [(0, .ref 161), (1, .int v1), (2, .int v2), (3, .int v3), (4, .int v4)] [] h (f_X5_letsOut_7 k7 v1 v2 v3 v4 h) := by
  unfold f_X5_letsOut_7
  refine Sim.iload 4 dX5_letsOut_7 rfl ?_
  refine Sim.iload_n 1 dX5_letsOut_9 rfl ?_
  refine Sim.icmp_ge 86 dX5_letsOut_10 rfl ?_ ?_
  · refine Sim.iload 4 dX5_letsOut_13 rfl ?_
    refine Sim.bipush (v := (10 : Int32)) dX5_letsOut_15 rfl ?_
    refine Sim.icmp_ge 86 dX5_letsOut_17 rfl ?_ ?_
    · exact f_X5_letsOut_20_ls k7 H7 zN (v1, v2, v3, v4, h)
    · refine Sim.iconst (v := (1 : Int32)) dX5_letsOut_86 rfl ?_
      exact Sim.iret dX5_letsOut_87 rfl
  · refine Sim.iconst (v := (1 : Int32)) dX5_letsOut_86 rfl ?_
    exact Sim.iret dX5_letsOut_87 rfl
def f_X5_letsOut_7_lp   (n : Nat) (v : Int32 × Int32 × Int32 × Int32 × zHp) : Option (Int32 × zHp) := zlp (fun k7 v => f_X5_letsOut_7 k7 v.1 v.2.1 v.2.2.1 v.2.2.2.1 v.2.2.2.2) n v
theorem f_X5_letsOut_7_ls  (n : Nat) (v : Int32 × Int32 × Int32 × Int32 × zHp) : Sim wX mX5_letsOut 0 rI 7 [(0, .ref 161), (1, .int v.1), (2, .int v.2.1), (3, .int v.2.2.1), (4, .int v.2.2.2.1)] [] v.2.2.2.2 (f_X5_letsOut_7_lp n v) :=
  Sim.lp (V := Int32 × Int32 × Int32 × Int32 × zHp) (Lf := fun v => [(0, .ref 161), (1, .int v.1), (2, .int v.2.1), (3, .int v.2.2.1), (4, .int v.2.2.2.1)]) (sf := fun v => []) (hf := fun v => v.2.2.2.2) (fun k7 H7 v => f_X5_letsOut_7_s k7 H7 v.1 v.2.1 v.2.2.1 v.2.2.2.1 v.2.2.2.2) n v
def f_X5_letsOut  (a1 : Int32) (h : zHp) : Option (Int32 × zHp) := f_X5_letsOut_7_lp  zN (a1, (0 : Int32), (0 : Int32), (0 : Int32), h)
set_option maxHeartbeats 4000000 in
set_option maxRecDepth 100000 in
theorem s_X5_letsOut  (a1 : Int32) (h : zHp) : Fn wX mX5_letsOut 0 rI [.ref 161, .int a1] h (f_X5_letsOut a1 h) := by
  refine Fn.of rfl (Nat.le_of_ble_eq_true rfl) ?_
  unfold f_X5_letsOut
  refine Sim.iconst (v := (0 : Int32)) dX5_letsOut_0 rfl ?_
  refine Sim.istore_n (L' := [(2, .int (0 : Int32)), (0, .ref 161), (1, .int a1)]) dX5_letsOut_1 (Nat.le_of_ble_eq_true rfl) rfl ?_
  refine Sim.iconst (v := (0 : Int32)) dX5_letsOut_2 rfl ?_
  refine Sim.istore_n (L' := [(3, .int (0 : Int32)), (2, .int (0 : Int32)), (0, .ref 161), (1, .int a1)]) dX5_letsOut_3 (Nat.le_of_ble_eq_true rfl) rfl ?_
  refine Sim.iconst (v := (0 : Int32)) dX5_letsOut_4 rfl ?_
  refine Sim.istore (L' := [(4, .int (0 : Int32)), (3, .int (0 : Int32)), (2, .int (0 : Int32)), (0, .ref 161), (1, .int a1)]) dX5_letsOut_5 (Nat.le_of_ble_eq_true rfl) rfl ?_
  refine Sim.locs [3, 4, 2, 1, 0] rfl ?_
  exact f_X5_letsOut_7_ls  zN (a1, (0 : Int32), (0 : Int32), (0 : Int32), h)
theorem mv_X5_letsOut : zMV mX5_letsOut 1 := ⟨⟨zTb_in 1146 (by decide +kernel) rfl, zTb_in 147 (by decide +kernel) rfl, ⟨by decide +kernel, by decide +kernel⟩, by decide +kernel⟩, zTb_in 1144 (by decide +kernel) rfl, zTb_in 1145 (by decide +kernel) rfl⟩
-- ===== RockingPorch$Puzzles.tracks(I)I
abbrev mX5_tracks : zMt := (yX5_tracks, cX5_tracks, 5, some .int)
theorem dX5_tracks_0 : decode cX5_tracks 0 = .ok (.iconst 0, 1) := by decide +kernel
theorem dX5_tracks_1 : decode cX5_tracks 1 = .ok (.istore_n 2, 1) := by decide +kernel
theorem dX5_tracks_2 : decode cX5_tracks 2 = .ok (.iconst 0, 1) := by decide +kernel
theorem dX5_tracks_3 : decode cX5_tracks 3 = .ok (.istore_n 3, 1) := by decide +kernel
theorem dX5_tracks_4 : decode cX5_tracks 4 = .ok (.iload_n 3, 1) := by decide +kernel
theorem dX5_tracks_5 : decode cX5_tracks 5 = .ok (.iload_n 1, 1) := by decide +kernel
theorem dX5_tracks_6 : decode cX5_tracks 6 = .ok (.if_icmp .ge 88, 3) := by decide +kernel
theorem dX5_tracks_9 : decode cX5_tracks 9 = .ok (.iload_n 3, 1) := by decide +kernel
theorem dX5_tracks_10 : decode cX5_tracks 10 = .ok (.bipush 10, 2) := by decide +kernel
theorem dX5_tracks_12 : decode cX5_tracks 12 = .ok (.if_icmp .ge 82, 3) := by decide +kernel
theorem dX5_tracks_15 : decode cX5_tracks 15 = .ok (.aload_n 0, 1) := by decide +kernel
theorem dX5_tracks_16 : decode cX5_tracks 16 = .ok (.getfield 15, 3) := by decide +kernel
theorem dX5_tracks_19 : decode cX5_tracks 19 = .ok (.iload_n 3, 1) := by decide +kernel
theorem dX5_tracks_20 : decode cX5_tracks 20 = .ok (.iconst 1, 1) := by decide +kernel
theorem dX5_tracks_21 : decode cX5_tracks 21 = .ok (.iastore, 1) := by decide +kernel
theorem dX5_tracks_22 : decode cX5_tracks 22 = .ok (.iconst 0, 1) := by decide +kernel
theorem dX5_tracks_23 : decode cX5_tracks 23 = .ok (.istore 4, 2) := by decide +kernel
theorem dX5_tracks_25 : decode cX5_tracks 25 = .ok (.iload 4, 2) := by decide +kernel
theorem dX5_tracks_27 : decode cX5_tracks 27 = .ok (.iload_n 3, 1) := by decide +kernel
theorem dX5_tracks_28 : decode cX5_tracks 28 = .ok (.if_icmp .ge 49, 3) := by decide +kernel
theorem dX5_tracks_31 : decode cX5_tracks 31 = .ok (.aload_n 0, 1) := by decide +kernel
theorem dX5_tracks_32 : decode cX5_tracks 32 = .ok (.getfield 9, 3) := by decide +kernel
theorem dX5_tracks_35 : decode cX5_tracks 35 = .ok (.iload 4, 2) := by decide +kernel
theorem dX5_tracks_37 : decode cX5_tracks 37 = .ok (.iaload, 1) := by decide +kernel
theorem dX5_tracks_38 : decode cX5_tracks 38 = .ok (.aload_n 0, 1) := by decide +kernel
theorem dX5_tracks_39 : decode cX5_tracks 39 = .ok (.getfield 9, 3) := by decide +kernel
theorem dX5_tracks_42 : decode cX5_tracks 42 = .ok (.iload_n 3, 1) := by decide +kernel
theorem dX5_tracks_43 : decode cX5_tracks 43 = .ok (.iaload, 1) := by decide +kernel
theorem dX5_tracks_44 : decode cX5_tracks 44 = .ok (.if_icmp .le 27, 3) := by decide +kernel
theorem dX5_tracks_47 : decode cX5_tracks 47 = .ok (.aload_n 0, 1) := by decide +kernel
theorem dX5_tracks_48 : decode cX5_tracks 48 = .ok (.getfield 15, 3) := by decide +kernel
theorem dX5_tracks_51 : decode cX5_tracks 51 = .ok (.iload_n 3, 1) := by decide +kernel
theorem dX5_tracks_52 : decode cX5_tracks 52 = .ok (.aload_n 0, 1) := by decide +kernel
theorem dX5_tracks_53 : decode cX5_tracks 53 = .ok (.getfield 15, 3) := by decide +kernel
theorem dX5_tracks_56 : decode cX5_tracks 56 = .ok (.iload_n 3, 1) := by decide +kernel
theorem dX5_tracks_57 : decode cX5_tracks 57 = .ok (.iaload, 1) := by decide +kernel
theorem dX5_tracks_58 : decode cX5_tracks 58 = .ok (.aload_n 0, 1) := by decide +kernel
theorem dX5_tracks_59 : decode cX5_tracks 59 = .ok (.getfield 15, 3) := by decide +kernel
theorem dX5_tracks_62 : decode cX5_tracks 62 = .ok (.iload 4, 2) := by decide +kernel
theorem dX5_tracks_64 : decode cX5_tracks 64 = .ok (.iaload, 1) := by decide +kernel
theorem dX5_tracks_65 : decode cX5_tracks 65 = .ok (.iconst 1, 1) := by decide +kernel
theorem dX5_tracks_66 : decode cX5_tracks 66 = .ok (.iadd, 1) := by decide +kernel
theorem dX5_tracks_67 : decode cX5_tracks 67 = .ok (.invokestatic 47, 3) := by decide +kernel
theorem dX5_tracks_70 : decode cX5_tracks 70 = .ok (.iastore, 1) := by decide +kernel
theorem dX5_tracks_71 : decode cX5_tracks 71 = .ok (.iinc 4 1, 3) := by decide +kernel
theorem dX5_tracks_74 : decode cX5_tracks 74 = .ok (.goto (-49), 3) := by decide +kernel
theorem dX5_tracks_77 : decode cX5_tracks 77 = .ok (.iload_n 2, 1) := by decide +kernel
theorem dX5_tracks_78 : decode cX5_tracks 78 = .ok (.aload_n 0, 1) := by decide +kernel
theorem dX5_tracks_79 : decode cX5_tracks 79 = .ok (.getfield 15, 3) := by decide +kernel
theorem dX5_tracks_82 : decode cX5_tracks 82 = .ok (.iload_n 3, 1) := by decide +kernel
theorem dX5_tracks_83 : decode cX5_tracks 83 = .ok (.iaload, 1) := by decide +kernel
theorem dX5_tracks_84 : decode cX5_tracks 84 = .ok (.invokestatic 47, 3) := by decide +kernel
theorem dX5_tracks_87 : decode cX5_tracks 87 = .ok (.istore_n 2, 1) := by decide +kernel
theorem dX5_tracks_88 : decode cX5_tracks 88 = .ok (.iinc 3 1, 3) := by decide +kernel
theorem dX5_tracks_91 : decode cX5_tracks 91 = .ok (.goto (-87), 3) := by decide +kernel
theorem dX5_tracks_94 : decode cX5_tracks 94 = .ok (.iload_n 2, 1) := by decide +kernel
theorem dX5_tracks_95 : decode cX5_tracks 95 = .ok (.ireturn, 1) := by decide +kernel
def f_X5_tracks_25  (k4 : Int32 × Int32 × Int32 × zHp → Option (Int32 × zHp)) (k25 : Int32 × Int32 × Int32 × Int32 × zHp → Option (Int32 × zHp)) (v1 : Int32) (v2 : Int32) (v3 : Int32) (v4 : Int32) (h : zHp) : Option (Int32 × zHp) := (if v4 < v3 then zix v4 10 (zix v3 10 ((if (h 162 v3.toNatClampNeg) < (h 162 v4.toNatClampNeg) then zix v3 10 (zix v4 10 (zix v3 10 (zlt (zst h 163 v3.toNatClampNeg (if (h 163 v3.toNatClampNeg) < ((h 163 v4.toNatClampNeg) + (1 : Int32)) then ((h 163 v4.toNatClampNeg) + (1 : Int32)) else (h 163 v3.toNatClampNeg))) fun h1 => k25 (v1, v2, v3, (v4 + (1 : Int32)), h1)))) else k25 (v1, v2, v3, (v4 + (1 : Int32)), h)))) else zix v3 10 (zlt (if v2 < (h 163 v3.toNatClampNeg) then (h 163 v3.toNatClampNeg) else v2) fun x2 => k4 (v1, x2, (v3 + (1 : Int32)), h)))
set_option maxHeartbeats 4000000 in
set_option maxRecDepth 100000 in
theorem f_X5_tracks_25_s  (k4 : Int32 × Int32 × Int32 × zHp → Option (Int32 × zHp)) (H4 : ∀ v : Int32 × Int32 × Int32 × zHp, Sim wX mX5_tracks 1 rI 4 [(0, .ref 161), (1, .int v.1), (2, .int v.2.1), (3, .int v.2.2.1)] [] v.2.2.2 (k4 v)) (k25 : Int32 × Int32 × Int32 × Int32 × zHp → Option (Int32 × zHp)) (H25 : ∀ v : Int32 × Int32 × Int32 × Int32 × zHp, Sim wX mX5_tracks 1 rI 25 [(0, .ref 161), (1, .int v.1), (2, .int v.2.1), (3, .int v.2.2.1), (4, .int v.2.2.2.1)] [] v.2.2.2.2 (k25 v)) (v1 : Int32) (v2 : Int32) (v3 : Int32) (v4 : Int32) (h : zHp) : Sim wX mX5_tracks 1 rI 25 [(0, .ref 161), (1, .int v1), (2, .int v2), (3, .int v3), (4, .int v4)] [] h (f_X5_tracks_25 k4 k25 v1 v2 v3 v4 h) := by
  unfold f_X5_tracks_25
  refine Sim.iload 4 dX5_tracks_25 rfl ?_
  refine Sim.iload_n 3 dX5_tracks_27 rfl ?_
  refine Sim.icmp_ge 77 dX5_tracks_28 rfl ?_ ?_
  · refine Sim.aload_n 0 dX5_tracks_31 rfl ?_
    refine Sim.getR (j := 162) fl_X5_9 dX5_tracks_32 xR_161_1 ?_
    refine Sim.iload 4 dX5_tracks_35 rfl ?_
    refine Sim.iald (n := 10) dX5_tracks_37 xA_162 ?_
    refine Sim.aload_n 0 dX5_tracks_38 rfl ?_
    refine Sim.getR (j := 162) fl_X5_9 dX5_tracks_39 xR_161_1 ?_
    refine Sim.iload_n 3 dX5_tracks_42 rfl ?_
    refine Sim.iald (n := 10) dX5_tracks_43 xA_162 ?_
    refine Sim.icmp_le 71 dX5_tracks_44 rfl ?_ ?_
    · refine Sim.aload_n 0 dX5_tracks_47 rfl ?_
      refine Sim.getR (j := 163) fl_X5_15 dX5_tracks_48 xR_161_2 ?_
      refine Sim.iload_n 3 dX5_tracks_51 rfl ?_
      refine Sim.aload_n 0 dX5_tracks_52 rfl ?_
      refine Sim.getR (j := 163) fl_X5_15 dX5_tracks_53 xR_161_2 ?_
      refine Sim.iload_n 3 dX5_tracks_56 rfl ?_
      refine Sim.iald (n := 10) dX5_tracks_57 xA_163 ?_
      refine Sim.aload_n 0 dX5_tracks_58 rfl ?_
      refine Sim.getR (j := 163) fl_X5_15 dX5_tracks_59 xR_161_2 ?_
      refine Sim.iload 4 dX5_tracks_62 rfl ?_
      refine Sim.iald (n := 10) dX5_tracks_64 xA_163 ?_
      refine Sim.iconst (v := (1 : Int32)) dX5_tracks_65 rfl ?_
      refine Sim.iadd dX5_tracks_66 ?_
      refine Sim.mmax dX5_tracks_67 ml_X5_47 ms_max ms_Math mc_max (Nat.le_of_ble_eq_true rfl) (Nat.le_of_ble_eq_true rfl) ?_
      refine Sim.iast (n := 10) dX5_tracks_70 xA_163 ?_
      refine Sim.lth (fun h1 => ?_)
      refine Sim.iinc (L' := [(4, .int (v4 + (1 : Int32))), (0, .ref 161), (1, .int v1), (2, .int v2), (3, .int v3)]) 4 dX5_tracks_71 rfl rfl (Nat.le_of_ble_eq_true rfl) rfl ?_
      refine Sim.goto 25 dX5_tracks_74 rfl ?_
      refine Sim.locs [1, 2, 3, 4, 0] rfl ?_
      exact H25 (v1, v2, v3, (v4 + (1 : Int32)), h1)
    · refine Sim.iinc (L' := [(4, .int (v4 + (1 : Int32))), (0, .ref 161), (1, .int v1), (2, .int v2), (3, .int v3)]) 4 dX5_tracks_71 rfl rfl (Nat.le_of_ble_eq_true rfl) rfl ?_
      refine Sim.goto 25 dX5_tracks_74 rfl ?_
      refine Sim.locs [1, 2, 3, 4, 0] rfl ?_
      exact H25 (v1, v2, v3, (v4 + (1 : Int32)), h)
  · refine Sim.iload_n 2 dX5_tracks_77 rfl ?_
    refine Sim.aload_n 0 dX5_tracks_78 rfl ?_
    refine Sim.getR (j := 163) fl_X5_15 dX5_tracks_79 xR_161_2 ?_
    refine Sim.iload_n 3 dX5_tracks_82 rfl ?_
    refine Sim.iald (n := 10) dX5_tracks_83 xA_163 ?_
    refine Sim.mmax dX5_tracks_84 ml_X5_47 ms_max ms_Math mc_max (Nat.le_of_ble_eq_true rfl) (Nat.le_of_ble_eq_true rfl) ?_
    refine Sim.lti (fun x2 => ?_)
    refine Sim.istore_n (L' := [(2, .int x2), (0, .ref 161), (1, .int v1), (3, .int v3), (4, .int v4)]) dX5_tracks_87 (Nat.le_of_ble_eq_true rfl) rfl ?_
    refine Sim.iinc (L' := [(3, .int (v3 + (1 : Int32))), (2, .int x2), (0, .ref 161), (1, .int v1), (4, .int v4)]) 3 dX5_tracks_88 rfl rfl (Nat.le_of_ble_eq_true rfl) rfl ?_
    refine Sim.goto 4 dX5_tracks_91 rfl ?_
    refine Sim.locs [2, 3, 1, 0] rfl ?_
    exact H4 (v1, x2, (v3 + (1 : Int32)), h)
def f_X5_tracks_25_lp  (k4 : Int32 × Int32 × Int32 × zHp → Option (Int32 × zHp)) (n : Nat) (v : Int32 × Int32 × Int32 × Int32 × zHp) : Option (Int32 × zHp) := zlp (fun k25 v => f_X5_tracks_25 k4 k25 v.1 v.2.1 v.2.2.1 v.2.2.2.1 v.2.2.2.2) n v
theorem f_X5_tracks_25_ls  (k4 : Int32 × Int32 × Int32 × zHp → Option (Int32 × zHp)) (H4 : ∀ v : Int32 × Int32 × Int32 × zHp, Sim wX mX5_tracks 1 rI 4 [(0, .ref 161), (1, .int v.1), (2, .int v.2.1), (3, .int v.2.2.1)] [] v.2.2.2 (k4 v)) (n : Nat) (v : Int32 × Int32 × Int32 × Int32 × zHp) : Sim wX mX5_tracks 1 rI 25 [(0, .ref 161), (1, .int v.1), (2, .int v.2.1), (3, .int v.2.2.1), (4, .int v.2.2.2.1)] [] v.2.2.2.2 (f_X5_tracks_25_lp k4 n v) :=
  Sim.lp (V := Int32 × Int32 × Int32 × Int32 × zHp) (Lf := fun v => [(0, .ref 161), (1, .int v.1), (2, .int v.2.1), (3, .int v.2.2.1), (4, .int v.2.2.2.1)]) (sf := fun v => []) (hf := fun v => v.2.2.2.2) (fun k25 H25 v => f_X5_tracks_25_s k4 H4 k25 H25 v.1 v.2.1 v.2.2.1 v.2.2.2.1 v.2.2.2.2) n v
def f_X5_tracks_4  (k4 : Int32 × Int32 × Int32 × zHp → Option (Int32 × zHp)) (v1 : Int32) (v2 : Int32) (v3 : Int32) (h : zHp) : Option (Int32 × zHp) := (if v3 < v1 then (if v3 < (10 : Int32) then zix v3 10 (zlt (zst h 163 v3.toNatClampNeg (1 : Int32)) fun h1 => f_X5_tracks_25_lp k4 zN (v1, v2, v3, (0 : Int32), h1)) else some (v2, h)) else some (v2, h))
set_option maxHeartbeats 4000000 in
set_option maxRecDepth 100000 in
theorem f_X5_tracks_4_s  (k4 : Int32 × Int32 × Int32 × zHp → Option (Int32 × zHp)) (H4 : ∀ v : Int32 × Int32 × Int32 × zHp, Sim wX mX5_tracks 1 rI 4 [(0, .ref 161), (1, .int v.1), (2, .int v.2.1), (3, .int v.2.2.1)] [] v.2.2.2 (k4 v)) (v1 : Int32) (v2 : Int32) (v3 : Int32) (h : zHp) : Sim wX mX5_tracks 1 rI 4 [(0, .ref 161), (1, .int v1), (2, .int v2), (3, .int v3)] [] h (f_X5_tracks_4 k4 v1 v2 v3 h) := by
  unfold f_X5_tracks_4
  refine Sim.iload_n 3 dX5_tracks_4 rfl ?_
  refine Sim.iload_n 1 dX5_tracks_5 rfl ?_
  refine Sim.icmp_ge 94 dX5_tracks_6 rfl ?_ ?_
  · refine Sim.iload_n 3 dX5_tracks_9 rfl ?_
    refine Sim.bipush (v := (10 : Int32)) dX5_tracks_10 rfl ?_
    refine Sim.icmp_ge 94 dX5_tracks_12 rfl ?_ ?_
    · refine Sim.aload_n 0 dX5_tracks_15 rfl ?_
      refine Sim.getR (j := 163) fl_X5_15 dX5_tracks_16 xR_161_2 ?_
      refine Sim.iload_n 3 dX5_tracks_19 rfl ?_
      refine Sim.iconst (v := (1 : Int32)) dX5_tracks_20 rfl ?_
      refine Sim.iast (n := 10) dX5_tracks_21 xA_163 ?_
      refine Sim.lth (fun h1 => ?_)
      refine Sim.iconst (v := (0 : Int32)) dX5_tracks_22 rfl ?_
      refine Sim.istore (L' := [(4, .int (0 : Int32)), (0, .ref 161), (1, .int v1), (2, .int v2), (3, .int v3)]) dX5_tracks_23 (Nat.le_of_ble_eq_true rfl) rfl ?_
      refine Sim.locs [1, 2, 3, 4, 0] rfl ?_
      exact f_X5_tracks_25_ls k4 H4 zN (v1, v2, v3, (0 : Int32), h1)
    · refine Sim.iload_n 2 dX5_tracks_94 rfl ?_
      exact Sim.iret dX5_tracks_95 rfl
  · refine Sim.iload_n 2 dX5_tracks_94 rfl ?_
    exact Sim.iret dX5_tracks_95 rfl
def f_X5_tracks_4_lp   (n : Nat) (v : Int32 × Int32 × Int32 × zHp) : Option (Int32 × zHp) := zlp (fun k4 v => f_X5_tracks_4 k4 v.1 v.2.1 v.2.2.1 v.2.2.2) n v
theorem f_X5_tracks_4_ls  (n : Nat) (v : Int32 × Int32 × Int32 × zHp) : Sim wX mX5_tracks 1 rI 4 [(0, .ref 161), (1, .int v.1), (2, .int v.2.1), (3, .int v.2.2.1)] [] v.2.2.2 (f_X5_tracks_4_lp n v) :=
  Sim.lp (V := Int32 × Int32 × Int32 × zHp) (Lf := fun v => [(0, .ref 161), (1, .int v.1), (2, .int v.2.1), (3, .int v.2.2.1)]) (sf := fun v => []) (hf := fun v => v.2.2.2) (fun k4 H4 v => f_X5_tracks_4_s k4 H4 v.1 v.2.1 v.2.2.1 v.2.2.2) n v
def f_X5_tracks  (a1 : Int32) (h : zHp) : Option (Int32 × zHp) := f_X5_tracks_4_lp  zN (a1, (0 : Int32), (0 : Int32), h)
set_option maxHeartbeats 4000000 in
set_option maxRecDepth 100000 in
theorem s_X5_tracks  (a1 : Int32) (h : zHp) : Fn wX mX5_tracks 1 rI [.ref 161, .int a1] h (f_X5_tracks a1 h) := by
  refine Fn.of rfl (Nat.le_of_ble_eq_true rfl) ?_
  unfold f_X5_tracks
  refine Sim.iconst (v := (0 : Int32)) dX5_tracks_0 rfl ?_
  refine Sim.istore_n (L' := [(2, .int (0 : Int32)), (0, .ref 161), (1, .int a1)]) dX5_tracks_1 (Nat.le_of_ble_eq_true rfl) rfl ?_
  refine Sim.iconst (v := (0 : Int32)) dX5_tracks_2 rfl ?_
  refine Sim.istore_n (L' := [(3, .int (0 : Int32)), (2, .int (0 : Int32)), (0, .ref 161), (1, .int a1)]) dX5_tracks_3 (Nat.le_of_ble_eq_true rfl) rfl ?_
  refine Sim.locs [2, 3, 1, 0] rfl ?_
  exact f_X5_tracks_4_ls  zN (a1, (0 : Int32), (0 : Int32), h)
theorem mv_X5_tracks : zMV mX5_tracks 1 := ⟨⟨zTb_in 1150 (by decide +kernel) rfl, zTb_in 147 (by decide +kernel) rfl, ⟨by decide +kernel, by decide +kernel⟩, by decide +kernel⟩, zTb_in 1148 (by decide +kernel) rfl, zTb_in 1149 (by decide +kernel) rfl⟩
