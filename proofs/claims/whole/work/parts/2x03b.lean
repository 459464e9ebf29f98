-- ===== RockingPorch$Reader.sumOf()V
abbrev mX6_sumOf : zMt := (yX6_sumOf, cX6_sumOf, 4, none)
theorem fl_X6_47 : zF RX6 47 6 10 := ⟨RX6, TX6, 14, rfl, Nat.le_of_ble_eq_true rfl, zTb_in 440 (by decide +kernel) rfl, in_X6⟩
theorem ml_X6_146 : Cond.methodLink RX6 146 yX6_expectNumber ∈ zTb := zTb_in 921 (by decide +kernel) rfl
theorem ml_X6_167 : Cond.methodLink RX6 167 yX6_expectUnit ∈ zTb := zTb_in 925 (by decide +kernel) rfl
theorem ml_X6_170 : Cond.methodLink RX6 170 yX1_add ∈ zTb := zTb_in 929 (by decide +kernel) rfl
theorem dX6_sumOf_0 : decode cX6_sumOf 0 = .ok (.bipush 35, 2) := by decide +kernel
theorem dX6_sumOf_2 : decode cX6_sumOf 2 = .ok (.istore_n 1, 1) := by decide +kernel
theorem dX6_sumOf_3 : decode cX6_sumOf 3 = .ok (.bipush 35, 2) := by decide +kernel
theorem dX6_sumOf_5 : decode cX6_sumOf 5 = .ok (.istore_n 2, 1) := by decide +kernel
theorem dX6_sumOf_6 : decode cX6_sumOf 6 = .ok (.iconst 0, 1) := by decide +kernel
theorem dX6_sumOf_7 : decode cX6_sumOf 7 = .ok (.istore_n 3, 1) := by decide +kernel
theorem dX6_sumOf_8 : decode cX6_sumOf 8 = .ok (.iload_n 3, 1) := by decide +kernel
theorem dX6_sumOf_9 : decode cX6_sumOf 9 = .ok (.sipush 400, 3) := by decide +kernel
theorem dX6_sumOf_12 : decode cX6_sumOf 12 = .ok (.if_icmp .ge 156, 3) := by decide +kernel
theorem dX6_sumOf_15 : decode cX6_sumOf 15 = .ok (.aload_n 0, 1) := by decide +kernel
theorem dX6_sumOf_16 : decode cX6_sumOf 16 = .ok (.getfield 60, 3) := by decide +kernel
theorem dX6_sumOf_19 : decode cX6_sumOf 19 = .ok (.ifCond .ne 149, 3) := by decide +kernel
theorem dX6_sumOf_22 : decode cX6_sumOf 22 = .ok (.aload_n 0, 1) := by decide +kernel
theorem dX6_sumOf_23 : decode cX6_sumOf 23 = .ok (.getfield 47, 3) := by decide +kernel
theorem dX6_sumOf_26 : decode cX6_sumOf 26 = .ok (.iload_n 1, 1) := by decide +kernel
theorem dX6_sumOf_27 : decode cX6_sumOf 27 = .ok (.bipush 28, 2) := by decide +kernel
theorem dX6_sumOf_29 : decode cX6_sumOf 29 = .ok (.if_icmp .ne 14, 3) := by decide +kernel
theorem dX6_sumOf_32 : decode cX6_sumOf 32 = .ok (.aload_n 0, 1) := by decide +kernel
theorem dX6_sumOf_33 : decode cX6_sumOf 33 = .ok (.sipush 9999, 3) := by decide +kernel
theorem dX6_sumOf_36 : decode cX6_sumOf 36 = .ok (.iconst 0, 1) := by decide +kernel
theorem dX6_sumOf_37 : decode cX6_sumOf 37 = .ok (.invokevirtual 146, 3) := by decide +kernel
theorem dX6_sumOf_40 : decode cX6_sumOf 40 = .ok (.goto 7, 3) := by decide +kernel
theorem dX6_sumOf_43 : decode cX6_sumOf 43 = .ok (.aload_n 0, 1) := by decide +kernel
theorem dX6_sumOf_44 : decode cX6_sumOf 44 = .ok (.invokevirtual 167, 3) := by decide +kernel
theorem dX6_sumOf_47 : decode cX6_sumOf 47 = .ok (.invokevirtual 170, 3) := by decide +kernel
theorem dX6_sumOf_50 : decode cX6_sumOf 50 = .ok (.iload_n 1, 1) := by decide +kernel
theorem dX6_sumOf_51 : decode cX6_sumOf 51 = .ok (.bipush 35, 2) := by decide +kernel
theorem dX6_sumOf_53 : decode cX6_sumOf 53 = .ok (.if_icmp .eq 13, 3) := by decide +kernel
theorem dX6_sumOf_56 : decode cX6_sumOf 56 = .ok (.aload_n 0, 1) := by decide +kernel
theorem dX6_sumOf_57 : decode cX6_sumOf 57 = .ok (.getfield 47, 3) := by decide +kernel
theorem dX6_sumOf_60 : decode cX6_sumOf 60 = .ok (.iload_n 1, 1) := by decide +kernel
theorem dX6_sumOf_61 : decode cX6_sumOf 61 = .ok (.iconst (-1), 1) := by decide +kernel
theorem dX6_sumOf_62 : decode cX6_sumOf 62 = .ok (.ixor, 1) := by decide +kernel
theorem dX6_sumOf_63 : decode cX6_sumOf 63 = .ok (.invokevirtual 170, 3) := by decide +kernel
theorem dX6_sumOf_66 : decode cX6_sumOf 66 = .ok (.aload_n 0, 1) := by decide +kernel
theorem dX6_sumOf_67 : decode cX6_sumOf 67 = .ok (.getfield 35, 3) := by decide +kernel
theorem dX6_sumOf_70 : decode cX6_sumOf 70 = .ok (.bipush 27, 2) := by decide +kernel
theorem dX6_sumOf_72 : decode cX6_sumOf 72 = .ok (.if_icmp .eq 12, 3) := by decide +kernel
theorem dX6_sumOf_75 : decode cX6_sumOf 75 = .ok (.aload_n 0, 1) := by decide +kernel
theorem dX6_sumOf_76 : decode cX6_sumOf 76 = .ok (.getfield 35, 3) := by decide +kernel
theorem dX6_sumOf_79 : decode cX6_sumOf 79 = .ok (.bipush 28, 2) := by decide +kernel
theorem dX6_sumOf_81 : decode cX6_sumOf 81 = .ok (.if_icmp .ne 10, 3) := by decide +kernel
theorem dX6_sumOf_84 : decode cX6_sumOf 84 = .ok (.aload_n 0, 1) := by decide +kernel
theorem dX6_sumOf_85 : decode cX6_sumOf 85 = .ok (.getfield 35, 3) := by decide +kernel
theorem dX6_sumOf_88 : decode cX6_sumOf 88 = .ok (.goto 5, 3) := by decide +kernel
theorem dX6_sumOf_91 : decode cX6_sumOf 91 = .ok (.bipush 35, 2) := by decide +kernel
theorem dX6_sumOf_93 : decode cX6_sumOf 93 = .ok (.istore_n 1, 1) := by decide +kernel
theorem dX6_sumOf_94 : decode cX6_sumOf 94 = .ok (.iload_n 1, 1) := by decide +kernel
theorem dX6_sumOf_95 : decode cX6_sumOf 95 = .ok (.bipush 35, 2) := by decide +kernel
theorem dX6_sumOf_97 : decode cX6_sumOf 97 = .ok (.if_icmp .ne 54, 3) := by decide +kernel
theorem dX6_sumOf_100 : decode cX6_sumOf 100 = .ok (.iload_n 2, 1) := by decide +kernel
theorem dX6_sumOf_101 : decode cX6_sumOf 101 = .ok (.bipush 35, 2) := by decide +kernel
theorem dX6_sumOf_103 : decode cX6_sumOf 103 = .ok (.if_icmp .eq 13, 3) := by decide +kernel
theorem dX6_sumOf_106 : decode cX6_sumOf 106 = .ok (.aload_n 0, 1) := by decide +kernel
theorem dX6_sumOf_107 : decode cX6_sumOf 107 = .ok (.getfield 47, 3) := by decide +kernel
theorem dX6_sumOf_110 : decode cX6_sumOf 110 = .ok (.iload_n 2, 1) := by decide +kernel
theorem dX6_sumOf_111 : decode cX6_sumOf 111 = .ok (.iconst (-1), 1) := by decide +kernel
theorem dX6_sumOf_112 : decode cX6_sumOf 112 = .ok (.ixor, 1) := by decide +kernel
theorem dX6_sumOf_113 : decode cX6_sumOf 113 = .ok (.invokevirtual 170, 3) := by decide +kernel
theorem dX6_sumOf_116 : decode cX6_sumOf 116 = .ok (.aload_n 0, 1) := by decide +kernel
theorem dX6_sumOf_117 : decode cX6_sumOf 117 = .ok (.getfield 35, 3) := by decide +kernel
theorem dX6_sumOf_120 : decode cX6_sumOf 120 = .ok (.bipush 25, 2) := by decide +kernel
theorem dX6_sumOf_122 : decode cX6_sumOf 122 = .ok (.if_icmp .eq 12, 3) := by decide +kernel
theorem dX6_sumOf_125 : decode cX6_sumOf 125 = .ok (.aload_n 0, 1) := by decide +kernel
theorem dX6_sumOf_126 : decode cX6_sumOf 126 = .ok (.getfield 35, 3) := by decide +kernel
theorem dX6_sumOf_129 : decode cX6_sumOf 129 = .ok (.bipush 26, 2) := by decide +kernel
theorem dX6_sumOf_131 : decode cX6_sumOf 131 = .ok (.if_icmp .ne 10, 3) := by decide +kernel
theorem dX6_sumOf_134 : decode cX6_sumOf 134 = .ok (.aload_n 0, 1) := by decide +kernel
theorem dX6_sumOf_135 : decode cX6_sumOf 135 = .ok (.getfield 35, 3) := by decide +kernel
theorem dX6_sumOf_138 : decode cX6_sumOf 138 = .ok (.goto 5, 3) := by decide +kernel
theorem dX6_sumOf_141 : decode cX6_sumOf 141 = .ok (.bipush 35, 2) := by decide +kernel
theorem dX6_sumOf_143 : decode cX6_sumOf 143 = .ok (.istore_n 2, 1) := by decide +kernel
theorem dX6_sumOf_144 : decode cX6_sumOf 144 = .ok (.iload_n 2, 1) := by decide +kernel
theorem dX6_sumOf_145 : decode cX6_sumOf 145 = .ok (.bipush 35, 2) := by decide +kernel
theorem dX6_sumOf_147 : decode cX6_sumOf 147 = .ok (.if_icmp .ne 4, 3) := by decide +kernel
theorem dX6_sumOf_150 : decode cX6_sumOf 150 = .ok (.return_, 1) := by decide +kernel
theorem dX6_sumOf_151 : decode cX6_sumOf 151 = .ok (.aload_n 0, 1) := by decide +kernel
theorem dX6_sumOf_152 : decode cX6_sumOf 152 = .ok (.getfield 60, 3) := by decide +kernel
theorem dX6_sumOf_155 : decode cX6_sumOf 155 = .ok (.ifCond .ne 7, 3) := by decide +kernel
theorem dX6_sumOf_158 : decode cX6_sumOf 158 = .ok (.aload_n 0, 1) := by decide +kernel
theorem dX6_sumOf_159 : decode cX6_sumOf 159 = .ok (.invokevirtual 130, 3) := by decide +kernel
theorem dX6_sumOf_162 : decode cX6_sumOf 162 = .ok (.iinc 3 1, 3) := by decide +kernel
theorem dX6_sumOf_165 : decode cX6_sumOf 165 = .ok (.goto (-157), 3) := by decide +kernel
theorem dX6_sumOf_168 : decode cX6_sumOf 168 = .ok (.return_, 1) := by decide +kernel
def f_X6_sumOf_151  (k8 : Int32 × Int32 × Int32 × zHp → Option (zHp)) (v1 : Int32) (v2 : Int32) (v3 : Int32) (h : zHp) : Option (zHp) := (if (h 145 12) = 0 then (f_X6_advance h).bind fun x1 => k8 (v1, v2, (v3 + (1 : Int32)), x1) else k8 (v1, v2, (v3 + (1 : Int32)), h))
set_option maxHeartbeats 4000000 in
set_option maxRecDepth 100000 in
theorem f_X6_sumOf_151_s  (k8 : Int32 × Int32 × Int32 × zHp → Option (zHp)) (H8 : ∀ v : Int32 × Int32 × Int32 × zHp, Sim wX mX6_sumOf 2 rV 8 [(0, .ref 145), (1, .int v.1), (2, .int v.2.1), (3, .int v.2.2.1)] [] v.2.2.2 (k8 v)) (v1 : Int32) (v2 : Int32) (v3 : Int32) (h : zHp) : Sim wX mX6_sumOf 2 rV 151 [(0, .ref 145), (1, .int v1), (2, .int v2), (3, .int v3)] [] h (f_X6_sumOf_151 k8 v1 v2 v3 h) := by
  unfold f_X6_sumOf_151
  refine Sim.aload_n 0 dX6_sumOf_151 rfl ?_
  refine Sim.getI fl_X6_60 dX6_sumOf_152 xI_145_12 ?_
  refine Sim.if_ne 162 dX6_sumOf_155 rfl ?_ ?_
  · refine Sim.aload_n 0 dX6_sumOf_158 rfl ?_
    refine Sim.callV0U (d1 := 0) (s_X6_advance h) dX6_sumOf_159 ml_X6_130 mv_X6_advance xO_X6 (Nat.le_of_ble_eq_true rfl) (Nat.le_of_ble_eq_true rfl) (Nat.le_of_ble_eq_true rfl) (fun x1 => ?_)
    refine Sim.iinc (L' := [(3, .int (v3 + (1 : Int32))), (0, .ref 145), (1, .int v1), (2, .int v2)]) 3 dX6_sumOf_162 rfl rfl (Nat.le_of_ble_eq_true rfl) rfl ?_
    refine Sim.goto 8 dX6_sumOf_165 rfl ?_
    refine Sim.locs [1, 2, 3, 0] rfl ?_
    exact H8 (v1, v2, (v3 + (1 : Int32)), x1)
  · refine Sim.iinc (L' := [(3, .int (v3 + (1 : Int32))), (0, .ref 145), (1, .int v1), (2, .int v2)]) 3 dX6_sumOf_162 rfl rfl (Nat.le_of_ble_eq_true rfl) rfl ?_
    refine Sim.goto 8 dX6_sumOf_165 rfl ?_
    refine Sim.locs [1, 2, 3, 0] rfl ?_
    exact H8 (v1, v2, (v3 + (1 : Int32)), h)
def f_X6_sumOf_143  (k8 : Int32 × Int32 × Int32 × zHp → Option (zHp)) (v1 : Int32) (v3 : Int32) (s0 : Int32) (h : zHp) : Option (zHp) := (if s0 = (35 : Int32) then some h else f_X6_sumOf_151 k8 v1 s0 v3 h)
set_option maxHeartbeats 4000000 in
set_option maxRecDepth 100000 in
theorem f_X6_sumOf_143_s  (k8 : Int32 × Int32 × Int32 × zHp → Option (zHp)) (H8 : ∀ v : Int32 × Int32 × Int32 × zHp, Sim wX mX6_sumOf 2 rV 8 [(0, .ref 145), (1, .int v.1), (2, .int v.2.1), (3, .int v.2.2.1)] [] v.2.2.2 (k8 v)) (v1 : Int32) (v3 : Int32) (s0 : Int32) (h : zHp) : Sim wX mX6_sumOf 2 rV 143 [(0, .ref 145), (1, .int v1), (3, .int v3)] [.int s0] h (f_X6_sumOf_143 k8 v1 v3 s0 h) := by
  unfold f_X6_sumOf_143
  refine Sim.istore_n (L' := [(2, .int s0), (0, .ref 145), (1, .int v1), (3, .int v3)]) dX6_sumOf_143 (Nat.le_of_ble_eq_true rfl) rfl ?_
  refine Sim.iload_n 0 dX6_sumOf_144 rfl ?_
  refine Sim.bipush (v := (35 : Int32)) dX6_sumOf_145 rfl ?_
  refine Sim.icmp_ne 151 dX6_sumOf_147 rfl ?_ ?_
  · exact Sim.vret dX6_sumOf_150 rfl
  · refine Sim.locs [1, 2, 0, 3] rfl ?_
    exact f_X6_sumOf_151_s k8 H8 v1 s0 v3 h
def f_X6_sumOf_116  (k8 : Int32 × Int32 × Int32 × zHp → Option (zHp)) (v1 : Int32) (v3 : Int32) (h : zHp) : Option (zHp) := (if (h 145 7) = (25 : Int32) then f_X6_sumOf_143 k8 v1 v3 (h 145 7) h else (if (h 145 7) = (26 : Int32) then f_X6_sumOf_143 k8 v1 v3 (h 145 7) h else f_X6_sumOf_143 k8 v1 v3 (35 : Int32) h))
set_option maxHeartbeats 4000000 in
set_option maxRecDepth 100000 in
theorem f_X6_sumOf_116_s  (k8 : Int32 × Int32 × Int32 × zHp → Option (zHp)) (H8 : ∀ v : Int32 × Int32 × Int32 × zHp, Sim wX mX6_sumOf 2 rV 8 [(0, .ref 145), (1, .int v.1), (2, .int v.2.1), (3, .int v.2.2.1)] [] v.2.2.2 (k8 v)) (v1 : Int32) (v3 : Int32) (h : zHp) : Sim wX mX6_sumOf 2 rV 116 [(0, .ref 145), (1, .int v1), (3, .int v3)] [] h (f_X6_sumOf_116 k8 v1 v3 h) := by
  unfold f_X6_sumOf_116
  refine Sim.aload_n 0 dX6_sumOf_116 rfl ?_
  refine Sim.getI fl_X6_35 dX6_sumOf_117 xI_145_7 ?_
  refine Sim.bipush (v := (25 : Int32)) dX6_sumOf_120 rfl ?_
  refine Sim.icmp_eq 134 dX6_sumOf_122 rfl ?_ ?_
  · refine Sim.aload_n 0 dX6_sumOf_134 rfl ?_
    refine Sim.getI fl_X6_35 dX6_sumOf_135 xI_145_7 ?_
    refine Sim.goto 143 dX6_sumOf_138 rfl ?_
    exact f_X6_sumOf_143_s k8 H8 v1 v3 (h 145 7) h
  · refine Sim.aload_n 0 dX6_sumOf_125 rfl ?_
    refine Sim.getI fl_X6_35 dX6_sumOf_126 xI_145_7 ?_
    refine Sim.bipush (v := (26 : Int32)) dX6_sumOf_129 rfl ?_
    refine Sim.icmp_ne 141 dX6_sumOf_131 rfl ?_ ?_
    · refine Sim.aload_n 0 dX6_sumOf_134 rfl ?_
      refine Sim.getI fl_X6_35 dX6_sumOf_135 xI_145_7 ?_
      refine Sim.goto 143 dX6_sumOf_138 rfl ?_
      exact f_X6_sumOf_143_s k8 H8 v1 v3 (h 145 7) h
    · refine Sim.bipush (v := (35 : Int32)) dX6_sumOf_141 rfl ?_
      exact f_X6_sumOf_143_s k8 H8 v1 v3 (35 : Int32) h
def f_X6_sumOf_93  (k8 : Int32 × Int32 × Int32 × zHp → Option (zHp)) (v2 : Int32) (v3 : Int32) (s0 : Int32) (h : zHp) : Option (zHp) := (if s0 = (35 : Int32) then (if v2 = (35 : Int32) then f_X6_sumOf_116 k8 s0 v3 h else (f_X1_add 150 (v2 ^^^ (-1 : Int32)) h).bind fun x1 => f_X6_sumOf_116 k8 s0 v3 x1) else f_X6_sumOf_151 k8 s0 v2 v3 h)
set_option maxHeartbeats 4000000 in
set_option maxRecDepth 100000 in
theorem f_X6_sumOf_93_s  (k8 : Int32 × Int32 × Int32 × zHp → Option (zHp)) (H8 : ∀ v : Int32 × Int32 × Int32 × zHp, Sim wX mX6_sumOf 2 rV 8 [(0, .ref 145), (1, .int v.1), (2, .int v.2.1), (3, .int v.2.2.1)] [] v.2.2.2 (k8 v)) (v2 : Int32) (v3 : Int32) (s0 : Int32) (h : zHp) : Sim wX mX6_sumOf 2 rV 93 [(0, .ref 145), (2, .int v2), (3, .int v3)] [.int s0] h (f_X6_sumOf_93 k8 v2 v3 s0 h) := by
  unfold f_X6_sumOf_93
  refine Sim.istore_n (L' := [(1, .int s0), (0, .ref 145), (2, .int v2), (3, .int v3)]) dX6_sumOf_93 (Nat.le_of_ble_eq_true rfl) rfl ?_
  refine Sim.iload_n 0 dX6_sumOf_94 rfl ?_
  refine Sim.bipush (v := (35 : Int32)) dX6_sumOf_95 rfl ?_
  refine Sim.icmp_ne 151 dX6_sumOf_97 rfl ?_ ?_
  · refine Sim.iload_n 2 dX6_sumOf_100 rfl ?_
    refine Sim.bipush (v := (35 : Int32)) dX6_sumOf_101 rfl ?_
    refine Sim.icmp_eq 116 dX6_sumOf_103 rfl ?_ ?_
    · refine Sim.locs [1, 0, 3] rfl ?_
      exact f_X6_sumOf_116_s k8 H8 s0 v3 h
    · refine Sim.aload_n 1 dX6_sumOf_106 rfl ?_
      refine Sim.getR (j := 150) fl_X6_47 dX6_sumOf_107 xR_145_10 ?_
      refine Sim.iload_n 2 dX6_sumOf_110 rfl ?_
      refine Sim.iconst (v := (-1 : Int32)) dX6_sumOf_111 rfl ?_
      refine Sim.ixor dX6_sumOf_112 ?_
      refine Sim.callV1U (d1 := 0) (s_X1_add 150 xL_X1_150 (v2 ^^^ (-1 : Int32)) h) dX6_sumOf_113 ml_X6_170 mv_X1_add (xOC_X1 _ xL_X1_150) (Nat.le_of_ble_eq_true rfl) (Nat.le_of_ble_eq_true rfl) (Nat.le_of_ble_eq_true rfl) (fun x1 => ?_)
      refine Sim.locs [1, 0, 3] rfl ?_
      exact f_X6_sumOf_116_s k8 H8 s0 v3 x1
  · refine Sim.locs [1, 0, 2, 3] rfl ?_
    exact f_X6_sumOf_151_s k8 H8 s0 v2 v3 h
def f_X6_sumOf_66  (k8 : Int32 × Int32 × Int32 × zHp → Option (zHp)) (v2 : Int32) (v3 : Int32) (h : zHp) : Option (zHp) := (if (h 145 7) = (27 : Int32) then f_X6_sumOf_93 k8 v2 v3 (h 145 7) h else (if (h 145 7) = (28 : Int32) then f_X6_sumOf_93 k8 v2 v3 (h 145 7) h else f_X6_sumOf_93 k8 v2 v3 (35 : Int32) h))
set_option maxHeartbeats 4000000 in
set_option maxRecDepth 100000 in
theorem f_X6_sumOf_66_s  (k8 : Int32 × Int32 × Int32 × zHp → Option (zHp)) (H8 : ∀ v : Int32 × Int32 × Int32 × zHp, Sim wX mX6_sumOf 2 rV 8 [(0, .ref 145), (1, .int v.1), (2, .int v.2.1), (3, .int v.2.2.1)] [] v.2.2.2 (k8 v)) (v2 : Int32) (v3 : Int32) (h : zHp) : Sim wX mX6_sumOf 2 rV 66 [(0, .ref 145), (2, .int v2), (3, .int v3)] [] h (f_X6_sumOf_66 k8 v2 v3 h) := by
  unfold f_X6_sumOf_66
  refine Sim.aload_n 0 dX6_sumOf_66 rfl ?_
  refine Sim.getI fl_X6_35 dX6_sumOf_67 xI_145_7 ?_
  refine Sim.bipush (v := (27 : Int32)) dX6_sumOf_70 rfl ?_
  refine Sim.icmp_eq 84 dX6_sumOf_72 rfl ?_ ?_
  · refine Sim.aload_n 0 dX6_sumOf_84 rfl ?_
    refine Sim.getI fl_X6_35 dX6_sumOf_85 xI_145_7 ?_
    refine Sim.goto 93 dX6_sumOf_88 rfl ?_
    exact f_X6_sumOf_93_s k8 H8 v2 v3 (h 145 7) h
  · refine Sim.aload_n 0 dX6_sumOf_75 rfl ?_
    refine Sim.getI fl_X6_35 dX6_sumOf_76 xI_145_7 ?_
    refine Sim.bipush (v := (28 : Int32)) dX6_sumOf_79 rfl ?_
    refine Sim.icmp_ne 91 dX6_sumOf_81 rfl ?_ ?_
    · refine Sim.aload_n 0 dX6_sumOf_84 rfl ?_
      refine Sim.getI fl_X6_35 dX6_sumOf_85 xI_145_7 ?_
      refine Sim.goto 93 dX6_sumOf_88 rfl ?_
      exact f_X6_sumOf_93_s k8 H8 v2 v3 (h 145 7) h
    · refine Sim.bipush (v := (35 : Int32)) dX6_sumOf_91 rfl ?_
      exact f_X6_sumOf_93_s k8 H8 v2 v3 (35 : Int32) h
def f_X6_sumOf_47  (k8 : Int32 × Int32 × Int32 × zHp → Option (zHp)) (v1 : Int32) (v2 : Int32) (v3 : Int32) (s0 : Int32) (h : zHp) : Option (zHp) := (f_X1_add 150 s0 h).bind fun x1 => (if v1 = (35 : Int32) then f_X6_sumOf_66 k8 v2 v3 x1 else (f_X1_add 150 (v1 ^^^ (-1 : Int32)) x1).bind fun x2 => f_X6_sumOf_66 k8 v2 v3 x2)
set_option maxHeartbeats 4000000 in
set_option maxRecDepth 100000 in
theorem f_X6_sumOf_47_s  (k8 : Int32 × Int32 × Int32 × zHp → Option (zHp)) (H8 : ∀ v : Int32 × Int32 × Int32 × zHp, Sim wX mX6_sumOf 2 rV 8 [(0, .ref 145), (1, .int v.1), (2, .int v.2.1), (3, .int v.2.2.1)] [] v.2.2.2 (k8 v)) (v1 : Int32) (v2 : Int32) (v3 : Int32) (s0 : Int32) (h : zHp) : Sim wX mX6_sumOf 2 rV 47 [(0, .ref 145), (1, .int v1), (2, .int v2), (3, .int v3)] [.int s0, .ref 150] h (f_X6_sumOf_47 k8 v1 v2 v3 s0 h) := by
  unfold f_X6_sumOf_47
  refine Sim.callV1U (d1 := 0) (s_X1_add 150 xL_X1_150 s0 h) dX6_sumOf_47 ml_X6_170 mv_X1_add (xOC_X1 _ xL_X1_150) (Nat.le_of_ble_eq_true rfl) (Nat.le_of_ble_eq_true rfl) (Nat.le_of_ble_eq_true rfl) (fun x1 => ?_)
  refine Sim.iload_n 1 dX6_sumOf_50 rfl ?_
  refine Sim.bipush (v := (35 : Int32)) dX6_sumOf_51 rfl ?_
  refine Sim.icmp_eq 66 dX6_sumOf_53 rfl ?_ ?_
  · refine Sim.locs [0, 2, 3] rfl ?_
    exact f_X6_sumOf_66_s k8 H8 v2 v3 x1
  · refine Sim.aload_n 0 dX6_sumOf_56 rfl ?_
    refine Sim.getR (j := 150) fl_X6_47 dX6_sumOf_57 xR_145_10 ?_
    refine Sim.iload_n 1 dX6_sumOf_60 rfl ?_
    refine Sim.iconst (v := (-1 : Int32)) dX6_sumOf_61 rfl ?_
    refine Sim.ixor dX6_sumOf_62 ?_
    refine Sim.callV1U (d1 := 0) (s_X1_add 150 xL_X1_150 (v1 ^^^ (-1 : Int32)) x1) dX6_sumOf_63 ml_X6_170 mv_X1_add (xOC_X1 _ xL_X1_150) (Nat.le_of_ble_eq_true rfl) (Nat.le_of_ble_eq_true rfl) (Nat.le_of_ble_eq_true rfl) (fun x2 => ?_)
    refine Sim.locs [0, 2, 3] rfl ?_
    exact f_X6_sumOf_66_s k8 H8 v2 v3 x2
def f_X6_sumOf_8  (k8 : Int32 × Int32 × Int32 × zHp → Option (zHp)) (v1 : Int32) (v2 : Int32) (v3 : Int32) (h : zHp) : Option (zHp) := (if v3 < (400 : Int32) then (if (h 145 12) = 0 then (if v1 = (28 : Int32) then (f_X6_expectNumber (9999 : Int32) (0 : Int32) h).bind fun x1 => f_X6_sumOf_47 k8 v1 v2 v3 x1.1 x1.2 else (f_X6_expectUnit h).bind fun x2 => f_X6_sumOf_47 k8 v1 v2 v3 x2.1 x2.2) else some h) else some h)
set_option maxHeartbeats 4000000 in
set_option maxRecDepth 100000 in
theorem f_X6_sumOf_8_s  (k8 : Int32 × Int32 × Int32 × zHp → Option (zHp)) (H8 : ∀ v : Int32 × Int32 × Int32 × zHp, Sim wX mX6_sumOf 2 rV 8 [(0, .ref 145), (1, .int v.1), (2, .int v.2.1), (3, .int v.2.2.1)] [] v.2.2.2 (k8 v)) (v1 : Int32) (v2 : Int32) (v3 : Int32) (h : zHp) : Sim wX mX6_sumOf 2 rV 8 [(0, .ref 145), (1, .int v1), (2, .int v2), (3, .int v3)] [] h (f_X6_sumOf_8 k8 v1 v2 v3 h) := by
  unfold f_X6_sumOf_8
  refine Sim.iload_n 3 dX6_sumOf_8 rfl ?_
  refine Sim.sipush (v := (400 : Int32)) dX6_sumOf_9 rfl ?_
  refine Sim.icmp_ge 168 dX6_sumOf_12 rfl ?_ ?_
  · refine Sim.aload_n 0 dX6_sumOf_15 rfl ?_
    refine Sim.getI fl_X6_60 dX6_sumOf_16 xI_145_12 ?_
    refine Sim.if_ne 168 dX6_sumOf_19 rfl ?_ ?_
    · refine Sim.aload_n 0 dX6_sumOf_22 rfl ?_
      refine Sim.getR (j := 150) fl_X6_47 dX6_sumOf_23 xR_145_10 ?_
      refine Sim.iload_n 1 dX6_sumOf_26 rfl ?_
      refine Sim.bipush (v := (28 : Int32)) dX6_sumOf_27 rfl ?_
      refine Sim.icmp_ne 43 dX6_sumOf_29 rfl ?_ ?_
      · refine Sim.aload_n 0 dX6_sumOf_32 rfl ?_
        refine Sim.sipush (v := (9999 : Int32)) dX6_sumOf_33 rfl ?_
        refine Sim.iconst (v := (0 : Int32)) dX6_sumOf_36 rfl ?_
        refine Sim.callV2I (d1 := 1) (s_X6_expectNumber (9999 : Int32) (0 : Int32) h) dX6_sumOf_37 ml_X6_146 mv_X6_expectNumber xO_X6 (Nat.le_of_ble_eq_true rfl) (Nat.le_of_ble_eq_true rfl) (Nat.le_of_ble_eq_true rfl) (fun x1 => ?_)
        refine Sim.goto 47 dX6_sumOf_40 rfl ?_
        exact f_X6_sumOf_47_s k8 H8 v1 v2 v3 x1.1 x1.2
      · refine Sim.aload_n 0 dX6_sumOf_43 rfl ?_
        refine Sim.callV0I (d1 := 1) (s_X6_expectUnit h) dX6_sumOf_44 ml_X6_167 mv_X6_expectUnit xO_X6 (Nat.le_of_ble_eq_true rfl) (Nat.le_of_ble_eq_true rfl) (Nat.le_of_ble_eq_true rfl) (fun x2 => ?_)
        exact f_X6_sumOf_47_s k8 H8 v1 v2 v3 x2.1 x2.2
    · exact Sim.vret dX6_sumOf_168 rfl
  · exact Sim.vret dX6_sumOf_168 rfl
def f_X6_sumOf_8_lp   (n : Nat) (v : Int32 × Int32 × Int32 × zHp) : Option (zHp) := zlp (fun k8 v => f_X6_sumOf_8 k8 v.1 v.2.1 v.2.2.1 v.2.2.2) n v
theorem f_X6_sumOf_8_ls  (n : Nat) (v : Int32 × Int32 × Int32 × zHp) : Sim wX mX6_sumOf 2 rV 8 [(0, .ref 145), (1, .int v.1), (2, .int v.2.1), (3, .int v.2.2.1)] [] v.2.2.2 (f_X6_sumOf_8_lp n v) :=
  Sim.lp (V := Int32 × Int32 × Int32 × zHp) (Lf := fun v => [(0, .ref 145), (1, .int v.1), (2, .int v.2.1), (3, .int v.2.2.1)]) (sf := fun v => []) (hf := fun v => v.2.2.2) (fun k8 H8 v => f_X6_sumOf_8_s k8 H8 v.1 v.2.1 v.2.2.1 v.2.2.2) n v
def f_X6_sumOf   (h : zHp) : Option (zHp) := f_X6_sumOf_8_lp  zN ((35 : Int32), (35 : Int32), (0 : Int32), h)
set_option maxHeartbeats 4000000 in
set_option maxRecDepth 100000 in
theorem s_X6_sumOf   (h : zHp) : Fn wX mX6_sumOf 2 rV [.ref 145] h (f_X6_sumOf  h) := by
  refine Fn.of rfl (Nat.le_of_ble_eq_true rfl) ?_
  unfold f_X6_sumOf
  refine Sim.bipush (v := (35 : Int32)) dX6_sumOf_0 rfl ?_
  refine Sim.istore_n (L' := [(1, .int (35 : Int32)), (0, .ref 145)]) dX6_sumOf_2 (Nat.le_of_ble_eq_true rfl) rfl ?_
  refine Sim.bipush (v := (35 : Int32)) dX6_sumOf_3 rfl ?_
  refine Sim.istore_n (L' := [(2, .int (35 : Int32)), (1, .int (35 : Int32)), (0, .ref 145)]) dX6_sumOf_5 (Nat.le_of_ble_eq_true rfl) rfl ?_
  refine Sim.iconst (v := (0 : Int32)) dX6_sumOf_6 rfl ?_
  refine Sim.istore_n (L' := [(3, .int (0 : Int32)), (2, .int (35 : Int32)), (1, .int (35 : Int32)), (0, .ref 145)]) dX6_sumOf_7 (Nat.le_of_ble_eq_true rfl) rfl ?_
  refine Sim.locs [3, 2, 1, 0] rfl ?_
  exact f_X6_sumOf_8_ls  zN ((35 : Int32), (35 : Int32), (0 : Int32), h)
theorem mv_X6_sumOf : zMV mX6_sumOf 0 := ⟨⟨zTb_in 920 (by decide +kernel) rfl, zTb_in 145 (by decide +kernel) rfl, ⟨by decide +kernel, by decide +kernel⟩, by decide +kernel⟩, zTb_in 919 (by decide +kernel) rfl, zTb_in 19 (by decide +kernel) rfl⟩
-- ===== RockingPorch$Reader.expect(I)V
abbrev mX6_expect : zMt := (yX6_expect, cX6_expect, 2, none)
theorem dX6_expect_0 : decode cX6_expect 0 = .ok (.aload_n 0, 1) := by decide +kernel
theorem dX6_expect_1 : decode cX6_expect 1 = .ok (.getfield 60, 3) := by decide +kernel
theorem dX6_expect_4 : decode cX6_expect 4 = .ok (.ifCond .eq 4, 3) := by decide +kernel
theorem dX6_expect_7 : decode cX6_expect 7 = .ok (.return_, 1) := by decide +kernel
theorem dX6_expect_8 : decode cX6_expect 8 = .ok (.aload_n 0, 1) := by decide +kernel
theorem dX6_expect_9 : decode cX6_expect 9 = .ok (.getfield 35, 3) := by decide +kernel
theorem dX6_expect_12 : decode cX6_expect 12 = .ok (.iload_n 1, 1) := by decide +kernel
theorem dX6_expect_13 : decode cX6_expect 13 = .ok (.if_icmp .ne 10, 3) := by decide +kernel
theorem dX6_expect_16 : decode cX6_expect 16 = .ok (.aload_n 0, 1) := by decide +kernel
theorem dX6_expect_17 : decode cX6_expect 17 = .ok (.invokevirtual 130, 3) := by decide +kernel
theorem dX6_expect_20 : decode cX6_expect 20 = .ok (.goto 8, 3) := by decide +kernel
theorem dX6_expect_23 : decode cX6_expect 23 = .ok (.aload_n 0, 1) := by decide +kernel
theorem dX6_expect_24 : decode cX6_expect 24 = .ok (.iconst 1, 1) := by decide +kernel
theorem dX6_expect_25 : decode cX6_expect 25 = .ok (.invokevirtual 133, 3) := by decide +kernel
theorem dX6_expect_28 : decode cX6_expect 28 = .ok (.return_, 1) := by decide +kernel
def f_X6_expect  (a1 : Int32) (h : zHp) : Option (zHp) := (if (h 145 12) = 0 then (if (h 145 7) = a1 then (f_X6_advance h).bind fun x1 => some x1 else (f_X6_fail (1 : Int32) h).bind fun x2 => some x2) else some h)
set_option maxHeartbeats 4000000 in
set_option maxRecDepth 100000 in
theorem s_X6_expect  (a1 : Int32) (h : zHp) : Fn wX mX6_expect 1 rV [.ref 145, .int a1] h (f_X6_expect a1 h) := by
  refine Fn.of rfl (Nat.le_of_ble_eq_true rfl) ?_
  unfold f_X6_expect
  refine Sim.aload_n 0 dX6_expect_0 rfl ?_
  refine Sim.getI fl_X6_60 dX6_expect_1 xI_145_12 ?_
  refine Sim.if_eq 8 dX6_expect_4 rfl ?_ ?_
  · refine Sim.aload_n 0 dX6_expect_8 rfl ?_
    refine Sim.getI fl_X6_35 dX6_expect_9 xI_145_7 ?_
    refine Sim.iload_n 1 dX6_expect_12 rfl ?_
    refine Sim.icmp_ne 23 dX6_expect_13 rfl ?_ ?_
    · refine Sim.aload_n 0 dX6_expect_16 rfl ?_
      refine Sim.callV0U (d1 := 0) (s_X6_advance h) dX6_expect_17 ml_X6_130 mv_X6_advance xO_X6 (Nat.le_of_ble_eq_true rfl) (Nat.le_of_ble_eq_true rfl) (Nat.le_of_ble_eq_true rfl) (fun x1 => ?_)
      refine Sim.goto 28 dX6_expect_20 rfl ?_
      exact Sim.vret dX6_expect_28 rfl
    · refine Sim.aload_n 0 dX6_expect_23 rfl ?_
      refine Sim.iconst (v := (1 : Int32)) dX6_expect_24 rfl ?_
      refine Sim.callV1U (d1 := 0) (s_X6_fail (1 : Int32) h) dX6_expect_25 ml_X6_133 mv_X6_fail xO_X6 (Nat.le_of_ble_eq_true rfl) (Nat.le_of_ble_eq_true rfl) (Nat.le_of_ble_eq_true rfl) (fun x2 => ?_)
      exact Sim.vret dX6_expect_28 rfl
  · exact Sim.vret dX6_expect_7 rfl
theorem mv_X6_expect : zMV mX6_expect 1 := ⟨⟨zTb_in 948 (by decide +kernel) rfl, zTb_in 145 (by decide +kernel) rfl, ⟨by decide +kernel, by decide +kernel⟩, by decide +kernel⟩, zTb_in 947 (by decide +kernel) rfl, zTb_in 24 (by decide +kernel) rfl⟩
abbrev mX6_single : zMt := (yX6_single, cX6_single, 4, none)
theorem mv_X6_single : zMV mX6_single 1 := ⟨⟨zTb_in 944 (by decide +kernel) rfl, zTb_in 145 (by decide +kernel) rfl, ⟨by decide +kernel, by decide +kernel⟩, by decide +kernel⟩, zTb_in 943 (by decide +kernel) rfl, zTb_in 23 (by decide +kernel) rfl⟩
abbrev mX6_condition : zMt := (yX6_condition, cX6_condition, 5, none)
theorem mv_X6_condition : zMV mX6_condition 1 := ⟨⟨zTb_in 940 (by decide +kernel) rfl, zTb_in 145 (by decide +kernel) rfl, ⟨by decide +kernel, by decide +kernel⟩, by decide +kernel⟩, zTb_in 939 (by decide +kernel) rfl, zTb_in 22 (by decide +kernel) rfl⟩
theorem ml_X6_136 : Cond.methodLink RX6 136 yX6_expect ∈ zTb := zTb_in 945 (by decide +kernel) rfl
theorem ml_X6_155 : Cond.methodLink RX6 155 yX6_sumOf ∈ zTb := zTb_in 917 (by decide +kernel) rfl
theorem ml_X6_161 : Cond.methodLink RX6 161 yX6_condition ∈ zTb := zTb_in 937 (by decide +kernel) rfl
theorem ml_X6_172 : Cond.methodLink RX6 172 yX6_single ∈ zTb := zTb_in 941 (by decide +kernel) rfl
theorem dX6_single_0 : decode cX6_single 0 = .ok (.aload_n 0, 1) := by decide +kernel
theorem dX6_single_1 : decode cX6_single 1 = .ok (.getfield 35, 3) := by decide +kernel
theorem dX6_single_4 : decode cX6_single 4 = .ok (.istore_n 2, 1) := by decide +kernel
theorem dX6_single_5 : decode cX6_single 5 = .ok (.iload_n 2, 1) := by decide +kernel
theorem dX6_single_6 : decode cX6_single 6 = .ok (.bipush 15, 2) := by decide +kernel
theorem dX6_single_8 : decode cX6_single 8 = .ok (.if_icmp .eq 62, 3) := by decide +kernel
theorem dX6_single_11 : decode cX6_single 11 = .ok (.iload_n 2, 1) := by decide +kernel
theorem dX6_single_12 : decode cX6_single 12 = .ok (.bipush 29, 2) := by decide +kernel
theorem dX6_single_14 : decode cX6_single 14 = .ok (.if_icmp .eq 56, 3) := by decide +kernel
theorem dX6_single_17 : decode cX6_single 17 = .ok (.aload_n 0, 1) := by decide +kernel
theorem dX6_single_18 : decode cX6_single 18 = .ok (.invokevirtual 155, 3) := by decide +kernel
theorem dX6_single_21 : decode cX6_single 21 = .ok (.aload_n 0, 1) := by decide +kernel
theorem dX6_single_22 : decode cX6_single 22 = .ok (.getfield 35, 3) := by decide +kernel
theorem dX6_single_25 : decode cX6_single 25 = .ok (.istore_n 3, 1) := by decide +kernel
theorem dX6_single_26 : decode cX6_single 26 = .ok (.aload_n 0, 1) := by decide +kernel
theorem dX6_single_27 : decode cX6_single 27 = .ok (.iload_n 3, 1) := by decide +kernel
theorem dX6_single_28 : decode cX6_single 28 = .ok (.bipush 31, 2) := by decide +kernel
theorem dX6_single_30 : decode cX6_single 30 = .ok (.if_icmp .eq 9, 3) := by decide +kernel
theorem dX6_single_33 : decode cX6_single 33 = .ok (.iload_n 3, 1) := by decide +kernel
theorem dX6_single_34 : decode cX6_single 34 = .ok (.bipush 33, 2) := by decide +kernel
theorem dX6_single_36 : decode cX6_single 36 = .ok (.if_icmp .ne 7, 3) := by decide +kernel
theorem dX6_single_39 : decode cX6_single 39 = .ok (.iload_n 3, 1) := by decide +kernel
theorem dX6_single_40 : decode cX6_single 40 = .ok (.goto 5, 3) := by decide +kernel
theorem dX6_single_43 : decode cX6_single 43 = .ok (.bipush 32, 2) := by decide +kernel
theorem dX6_single_45 : decode cX6_single 45 = .ok (.invokevirtual 136, 3) := by decide +kernel
theorem dX6_single_48 : decode cX6_single 48 = .ok (.aload_n 0, 1) := by decide +kernel
theorem dX6_single_49 : decode cX6_single 49 = .ok (.getfield 60, 3) := by decide +kernel
theorem dX6_single_52 : decode cX6_single 52 = .ok (.ifCond .ne 17, 3) := by decide +kernel
theorem dX6_single_55 : decode cX6_single 55 = .ok (.aload_n 0, 1) := by decide +kernel
theorem dX6_single_56 : decode cX6_single 56 = .ok (.invokevirtual 155, 3) := by decide +kernel
theorem dX6_single_59 : decode cX6_single 59 = .ok (.aload_n 0, 1) := by decide +kernel
theorem dX6_single_60 : decode cX6_single 60 = .ok (.getfield 47, 3) := by decide +kernel
theorem dX6_single_63 : decode cX6_single 63 = .ok (.iload_n 3, 1) := by decide +kernel
theorem dX6_single_64 : decode cX6_single 64 = .ok (.iconst (-1), 1) := by decide +kernel
theorem dX6_single_65 : decode cX6_single 65 = .ok (.ixor, 1) := by decide +kernel
theorem dX6_single_66 : decode cX6_single 66 = .ok (.invokevirtual 170, 3) := by decide +kernel
theorem dX6_single_69 : decode cX6_single 69 = .ok (.return_, 1) := by decide +kernel
theorem dX6_single_70 : decode cX6_single 70 = .ok (.iload_n 1, 1) := by decide +kernel
theorem dX6_single_71 : decode cX6_single 71 = .ok (.bipush 8, 2) := by decide +kernel
theorem dX6_single_73 : decode cX6_single 73 = .ok (.if_icmp .lt 9, 3) := by decide +kernel
theorem dX6_single_76 : decode cX6_single 76 = .ok (.aload_n 0, 1) := by decide +kernel
theorem dX6_single_77 : decode cX6_single 77 = .ok (.iconst 3, 1) := by decide +kernel
theorem dX6_single_78 : decode cX6_single 78 = .ok (.invokevirtual 133, 3) := by decide +kernel
theorem dX6_single_81 : decode cX6_single 81 = .ok (.return_, 1) := by decide +kernel
theorem dX6_single_82 : decode cX6_single 82 = .ok (.aload_n 0, 1) := by decide +kernel
theorem dX6_single_83 : decode cX6_single 83 = .ok (.invokevirtual 130, 3) := by decide +kernel
theorem dX6_single_86 : decode cX6_single 86 = .ok (.iload_n 2, 1) := by decide +kernel
theorem dX6_single_87 : decode cX6_single 87 = .ok (.bipush 15, 2) := by decide +kernel
theorem dX6_single_89 : decode cX6_single 89 = .ok (.if_icmp .ne 22, 3) := by decide +kernel
theorem dX6_single_92 : decode cX6_single 92 = .ok (.aload_n 0, 1) := by decide +kernel
theorem dX6_single_93 : decode cX6_single 93 = .ok (.iload_n 1, 1) := by decide +kernel
theorem dX6_single_94 : decode cX6_single 94 = .ok (.iconst 1, 1) := by decide +kernel
theorem dX6_single_95 : decode cX6_single 95 = .ok (.iadd, 1) := by decide +kernel
theorem dX6_single_96 : decode cX6_single 96 = .ok (.invokevirtual 172, 3) := by decide +kernel
theorem dX6_single_99 : decode cX6_single 99 = .ok (.aload_n 0, 1) := by decide +kernel
theorem dX6_single_100 : decode cX6_single 100 = .ok (.getfield 47, 3) := by decide +kernel
theorem dX6_single_103 : decode cX6_single 103 = .ok (.bipush (-16), 2) := by decide +kernel
theorem dX6_single_105 : decode cX6_single 105 = .ok (.invokevirtual 170, 3) := by decide +kernel
theorem dX6_single_108 : decode cX6_single 108 = .ok (.goto 16, 3) := by decide +kernel
theorem dX6_single_111 : decode cX6_single 111 = .ok (.aload_n 0, 1) := by decide +kernel
theorem dX6_single_112 : decode cX6_single 112 = .ok (.iload_n 1, 1) := by decide +kernel
theorem dX6_single_113 : decode cX6_single 113 = .ok (.iconst 1, 1) := by decide +kernel
theorem dX6_single_114 : decode cX6_single 114 = .ok (.iadd, 1) := by decide +kernel
theorem dX6_single_115 : decode cX6_single 115 = .ok (.invokevirtual 161, 3) := by decide +kernel
theorem dX6_single_118 : decode cX6_single 118 = .ok (.aload_n 0, 1) := by decide +kernel
theorem dX6_single_119 : decode cX6_single 119 = .ok (.bipush 30, 2) := by decide +kernel
theorem dX6_single_121 : decode cX6_single 121 = .ok (.invokevirtual 136, 3) := by decide +kernel
theorem dX6_single_124 : decode cX6_single 124 = .ok (.return_, 1) := by decide +kernel
def f_X6_single_70 (ks kc : Int32 → zHp → Option zHp)  (v1 : Int32) (v2 : Int32) (h : zHp) : Option (zHp) := (if v1 < (8 : Int32) then (f_X6_advance h).bind fun x1 => (if v2 = (15 : Int32) then (ks (v1 + (1 : Int32)) x1).bind fun x2 => (f_X1_add 150 (-16 : Int32) x2).bind fun x3 => some x3 else (kc (v1 + (1 : Int32)) x1).bind fun x4 => (f_X6_expect (30 : Int32) x4).bind fun x5 => some x5) else (f_X6_fail (3 : Int32) h).bind fun x6 => some x6)
set_option maxHeartbeats 4000000 in
set_option maxRecDepth 100000 in
theorem f_X6_single_70_s (dd : Nat) (ks kc : Int32 → zHp → Option zHp) (hks : ∀ a h, Fn wX mX6_single dd rV [.ref 145, .int a] h (ks a h)) (hkc : ∀ a h, Fn wX mX6_condition dd rV [.ref 145, .int a] h (kc a h)) (v1 : Int32) (v2 : Int32) (h : zHp) : Sim wX mX6_single (dd + 3) rV 70 [(0, .ref 145), (1, .int v1), (2, .int v2)] [] h (f_X6_single_70 ks kc v1 v2 h) := by
  unfold f_X6_single_70
  refine Sim.iload_n 1 dX6_single_70 rfl ?_
  refine Sim.bipush (v := (8 : Int32)) dX6_single_71 rfl ?_
  refine Sim.icmp_lt 82 dX6_single_73 rfl ?_ ?_
  · refine Sim.aload_n 0 dX6_single_82 rfl ?_
    refine Sim.callV0U (d1 := 0) (s_X6_advance h) dX6_single_83 ml_X6_130 mv_X6_advance xO_X6 (by omega) (Nat.le_of_ble_eq_true rfl) (Nat.le_of_ble_eq_true rfl) (fun x1 => ?_)
    refine Sim.iload_n 2 dX6_single_86 rfl ?_
    refine Sim.bipush (v := (15 : Int32)) dX6_single_87 rfl ?_
    refine Sim.icmp_ne 111 dX6_single_89 rfl ?_ ?_
    · refine Sim.aload_n 0 dX6_single_92 rfl ?_
      refine Sim.iload_n 1 dX6_single_93 rfl ?_
      refine Sim.iconst (v := (1 : Int32)) dX6_single_94 rfl ?_
      refine Sim.iadd dX6_single_95 ?_
      refine Sim.callV1U (d1 := dd) (hks (v1 + (1 : Int32)) x1) dX6_single_96 ml_X6_172 mv_X6_single xO_X6 (by omega) (Nat.le_of_ble_eq_true rfl) (Nat.le_of_ble_eq_true rfl) (fun x2 => ?_)
      refine Sim.aload_n 0 dX6_single_99 rfl ?_
      refine Sim.getR (j := 150) fl_X6_47 dX6_single_100 xR_145_10 ?_
      refine Sim.bipush (v := (-16 : Int32)) dX6_single_103 rfl ?_
      refine Sim.callV1U (d1 := 0) (s_X1_add 150 xL_X1_150 (-16 : Int32) x2) dX6_single_105 ml_X6_170 mv_X1_add (xOC_X1 _ xL_X1_150) (by omega) (Nat.le_of_ble_eq_true rfl) (Nat.le_of_ble_eq_true rfl) (fun x3 => ?_)
      refine Sim.goto 124 dX6_single_108 rfl ?_
      exact Sim.vret dX6_single_124 rfl
    · refine Sim.aload_n 0 dX6_single_111 rfl ?_
      refine Sim.iload_n 1 dX6_single_112 rfl ?_
      refine Sim.iconst (v := (1 : Int32)) dX6_single_113 rfl ?_
      refine Sim.iadd dX6_single_114 ?_
      refine Sim.callV1U (d1 := dd) (hkc (v1 + (1 : Int32)) x1) dX6_single_115 ml_X6_161 mv_X6_condition xO_X6 (by omega) (Nat.le_of_ble_eq_true rfl) (Nat.le_of_ble_eq_true rfl) (fun x4 => ?_)
      refine Sim.aload_n 0 dX6_single_118 rfl ?_
      refine Sim.bipush (v := (30 : Int32)) dX6_single_119 rfl ?_
      refine Sim.callV1U (d1 := 1) (s_X6_expect (30 : Int32) x4) dX6_single_121 ml_X6_136 mv_X6_expect xO_X6 (by omega) (Nat.le_of_ble_eq_true rfl) (Nat.le_of_ble_eq_true rfl) (fun x5 => ?_)
      exact Sim.vret dX6_single_124 rfl
  · refine Sim.aload_n 0 dX6_single_76 rfl ?_
    refine Sim.iconst (v := (3 : Int32)) dX6_single_77 rfl ?_
    refine Sim.callV1U (d1 := 0) (s_X6_fail (3 : Int32) h) dX6_single_78 ml_X6_133 mv_X6_fail xO_X6 (by omega) (Nat.le_of_ble_eq_true rfl) (Nat.le_of_ble_eq_true rfl) (fun x6 => ?_)
    exact Sim.vret dX6_single_81 rfl
def f_X6_single_45 (ks kc : Int32 → zHp → Option zHp)  (v3 : Int32) (s0 : Int32) (h : zHp) : Option (zHp) := (f_X6_expect s0 h).bind fun x1 => (if (x1 145 12) = 0 then (f_X6_sumOf x1).bind fun x2 => (f_X1_add 150 (v3 ^^^ (-1 : Int32)) x2).bind fun x3 => some x3 else some x1)
set_option maxHeartbeats 4000000 in
set_option maxRecDepth 100000 in
theorem f_X6_single_45_s (dd : Nat) (ks kc : Int32 → zHp → Option zHp) (hks : ∀ a h, Fn wX mX6_single dd rV [.ref 145, .int a] h (ks a h)) (hkc : ∀ a h, Fn wX mX6_condition dd rV [.ref 145, .int a] h (kc a h)) (v3 : Int32) (s0 : Int32) (h : zHp) : Sim wX mX6_single (dd + 3) rV 45 [(0, .ref 145), (3, .int v3)] [.int s0, .ref 145] h (f_X6_single_45 ks kc v3 s0 h) := by
  unfold f_X6_single_45
  refine Sim.callV1U (d1 := 1) (s_X6_expect s0 h) dX6_single_45 ml_X6_136 mv_X6_expect xO_X6 (by omega) (Nat.le_of_ble_eq_true rfl) (Nat.le_of_ble_eq_true rfl) (fun x1 => ?_)
  refine Sim.aload_n 0 dX6_single_48 rfl ?_
  refine Sim.getI fl_X6_60 dX6_single_49 xI_145_12 ?_
  refine Sim.if_ne 69 dX6_single_52 rfl ?_ ?_
  · refine Sim.aload_n 0 dX6_single_55 rfl ?_
    refine Sim.callV0U (d1 := 2) (s_X6_sumOf x1) dX6_single_56 ml_X6_155 mv_X6_sumOf xO_X6 (by omega) (Nat.le_of_ble_eq_true rfl) (Nat.le_of_ble_eq_true rfl) (fun x2 => ?_)
    refine Sim.aload_n 0 dX6_single_59 rfl ?_
    refine Sim.getR (j := 150) fl_X6_47 dX6_single_60 xR_145_10 ?_
    refine Sim.iload_n 1 dX6_single_63 rfl ?_
    refine Sim.iconst (v := (-1 : Int32)) dX6_single_64 rfl ?_
    refine Sim.ixor dX6_single_65 ?_
    refine Sim.callV1U (d1 := 0) (s_X1_add 150 xL_X1_150 (v3 ^^^ (-1 : Int32)) x2) dX6_single_66 ml_X6_170 mv_X1_add (xOC_X1 _ xL_X1_150) (by omega) (Nat.le_of_ble_eq_true rfl) (Nat.le_of_ble_eq_true rfl) (fun x3 => ?_)
    exact Sim.vret dX6_single_69 rfl
  · exact Sim.vret dX6_single_69 rfl
def f_X6_single_b (ks kc : Int32 → zHp → Option zHp) (a1 : Int32) (h : zHp) : Option (zHp) := zlt (h 145 7) fun x1 => (if x1 = (15 : Int32) then f_X6_single_70 ks kc a1 x1 h else (if x1 = (29 : Int32) then f_X6_single_70 ks kc a1 x1 h else (f_X6_sumOf h).bind fun x2 => zlt (x2 145 7) fun x3 => (if x3 = (31 : Int32) then f_X6_single_45 ks kc x3 x3 x2 else (if x3 = (33 : Int32) then f_X6_single_45 ks kc x3 x3 x2 else f_X6_single_45 ks kc x3 (32 : Int32) x2))))
set_option maxHeartbeats 4000000 in
set_option maxRecDepth 100000 in
theorem s_X6_single_b (dd : Nat) (ks kc : Int32 → zHp → Option zHp) (hks : ∀ a h, Fn wX mX6_single dd rV [.ref 145, .int a] h (ks a h)) (hkc : ∀ a h, Fn wX mX6_condition dd rV [.ref 145, .int a] h (kc a h)) (a1 : Int32) (h : zHp) : Fn wX mX6_single (dd + 3) rV [.ref 145, .int a1] h (f_X6_single_b ks kc a1 h) := by
  refine Fn.of rfl (Nat.le_of_ble_eq_true rfl) ?_
  unfold f_X6_single_b
  refine Sim.aload_n 0 dX6_single_0 rfl ?_
  refine Sim.getI fl_X6_35 dX6_single_1 xI_145_7 ?_
  refine Sim.lti (fun x1 => ?_)
  refine Sim.istore_n (L' := [(2, .int x1), (0, .ref 145), (1, .int a1)]) dX6_single_4 (Nat.le_of_ble_eq_true rfl) rfl ?_
  refine Sim.iload_n 0 dX6_single_5 rfl ?_
  refine Sim.bipush (v := (15 : Int32)) dX6_single_6 rfl ?_
  refine Sim.icmp_eq 70 dX6_single_8 rfl ?_ ?_
  · refine Sim.locs [1, 2, 0] rfl ?_
    exact f_X6_single_70_s dd ks kc hks hkc a1 x1 h
  · refine Sim.iload_n 0 dX6_single_11 rfl ?_
    refine Sim.bipush (v := (29 : Int32)) dX6_single_12 rfl ?_
    refine Sim.icmp_eq 70 dX6_single_14 rfl ?_ ?_
    · refine Sim.locs [1, 2, 0] rfl ?_
      exact f_X6_single_70_s dd ks kc hks hkc a1 x1 h
    · refine Sim.aload_n 1 dX6_single_17 rfl ?_
      refine Sim.callV0U (d1 := 2) (s_X6_sumOf h) dX6_single_18 ml_X6_155 mv_X6_sumOf xO_X6 (by omega) (Nat.le_of_ble_eq_true rfl) (Nat.le_of_ble_eq_true rfl) (fun x2 => ?_)
      refine Sim.aload_n 1 dX6_single_21 rfl ?_
      refine Sim.getI fl_X6_35 dX6_single_22 xI_145_7 ?_
      refine Sim.lti (fun x3 => ?_)
      refine Sim.istore_n (L' := [(3, .int x3), (2, .int x1), (0, .ref 145), (1, .int a1)]) dX6_single_25 (Nat.le_of_ble_eq_true rfl) rfl ?_
      refine Sim.aload_n 2 dX6_single_26 rfl ?_
      refine Sim.iload_n 0 dX6_single_27 rfl ?_
      refine Sim.bipush (v := (31 : Int32)) dX6_single_28 rfl ?_
      refine Sim.icmp_eq 39 dX6_single_30 rfl ?_ ?_
      · refine Sim.iload_n 0 dX6_single_39 rfl ?_
        refine Sim.goto 45 dX6_single_40 rfl ?_
        refine Sim.locs [2, 0] rfl ?_
        exact f_X6_single_45_s dd ks kc hks hkc x3 x3 x2
      · refine Sim.iload_n 0 dX6_single_33 rfl ?_
        refine Sim.bipush (v := (33 : Int32)) dX6_single_34 rfl ?_
        refine Sim.icmp_ne 43 dX6_single_36 rfl ?_ ?_
        · refine Sim.iload_n 0 dX6_single_39 rfl ?_
          refine Sim.goto 45 dX6_single_40 rfl ?_
          refine Sim.locs [2, 0] rfl ?_
          exact f_X6_single_45_s dd ks kc hks hkc x3 x3 x2
        · refine Sim.bipush (v := (32 : Int32)) dX6_single_43 rfl ?_
          refine Sim.locs [2, 0] rfl ?_
          exact f_X6_single_45_s dd ks kc hks hkc x3 (32 : Int32) x2
theorem dX6_condition_0 : decode cX6_condition 0 = .ok (.iconst 0, 1) := by decide +kernel
theorem dX6_condition_1 : decode cX6_condition 1 = .ok (.istore_n 2, 1) := by decide +kernel
theorem dX6_condition_2 : decode cX6_condition 2 = .ok (.iconst 0, 1) := by decide +kernel
theorem dX6_condition_3 : decode cX6_condition 3 = .ok (.istore_n 3, 1) := by decide +kernel
theorem dX6_condition_4 : decode cX6_condition 4 = .ok (.iconst 0, 1) := by decide +kernel
theorem dX6_condition_5 : decode cX6_condition 5 = .ok (.istore 4, 2) := by decide +kernel
theorem dX6_condition_7 : decode cX6_condition 7 = .ok (.iload 4, 2) := by decide +kernel
theorem dX6_condition_9 : decode cX6_condition 9 = .ok (.sipush 400, 3) := by decide +kernel
theorem dX6_condition_12 : decode cX6_condition 12 = .ok (.if_icmp .ge 109, 3) := by decide +kernel
theorem dX6_condition_15 : decode cX6_condition 15 = .ok (.aload_n 0, 1) := by decide +kernel
theorem dX6_condition_16 : decode cX6_condition 16 = .ok (.getfield 60, 3) := by decide +kernel
theorem dX6_condition_19 : decode cX6_condition 19 = .ok (.ifCond .ne 102, 3) := by decide +kernel
theorem dX6_condition_22 : decode cX6_condition 22 = .ok (.aload_n 0, 1) := by decide +kernel
theorem dX6_condition_23 : decode cX6_condition 23 = .ok (.iload_n 1, 1) := by decide +kernel
theorem dX6_condition_24 : decode cX6_condition 24 = .ok (.invokevirtual 172, 3) := by decide +kernel
theorem dX6_condition_27 : decode cX6_condition 27 = .ok (.iload_n 2, 1) := by decide +kernel
theorem dX6_condition_28 : decode cX6_condition 28 = .ok (.ifCond .eq 12, 3) := by decide +kernel
theorem dX6_condition_31 : decode cX6_condition 31 = .ok (.aload_n 0, 1) := by decide +kernel
theorem dX6_condition_32 : decode cX6_condition 32 = .ok (.getfield 47, 3) := by decide +kernel
theorem dX6_condition_35 : decode cX6_condition 35 = .ok (.bipush (-15), 2) := by decide +kernel
theorem dX6_condition_37 : decode cX6_condition 37 = .ok (.invokevirtual 170, 3) := by decide +kernel
theorem dX6_condition_40 : decode cX6_condition 40 = .ok (.aload_n 0, 1) := by decide +kernel
theorem dX6_condition_41 : decode cX6_condition 41 = .ok (.getfield 35, 3) := by decide +kernel
theorem dX6_condition_44 : decode cX6_condition 44 = .ok (.bipush 14, 2) := by decide +kernel
theorem dX6_condition_46 : decode cX6_condition 46 = .ok (.if_icmp .ne 7, 3) := by decide +kernel
theorem dX6_condition_49 : decode cX6_condition 49 = .ok (.iconst 1, 1) := by decide +kernel
theorem dX6_condition_50 : decode cX6_condition 50 = .ok (.goto 4, 3) := by decide +kernel
theorem dX6_condition_53 : decode cX6_condition 53 = .ok (.iconst 0, 1) := by decide +kernel
theorem dX6_condition_54 : decode cX6_condition 54 = .ok (.istore_n 2, 1) := by decide +kernel
theorem dX6_condition_55 : decode cX6_condition 55 = .ok (.iload_n 2, 1) := by decide +kernel
theorem dX6_condition_56 : decode cX6_condition 56 = .ok (.ifCond .ne 16, 3) := by decide +kernel
theorem dX6_condition_59 : decode cX6_condition 59 = .ok (.iload_n 3, 1) := by decide +kernel
theorem dX6_condition_60 : decode cX6_condition 60 = .ok (.ifCond .eq 12, 3) := by decide +kernel
theorem dX6_condition_63 : decode cX6_condition 63 = .ok (.aload_n 0, 1) := by decide +kernel
theorem dX6_condition_64 : decode cX6_condition 64 = .ok (.getfield 47, 3) := by decide +kernel
theorem dX6_condition_67 : decode cX6_condition 67 = .ok (.bipush (-14), 2) := by decide +kernel
theorem dX6_condition_69 : decode cX6_condition 69 = .ok (.invokevirtual 170, 3) := by decide +kernel
theorem dX6_condition_72 : decode cX6_condition 72 = .ok (.aload_n 0, 1) := by decide +kernel
theorem dX6_condition_73 : decode cX6_condition 73 = .ok (.getfield 35, 3) := by decide +kernel
theorem dX6_condition_76 : decode cX6_condition 76 = .ok (.bipush 13, 2) := by decide +kernel
theorem dX6_condition_78 : decode cX6_condition 78 = .ok (.if_icmp .eq 11, 3) := by decide +kernel
theorem dX6_condition_81 : decode cX6_condition 81 = .ok (.iload_n 2, 1) := by decide +kernel
theorem dX6_condition_82 : decode cX6_condition 82 = .ok (.ifCond .eq 11, 3) := by decide +kernel
theorem dX6_condition_85 : decode cX6_condition 85 = .ok (.iload_n 3, 1) := by decide +kernel
theorem dX6_condition_86 : decode cX6_condition 86 = .ok (.ifCond .eq 7, 3) := by decide +kernel
theorem dX6_condition_89 : decode cX6_condition 89 = .ok (.iconst 1, 1) := by decide +kernel
theorem dX6_condition_90 : decode cX6_condition 90 = .ok (.goto 4, 3) := by decide +kernel
theorem dX6_condition_93 : decode cX6_condition 93 = .ok (.iconst 0, 1) := by decide +kernel
theorem dX6_condition_94 : decode cX6_condition 94 = .ok (.istore_n 3, 1) := by decide +kernel
theorem dX6_condition_95 : decode cX6_condition 95 = .ok (.aload_n 0, 1) := by decide +kernel
theorem dX6_condition_96 : decode cX6_condition 96 = .ok (.getfield 60, 3) := by decide +kernel
theorem dX6_condition_99 : decode cX6_condition 99 = .ok (.ifCond .ne 11, 3) := by decide +kernel
theorem dX6_condition_102 : decode cX6_condition 102 = .ok (.iload_n 2, 1) := by decide +kernel
theorem dX6_condition_103 : decode cX6_condition 103 = .ok (.ifCond .ne 8, 3) := by decide +kernel
theorem dX6_condition_106 : decode cX6_condition 106 = .ok (.iload_n 3, 1) := by decide +kernel
theorem dX6_condition_107 : decode cX6_condition 107 = .ok (.ifCond .ne 4, 3) := by decide +kernel
theorem dX6_condition_110 : decode cX6_condition 110 = .ok (.return_, 1) := by decide +kernel
theorem dX6_condition_111 : decode cX6_condition 111 = .ok (.aload_n 0, 1) := by decide +kernel
theorem dX6_condition_112 : decode cX6_condition 112 = .ok (.invokevirtual 130, 3) := by decide +kernel
theorem dX6_condition_115 : decode cX6_condition 115 = .ok (.iinc 4 1, 3) := by decide +kernel
theorem dX6_condition_118 : decode cX6_condition 118 = .ok (.goto (-111), 3) := by decide +kernel
theorem dX6_condition_121 : decode cX6_condition 121 = .ok (.return_, 1) := by decide +kernel
def f_X6_condition_94 (ks kc : Int32 → zHp → Option zHp) (k7 : Int32 × Int32 × Int32 × Int32 × zHp → Option (zHp)) (v1 : Int32) (v2 : Int32) (v4 : Int32) (s0 : Int32) (h : zHp) : Option (zHp) := (if (h 145 12) = 0 then (if v2 = 0 then (if s0 = 0 then some h else (f_X6_advance h).bind fun x1 => k7 (v1, v2, s0, (v4 + (1 : Int32)), x1)) else (f_X6_advance h).bind fun x2 => k7 (v1, v2, s0, (v4 + (1 : Int32)), x2)) else some h)
set_option maxHeartbeats 4000000 in
set_option maxRecDepth 100000 in
theorem f_X6_condition_94_s (dd : Nat) (ks kc : Int32 → zHp → Option zHp) (hks : ∀ a h, Fn wX mX6_single dd rV [.ref 145, .int a] h (ks a h)) (hkc : ∀ a h, Fn wX mX6_condition dd rV [.ref 145, .int a] h (kc a h)) (k7 : Int32 × Int32 × Int32 × Int32 × zHp → Option (zHp)) (H7 : ∀ v : Int32 × Int32 × Int32 × Int32 × zHp, Sim wX mX6_condition (dd + 3) rV 7 [(0, .ref 145), (1, .int v.1), (2, .int v.2.1), (3, .int v.2.2.1), (4, .int v.2.2.2.1)] [] v.2.2.2.2 (k7 v)) (v1 : Int32) (v2 : Int32) (v4 : Int32) (s0 : Int32) (h : zHp) : Sim wX mX6_condition (dd + 3) rV 94 [(0, .ref 145), (1, .int v1), (2, .int v2), (4, .int v4)] [.int s0] h (f_X6_condition_94 ks kc k7 v1 v2 v4 s0 h) := by
  unfold f_X6_condition_94
  refine Sim.istore_n (L' := [(3, .int s0), (0, .ref 145), (1, .int v1), (2, .int v2), (4, .int v4)]) dX6_condition_94 (Nat.le_of_ble_eq_true rfl) rfl ?_
  refine Sim.aload_n 1 dX6_condition_95 rfl ?_
  refine Sim.getI fl_X6_60 dX6_condition_96 xI_145_12 ?_
  refine Sim.if_ne 110 dX6_condition_99 rfl ?_ ?_
  · refine Sim.iload_n 3 dX6_condition_102 rfl ?_
    refine Sim.if_ne 111 dX6_condition_103 rfl ?_ ?_
    · refine Sim.iload_n 0 dX6_condition_106 rfl ?_
      refine Sim.if_ne 111 dX6_condition_107 rfl ?_ ?_
      · exact Sim.vret dX6_condition_110 rfl
      · refine Sim.aload_n 1 dX6_condition_111 rfl ?_
        refine Sim.callV0U (d1 := 0) (s_X6_advance h) dX6_condition_112 ml_X6_130 mv_X6_advance xO_X6 (by omega) (Nat.le_of_ble_eq_true rfl) (Nat.le_of_ble_eq_true rfl) (fun x1 => ?_)
        refine Sim.iinc (L' := [(4, .int (v4 + (1 : Int32))), (3, .int s0), (0, .ref 145), (1, .int v1), (2, .int v2)]) 4 dX6_condition_115 rfl rfl (Nat.le_of_ble_eq_true rfl) rfl ?_
        refine Sim.goto 7 dX6_condition_118 rfl ?_
        refine Sim.locs [2, 3, 4, 1, 0] rfl ?_
        exact H7 (v1, v2, s0, (v4 + (1 : Int32)), x1)
    · refine Sim.aload_n 1 dX6_condition_111 rfl ?_
      refine Sim.callV0U (d1 := 0) (s_X6_advance h) dX6_condition_112 ml_X6_130 mv_X6_advance xO_X6 (by omega) (Nat.le_of_ble_eq_true rfl) (Nat.le_of_ble_eq_true rfl) (fun x2 => ?_)
      refine Sim.iinc (L' := [(4, .int (v4 + (1 : Int32))), (3, .int s0), (0, .ref 145), (1, .int v1), (2, .int v2)]) 4 dX6_condition_115 rfl rfl (Nat.le_of_ble_eq_true rfl) rfl ?_
      refine Sim.goto 7 dX6_condition_118 rfl ?_
      refine Sim.locs [2, 3, 4, 1, 0] rfl ?_
      exact H7 (v1, v2, s0, (v4 + (1 : Int32)), x2)
  · exact Sim.vret dX6_condition_110 rfl
def f_X6_condition_72 (ks kc : Int32 → zHp → Option zHp) (k7 : Int32 × Int32 × Int32 × Int32 × zHp → Option (zHp)) (v1 : Int32) (v2 : Int32) (v3 : Int32) (v4 : Int32) (h : zHp) : Option (zHp) := (if (h 145 7) = (13 : Int32) then f_X6_condition_94 ks kc k7 v1 v2 v4 (1 : Int32) h else (if v2 = 0 then f_X6_condition_94 ks kc k7 v1 v2 v4 (0 : Int32) h else (if v3 = 0 then f_X6_condition_94 ks kc k7 v1 v2 v4 (0 : Int32) h else f_X6_condition_94 ks kc k7 v1 v2 v4 (1 : Int32) h)))
set_option maxHeartbeats 4000000 in
set_option maxRecDepth 100000 in
theorem f_X6_condition_72_s (dd : Nat) (ks kc : Int32 → zHp → Option zHp) (hks : ∀ a h, Fn wX mX6_single dd rV [.ref 145, .int a] h (ks a h)) (hkc : ∀ a h, Fn wX mX6_condition dd rV [.ref 145, .int a] h (kc a h)) (k7 : Int32 × Int32 × Int32 × Int32 × zHp → Option (zHp)) (H7 : ∀ v : Int32 × Int32 × Int32 × Int32 × zHp, Sim wX mX6_condition (dd + 3) rV 7 [(0, .ref 145), (1, .int v.1), (2, .int v.2.1), (3, .int v.2.2.1), (4, .int v.2.2.2.1)] [] v.2.2.2.2 (k7 v)) (v1 : Int32) (v2 : Int32) (v3 : Int32) (v4 : Int32) (h : zHp) : Sim wX mX6_condition (dd + 3) rV 72 [(0, .ref 145), (1, .int v1), (2, .int v2), (3, .int v3), (4, .int v4)] [] h (f_X6_condition_72 ks kc k7 v1 v2 v3 v4 h) := by
  unfold f_X6_condition_72
  refine Sim.aload_n 0 dX6_condition_72 rfl ?_
  refine Sim.getI fl_X6_35 dX6_condition_73 xI_145_7 ?_
  refine Sim.bipush (v := (13 : Int32)) dX6_condition_76 rfl ?_
  refine Sim.icmp_eq 89 dX6_condition_78 rfl ?_ ?_
  · refine Sim.iconst (v := (1 : Int32)) dX6_condition_89 rfl ?_
    refine Sim.goto 94 dX6_condition_90 rfl ?_
    refine Sim.locs [0, 1, 2, 4] rfl ?_
    exact f_X6_condition_94_s dd ks kc hks hkc k7 H7 v1 v2 v4 (1 : Int32) h
  · refine Sim.iload_n 2 dX6_condition_81 rfl ?_
    refine Sim.if_eq 93 dX6_condition_82 rfl ?_ ?_
    · refine Sim.iconst (v := (0 : Int32)) dX6_condition_93 rfl ?_
      refine Sim.locs [0, 1, 2, 4] rfl ?_
      exact f_X6_condition_94_s dd ks kc hks hkc k7 H7 v1 v2 v4 (0 : Int32) h
    · refine Sim.iload_n 3 dX6_condition_85 rfl ?_
      refine Sim.if_eq 93 dX6_condition_86 rfl ?_ ?_
      · refine Sim.iconst (v := (0 : Int32)) dX6_condition_93 rfl ?_
        refine Sim.locs [0, 1, 2, 4] rfl ?_
        exact f_X6_condition_94_s dd ks kc hks hkc k7 H7 v1 v2 v4 (0 : Int32) h
      · refine Sim.iconst (v := (1 : Int32)) dX6_condition_89 rfl ?_
        refine Sim.goto 94 dX6_condition_90 rfl ?_
        refine Sim.locs [0, 1, 2, 4] rfl ?_
        exact f_X6_condition_94_s dd ks kc hks hkc k7 H7 v1 v2 v4 (1 : Int32) h
def f_X6_condition_54 (ks kc : Int32 → zHp → Option zHp) (k7 : Int32 × Int32 × Int32 × Int32 × zHp → Option (zHp)) (v1 : Int32) (v3 : Int32) (v4 : Int32) (s0 : Int32) (h : zHp) : Option (zHp) := (if s0 = 0 then (if v3 = 0 then f_X6_condition_72 ks kc k7 v1 s0 v3 v4 h else (f_X1_add 150 (-14 : Int32) h).bind fun x1 => f_X6_condition_72 ks kc k7 v1 s0 v3 v4 x1) else f_X6_condition_72 ks kc k7 v1 s0 v3 v4 h)
set_option maxHeartbeats 4000000 in
set_option maxRecDepth 100000 in
theorem f_X6_condition_54_s (dd : Nat) (ks kc : Int32 → zHp → Option zHp) (hks : ∀ a h, Fn wX mX6_single dd rV [.ref 145, .int a] h (ks a h)) (hkc : ∀ a h, Fn wX mX6_condition dd rV [.ref 145, .int a] h (kc a h)) (k7 : Int32 × Int32 × Int32 × Int32 × zHp → Option (zHp)) (H7 : ∀ v : Int32 × Int32 × Int32 × Int32 × zHp, Sim wX mX6_condition (dd + 3) rV 7 [(0, .ref 145), (1, .int v.1), (2, .int v.2.1), (3, .int v.2.2.1), (4, .int v.2.2.2.1)] [] v.2.2.2.2 (k7 v)) (v1 : Int32) (v3 : Int32) (v4 : Int32) (s0 : Int32) (h : zHp) : Sim wX mX6_condition (dd + 3) rV 54 [(0, .ref 145), (1, .int v1), (3, .int v3), (4, .int v4)] [.int s0] h (f_X6_condition_54 ks kc k7 v1 v3 v4 s0 h) := by
  unfold f_X6_condition_54
  refine Sim.istore_n (L' := [(2, .int s0), (0, .ref 145), (1, .int v1), (3, .int v3), (4, .int v4)]) dX6_condition_54 (Nat.le_of_ble_eq_true rfl) rfl ?_
  refine Sim.iload_n 0 dX6_condition_55 rfl ?_
  refine Sim.if_ne 72 dX6_condition_56 rfl ?_ ?_
  · refine Sim.iload_n 3 dX6_condition_59 rfl ?_
    refine Sim.if_eq 72 dX6_condition_60 rfl ?_ ?_
    · refine Sim.locs [1, 2, 0, 3, 4] rfl ?_
      exact f_X6_condition_72_s dd ks kc hks hkc k7 H7 v1 s0 v3 v4 h
    · refine Sim.aload_n 1 dX6_condition_63 rfl ?_
      refine Sim.getR (j := 150) fl_X6_47 dX6_condition_64 xR_145_10 ?_
      refine Sim.bipush (v := (-14 : Int32)) dX6_condition_67 rfl ?_
      refine Sim.callV1U (d1 := 0) (s_X1_add 150 xL_X1_150 (-14 : Int32) h) dX6_condition_69 ml_X6_170 mv_X1_add (xOC_X1 _ xL_X1_150) (by omega) (Nat.le_of_ble_eq_true rfl) (Nat.le_of_ble_eq_true rfl) (fun x1 => ?_)
      refine Sim.locs [1, 2, 0, 3, 4] rfl ?_
      exact f_X6_condition_72_s dd ks kc hks hkc k7 H7 v1 s0 v3 v4 x1
  · refine Sim.locs [1, 2, 0, 3, 4] rfl ?_
    exact f_X6_condition_72_s dd ks kc hks hkc k7 H7 v1 s0 v3 v4 h
def f_X6_condition_40 (ks kc : Int32 → zHp → Option zHp) (k7 : Int32 × Int32 × Int32 × Int32 × zHp → Option (zHp)) (v1 : Int32) (v3 : Int32) (v4 : Int32) (h : zHp) : Option (zHp) := (if (h 145 7) = (14 : Int32) then f_X6_condition_54 ks kc k7 v1 v3 v4 (1 : Int32) h else f_X6_condition_54 ks kc k7 v1 v3 v4 (0 : Int32) h)
set_option maxHeartbeats 4000000 in
set_option maxRecDepth 100000 in
theorem f_X6_condition_40_s (dd : Nat) (ks kc : Int32 → zHp → Option zHp) (hks : ∀ a h, Fn wX mX6_single dd rV [.ref 145, .int a] h (ks a h)) (hkc : ∀ a h, Fn wX mX6_condition dd rV [.ref 145, .int a] h (kc a h)) (k7 : Int32 × Int32 × Int32 × Int32 × zHp → Option (zHp)) (H7 : ∀ v : Int32 × Int32 × Int32 × Int32 × zHp, Sim wX mX6_condition (dd + 3) rV 7 [(0, .ref 145), (1, .int v.1), (2, .int v.2.1), (3, .int v.2.2.1), (4, .int v.2.2.2.1)] [] v.2.2.2.2 (k7 v)) (v1 : Int32) (v3 : Int32) (v4 : Int32) (h : zHp) : Sim wX mX6_condition (dd + 3) rV 40 [(0, .ref 145), (1, .int v1), (3, .int v3), (4, .int v4)] [] h (f_X6_condition_40 ks kc k7 v1 v3 v4 h) := by
  unfold f_X6_condition_40
  refine Sim.aload_n 0 dX6_condition_40 rfl ?_
  refine Sim.getI fl_X6_35 dX6_condition_41 xI_145_7 ?_
  refine Sim.bipush (v := (14 : Int32)) dX6_condition_44 rfl ?_
  refine Sim.icmp_ne 53 dX6_condition_46 rfl ?_ ?_
  · refine Sim.iconst (v := (1 : Int32)) dX6_condition_49 rfl ?_
    refine Sim.goto 54 dX6_condition_50 rfl ?_
    exact f_X6_condition_54_s dd ks kc hks hkc k7 H7 v1 v3 v4 (1 : Int32) h
  · refine Sim.iconst (v := (0 : Int32)) dX6_condition_53 rfl ?_
    exact f_X6_condition_54_s dd ks kc hks hkc k7 H7 v1 v3 v4 (0 : Int32) h
def f_X6_condition_7 (ks kc : Int32 → zHp → Option zHp) (k7 : Int32 × Int32 × Int32 × Int32 × zHp → Option (zHp)) (v1 : Int32) (v2 : Int32) (v3 : Int32) (v4 : Int32) (h : zHp) : Option (zHp) := (if v4 < (400 : Int32) then (if (h 145 12) = 0 then (ks v1 h).bind fun x1 => (if v2 = 0 then f_X6_condition_40 ks kc k7 v1 v3 v4 x1 else (f_X1_add 150 (-15 : Int32) x1).bind fun x2 => f_X6_condition_40 ks kc k7 v1 v3 v4 x2) else some h) else some h)
set_option maxHeartbeats 4000000 in
set_option maxRecDepth 100000 in
theorem f_X6_condition_7_s (dd : Nat) (ks kc : Int32 → zHp → Option zHp) (hks : ∀ a h, Fn wX mX6_single dd rV [.ref 145, .int a] h (ks a h)) (hkc : ∀ a h, Fn wX mX6_condition dd rV [.ref 145, .int a] h (kc a h)) (k7 : Int32 × Int32 × Int32 × Int32 × zHp → Option (zHp)) (H7 : ∀ v : Int32 × Int32 × Int32 × Int32 × zHp, Sim wX mX6_condition (dd + 3) rV 7 [(0, .ref 145), (1, .int v.1), (2, .int v.2.1), (3, .int v.2.2.1), (4, .int v.2.2.2.1)] [] v.2.2.2.2 (k7 v)) (v1 : Int32) (v2 : Int32) (v3 : Int32) (v4 : Int32) (h : zHp) : Sim wX mX6_condition (dd + 3) rV 7 [(0, .ref 145), (1, .int v1), (2, .int v2), (3, .int v3), (4, .int v4)] [] h (f_X6_condition_7 ks kc k7 v1 v2 v3 v4 h) := by
  unfold f_X6_condition_7
  refine Sim.iload 4 dX6_condition_7 rfl ?_
  refine Sim.sipush (v := (400 : Int32)) dX6_condition_9 rfl ?_
  refine Sim.icmp_ge 121 dX6_condition_12 rfl ?_ ?_
  · refine Sim.aload_n 0 dX6_condition_15 rfl ?_
    refine Sim.getI fl_X6_60 dX6_condition_16 xI_145_12 ?_
    refine Sim.if_ne 121 dX6_condition_19 rfl ?_ ?_
    · refine Sim.aload_n 0 dX6_condition_22 rfl ?_
      refine Sim.iload_n 1 dX6_condition_23 rfl ?_
      refine Sim.callV1U (d1 := dd) (hks v1 h) dX6_condition_24 ml_X6_172 mv_X6_single xO_X6 (by omega) (Nat.le_of_ble_eq_true rfl) (Nat.le_of_ble_eq_true rfl) (fun x1 => ?_)
      refine Sim.iload_n 2 dX6_condition_27 rfl ?_
      refine Sim.if_eq 40 dX6_condition_28 rfl ?_ ?_
      · refine Sim.locs [0, 1, 3, 4] rfl ?_
        exact f_X6_condition_40_s dd ks kc hks hkc k7 H7 v1 v3 v4 x1
      · refine Sim.aload_n 0 dX6_condition_31 rfl ?_
        refine Sim.getR (j := 150) fl_X6_47 dX6_condition_32 xR_145_10 ?_
        refine Sim.bipush (v := (-15 : Int32)) dX6_condition_35 rfl ?_
        refine Sim.callV1U (d1 := 0) (s_X1_add 150 xL_X1_150 (-15 : Int32) x1) dX6_condition_37 ml_X6_170 mv_X1_add (xOC_X1 _ xL_X1_150) (by omega) (Nat.le_of_ble_eq_true rfl) (Nat.le_of_ble_eq_true rfl) (fun x2 => ?_)
        refine Sim.locs [0, 1, 3, 4] rfl ?_
        exact f_X6_condition_40_s dd ks kc hks hkc k7 H7 v1 v3 v4 x2
    · exact Sim.vret dX6_condition_121 rfl
  · exact Sim.vret dX6_condition_121 rfl
def f_X6_condition_7_lp (ks kc : Int32 → zHp → Option zHp)  (n : Nat) (v : Int32 × Int32 × Int32 × Int32 × zHp) : Option (zHp) := zlp (fun k7 v => f_X6_condition_7 ks kc k7 v.1 v.2.1 v.2.2.1 v.2.2.2.1 v.2.2.2.2) n v
theorem f_X6_condition_7_ls (dd : Nat) (ks kc : Int32 → zHp → Option zHp) (hks : ∀ a h, Fn wX mX6_single dd rV [.ref 145, .int a] h (ks a h)) (hkc : ∀ a h, Fn wX mX6_condition dd rV [.ref 145, .int a] h (kc a h)) (n : Nat) (v : Int32 × Int32 × Int32 × Int32 × zHp) : Sim wX mX6_condition (dd + 3) rV 7 [(0, .ref 145), (1, .int v.1), (2, .int v.2.1), (3, .int v.2.2.1), (4, .int v.2.2.2.1)] [] v.2.2.2.2 (f_X6_condition_7_lp ks kc n v) :=
  Sim.lp (V := Int32 × Int32 × Int32 × Int32 × zHp) (Lf := fun v => [(0, .ref 145), (1, .int v.1), (2, .int v.2.1), (3, .int v.2.2.1), (4, .int v.2.2.2.1)]) (sf := fun v => []) (hf := fun v => v.2.2.2.2) (fun k7 H7 v => f_X6_condition_7_s dd ks kc hks hkc k7 H7 v.1 v.2.1 v.2.2.1 v.2.2.2.1 v.2.2.2.2) n v
def f_X6_condition_b (ks kc : Int32 → zHp → Option zHp) (a1 : Int32) (h : zHp) : Option (zHp) := f_X6_condition_7_lp ks kc zN (a1, (0 : Int32), (0 : Int32), (0 : Int32), h)
set_option maxHeartbeats 4000000 in
set_option maxRecDepth 100000 in
theorem s_X6_condition_b (dd : Nat) (ks kc : Int32 → zHp → Option zHp) (hks : ∀ a h, Fn wX mX6_single dd rV [.ref 145, .int a] h (ks a h)) (hkc : ∀ a h, Fn wX mX6_condition dd rV [.ref 145, .int a] h (kc a h)) (a1 : Int32) (h : zHp) : Fn wX mX6_condition (dd + 3) rV [.ref 145, .int a1] h (f_X6_condition_b ks kc a1 h) := by
  refine Fn.of rfl (Nat.le_of_ble_eq_true rfl) ?_
  unfold f_X6_condition_b
  refine Sim.iconst (v := (0 : Int32)) dX6_condition_0 rfl ?_
  refine Sim.istore_n (L' := [(2, .int (0 : Int32)), (0, .ref 145), (1, .int a1)]) dX6_condition_1 (Nat.le_of_ble_eq_true rfl) rfl ?_
  refine Sim.iconst (v := (0 : Int32)) dX6_condition_2 rfl ?_
  refine Sim.istore_n (L' := [(3, .int (0 : Int32)), (2, .int (0 : Int32)), (0, .ref 145), (1, .int a1)]) dX6_condition_3 (Nat.le_of_ble_eq_true rfl) rfl ?_
  refine Sim.iconst (v := (0 : Int32)) dX6_condition_4 rfl ?_
  refine Sim.istore (L' := [(4, .int (0 : Int32)), (3, .int (0 : Int32)), (2, .int (0 : Int32)), (0, .ref 145), (1, .int a1)]) dX6_condition_5 (Nat.le_of_ble_eq_true rfl) rfl ?_
  refine Sim.locs [3, 4, 2, 1, 0] rfl ?_
  exact f_X6_condition_7_ls dd ks kc hks hkc zN (a1, (0 : Int32), (0 : Int32), (0 : Int32), h)
def f_X6_rc : Nat → (Int32 → zHp → Option zHp) × (Int32 → zHp → Option zHp)
  | 0 => (fun _ _ => none, fun _ _ => none)
  | n + 1 => (fun a h => f_X6_single_b (f_X6_rc n).1 (f_X6_rc n).2 a h, fun a h => f_X6_condition_b (f_X6_rc n).1 (f_X6_rc n).2 a h)
set_option maxHeartbeats 4000000 in
set_option maxRecDepth 100000 in
theorem s_X6_rc : ∀ n, (∀ a h, Fn wX mX6_single (3 * n) rV [.ref 145, .int a] h ((f_X6_rc n).1 a h)) ∧ (∀ a h, Fn wX mX6_condition (3 * n) rV [.ref 145, .int a] h ((f_X6_rc n).2 a h)) := by
  intro n
  induction n with
  | zero => exact And.intro (fun a h x q => by cases q) (fun a h x q => by cases q)
  | succ n ih =>
    have e : 3 * (n + 1) = 3 * n + 3 := Nat.mul_succ _ _
    rw [e]
    exact And.intro (fun a h => s_X6_single_b (3 * n) _ _ ih.1 ih.2 a h) (fun a h => s_X6_condition_b (3 * n) _ _ ih.1 ih.2 a h)
def f_X6_condition (a1 : Int32) (h : zHp) : Option zHp := (f_X6_rc 20).2 a1 h
theorem s_X6_condition (a1 : Int32) (h : zHp) : Fn wX mX6_condition 60 rV [.ref 145, .int a1] h (f_X6_condition a1 h) := (s_X6_rc 20).2 a1 h
-- ===== RockingPorch$Reader.lawLine()V
abbrev mX6_lawLine : zMt := (yX6_lawLine, cX6_lawLine, 1, none)
theorem fl_X6_87 : zF RX6 87 1 7 := ⟨RX1, TX1, 8, rfl, Nat.le_of_ble_eq_true rfl, zTb_in 285 (by decide +kernel) rfl, in_X1⟩
theorem ml_X6_152 : Cond.methodLink RX6 152 yX1_begin ∈ zTb := zTb_in 909 (by decide +kernel) rfl
theorem ml_X6_158 : Cond.methodLink RX6 158 yX1_middle ∈ zTb := zTb_in 933 (by decide +kernel) rfl
theorem ml_X6_164 : Cond.methodLink RX6 164 yX1_close ∈ zTb := zTb_in 949 (by decide +kernel) rfl
theorem dX6_lawLine_0 : decode cX6_lawLine 0 = .ok (.aload_n 0, 1) := by decide +kernel
theorem dX6_lawLine_1 : decode cX6_lawLine 1 = .ok (.getfield 35, 3) := by decide +kernel
theorem dX6_lawLine_4 : decode cX6_lawLine 4 = .ok (.iconst 2, 1) := by decide +kernel
theorem dX6_lawLine_5 : decode cX6_lawLine 5 = .ok (.if_icmp .le 9, 3) := by decide +kernel
theorem dX6_lawLine_8 : decode cX6_lawLine 8 = .ok (.aload_n 0, 1) := by decide +kernel
theorem dX6_lawLine_9 : decode cX6_lawLine 9 = .ok (.iconst 1, 1) := by decide +kernel
theorem dX6_lawLine_10 : decode cX6_lawLine 10 = .ok (.invokevirtual 133, 3) := by decide +kernel
theorem dX6_lawLine_13 : decode cX6_lawLine 13 = .ok (.return_, 1) := by decide +kernel
theorem dX6_lawLine_14 : decode cX6_lawLine 14 = .ok (.aload_n 0, 1) := by decide +kernel
theorem dX6_lawLine_15 : decode cX6_lawLine 15 = .ok (.getfield 47, 3) := by decide +kernel
theorem dX6_lawLine_18 : decode cX6_lawLine 18 = .ok (.getfield 87, 3) := by decide +kernel
theorem dX6_lawLine_21 : decode cX6_lawLine 21 = .ok (.bipush 16, 2) := by decide +kernel
theorem dX6_lawLine_23 : decode cX6_lawLine 23 = .ok (.if_icmp .lt 9, 3) := by decide +kernel
theorem dX6_lawLine_26 : decode cX6_lawLine 26 = .ok (.aload_n 0, 1) := by decide +kernel
theorem dX6_lawLine_27 : decode cX6_lawLine 27 = .ok (.iconst 3, 1) := by decide +kernel
theorem dX6_lawLine_28 : decode cX6_lawLine 28 = .ok (.invokevirtual 133, 3) := by decide +kernel
theorem dX6_lawLine_31 : decode cX6_lawLine 31 = .ok (.return_, 1) := by decide +kernel
theorem dX6_lawLine_32 : decode cX6_lawLine 32 = .ok (.aload_n 0, 1) := by decide +kernel
theorem dX6_lawLine_33 : decode cX6_lawLine 33 = .ok (.getfield 47, 3) := by decide +kernel
theorem dX6_lawLine_36 : decode cX6_lawLine 36 = .ok (.aload_n 0, 1) := by decide +kernel
theorem dX6_lawLine_37 : decode cX6_lawLine 37 = .ok (.getfield 35, 3) := by decide +kernel
theorem dX6_lawLine_40 : decode cX6_lawLine 40 = .ok (.invokevirtual 152, 3) := by decide +kernel
theorem dX6_lawLine_43 : decode cX6_lawLine 43 = .ok (.aload_n 0, 1) := by decide +kernel
theorem dX6_lawLine_44 : decode cX6_lawLine 44 = .ok (.invokevirtual 130, 3) := by decide +kernel
theorem dX6_lawLine_47 : decode cX6_lawLine 47 = .ok (.aload_n 0, 1) := by decide +kernel
theorem dX6_lawLine_48 : decode cX6_lawLine 48 = .ok (.invokevirtual 155, 3) := by decide +kernel
theorem dX6_lawLine_51 : decode cX6_lawLine 51 = .ok (.aload_n 0, 1) := by decide +kernel
theorem dX6_lawLine_52 : decode cX6_lawLine 52 = .ok (.getfield 47, 3) := by decide +kernel
theorem dX6_lawLine_55 : decode cX6_lawLine 55 = .ok (.invokevirtual 158, 3) := by decide +kernel
theorem dX6_lawLine_58 : decode cX6_lawLine 58 = .ok (.aload_n 0, 1) := by decide +kernel
theorem dX6_lawLine_59 : decode cX6_lawLine 59 = .ok (.getfield 60, 3) := by decide +kernel
theorem dX6_lawLine_62 : decode cX6_lawLine 62 = .ok (.ifCond .ne 21, 3) := by decide +kernel
theorem dX6_lawLine_65 : decode cX6_lawLine 65 = .ok (.aload_n 0, 1) := by decide +kernel
theorem dX6_lawLine_66 : decode cX6_lawLine 66 = .ok (.getfield 35, 3) := by decide +kernel
theorem dX6_lawLine_69 : decode cX6_lawLine 69 = .ok (.bipush 12, 2) := by decide +kernel
theorem dX6_lawLine_71 : decode cX6_lawLine 71 = .ok (.if_icmp .ne 12, 3) := by decide +kernel
theorem dX6_lawLine_74 : decode cX6_lawLine 74 = .ok (.aload_n 0, 1) := by decide +kernel
theorem dX6_lawLine_75 : decode cX6_lawLine 75 = .ok (.invokevirtual 130, 3) := by decide +kernel
theorem dX6_lawLine_78 : decode cX6_lawLine 78 = .ok (.aload_n 0, 1) := by decide +kernel
theorem dX6_lawLine_79 : decode cX6_lawLine 79 = .ok (.iconst 0, 1) := by decide +kernel
theorem dX6_lawLine_80 : decode cX6_lawLine 80 = .ok (.invokevirtual 161, 3) := by decide +kernel
theorem dX6_lawLine_83 : decode cX6_lawLine 83 = .ok (.aload_n 0, 1) := by decide +kernel
theorem dX6_lawLine_84 : decode cX6_lawLine 84 = .ok (.bipush 24, 2) := by decide +kernel
theorem dX6_lawLine_86 : decode cX6_lawLine 86 = .ok (.invokevirtual 136, 3) := by decide +kernel
theorem dX6_lawLine_89 : decode cX6_lawLine 89 = .ok (.aload_n 0, 1) := by decide +kernel
theorem dX6_lawLine_90 : decode cX6_lawLine 90 = .ok (.getfield 60, 3) := by decide +kernel
theorem dX6_lawLine_93 : decode cX6_lawLine 93 = .ok (.ifCond .ne 10, 3) := by decide +kernel
theorem dX6_lawLine_96 : decode cX6_lawLine 96 = .ok (.aload_n 0, 1) := by decide +kernel
theorem dX6_lawLine_97 : decode cX6_lawLine 97 = .ok (.getfield 47, 3) := by decide +kernel
theorem dX6_lawLine_100 : decode cX6_lawLine 100 = .ok (.invokevirtual 164, 3) := by decide +kernel
theorem dX6_lawLine_103 : decode cX6_lawLine 103 = .ok (.return_, 1) := by decide +kernel
def f_X6_lawLine_83    (h : zHp) : Option (zHp) := (f_X6_expect (24 : Int32) h).bind fun x1 => (if (x1 145 12) = 0 then (f_X1_close 150 x1).bind fun x2 => some x2 else some x1)
set_option maxHeartbeats 4000000 in
set_option maxRecDepth 100000 in
theorem f_X6_lawLine_83_s   (h : zHp) : Sim wX mX6_lawLine 61 rV 83 [(0, .ref 145)] [] h (f_X6_lawLine_83 h) := by
  unfold f_X6_lawLine_83
  refine Sim.aload_n 0 dX6_lawLine_83 rfl ?_
  refine Sim.bipush (v := (24 : Int32)) dX6_lawLine_84 rfl ?_
  refine Sim.callV1U (d1 := 1) (s_X6_expect (24 : Int32) h) dX6_lawLine_86 ml_X6_136 mv_X6_expect xO_X6 (Nat.le_of_ble_eq_true rfl) (Nat.le_of_ble_eq_true rfl) (Nat.le_of_ble_eq_true rfl) (fun x1 => ?_)
  refine Sim.aload_n 0 dX6_lawLine_89 rfl ?_
  refine Sim.getI fl_X6_60 dX6_lawLine_90 xI_145_12 ?_
  refine Sim.if_ne 103 dX6_lawLine_93 rfl ?_ ?_
  · refine Sim.aload_n 0 dX6_lawLine_96 rfl ?_
    refine Sim.getR (j := 150) fl_X6_47 dX6_lawLine_97 xR_145_10 ?_
    refine Sim.callV0U (d1 := 0) (s_X1_close 150 xL_X1_150 x1) dX6_lawLine_100 ml_X6_164 mv_X1_close (xOC_X1 _ xL_X1_150) (Nat.le_of_ble_eq_true rfl) (Nat.le_of_ble_eq_true rfl) (Nat.le_of_ble_eq_true rfl) (fun x2 => ?_)
    exact Sim.vret dX6_lawLine_103 rfl
  · exact Sim.vret dX6_lawLine_103 rfl
def f_X6_lawLine   (h : zHp) : Option (zHp) := (if (2 : Int32) < (h 145 7) then (f_X6_fail (1 : Int32) h).bind fun x1 => some x1 else (if (h 150 7) < (16 : Int32) then (f_X1_begin 150 (h 145 7) h).bind fun x2 => (f_X6_advance x2).bind fun x3 => (f_X6_sumOf x3).bind fun x4 => (f_X1_middle 150 x4).bind fun x5 => (if (x5 145 12) = 0 then (if (x5 145 7) = (12 : Int32) then (f_X6_advance x5).bind fun x6 => (f_X6_condition (0 : Int32) x6).bind fun x7 => f_X6_lawLine_83 x7 else f_X6_lawLine_83 x5) else f_X6_lawLine_83 x5) else (f_X6_fail (3 : Int32) h).bind fun x8 => some x8))
set_option maxHeartbeats 4000000 in
set_option maxRecDepth 100000 in
theorem s_X6_lawLine   (h : zHp) : Fn wX mX6_lawLine 61 rV [.ref 145] h (f_X6_lawLine  h) := by
  refine Fn.of rfl (Nat.le_of_ble_eq_true rfl) ?_
  unfold f_X6_lawLine
  refine Sim.aload_n 0 dX6_lawLine_0 rfl ?_
  refine Sim.getI fl_X6_35 dX6_lawLine_1 xI_145_7 ?_
  refine Sim.iconst (v := (2 : Int32)) dX6_lawLine_4 rfl ?_
  refine Sim.icmp_le 14 dX6_lawLine_5 rfl ?_ ?_
  · refine Sim.aload_n 0 dX6_lawLine_8 rfl ?_
    refine Sim.iconst (v := (1 : Int32)) dX6_lawLine_9 rfl ?_
    refine Sim.callV1U (d1 := 0) (s_X6_fail (1 : Int32) h) dX6_lawLine_10 ml_X6_133 mv_X6_fail xO_X6 (Nat.le_of_ble_eq_true rfl) (Nat.le_of_ble_eq_true rfl) (Nat.le_of_ble_eq_true rfl) (fun x1 => ?_)
    exact Sim.vret dX6_lawLine_13 rfl
  · refine Sim.aload_n 0 dX6_lawLine_14 rfl ?_
    refine Sim.getR (j := 150) fl_X6_47 dX6_lawLine_15 xR_145_10 ?_
    refine Sim.getI fl_X6_87 dX6_lawLine_18 (xI_X1_7 _ xL_X1_150) ?_
    refine Sim.bipush (v := (16 : Int32)) dX6_lawLine_21 rfl ?_
    refine Sim.icmp_lt 32 dX6_lawLine_23 rfl ?_ ?_
    · refine Sim.aload_n 0 dX6_lawLine_32 rfl ?_
      refine Sim.getR (j := 150) fl_X6_47 dX6_lawLine_33 xR_145_10 ?_
      refine Sim.aload_n 0 dX6_lawLine_36 rfl ?_
      refine Sim.getI fl_X6_35 dX6_lawLine_37 xI_145_7 ?_
      refine Sim.callV1U (d1 := 0) (s_X1_begin 150 xL_X1_150 (h 145 7) h) dX6_lawLine_40 ml_X6_152 mv_X1_begin (xOC_X1 _ xL_X1_150) (Nat.le_of_ble_eq_true rfl) (Nat.le_of_ble_eq_true rfl) (Nat.le_of_ble_eq_true rfl) (fun x2 => ?_)
      refine Sim.aload_n 0 dX6_lawLine_43 rfl ?_
      refine Sim.callV0U (d1 := 0) (s_X6_advance x2) dX6_lawLine_44 ml_X6_130 mv_X6_advance xO_X6 (Nat.le_of_ble_eq_true rfl) (Nat.le_of_ble_eq_true rfl) (Nat.le_of_ble_eq_true rfl) (fun x3 => ?_)
      refine Sim.aload_n 0 dX6_lawLine_47 rfl ?_
      refine Sim.callV0U (d1 := 2) (s_X6_sumOf x3) dX6_lawLine_48 ml_X6_155 mv_X6_sumOf xO_X6 (Nat.le_of_ble_eq_true rfl) (Nat.le_of_ble_eq_true rfl) (Nat.le_of_ble_eq_true rfl) (fun x4 => ?_)
      refine Sim.aload_n 0 dX6_lawLine_51 rfl ?_
      refine Sim.getR (j := 150) fl_X6_47 dX6_lawLine_52 xR_145_10 ?_
      refine Sim.callV0U (d1 := 0) (s_X1_middle 150 xL_X1_150 x4) dX6_lawLine_55 ml_X6_158 mv_X1_middle (xOC_X1 _ xL_X1_150) (Nat.le_of_ble_eq_true rfl) (Nat.le_of_ble_eq_true rfl) (Nat.le_of_ble_eq_true rfl) (fun x5 => ?_)
      refine Sim.aload_n 0 dX6_lawLine_58 rfl ?_
      refine Sim.getI fl_X6_60 dX6_lawLine_59 xI_145_12 ?_
      refine Sim.if_ne 83 dX6_lawLine_62 rfl ?_ ?_
      · refine Sim.aload_n 0 dX6_lawLine_65 rfl ?_
        refine Sim.getI fl_X6_35 dX6_lawLine_66 xI_145_7 ?_
        refine Sim.bipush (v := (12 : Int32)) dX6_lawLine_69 rfl ?_
        refine Sim.icmp_ne 83 dX6_lawLine_71 rfl ?_ ?_
        · refine Sim.aload_n 0 dX6_lawLine_74 rfl ?_
          refine Sim.callV0U (d1 := 0) (s_X6_advance x5) dX6_lawLine_75 ml_X6_130 mv_X6_advance xO_X6 (Nat.le_of_ble_eq_true rfl) (Nat.le_of_ble_eq_true rfl) (Nat.le_of_ble_eq_true rfl) (fun x6 => ?_)
          refine Sim.aload_n 0 dX6_lawLine_78 rfl ?_
          refine Sim.iconst (v := (0 : Int32)) dX6_lawLine_79 rfl ?_
          refine Sim.callV1U (d1 := 60) (s_X6_condition (0 : Int32) x6) dX6_lawLine_80 ml_X6_161 mv_X6_condition xO_X6 (Nat.le_of_ble_eq_true rfl) (Nat.le_of_ble_eq_true rfl) (Nat.le_of_ble_eq_true rfl) (fun x7 => ?_)
          exact f_X6_lawLine_83_s x7
        · exact f_X6_lawLine_83_s x5
      · exact f_X6_lawLine_83_s x5
    · refine Sim.aload_n 0 dX6_lawLine_26 rfl ?_
      refine Sim.iconst (v := (3 : Int32)) dX6_lawLine_27 rfl ?_
      refine Sim.callV1U (d1 := 0) (s_X6_fail (3 : Int32) h) dX6_lawLine_28 ml_X6_133 mv_X6_fail xO_X6 (Nat.le_of_ble_eq_true rfl) (Nat.le_of_ble_eq_true rfl) (Nat.le_of_ble_eq_true rfl) (fun x8 => ?_)
      exact Sim.vret dX6_lawLine_31 rfl
theorem mv_X6_lawLine : zMV mX6_lawLine 0 := ⟨⟨zTb_in 904 (by decide +kernel) rfl, zTb_in 145 (by decide +kernel) rfl, ⟨by decide +kernel, by decide +kernel⟩, by decide +kernel⟩, zTb_in 903 (by decide +kernel) rfl, zTb_in 16 (by decide +kernel) rfl⟩
-- ===== RockingPorch$Reader.expectLine(I)V
abbrev mX6_expectLine : zMt := (yX6_expectLine, cX6_expectLine, 2, none)
theorem fl_X6_56 : zF RX6 56 6 11 := ⟨RX6, TX6, 14, rfl, Nat.le_of_ble_eq_true rfl, zTb_in 442 (by decide +kernel) rfl, in_X6⟩
theorem fl_X6_69 : zF RX6 69 2 2 := ⟨RX2, TX2, 3, rfl, Nat.le_of_ble_eq_true rfl, zTb_in 260 (by decide +kernel) rfl, in_X2⟩
theorem dX6_expectLine_0 : decode cX6_expectLine 0 = .ok (.aload_n 0, 1) := by decide +kernel
theorem dX6_expectLine_1 : decode cX6_expectLine 1 = .ok (.getfield 35, 3) := by decide +kernel
theorem dX6_expectLine_4 : decode cX6_expectLine 4 = .ok (.iload_n 1, 1) := by decide +kernel
theorem dX6_expectLine_5 : decode cX6_expectLine 5 = .ok (.if_icmp .ne 20, 3) := by decide +kernel
theorem dX6_expectLine_8 : decode cX6_expectLine 8 = .ok (.aload_n 0, 1) := by decide +kernel
theorem dX6_expectLine_9 : decode cX6_expectLine 9 = .ok (.getfield 56, 3) := by decide +kernel
theorem dX6_expectLine_12 : decode cX6_expectLine 12 = .ok (.getfield 69, 3) := by decide +kernel
theorem dX6_expectLine_15 : decode cX6_expectLine 15 = .ok (.bipush 16, 2) := by decide +kernel
theorem dX6_expectLine_17 : decode cX6_expectLine 17 = .ok (.if_icmp .lt 8, 3) := by decide +kernel
theorem dX6_expectLine_20 : decode cX6_expectLine 20 = .ok (.aload_n 0, 1) := by decide +kernel
theorem dX6_expectLine_21 : decode cX6_expectLine 21 = .ok (.iconst 3, 1) := by decide +kernel
theorem dX6_expectLine_22 : decode cX6_expectLine 22 = .ok (.invokevirtual 133, 3) := by decide +kernel
theorem dX6_expectLine_25 : decode cX6_expectLine 25 = .ok (.aload_n 0, 1) := by decide +kernel
theorem dX6_expectLine_26 : decode cX6_expectLine 26 = .ok (.iload_n 1, 1) := by decide +kernel
theorem dX6_expectLine_27 : decode cX6_expectLine 27 = .ok (.invokevirtual 136, 3) := by decide +kernel
theorem dX6_expectLine_30 : decode cX6_expectLine 30 = .ok (.return_, 1) := by decide +kernel
def f_X6_expectLine  (a1 : Int32) (h : zHp) : Option (zHp) := (if (h 145 7) = a1 then (if (h 157 2) < (16 : Int32) then (f_X6_expect a1 h).bind fun x1 => some x1 else (f_X6_fail (3 : Int32) h).bind fun x2 => (f_X6_expect a1 x2).bind fun x3 => some x3) else (f_X6_expect a1 h).bind fun x4 => some x4)
set_option maxHeartbeats 4000000 in
set_option maxRecDepth 100000 in
theorem s_X6_expectLine  (a1 : Int32) (h : zHp) : Fn wX mX6_expectLine 2 rV [.ref 145, .int a1] h (f_X6_expectLine a1 h) := by
  refine Fn.of rfl (Nat.le_of_ble_eq_true rfl) ?_
  unfold f_X6_expectLine
  refine Sim.aload_n 0 dX6_expectLine_0 rfl ?_
  refine Sim.getI fl_X6_35 dX6_expectLine_1 xI_145_7 ?_
  refine Sim.iload_n 1 dX6_expectLine_4 rfl ?_
  refine Sim.icmp_ne 25 dX6_expectLine_5 rfl ?_ ?_
  · refine Sim.aload_n 0 dX6_expectLine_8 rfl ?_
    refine Sim.getR (j := 157) fl_X6_56 dX6_expectLine_9 xR_145_11 ?_
    refine Sim.getI fl_X6_69 dX6_expectLine_12 (xI_X2_2 _ xL_X2_157) ?_
    refine Sim.bipush (v := (16 : Int32)) dX6_expectLine_15 rfl ?_
    refine Sim.icmp_lt 25 dX6_expectLine_17 rfl ?_ ?_
    · refine Sim.aload_n 0 dX6_expectLine_25 rfl ?_
      refine Sim.iload_n 1 dX6_expectLine_26 rfl ?_
      refine Sim.callV1U (d1 := 1) (s_X6_expect a1 h) dX6_expectLine_27 ml_X6_136 mv_X6_expect xO_X6 (Nat.le_of_ble_eq_true rfl) (Nat.le_of_ble_eq_true rfl) (Nat.le_of_ble_eq_true rfl) (fun x1 => ?_)
      exact Sim.vret dX6_expectLine_30 rfl
    · refine Sim.aload_n 0 dX6_expectLine_20 rfl ?_
      refine Sim.iconst (v := (3 : Int32)) dX6_expectLine_21 rfl ?_
      refine Sim.callV1U (d1 := 0) (s_X6_fail (3 : Int32) h) dX6_expectLine_22 ml_X6_133 mv_X6_fail xO_X6 (Nat.le_of_ble_eq_true rfl) (Nat.le_of_ble_eq_true rfl) (Nat.le_of_ble_eq_true rfl) (fun x2 => ?_)
      refine Sim.aload_n 0 dX6_expectLine_25 rfl ?_
      refine Sim.iload_n 1 dX6_expectLine_26 rfl ?_
      refine Sim.callV1U (d1 := 1) (s_X6_expect a1 x2) dX6_expectLine_27 ml_X6_136 mv_X6_expect xO_X6 (Nat.le_of_ble_eq_true rfl) (Nat.le_of_ble_eq_true rfl) (Nat.le_of_ble_eq_true rfl) (fun x3 => ?_)
      exact Sim.vret dX6_expectLine_30 rfl
  · refine Sim.aload_n 0 dX6_expectLine_25 rfl ?_
    refine Sim.iload_n 1 dX6_expectLine_26 rfl ?_
    refine Sim.callV1U (d1 := 1) (s_X6_expect a1 h) dX6_expectLine_27 ml_X6_136 mv_X6_expect xO_X6 (Nat.le_of_ble_eq_true rfl) (Nat.le_of_ble_eq_true rfl) (Nat.le_of_ble_eq_true rfl) (fun x4 => ?_)
    exact Sim.vret dX6_expectLine_30 rfl
theorem mv_X6_expectLine : zMV mX6_expectLine 1 := ⟨⟨zTb_in 960 (by decide +kernel) rfl, zTb_in 145 (by decide +kernel) rfl, ⟨by decide +kernel, by decide +kernel⟩, by decide +kernel⟩, zTb_in 959 (by decide +kernel) rfl, zTb_in 26 (by decide +kernel) rfl⟩
-- ===== RockingPorch$Reader.closeLine(IIII)V
abbrev mX6_closeLine : zMt := (yX6_closeLine, cX6_closeLine, 5, none)
theorem ml_X6_139 : Cond.methodLink RX6 139 yX2_add ∈ zTb := zTb_in 965 (by decide +kernel) rfl
theorem dX6_closeLine_0 : decode cX6_closeLine 0 = .ok (.aload_n 0, 1) := by decide +kernel
theorem dX6_closeLine_1 : decode cX6_closeLine 1 = .ok (.bipush 24, 2) := by decide +kernel
theorem dX6_closeLine_3 : decode cX6_closeLine 3 = .ok (.invokevirtual 136, 3) := by decide +kernel
theorem dX6_closeLine_6 : decode cX6_closeLine 6 = .ok (.aload_n 0, 1) := by decide +kernel
theorem dX6_closeLine_7 : decode cX6_closeLine 7 = .ok (.getfield 60, 3) := by decide +kernel
theorem dX6_closeLine_10 : decode cX6_closeLine 10 = .ok (.ifCond .ne 15, 3) := by decide +kernel
theorem dX6_closeLine_13 : decode cX6_closeLine 13 = .ok (.aload_n 0, 1) := by decide +kernel
theorem dX6_closeLine_14 : decode cX6_closeLine 14 = .ok (.getfield 56, 3) := by decide +kernel
theorem dX6_closeLine_17 : decode cX6_closeLine 17 = .ok (.iload_n 1, 1) := by decide +kernel
theorem dX6_closeLine_18 : decode cX6_closeLine 18 = .ok (.iload_n 2, 1) := by decide +kernel
theorem dX6_closeLine_19 : decode cX6_closeLine 19 = .ok (.iload_n 3, 1) := by decide +kernel
theorem dX6_closeLine_20 : decode cX6_closeLine 20 = .ok (.iload 4, 2) := by decide +kernel
theorem dX6_closeLine_22 : decode cX6_closeLine 22 = .ok (.invokevirtual 139, 3) := by decide +kernel
theorem dX6_closeLine_25 : decode cX6_closeLine 25 = .ok (.return_, 1) := by decide +kernel
def f_X6_closeLine  (a1 : Int32) (a2 : Int32) (a3 : Int32) (a4 : Int32) (h : zHp) : Option (zHp) := (f_X6_expect (24 : Int32) h).bind fun x1 => (if (x1 145 12) = 0 then (f_X2_add 157 a1 a2 a3 a4 x1).bind fun x2 => some x2 else some x1)
set_option maxHeartbeats 4000000 in
set_option maxRecDepth 100000 in
theorem s_X6_closeLine  (a1 : Int32) (a2 : Int32) (a3 : Int32) (a4 : Int32) (h : zHp) : Fn wX mX6_closeLine 2 rV [.ref 145, .int a1, .int a2, .int a3, .int a4] h (f_X6_closeLine a1 a2 a3 a4 h) := by
  refine Fn.of rfl (Nat.le_of_ble_eq_true rfl) ?_
  unfold f_X6_closeLine
  refine Sim.aload_n 0 dX6_closeLine_0 rfl ?_
  refine Sim.bipush (v := (24 : Int32)) dX6_closeLine_1 rfl ?_
  refine Sim.callV1U (d1 := 1) (s_X6_expect (24 : Int32) h) dX6_closeLine_3 ml_X6_136 mv_X6_expect xO_X6 (Nat.le_of_ble_eq_true rfl) (Nat.le_of_ble_eq_true rfl) (Nat.le_of_ble_eq_true rfl) (fun x1 => ?_)
  refine Sim.aload_n 0 dX6_closeLine_6 rfl ?_
  refine Sim.getI fl_X6_60 dX6_closeLine_7 xI_145_12 ?_
  refine Sim.if_ne 25 dX6_closeLine_10 rfl ?_ ?_
  · refine Sim.aload_n 0 dX6_closeLine_13 rfl ?_
    refine Sim.getR (j := 157) fl_X6_56 dX6_closeLine_14 xR_145_11 ?_
    refine Sim.iload_n 1 dX6_closeLine_17 rfl ?_
    refine Sim.iload_n 2 dX6_closeLine_18 rfl ?_
    refine Sim.iload_n 3 dX6_closeLine_19 rfl ?_
    refine Sim.iload 4 dX6_closeLine_20 rfl ?_
    refine Sim.callV4U (d1 := 0) (s_X2_add 157 xL_X2_157 a1 a2 a3 a4 x1) dX6_closeLine_22 ml_X6_139 mv_X2_add (xOC_X2 _ xL_X2_157) (Nat.le_of_ble_eq_true rfl) (Nat.le_of_ble_eq_true rfl) (Nat.le_of_ble_eq_true rfl) (fun x2 => ?_)
    exact Sim.vret dX6_closeLine_25 rfl
  · exact Sim.vret dX6_closeLine_25 rfl
theorem mv_X6_closeLine : zMV mX6_closeLine 4 := ⟨⟨zTb_in 964 (by decide +kernel) rfl, zTb_in 145 (by decide +kernel) rfl, ⟨by decide +kernel, by decide +kernel⟩, by decide +kernel⟩, zTb_in 963 (by decide +kernel) rfl, zTb_in 27 (by decide +kernel) rfl⟩
-- ===== RockingPorch$Reader.callsLine()V
abbrev mX6_callsLine : zMt := (yX6_callsLine, cX6_callsLine, 5, none)
theorem fl_X6_38 : zF RX6 38 6 8 := ⟨RX6, TX6, 14, rfl, Nat.le_of_ble_eq_true rfl, zTb_in 438 (by decide +kernel) rfl, in_X6⟩
theorem fl_X6_41 : zF RX6 41 6 9 := ⟨RX6, TX6, 14, rfl, Nat.le_of_ble_eq_true rfl, zTb_in 439 (by decide +kernel) rfl, in_X6⟩
theorem ml_X6_143 : Cond.methodLink RX6 143 yX6_expectLine ∈ zTb := zTb_in 957 (by decide +kernel) rfl
theorem ml_X6_149 : Cond.methodLink RX6 149 yX6_closeLine ∈ zTb := zTb_in 961 (by decide +kernel) rfl
theorem dX6_callsLine_0 : decode cX6_callsLine 0 = .ok (.aload_n 0, 1) := by decide +kernel
theorem dX6_callsLine_1 : decode cX6_callsLine 1 = .ok (.bipush 16, 2) := by decide +kernel
theorem dX6_callsLine_3 : decode cX6_callsLine 3 = .ok (.invokevirtual 143, 3) := by decide +kernel
theorem dX6_callsLine_6 : decode cX6_callsLine 6 = .ok (.aload_n 0, 1) := by decide +kernel
theorem dX6_callsLine_7 : decode cX6_callsLine 7 = .ok (.sipush 999, 3) := by decide +kernel
theorem dX6_callsLine_10 : decode cX6_callsLine 10 = .ok (.iconst (-1), 1) := by decide +kernel
theorem dX6_callsLine_11 : decode cX6_callsLine 11 = .ok (.invokevirtual 146, 3) := by decide +kernel
theorem dX6_callsLine_14 : decode cX6_callsLine 14 = .ok (.istore_n 1, 1) := by decide +kernel
theorem dX6_callsLine_15 : decode cX6_callsLine 15 = .ok (.aload_n 0, 1) := by decide +kernel
theorem dX6_callsLine_16 : decode cX6_callsLine 16 = .ok (.bipush 17, 2) := by decide +kernel
theorem dX6_callsLine_18 : decode cX6_callsLine 18 = .ok (.invokevirtual 136, 3) := by decide +kernel
theorem dX6_callsLine_21 : decode cX6_callsLine 21 = .ok (.aload_n 0, 1) := by decide +kernel
theorem dX6_callsLine_22 : decode cX6_callsLine 22 = .ok (.aload_n 0, 1) := by decide +kernel
theorem dX6_callsLine_23 : decode cX6_callsLine 23 = .ok (.getfield 41, 3) := by decide +kernel
theorem dX6_callsLine_26 : decode cX6_callsLine 26 = .ok (.iconst 1, 1) := by decide +kernel
theorem dX6_callsLine_27 : decode cX6_callsLine 27 = .ok (.isub, 1) := by decide +kernel
theorem dX6_callsLine_28 : decode cX6_callsLine 28 = .ok (.iconst (-1), 1) := by decide +kernel
theorem dX6_callsLine_29 : decode cX6_callsLine 29 = .ok (.invokevirtual 146, 3) := by decide +kernel
theorem dX6_callsLine_32 : decode cX6_callsLine 32 = .ok (.istore_n 2, 1) := by decide +kernel
theorem dX6_callsLine_33 : decode cX6_callsLine 33 = .ok (.aload_n 0, 1) := by decide +kernel
theorem dX6_callsLine_34 : decode cX6_callsLine 34 = .ok (.getfield 35, 3) := by decide +kernel
theorem dX6_callsLine_37 : decode cX6_callsLine 37 = .ok (.istore_n 3, 1) := by decide +kernel
theorem dX6_callsLine_38 : decode cX6_callsLine 38 = .ok (.aload_n 0, 1) := by decide +kernel
theorem dX6_callsLine_39 : decode cX6_callsLine 39 = .ok (.iload_n 3, 1) := by decide +kernel
theorem dX6_callsLine_40 : decode cX6_callsLine 40 = .ok (.bipush 18, 2) := by decide +kernel
theorem dX6_callsLine_42 : decode cX6_callsLine 42 = .ok (.if_icmp .lt 13, 3) := by decide +kernel
theorem dX6_callsLine_45 : decode cX6_callsLine 45 = .ok (.iload_n 3, 1) := by decide +kernel
theorem dX6_callsLine_46 : decode cX6_callsLine 46 = .ok (.bipush 21, 2) := by decide +kernel
theorem dX6_callsLine_48 : decode cX6_callsLine 48 = .ok (.if_icmp .gt 7, 3) := by decide +kernel
theorem dX6_callsLine_51 : decode cX6_callsLine 51 = .ok (.iload_n 3, 1) := by decide +kernel
theorem dX6_callsLine_52 : decode cX6_callsLine 52 = .ok (.goto 5, 3) := by decide +kernel
theorem dX6_callsLine_55 : decode cX6_callsLine 55 = .ok (.bipush 18, 2) := by decide +kernel
theorem dX6_callsLine_57 : decode cX6_callsLine 57 = .ok (.invokevirtual 136, 3) := by decide +kernel
theorem dX6_callsLine_60 : decode cX6_callsLine 60 = .ok (.iload_n 3, 1) := by decide +kernel
theorem dX6_callsLine_61 : decode cX6_callsLine 61 = .ok (.bipush 18, 2) := by decide +kernel
theorem dX6_callsLine_63 : decode cX6_callsLine 63 = .ok (.if_icmp .ne 17, 3) := by decide +kernel
theorem dX6_callsLine_66 : decode cX6_callsLine 66 = .ok (.aload_n 0, 1) := by decide +kernel
theorem dX6_callsLine_67 : decode cX6_callsLine 67 = .ok (.aload_n 0, 1) := by decide +kernel
theorem dX6_callsLine_68 : decode cX6_callsLine 68 = .ok (.getfield 38, 3) := by decide +kernel
theorem dX6_callsLine_71 : decode cX6_callsLine 71 = .ok (.iconst 1, 1) := by decide +kernel
theorem dX6_callsLine_72 : decode cX6_callsLine 72 = .ok (.isub, 1) := by decide +kernel
theorem dX6_callsLine_73 : decode cX6_callsLine 73 = .ok (.iconst (-1), 1) := by decide +kernel
theorem dX6_callsLine_74 : decode cX6_callsLine 74 = .ok (.invokevirtual 146, 3) := by decide +kernel
theorem dX6_callsLine_77 : decode cX6_callsLine 77 = .ok (.goto 4, 3) := by decide +kernel
theorem dX6_callsLine_80 : decode cX6_callsLine 80 = .ok (.iconst (-1), 1) := by decide +kernel
theorem dX6_callsLine_81 : decode cX6_callsLine 81 = .ok (.istore 4, 2) := by decide +kernel
theorem dX6_callsLine_83 : decode cX6_callsLine 83 = .ok (.aload_n 0, 1) := by decide +kernel
theorem dX6_callsLine_84 : decode cX6_callsLine 84 = .ok (.iload_n 1, 1) := by decide +kernel
theorem dX6_callsLine_85 : decode cX6_callsLine 85 = .ok (.iload_n 3, 1) := by decide +kernel
theorem dX6_callsLine_86 : decode cX6_callsLine 86 = .ok (.iload_n 2, 1) := by decide +kernel
theorem dX6_callsLine_87 : decode cX6_callsLine 87 = .ok (.iload 4, 2) := by decide +kernel
theorem dX6_callsLine_89 : decode cX6_callsLine 89 = .ok (.invokevirtual 149, 3) := by decide +kernel
theorem dX6_callsLine_92 : decode cX6_callsLine 92 = .ok (.return_, 1) := by decide +kernel
def f_X6_callsLine_81   (v1 : Int32) (v2 : Int32) (v3 : Int32) (s0 : Int32) (h : zHp) : Option (zHp) := (f_X6_closeLine v1 v3 v2 s0 h).bind fun x1 => some x1
set_option maxHeartbeats 4000000 in
set_option maxRecDepth 100000 in
theorem f_X6_callsLine_81_s  (v1 : Int32) (v2 : Int32) (v3 : Int32) (s0 : Int32) (h : zHp) : Sim wX mX6_callsLine 3 rV 81 [(0, .ref 145), (1, .int v1), (2, .int v2), (3, .int v3)] [.int s0] h (f_X6_callsLine_81 v1 v2 v3 s0 h) := by
  unfold f_X6_callsLine_81
  refine Sim.istore (L' := [(4, .int s0), (0, .ref 145), (1, .int v1), (2, .int v2), (3, .int v3)]) dX6_callsLine_81 (Nat.le_of_ble_eq_true rfl) rfl ?_
  refine Sim.aload_n 1 dX6_callsLine_83 rfl ?_
  refine Sim.iload_n 2 dX6_callsLine_84 rfl ?_
  refine Sim.iload_n 4 dX6_callsLine_85 rfl ?_
  refine Sim.iload_n 3 dX6_callsLine_86 rfl ?_
  refine Sim.iload 0 dX6_callsLine_87 rfl ?_
  refine Sim.callV4U (d1 := 2) (s_X6_closeLine v1 v3 v2 s0 h) dX6_callsLine_89 ml_X6_149 mv_X6_closeLine xO_X6 (Nat.le_of_ble_eq_true rfl) (Nat.le_of_ble_eq_true rfl) (Nat.le_of_ble_eq_true rfl) (fun x1 => ?_)
  exact Sim.vret dX6_callsLine_92 rfl
def f_X6_callsLine_57   (v1 : Int32) (v2 : Int32) (v3 : Int32) (s0 : Int32) (h : zHp) : Option (zHp) := (f_X6_expect s0 h).bind fun x1 => (if v3 = (18 : Int32) then (f_X6_expectNumber ((x1 145 8) - (1 : Int32)) (-1 : Int32) x1).bind fun x2 => f_X6_callsLine_81 v1 v2 v3 x2.1 x2.2 else f_X6_callsLine_81 v1 v2 v3 (-1 : Int32) x1)
set_option maxHeartbeats 4000000 in
set_option maxRecDepth 100000 in
theorem f_X6_callsLine_57_s  (v1 : Int32) (v2 : Int32) (v3 : Int32) (s0 : Int32) (h : zHp) : Sim wX mX6_callsLine 3 rV 57 [(0, .ref 145), (1, .int v1), (2, .int v2), (3, .int v3)] [.int s0, .ref 145] h (f_X6_callsLine_57 v1 v2 v3 s0 h) := by
  unfold f_X6_callsLine_57
  refine Sim.callV1U (d1 := 1) (s_X6_expect s0 h) dX6_callsLine_57 ml_X6_136 mv_X6_expect xO_X6 (Nat.le_of_ble_eq_true rfl) (Nat.le_of_ble_eq_true rfl) (Nat.le_of_ble_eq_true rfl) (fun x1 => ?_)
  refine Sim.iload_n 3 dX6_callsLine_60 rfl ?_
  refine Sim.bipush (v := (18 : Int32)) dX6_callsLine_61 rfl ?_
  refine Sim.icmp_ne 80 dX6_callsLine_63 rfl ?_ ?_
  · refine Sim.aload_n 0 dX6_callsLine_66 rfl ?_
    refine Sim.aload_n 0 dX6_callsLine_67 rfl ?_
    refine Sim.getI fl_X6_38 dX6_callsLine_68 xI_145_8 ?_
    refine Sim.iconst (v := (1 : Int32)) dX6_callsLine_71 rfl ?_
    refine Sim.isub dX6_callsLine_72 ?_
    refine Sim.iconst (v := (-1 : Int32)) dX6_callsLine_73 rfl ?_
    refine Sim.callV2I (d1 := 1) (s_X6_expectNumber ((x1 145 8) - (1 : Int32)) (-1 : Int32) x1) dX6_callsLine_74 ml_X6_146 mv_X6_expectNumber xO_X6 (Nat.le_of_ble_eq_true rfl) (Nat.le_of_ble_eq_true rfl) (Nat.le_of_ble_eq_true rfl) (fun x2 => ?_)
    refine Sim.goto 81 dX6_callsLine_77 rfl ?_
    exact f_X6_callsLine_81_s v1 v2 v3 x2.1 x2.2
  · refine Sim.iconst (v := (-1 : Int32)) dX6_callsLine_80 rfl ?_
    exact f_X6_callsLine_81_s v1 v2 v3 (-1 : Int32) x1
def f_X6_callsLine   (h : zHp) : Option (zHp) := (f_X6_expectLine (16 : Int32) h).bind fun x1 => (f_X6_expectNumber (999 : Int32) (-1 : Int32) x1).bind fun x2 => (f_X6_expect (17 : Int32) x2.2).bind fun x3 => (f_X6_expectNumber ((x3 145 9) - (1 : Int32)) (-1 : Int32) x3).bind fun x4 => zlt (x4.2 145 7) fun x5 => (if x5 < (18 : Int32) then f_X6_callsLine_57 x2.1 x4.1 x5 (18 : Int32) x4.2 else (if (21 : Int32) < x5 then f_X6_callsLine_57 x2.1 x4.1 x5 (18 : Int32) x4.2 else f_X6_callsLine_57 x2.1 x4.1 x5 x5 x4.2))
set_option maxHeartbeats 4000000 in
set_option maxRecDepth 100000 in
theorem s_X6_callsLine   (h : zHp) : Fn wX mX6_callsLine 3 rV [.ref 145] h (f_X6_callsLine  h) := by
  refine Fn.of rfl (Nat.le_of_ble_eq_true rfl) ?_
  unfold f_X6_callsLine
  refine Sim.aload_n 0 dX6_callsLine_0 rfl ?_
  refine Sim.bipush (v := (16 : Int32)) dX6_callsLine_1 rfl ?_
  refine Sim.callV1U (d1 := 2) (s_X6_expectLine (16 : Int32) h) dX6_callsLine_3 ml_X6_143 mv_X6_expectLine xO_X6 (Nat.le_of_ble_eq_true rfl) (Nat.le_of_ble_eq_true rfl) (Nat.le_of_ble_eq_true rfl) (fun x1 => ?_)
  refine Sim.aload_n 0 dX6_callsLine_6 rfl ?_
  refine Sim.sipush (v := (999 : Int32)) dX6_callsLine_7 rfl ?_
  refine Sim.iconst (v := (-1 : Int32)) dX6_callsLine_10 rfl ?_
  refine Sim.callV2I (d1 := 1) (s_X6_expectNumber (999 : Int32) (-1 : Int32) x1) dX6_callsLine_11 ml_X6_146 mv_X6_expectNumber xO_X6 (Nat.le_of_ble_eq_true rfl) (Nat.le_of_ble_eq_true rfl) (Nat.le_of_ble_eq_true rfl) (fun x2 => ?_)
  refine Sim.istore_n (L' := [(1, .int x2.1), (0, .ref 145)]) dX6_callsLine_14 (Nat.le_of_ble_eq_true rfl) rfl ?_
  refine Sim.aload_n 1 dX6_callsLine_15 rfl ?_
  refine Sim.bipush (v := (17 : Int32)) dX6_callsLine_16 rfl ?_
  refine Sim.callV1U (d1 := 1) (s_X6_expect (17 : Int32) x2.2) dX6_callsLine_18 ml_X6_136 mv_X6_expect xO_X6 (Nat.le_of_ble_eq_true rfl) (Nat.le_of_ble_eq_true rfl) (Nat.le_of_ble_eq_true rfl) (fun x3 => ?_)
  refine Sim.aload_n 1 dX6_callsLine_21 rfl ?_
  refine Sim.aload_n 1 dX6_callsLine_22 rfl ?_
  refine Sim.getI fl_X6_41 dX6_callsLine_23 xI_145_9 ?_
  refine Sim.iconst (v := (1 : Int32)) dX6_callsLine_26 rfl ?_
  refine Sim.isub dX6_callsLine_27 ?_
  refine Sim.iconst (v := (-1 : Int32)) dX6_callsLine_28 rfl ?_
  refine Sim.callV2I (d1 := 1) (s_X6_expectNumber ((x3 145 9) - (1 : Int32)) (-1 : Int32) x3) dX6_callsLine_29 ml_X6_146 mv_X6_expectNumber xO_X6 (Nat.le_of_ble_eq_true rfl) (Nat.le_of_ble_eq_true rfl) (Nat.le_of_ble_eq_true rfl) (fun x4 => ?_)
  refine Sim.istore_n (L' := [(2, .int x4.1), (1, .int x2.1), (0, .ref 145)]) dX6_callsLine_32 (Nat.le_of_ble_eq_true rfl) rfl ?_
  refine Sim.aload_n 2 dX6_callsLine_33 rfl ?_
  refine Sim.getI fl_X6_35 dX6_callsLine_34 xI_145_7 ?_
  refine Sim.lti (fun x5 => ?_)
  refine Sim.istore_n (L' := [(3, .int x5), (2, .int x4.1), (1, .int x2.1), (0, .ref 145)]) dX6_callsLine_37 (Nat.le_of_ble_eq_true rfl) rfl ?_
  refine Sim.aload_n 3 dX6_callsLine_38 rfl ?_
  refine Sim.iload_n 0 dX6_callsLine_39 rfl ?_
  refine Sim.bipush (v := (18 : Int32)) dX6_callsLine_40 rfl ?_
  refine Sim.icmp_lt 55 dX6_callsLine_42 rfl ?_ ?_
  · refine Sim.bipush (v := (18 : Int32)) dX6_callsLine_55 rfl ?_
    refine Sim.locs [3, 2, 1, 0] rfl ?_
    exact f_X6_callsLine_57_s x2.1 x4.1 x5 (18 : Int32) x4.2
  · refine Sim.iload_n 0 dX6_callsLine_45 rfl ?_
    refine Sim.bipush (v := (21 : Int32)) dX6_callsLine_46 rfl ?_
    refine Sim.icmp_gt 55 dX6_callsLine_48 rfl ?_ ?_
    · refine Sim.bipush (v := (18 : Int32)) dX6_callsLine_55 rfl ?_
      refine Sim.locs [3, 2, 1, 0] rfl ?_
      exact f_X6_callsLine_57_s x2.1 x4.1 x5 (18 : Int32) x4.2
    · refine Sim.iload_n 0 dX6_callsLine_51 rfl ?_
      refine Sim.goto 57 dX6_callsLine_52 rfl ?_
      refine Sim.locs [3, 2, 1, 0] rfl ?_
      exact f_X6_callsLine_57_s x2.1 x4.1 x5 x5 x4.2
theorem mv_X6_callsLine : zMV mX6_callsLine 0 := ⟨⟨zTb_in 956 (by decide +kernel) rfl, zTb_in 145 (by decide +kernel) rfl, ⟨by decide +kernel, by decide +kernel⟩, by decide +kernel⟩, zTb_in 955 (by decide +kernel) rfl, zTb_in 25 (by decide +kernel) rfl⟩
-- ===== RockingPorch$Reader.houseLine()V
abbrev mX6_houseLine : zMt := (yX6_houseLine, cX6_houseLine, 5, none)
theorem dX6_houseLine_0 : decode cX6_houseLine 0 = .ok (.aload_n 0, 1) := by decide +kernel
theorem dX6_houseLine_1 : decode cX6_houseLine 1 = .ok (.bipush 16, 2) := by decide +kernel
theorem dX6_houseLine_3 : decode cX6_houseLine 3 = .ok (.invokevirtual 143, 3) := by decide +kernel
theorem dX6_houseLine_6 : decode cX6_houseLine 6 = .ok (.aload_n 0, 1) := by decide +kernel
theorem dX6_houseLine_7 : decode cX6_houseLine 7 = .ok (.sipush 999, 3) := by decide +kernel
theorem dX6_houseLine_10 : decode cX6_houseLine 10 = .ok (.iconst (-1), 1) := by decide +kernel
theorem dX6_houseLine_11 : decode cX6_houseLine 11 = .ok (.invokevirtual 146, 3) := by decide +kernel
theorem dX6_houseLine_14 : decode cX6_houseLine 14 = .ok (.istore_n 1, 1) := by decide +kernel
theorem dX6_houseLine_15 : decode cX6_houseLine 15 = .ok (.aload_n 0, 1) := by decide +kernel
theorem dX6_houseLine_16 : decode cX6_houseLine 16 = .ok (.getfield 35, 3) := by decide +kernel
theorem dX6_houseLine_19 : decode cX6_houseLine 19 = .ok (.istore_n 2, 1) := by decide +kernel
theorem dX6_houseLine_20 : decode cX6_houseLine 20 = .ok (.aload_n 0, 1) := by decide +kernel
theorem dX6_houseLine_21 : decode cX6_houseLine 21 = .ok (.iload_n 2, 1) := by decide +kernel
theorem dX6_houseLine_22 : decode cX6_houseLine 22 = .ok (.bipush 9, 2) := by decide +kernel
theorem dX6_houseLine_24 : decode cX6_houseLine 24 = .ok (.if_icmp .eq 9, 3) := by decide +kernel
theorem dX6_houseLine_27 : decode cX6_houseLine 27 = .ok (.iload_n 2, 1) := by decide +kernel
theorem dX6_houseLine_28 : decode cX6_houseLine 28 = .ok (.bipush 23, 2) := by decide +kernel
theorem dX6_houseLine_30 : decode cX6_houseLine 30 = .ok (.if_icmp .ne 7, 3) := by decide +kernel
theorem dX6_houseLine_33 : decode cX6_houseLine 33 = .ok (.iload_n 2, 1) := by decide +kernel
theorem dX6_houseLine_34 : decode cX6_houseLine 34 = .ok (.goto 5, 3) := by decide +kernel
theorem dX6_houseLine_37 : decode cX6_houseLine 37 = .ok (.bipush 22, 2) := by decide +kernel
theorem dX6_houseLine_39 : decode cX6_houseLine 39 = .ok (.invokevirtual 136, 3) := by decide +kernel
theorem dX6_houseLine_42 : decode cX6_houseLine 42 = .ok (.iload_n 2, 1) := by decide +kernel
theorem dX6_houseLine_43 : decode cX6_houseLine 43 = .ok (.bipush 22, 2) := by decide +kernel
theorem dX6_houseLine_45 : decode cX6_houseLine 45 = .ok (.if_icmp .ne 17, 3) := by decide +kernel
theorem dX6_houseLine_48 : decode cX6_houseLine 48 = .ok (.aload_n 0, 1) := by decide +kernel
theorem dX6_houseLine_49 : decode cX6_houseLine 49 = .ok (.aload_n 0, 1) := by decide +kernel
theorem dX6_houseLine_50 : decode cX6_houseLine 50 = .ok (.getfield 38, 3) := by decide +kernel
theorem dX6_houseLine_53 : decode cX6_houseLine 53 = .ok (.iconst 1, 1) := by decide +kernel
theorem dX6_houseLine_54 : decode cX6_houseLine 54 = .ok (.isub, 1) := by decide +kernel
theorem dX6_houseLine_55 : decode cX6_houseLine 55 = .ok (.iconst (-1), 1) := by decide +kernel
theorem dX6_houseLine_56 : decode cX6_houseLine 56 = .ok (.invokevirtual 146, 3) := by decide +kernel
theorem dX6_houseLine_59 : decode cX6_houseLine 59 = .ok (.goto 4, 3) := by decide +kernel
theorem dX6_houseLine_62 : decode cX6_houseLine 62 = .ok (.iconst (-1), 1) := by decide +kernel
theorem dX6_houseLine_63 : decode cX6_houseLine 63 = .ok (.istore_n 3, 1) := by decide +kernel
theorem dX6_houseLine_64 : decode cX6_houseLine 64 = .ok (.iload_n 2, 1) := by decide +kernel
theorem dX6_houseLine_65 : decode cX6_houseLine 65 = .ok (.bipush 9, 2) := by decide +kernel
theorem dX6_houseLine_67 : decode cX6_houseLine 67 = .ok (.if_icmp .ne 13, 3) := by decide +kernel
theorem dX6_houseLine_70 : decode cX6_houseLine 70 = .ok (.aload_n 0, 1) := by decide +kernel
theorem dX6_houseLine_71 : decode cX6_houseLine 71 = .ok (.bipush 9, 2) := by decide +kernel
theorem dX6_houseLine_73 : decode cX6_houseLine 73 = .ok (.iconst (-1), 1) := by decide +kernel
theorem dX6_houseLine_74 : decode cX6_houseLine 74 = .ok (.invokevirtual 146, 3) := by decide +kernel
theorem dX6_houseLine_77 : decode cX6_houseLine 77 = .ok (.goto 4, 3) := by decide +kernel
theorem dX6_houseLine_80 : decode cX6_houseLine 80 = .ok (.iconst 0, 1) := by decide +kernel
theorem dX6_houseLine_81 : decode cX6_houseLine 81 = .ok (.istore 4, 2) := by decide +kernel
theorem dX6_houseLine_83 : decode cX6_houseLine 83 = .ok (.aload_n 0, 1) := by decide +kernel
theorem dX6_houseLine_84 : decode cX6_houseLine 84 = .ok (.iload_n 1, 1) := by decide +kernel
theorem dX6_houseLine_85 : decode cX6_houseLine 85 = .ok (.iload_n 2, 1) := by decide +kernel
theorem dX6_houseLine_86 : decode cX6_houseLine 86 = .ok (.iload_n 3, 1) := by decide +kernel
theorem dX6_houseLine_87 : decode cX6_houseLine 87 = .ok (.iload 4, 2) := by decide +kernel
theorem dX6_houseLine_89 : decode cX6_houseLine 89 = .ok (.invokevirtual 149, 3) := by decide +kernel
theorem dX6_houseLine_92 : decode cX6_houseLine 92 = .ok (.return_, 1) := by decide +kernel
def f_X6_houseLine_81   (v1 : Int32) (v2 : Int32) (v3 : Int32) (s0 : Int32) (h : zHp) : Option (zHp) := (f_X6_closeLine v1 v2 v3 s0 h).bind fun x1 => some x1
set_option maxHeartbeats 4000000 in
set_option maxRecDepth 100000 in
theorem f_X6_houseLine_81_s  (v1 : Int32) (v2 : Int32) (v3 : Int32) (s0 : Int32) (h : zHp) : Sim wX mX6_houseLine 3 rV 81 [(0, .ref 145), (1, .int v1), (2, .int v2), (3, .int v3)] [.int s0] h (f_X6_houseLine_81 v1 v2 v3 s0 h) := by
  unfold f_X6_houseLine_81
  refine Sim.istore (L' := [(4, .int s0), (0, .ref 145), (1, .int v1), (2, .int v2), (3, .int v3)]) dX6_houseLine_81 (Nat.le_of_ble_eq_true rfl) rfl ?_
  refine Sim.aload_n 1 dX6_houseLine_83 rfl ?_
  refine Sim.iload_n 2 dX6_houseLine_84 rfl ?_
  refine Sim.iload_n 3 dX6_houseLine_85 rfl ?_
  refine Sim.iload_n 4 dX6_houseLine_86 rfl ?_
  refine Sim.iload 0 dX6_houseLine_87 rfl ?_
  refine Sim.callV4U (d1 := 2) (s_X6_closeLine v1 v2 v3 s0 h) dX6_houseLine_89 ml_X6_149 mv_X6_closeLine xO_X6 (Nat.le_of_ble_eq_true rfl) (Nat.le_of_ble_eq_true rfl) (Nat.le_of_ble_eq_true rfl) (fun x1 => ?_)
  exact Sim.vret dX6_houseLine_92 rfl
def f_X6_houseLine_63   (v1 : Int32) (v2 : Int32) (s0 : Int32) (h : zHp) : Option (zHp) := (if v2 = (9 : Int32) then (f_X6_expectNumber (9 : Int32) (-1 : Int32) h).bind fun x1 => f_X6_houseLine_81 v1 v2 s0 x1.1 x1.2 else f_X6_houseLine_81 v1 v2 s0 (0 : Int32) h)
set_option maxHeartbeats 4000000 in
set_option maxRecDepth 100000 in
theorem f_X6_houseLine_63_s  (v1 : Int32) (v2 : Int32) (s0 : Int32) (h : zHp) : Sim wX mX6_houseLine 3 rV 63 [(0, .ref 145), (1, .int v1), (2, .int v2)] [.int s0] h (f_X6_houseLine_63 v1 v2 s0 h) := by
  unfold f_X6_houseLine_63
  refine Sim.istore_n (L' := [(3, .int s0), (0, .ref 145), (1, .int v1), (2, .int v2)]) dX6_houseLine_63 (Nat.le_of_ble_eq_true rfl) rfl ?_
  refine Sim.iload_n 3 dX6_houseLine_64 rfl ?_
  refine Sim.bipush (v := (9 : Int32)) dX6_houseLine_65 rfl ?_
  refine Sim.icmp_ne 80 dX6_houseLine_67 rfl ?_ ?_
  · refine Sim.aload_n 1 dX6_houseLine_70 rfl ?_
    refine Sim.bipush (v := (9 : Int32)) dX6_houseLine_71 rfl ?_
    refine Sim.iconst (v := (-1 : Int32)) dX6_houseLine_73 rfl ?_
    refine Sim.callV2I (d1 := 1) (s_X6_expectNumber (9 : Int32) (-1 : Int32) h) dX6_houseLine_74 ml_X6_146 mv_X6_expectNumber xO_X6 (Nat.le_of_ble_eq_true rfl) (Nat.le_of_ble_eq_true rfl) (Nat.le_of_ble_eq_true rfl) (fun x1 => ?_)
    refine Sim.goto 81 dX6_houseLine_77 rfl ?_
    refine Sim.locs [1, 2, 3, 0] rfl ?_
    exact f_X6_houseLine_81_s v1 v2 s0 x1.1 x1.2
  · refine Sim.iconst (v := (0 : Int32)) dX6_houseLine_80 rfl ?_
    refine Sim.locs [1, 2, 3, 0] rfl ?_
    exact f_X6_houseLine_81_s v1 v2 s0 (0 : Int32) h
def f_X6_houseLine_39   (v1 : Int32) (v2 : Int32) (s0 : Int32) (h : zHp) : Option (zHp) := (f_X6_expect s0 h).bind fun x1 => (if v2 = (22 : Int32) then (f_X6_expectNumber ((x1 145 8) - (1 : Int32)) (-1 : Int32) x1).bind fun x2 => f_X6_houseLine_63 v1 v2 x2.1 x2.2 else f_X6_houseLine_63 v1 v2 (-1 : Int32) x1)
set_option maxHeartbeats 4000000 in
set_option maxRecDepth 100000 in
theorem f_X6_houseLine_39_s  (v1 : Int32) (v2 : Int32) (s0 : Int32) (h : zHp) : Sim wX mX6_houseLine 3 rV 39 [(0, .ref 145), (1, .int v1), (2, .int v2)] [.int s0, .ref 145] h (f_X6_houseLine_39 v1 v2 s0 h) := by
  unfold f_X6_houseLine_39
  refine Sim.callV1U (d1 := 1) (s_X6_expect s0 h) dX6_houseLine_39 ml_X6_136 mv_X6_expect xO_X6 (Nat.le_of_ble_eq_true rfl) (Nat.le_of_ble_eq_true rfl) (Nat.le_of_ble_eq_true rfl) (fun x1 => ?_)
  refine Sim.iload_n 2 dX6_houseLine_42 rfl ?_
  refine Sim.bipush (v := (22 : Int32)) dX6_houseLine_43 rfl ?_
  refine Sim.icmp_ne 62 dX6_houseLine_45 rfl ?_ ?_
  · refine Sim.aload_n 0 dX6_houseLine_48 rfl ?_
    refine Sim.aload_n 0 dX6_houseLine_49 rfl ?_
    refine Sim.getI fl_X6_38 dX6_houseLine_50 xI_145_8 ?_
    refine Sim.iconst (v := (1 : Int32)) dX6_houseLine_53 rfl ?_
    refine Sim.isub dX6_houseLine_54 ?_
    refine Sim.iconst (v := (-1 : Int32)) dX6_houseLine_55 rfl ?_
    refine Sim.callV2I (d1 := 1) (s_X6_expectNumber ((x1 145 8) - (1 : Int32)) (-1 : Int32) x1) dX6_houseLine_56 ml_X6_146 mv_X6_expectNumber xO_X6 (Nat.le_of_ble_eq_true rfl) (Nat.le_of_ble_eq_true rfl) (Nat.le_of_ble_eq_true rfl) (fun x2 => ?_)
    refine Sim.goto 63 dX6_houseLine_59 rfl ?_
    exact f_X6_houseLine_63_s v1 v2 x2.1 x2.2
  · refine Sim.iconst (v := (-1 : Int32)) dX6_houseLine_62 rfl ?_
    exact f_X6_houseLine_63_s v1 v2 (-1 : Int32) x1
def f_X6_houseLine   (h : zHp) : Option (zHp) := (f_X6_expectLine (16 : Int32) h).bind fun x1 => (f_X6_expectNumber (999 : Int32) (-1 : Int32) x1).bind fun x2 => zlt (x2.2 145 7) fun x3 => (if x3 = (9 : Int32) then f_X6_houseLine_39 x2.1 x3 x3 x2.2 else (if x3 = (23 : Int32) then f_X6_houseLine_39 x2.1 x3 x3 x2.2 else f_X6_houseLine_39 x2.1 x3 (22 : Int32) x2.2))
set_option maxHeartbeats 4000000 in
set_option maxRecDepth 100000 in
theorem s_X6_houseLine   (h : zHp) : Fn wX mX6_houseLine 3 rV [.ref 145] h (f_X6_houseLine  h) := by
  refine Fn.of rfl (Nat.le_of_ble_eq_true rfl) ?_
  unfold f_X6_houseLine
  refine Sim.aload_n 0 dX6_houseLine_0 rfl ?_
  refine Sim.bipush (v := (16 : Int32)) dX6_houseLine_1 rfl ?_
  refine Sim.callV1U (d1 := 2) (s_X6_expectLine (16 : Int32) h) dX6_houseLine_3 ml_X6_143 mv_X6_expectLine xO_X6 (Nat.le_of_ble_eq_true rfl) (Nat.le_of_ble_eq_true rfl) (Nat.le_of_ble_eq_true rfl) (fun x1 => ?_)
  refine Sim.aload_n 0 dX6_houseLine_6 rfl ?_
  refine Sim.sipush (v := (999 : Int32)) dX6_houseLine_7 rfl ?_
  refine Sim.iconst (v := (-1 : Int32)) dX6_houseLine_10 rfl ?_
  refine Sim.callV2I (d1 := 1) (s_X6_expectNumber (999 : Int32) (-1 : Int32) x1) dX6_houseLine_11 ml_X6_146 mv_X6_expectNumber xO_X6 (Nat.le_of_ble_eq_true rfl) (Nat.le_of_ble_eq_true rfl) (Nat.le_of_ble_eq_true rfl) (fun x2 => ?_)
  refine Sim.istore_n (L' := [(1, .int x2.1), (0, .ref 145)]) dX6_houseLine_14 (Nat.le_of_ble_eq_true rfl) rfl ?_
  refine Sim.aload_n 1 dX6_houseLine_15 rfl ?_
  refine Sim.getI fl_X6_35 dX6_houseLine_16 xI_145_7 ?_
  refine Sim.lti (fun x3 => ?_)
  refine Sim.istore_n (L' := [(2, .int x3), (1, .int x2.1), (0, .ref 145)]) dX6_houseLine_19 (Nat.le_of_ble_eq_true rfl) rfl ?_
  refine Sim.aload_n 2 dX6_houseLine_20 rfl ?_
  refine Sim.iload_n 0 dX6_houseLine_21 rfl ?_
  refine Sim.bipush (v := (9 : Int32)) dX6_houseLine_22 rfl ?_
  refine Sim.icmp_eq 33 dX6_houseLine_24 rfl ?_ ?_
  · refine Sim.iload_n 0 dX6_houseLine_33 rfl ?_
    refine Sim.goto 39 dX6_houseLine_34 rfl ?_
    refine Sim.locs [2, 1, 0] rfl ?_
    exact f_X6_houseLine_39_s x2.1 x3 x3 x2.2
  · refine Sim.iload_n 0 dX6_houseLine_27 rfl ?_
    refine Sim.bipush (v := (23 : Int32)) dX6_houseLine_28 rfl ?_
    refine Sim.icmp_ne 37 dX6_houseLine_30 rfl ?_ ?_
    · refine Sim.iload_n 0 dX6_houseLine_33 rfl ?_
      refine Sim.goto 39 dX6_houseLine_34 rfl ?_
      refine Sim.locs [2, 1, 0] rfl ?_
      exact f_X6_houseLine_39_s x2.1 x3 x3 x2.2
    · refine Sim.bipush (v := (22 : Int32)) dX6_houseLine_37 rfl ?_
      refine Sim.locs [2, 1, 0] rfl ?_
      exact f_X6_houseLine_39_s x2.1 x3 (22 : Int32) x2.2
theorem mv_X6_houseLine : zMV mX6_houseLine 0 := ⟨⟨zTb_in 969 (by decide +kernel) rfl, zTb_in 145 (by decide +kernel) rfl, ⟨by decide +kernel, by decide +kernel⟩, by decide +kernel⟩, zTb_in 968 (by decide +kernel) rfl, zTb_in 28 (by decide +kernel) rfl⟩
-- ===== RockingPorch$Reader.kinLine()V
abbrev mX6_kinLine : zMt := (yX6_kinLine, cX6_kinLine, 3, none)
theorem dX6_kinLine_0 : decode cX6_kinLine 0 = .ok (.aload_n 0, 1) := by decide +kernel
theorem dX6_kinLine_1 : decode cX6_kinLine 1 = .ok (.bipush 17, 2) := by decide +kernel
theorem dX6_kinLine_3 : decode cX6_kinLine 3 = .ok (.invokevirtual 143, 3) := by decide +kernel
theorem dX6_kinLine_6 : decode cX6_kinLine 6 = .ok (.aload_n 0, 1) := by decide +kernel
theorem dX6_kinLine_7 : decode cX6_kinLine 7 = .ok (.aload_n 0, 1) := by decide +kernel
theorem dX6_kinLine_8 : decode cX6_kinLine 8 = .ok (.getfield 41, 3) := by decide +kernel
theorem dX6_kinLine_11 : decode cX6_kinLine 11 = .ok (.iconst 1, 1) := by decide +kernel
theorem dX6_kinLine_12 : decode cX6_kinLine 12 = .ok (.isub, 1) := by decide +kernel
theorem dX6_kinLine_13 : decode cX6_kinLine 13 = .ok (.iconst (-1), 1) := by decide +kernel
theorem dX6_kinLine_14 : decode cX6_kinLine 14 = .ok (.invokevirtual 146, 3) := by decide +kernel
theorem dX6_kinLine_17 : decode cX6_kinLine 17 = .ok (.istore_n 1, 1) := by decide +kernel
theorem dX6_kinLine_18 : decode cX6_kinLine 18 = .ok (.aload_n 0, 1) := by decide +kernel
theorem dX6_kinLine_19 : decode cX6_kinLine 19 = .ok (.bipush 6, 2) := by decide +kernel
theorem dX6_kinLine_21 : decode cX6_kinLine 21 = .ok (.invokevirtual 136, 3) := by decide +kernel
theorem dX6_kinLine_24 : decode cX6_kinLine 24 = .ok (.aload_n 0, 1) := by decide +kernel
theorem dX6_kinLine_25 : decode cX6_kinLine 25 = .ok (.aload_n 0, 1) := by decide +kernel
theorem dX6_kinLine_26 : decode cX6_kinLine 26 = .ok (.getfield 41, 3) := by decide +kernel
theorem dX6_kinLine_29 : decode cX6_kinLine 29 = .ok (.iconst 1, 1) := by decide +kernel
theorem dX6_kinLine_30 : decode cX6_kinLine 30 = .ok (.isub, 1) := by decide +kernel
theorem dX6_kinLine_31 : decode cX6_kinLine 31 = .ok (.iload_n 1, 1) := by decide +kernel
theorem dX6_kinLine_32 : decode cX6_kinLine 32 = .ok (.invokevirtual 146, 3) := by decide +kernel
theorem dX6_kinLine_35 : decode cX6_kinLine 35 = .ok (.istore_n 2, 1) := by decide +kernel
theorem dX6_kinLine_36 : decode cX6_kinLine 36 = .ok (.aload_n 0, 1) := by decide +kernel
theorem dX6_kinLine_37 : decode cX6_kinLine 37 = .ok (.iconst 0, 1) := by decide +kernel
theorem dX6_kinLine_38 : decode cX6_kinLine 38 = .ok (.bipush 6, 2) := by decide +kernel
theorem dX6_kinLine_40 : decode cX6_kinLine 40 = .ok (.iload_n 1, 1) := by decide +kernel
theorem dX6_kinLine_41 : decode cX6_kinLine 41 = .ok (.iload_n 2, 1) := by decide +kernel
theorem dX6_kinLine_42 : decode cX6_kinLine 42 = .ok (.invokevirtual 149, 3) := by decide +kernel
theorem dX6_kinLine_45 : decode cX6_kinLine 45 = .ok (.return_, 1) := by decide +kernel
def f_X6_kinLine   (h : zHp) : Option (zHp) := (f_X6_expectLine (17 : Int32) h).bind fun x1 => (f_X6_expectNumber ((x1 145 9) - (1 : Int32)) (-1 : Int32) x1).bind fun x2 => (f_X6_expect (6 : Int32) x2.2).bind fun x3 => (f_X6_expectNumber ((x3 145 9) - (1 : Int32)) x2.1 x3).bind fun x4 => (f_X6_closeLine (0 : Int32) (6 : Int32) x2.1 x4.1 x4.2).bind fun x5 => some x5
set_option maxHeartbeats 4000000 in
set_option maxRecDepth 100000 in
theorem s_X6_kinLine   (h : zHp) : Fn wX mX6_kinLine 3 rV [.ref 145] h (f_X6_kinLine  h) := by
  refine Fn.of rfl (Nat.le_of_ble_eq_true rfl) ?_
  unfold f_X6_kinLine
  refine Sim.aload_n 0 dX6_kinLine_0 rfl ?_
  refine Sim.bipush (v := (17 : Int32)) dX6_kinLine_1 rfl ?_
  refine Sim.callV1U (d1 := 2) (s_X6_expectLine (17 : Int32) h) dX6_kinLine_3 ml_X6_143 mv_X6_expectLine xO_X6 (Nat.le_of_ble_eq_true rfl) (Nat.le_of_ble_eq_true rfl) (Nat.le_of_ble_eq_true rfl) (fun x1 => ?_)
  refine Sim.aload_n 0 dX6_kinLine_6 rfl ?_
  refine Sim.aload_n 0 dX6_kinLine_7 rfl ?_
  refine Sim.getI fl_X6_41 dX6_kinLine_8 xI_145_9 ?_
  refine Sim.iconst (v := (1 : Int32)) dX6_kinLine_11 rfl ?_
  refine Sim.isub dX6_kinLine_12 ?_
  refine Sim.iconst (v := (-1 : Int32)) dX6_kinLine_13 rfl ?_
  refine Sim.callV2I (d1 := 1) (s_X6_expectNumber ((x1 145 9) - (1 : Int32)) (-1 : Int32) x1) dX6_kinLine_14 ml_X6_146 mv_X6_expectNumber xO_X6 (Nat.le_of_ble_eq_true rfl) (Nat.le_of_ble_eq_true rfl) (Nat.le_of_ble_eq_true rfl) (fun x2 => ?_)
  refine Sim.istore_n (L' := [(1, .int x2.1), (0, .ref 145)]) dX6_kinLine_17 (Nat.le_of_ble_eq_true rfl) rfl ?_
  refine Sim.aload_n 1 dX6_kinLine_18 rfl ?_
  refine Sim.bipush (v := (6 : Int32)) dX6_kinLine_19 rfl ?_
  refine Sim.callV1U (d1 := 1) (s_X6_expect (6 : Int32) x2.2) dX6_kinLine_21 ml_X6_136 mv_X6_expect xO_X6 (Nat.le_of_ble_eq_true rfl) (Nat.le_of_ble_eq_true rfl) (Nat.le_of_ble_eq_true rfl) (fun x3 => ?_)
  refine Sim.aload_n 1 dX6_kinLine_24 rfl ?_
  refine Sim.aload_n 1 dX6_kinLine_25 rfl ?_
  refine Sim.getI fl_X6_41 dX6_kinLine_26 xI_145_9 ?_
  refine Sim.iconst (v := (1 : Int32)) dX6_kinLine_29 rfl ?_
  refine Sim.isub dX6_kinLine_30 ?_
  refine Sim.iload_n 0 dX6_kinLine_31 rfl ?_
  refine Sim.callV2I (d1 := 1) (s_X6_expectNumber ((x3 145 9) - (1 : Int32)) x2.1 x3) dX6_kinLine_32 ml_X6_146 mv_X6_expectNumber xO_X6 (Nat.le_of_ble_eq_true rfl) (Nat.le_of_ble_eq_true rfl) (Nat.le_of_ble_eq_true rfl) (fun x4 => ?_)
  refine Sim.istore_n (L' := [(2, .int x4.1), (1, .int x2.1), (0, .ref 145)]) dX6_kinLine_35 (Nat.le_of_ble_eq_true rfl) rfl ?_
  refine Sim.aload_n 2 dX6_kinLine_36 rfl ?_
  refine Sim.iconst (v := (0 : Int32)) dX6_kinLine_37 rfl ?_
  refine Sim.bipush (v := (6 : Int32)) dX6_kinLine_38 rfl ?_
  refine Sim.iload_n 1 dX6_kinLine_40 rfl ?_
  refine Sim.iload_n 0 dX6_kinLine_41 rfl ?_
  refine Sim.callV4U (d1 := 2) (s_X6_closeLine (0 : Int32) (6 : Int32) x2.1 x4.1 x4.2) dX6_kinLine_42 ml_X6_149 mv_X6_closeLine xO_X6 (Nat.le_of_ble_eq_true rfl) (Nat.le_of_ble_eq_true rfl) (Nat.le_of_ble_eq_true rfl) (fun x5 => ?_)
  exact Sim.vret dX6_kinLine_45 rfl
theorem mv_X6_kinLine : zMV mX6_kinLine 0 := ⟨⟨zTb_in 973 (by decide +kernel) rfl, zTb_in 145 (by decide +kernel) rfl, ⟨by decide +kernel, by decide +kernel⟩, by decide +kernel⟩, zTb_in 972 (by decide +kernel) rfl, zTb_in 29 (by decide +kernel) rfl⟩
-- ===== RockingPorch$Reader.read(III)I
abbrev mX6_read : zMt := (yX6_read, cX6_read, 6, some .int)
theorem fp_X6_38 : zFp RX6 38 6 8 .int := ⟨RX6, TX6, 14, tyX6, rfl, Nat.le_of_ble_eq_true rfl, zTb_in 438 (by decide +kernel) rfl, in_X6, tyX6_ok, nmX6, rfl, rfl⟩
theorem fp_X6_41 : zFp RX6 41 6 9 .int := ⟨RX6, TX6, 14, tyX6, rfl, Nat.le_of_ble_eq_true rfl, zTb_in 439 (by decide +kernel) rfl, in_X6, tyX6_ok, nmX6, rfl, rfl⟩
theorem fp_X6_69 : zFp RX6 69 2 2 .int := ⟨RX2, TX2, 3, tyX2, rfl, Nat.le_of_ble_eq_true rfl, zTb_in 260 (by decide +kernel) rfl, in_X2, tyX2_ok, nmX2, rfl, rfl⟩
theorem ml_X6_66 : Cond.methodLink RX6 66 yX1_clear ∈ zTb := zTb_in 768 (by decide +kernel) rfl
theorem ml_X6_72 : Cond.methodLink RX6 72 yX6_split ∈ zTb := zTb_in 772 (by decide +kernel) rfl
theorem ml_X6_75 : Cond.methodLink RX6 75 yX6_lawLine ∈ zTb := zTb_in 901 (by decide +kernel) rfl
theorem ml_X6_78 : Cond.methodLink RX6 78 yX6_callsLine ∈ zTb := zTb_in 953 (by decide +kernel) rfl
theorem ml_X6_81 : Cond.methodLink RX6 81 yX6_houseLine ∈ zTb := zTb_in 966 (by decide +kernel) rfl
theorem ml_X6_84 : Cond.methodLink RX6 84 yX6_kinLine ∈ zTb := zTb_in 970 (by decide +kernel) rfl
theorem dX6_read_0 : decode cX6_read 0 = .ok (.aload_n 0, 1) := by decide +kernel
theorem dX6_read_1 : decode cX6_read 1 = .ok (.iconst 0, 1) := by decide +kernel
theorem dX6_read_2 : decode cX6_read 2 = .ok (.putfield 60, 3) := by decide +kernel
theorem dX6_read_5 : decode cX6_read 5 = .ok (.aload_n 0, 1) := by decide +kernel
theorem dX6_read_6 : decode cX6_read 6 = .ok (.iconst (-1), 1) := by decide +kernel
theorem dX6_read_7 : decode cX6_read 7 = .ok (.putfield 63, 3) := by decide +kernel
theorem dX6_read_10 : decode cX6_read 10 = .ok (.aload_n 0, 1) := by decide +kernel
theorem dX6_read_11 : decode cX6_read 11 = .ok (.getfield 47, 3) := by decide +kernel
theorem dX6_read_14 : decode cX6_read 14 = .ok (.invokevirtual 66, 3) := by decide +kernel
theorem dX6_read_17 : decode cX6_read 17 = .ok (.aload_n 0, 1) := by decide +kernel
theorem dX6_read_18 : decode cX6_read 18 = .ok (.getfield 56, 3) := by decide +kernel
theorem dX6_read_21 : decode cX6_read 21 = .ok (.iconst 0, 1) := by decide +kernel
theorem dX6_read_22 : decode cX6_read 22 = .ok (.putfield 69, 3) := by decide +kernel
theorem dX6_read_25 : decode cX6_read 25 = .ok (.aload_n 0, 1) := by decide +kernel
theorem dX6_read_26 : decode cX6_read 26 = .ok (.iload_n 2, 1) := by decide +kernel
theorem dX6_read_27 : decode cX6_read 27 = .ok (.putfield 38, 3) := by decide +kernel
theorem dX6_read_30 : decode cX6_read 30 = .ok (.aload_n 0, 1) := by decide +kernel
theorem dX6_read_31 : decode cX6_read 31 = .ok (.iload_n 3, 1) := by decide +kernel
theorem dX6_read_32 : decode cX6_read 32 = .ok (.putfield 41, 3) := by decide +kernel
theorem dX6_read_35 : decode cX6_read 35 = .ok (.iload_n 1, 1) := by decide +kernel
theorem dX6_read_36 : decode cX6_read 36 = .ok (.ifCond .lt 12, 3) := by decide +kernel
theorem dX6_read_39 : decode cX6_read 39 = .ok (.iload_n 1, 1) := by decide +kernel
theorem dX6_read_40 : decode cX6_read 40 = .ok (.iconst 3, 1) := by decide +kernel
theorem dX6_read_41 : decode cX6_read 41 = .ok (.if_icmp .gt 7, 3) := by decide +kernel
theorem dX6_read_44 : decode cX6_read 44 = .ok (.iconst 1, 1) := by decide +kernel
theorem dX6_read_45 : decode cX6_read 45 = .ok (.goto 4, 3) := by decide +kernel
theorem dX6_read_48 : decode cX6_read 48 = .ok (.iconst 0, 1) := by decide +kernel
theorem dX6_read_49 : decode cX6_read 49 = .ok (.istore 4, 2) := by decide +kernel
theorem dX6_read_51 : decode cX6_read 51 = .ok (.iload 4, 2) := by decide +kernel
theorem dX6_read_53 : decode cX6_read 53 = .ok (.ifCond .eq 94, 3) := by decide +kernel
theorem dX6_read_56 : decode cX6_read 56 = .ok (.aload_n 0, 1) := by decide +kernel
theorem dX6_read_57 : decode cX6_read 57 = .ok (.invokevirtual 72, 3) := by decide +kernel
theorem dX6_read_60 : decode cX6_read 60 = .ok (.iconst 0, 1) := by decide +kernel
theorem dX6_read_61 : decode cX6_read 61 = .ok (.istore 5, 2) := by decide +kernel
theorem dX6_read_63 : decode cX6_read 63 = .ok (.iload 5, 2) := by decide +kernel
theorem dX6_read_65 : decode cX6_read 65 = .ok (.sipush 400, 3) := by decide +kernel
theorem dX6_read_68 : decode cX6_read 68 = .ok (.if_icmp .ge 79, 3) := by decide +kernel
theorem dX6_read_71 : decode cX6_read 71 = .ok (.aload_n 0, 1) := by decide +kernel
theorem dX6_read_72 : decode cX6_read 72 = .ok (.getfield 60, 3) := by decide +kernel
theorem dX6_read_75 : decode cX6_read 75 = .ok (.ifCond .ne 72, 3) := by decide +kernel
theorem dX6_read_78 : decode cX6_read 78 = .ok (.aload_n 0, 1) := by decide +kernel
theorem dX6_read_79 : decode cX6_read 79 = .ok (.getfield 35, 3) := by decide +kernel
theorem dX6_read_82 : decode cX6_read 82 = .ok (.bipush 36, 2) := by decide +kernel
theorem dX6_read_84 : decode cX6_read 84 = .ok (.if_icmp .eq 63, 3) := by decide +kernel
theorem dX6_read_87 : decode cX6_read 87 = .ok (.iload_n 1, 1) := by decide +kernel
theorem dX6_read_88 : decode cX6_read 88 = .ok (.tableswitch 49 0 2 #[28, 35, 42], 28) := by decide +kernel
theorem dX6_read_116 : decode cX6_read 116 = .ok (.aload_n 0, 1) := by decide +kernel
theorem dX6_read_117 : decode cX6_read 117 = .ok (.invokevirtual 75, 3) := by decide +kernel
theorem dX6_read_120 : decode cX6_read 120 = .ok (.goto 21, 3) := by decide +kernel
theorem dX6_read_123 : decode cX6_read 123 = .ok (.aload_n 0, 1) := by decide +kernel
theorem dX6_read_124 : decode cX6_read 124 = .ok (.invokevirtual 78, 3) := by decide +kernel
theorem dX6_read_127 : decode cX6_read 127 = .ok (.goto 14, 3) := by decide +kernel
theorem dX6_read_130 : decode cX6_read 130 = .ok (.aload_n 0, 1) := by decide +kernel
theorem dX6_read_131 : decode cX6_read 131 = .ok (.invokevirtual 81, 3) := by decide +kernel
theorem dX6_read_134 : decode cX6_read 134 = .ok (.goto 7, 3) := by decide +kernel
theorem dX6_read_137 : decode cX6_read 137 = .ok (.aload_n 0, 1) := by decide +kernel
theorem dX6_read_138 : decode cX6_read 138 = .ok (.invokevirtual 84, 3) := by decide +kernel
theorem dX6_read_141 : decode cX6_read 141 = .ok (.iinc 5 1, 3) := by decide +kernel
theorem dX6_read_144 : decode cX6_read 144 = .ok (.goto (-81), 3) := by decide +kernel
theorem dX6_read_147 : decode cX6_read 147 = .ok (.aload_n 0, 1) := by decide +kernel
theorem dX6_read_148 : decode cX6_read 148 = .ok (.iconst 0, 1) := by decide +kernel
theorem dX6_read_149 : decode cX6_read 149 = .ok (.putfield 15, 3) := by decide +kernel
theorem dX6_read_152 : decode cX6_read 152 = .ok (.iload 4, 2) := by decide +kernel
theorem dX6_read_154 : decode cX6_read 154 = .ok (.ifCond .eq 10, 3) := by decide +kernel
theorem dX6_read_157 : decode cX6_read 157 = .ok (.aload_n 0, 1) := by decide +kernel
theorem dX6_read_158 : decode cX6_read 158 = .ok (.getfield 60, 3) := by decide +kernel
theorem dX6_read_161 : decode cX6_read 161 = .ok (.ifCond .eq 7, 3) := by decide +kernel
theorem dX6_read_164 : decode cX6_read 164 = .ok (.iconst (-1), 1) := by decide +kernel
theorem dX6_read_165 : decode cX6_read 165 = .ok (.goto 24, 3) := by decide +kernel
theorem dX6_read_168 : decode cX6_read 168 = .ok (.iload_n 1, 1) := by decide +kernel
theorem dX6_read_169 : decode cX6_read 169 = .ok (.ifCond .ne 13, 3) := by decide +kernel
theorem dX6_read_172 : decode cX6_read 172 = .ok (.aload_n 0, 1) := by decide +kernel
theorem dX6_read_173 : decode cX6_read 173 = .ok (.getfield 47, 3) := by decide +kernel
theorem dX6_read_176 : decode cX6_read 176 = .ok (.getfield 87, 3) := by decide +kernel
theorem dX6_read_179 : decode cX6_read 179 = .ok (.goto 10, 3) := by decide +kernel
theorem dX6_read_182 : decode cX6_read 182 = .ok (.aload_n 0, 1) := by decide +kernel
theorem dX6_read_183 : decode cX6_read 183 = .ok (.getfield 56, 3) := by decide +kernel
theorem dX6_read_186 : decode cX6_read 186 = .ok (.getfield 69, 3) := by decide +kernel
theorem dX6_read_189 : decode cX6_read 189 = .ok (.ireturn, 1) := by decide +kernel
def f_X6_read_147   (v1 : Int32) (v4 : Int32) (h : zHp) : Option (Int32 × zHp) := zlt (zst h 145 1 (0 : Int32)) fun h1 => (if v4 = 0 then some ((-1 : Int32), h1) else (if (h1 145 12) = 0 then (if v1 = 0 then some ((h1 150 7), h1) else some ((h1 157 2), h1)) else some ((-1 : Int32), h1)))
set_option maxHeartbeats 4000000 in
set_option maxRecDepth 100000 in
theorem f_X6_read_147_s  (v1 : Int32) (v4 : Int32) (h : zHp) : Sim wX mX6_read 62 rI 147 [(0, .ref 145), (1, .int v1), (4, .int v4)] [] h (f_X6_read_147 v1 v4 h) := by
  unfold f_X6_read_147
  refine Sim.aload_n 0 dX6_read_147 rfl ?_
  refine Sim.iconst (v := (0 : Int32)) dX6_read_148 rfl ?_
  refine Sim.put fp_X6_15 dX6_read_149 xI_145_1 rfl rfl ?_
  refine Sim.lth (fun h1 => ?_)
  refine Sim.iload 2 dX6_read_152 rfl ?_
  refine Sim.if_eq 164 dX6_read_154 rfl ?_ ?_
  · refine Sim.iconst (v := (-1 : Int32)) dX6_read_164 rfl ?_
    refine Sim.goto 189 dX6_read_165 rfl ?_
    exact Sim.iret dX6_read_189 rfl
  · refine Sim.aload_n 0 dX6_read_157 rfl ?_
    refine Sim.getI fl_X6_60 dX6_read_158 xI_145_12 ?_
    refine Sim.if_eq 168 dX6_read_161 rfl ?_ ?_
    · refine Sim.iload_n 1 dX6_read_168 rfl ?_
      refine Sim.if_ne 182 dX6_read_169 rfl ?_ ?_
      · refine Sim.aload_n 0 dX6_read_172 rfl ?_
        refine Sim.getR (j := 150) fl_X6_47 dX6_read_173 xR_145_10 ?_
        refine Sim.getI fl_X6_87 dX6_read_176 (xI_X1_7 _ xL_X1_150) ?_
        refine Sim.goto 189 dX6_read_179 rfl ?_
        exact Sim.iret dX6_read_189 rfl
      · refine Sim.aload_n 0 dX6_read_182 rfl ?_
        refine Sim.getR (j := 157) fl_X6_56 dX6_read_183 xR_145_11 ?_
        refine Sim.getI fl_X6_69 dX6_read_186 (xI_X2_2 _ xL_X2_157) ?_
        exact Sim.iret dX6_read_189 rfl
    · refine Sim.iconst (v := (-1 : Int32)) dX6_read_164 rfl ?_
      refine Sim.goto 189 dX6_read_165 rfl ?_
      exact Sim.iret dX6_read_189 rfl
def f_X6_read_63  (k63 : Int32 × Int32 × Int32 × zHp → Option (Int32 × zHp)) (v1 : Int32) (v4 : Int32) (v5 : Int32) (h : zHp) : Option (Int32 × zHp) := (if v5 < (400 : Int32) then (if (h 145 12) = 0 then (if (h 145 7) = (36 : Int32) then f_X6_read_147 v1 v4 h else (if v1 = (0 : Int32) then (f_X6_lawLine h).bind fun x2 => k63 (v1, v4, (v5 + (1 : Int32)), x2) else (if v1 = (1 : Int32) then (f_X6_callsLine h).bind fun x4 => k63 (v1, v4, (v5 + (1 : Int32)), x4) else (if v1 = (2 : Int32) then (f_X6_houseLine h).bind fun x6 => k63 (v1, v4, (v5 + (1 : Int32)), x6) else (f_X6_kinLine h).bind fun x7 => k63 (v1, v4, (v5 + (1 : Int32)), x7))))) else f_X6_read_147 v1 v4 h) else f_X6_read_147 v1 v4 h)
set_option maxHeartbeats 4000000 in
set_option maxRecDepth 100000 in
theorem f_X6_read_63_s  (k63 : Int32 × Int32 × Int32 × zHp → Option (Int32 × zHp)) (H63 : ∀ v : Int32 × Int32 × Int32 × zHp, Sim wX mX6_read 62 rI 63 [(0, .ref 145), (1, .int v.1), (4, .int v.2.1), (5, .int v.2.2.1)] [] v.2.2.2 (k63 v)) (v1 : Int32) (v4 : Int32) (v5 : Int32) (h : zHp) : Sim wX mX6_read 62 rI 63 [(0, .ref 145), (1, .int v1), (4, .int v4), (5, .int v5)] [] h (f_X6_read_63 k63 v1 v4 v5 h) := by
  unfold f_X6_read_63
  refine Sim.iload 3 dX6_read_63 rfl ?_
  refine Sim.sipush (v := (400 : Int32)) dX6_read_65 rfl ?_
  refine Sim.icmp_ge 147 dX6_read_68 rfl ?_ ?_
  · refine Sim.aload_n 0 dX6_read_71 rfl ?_
    refine Sim.getI fl_X6_60 dX6_read_72 xI_145_12 ?_
    refine Sim.if_ne 147 dX6_read_75 rfl ?_ ?_
    · refine Sim.aload_n 0 dX6_read_78 rfl ?_
      refine Sim.getI fl_X6_35 dX6_read_79 xI_145_7 ?_
      refine Sim.bipush (v := (36 : Int32)) dX6_read_82 rfl ?_
      refine Sim.icmp_eq 147 dX6_read_84 rfl ?_ ?_
      · refine Sim.locs [0, 1, 2] rfl ?_
        exact f_X6_read_147_s v1 v4 h
      · refine Sim.iload_n 1 dX6_read_87 rfl ?_
        refine Sim.ite _ (fun q1 => ?_) (fun q1 => ?_)
        · refine Sim.tswIn 116 dX6_read_88 q1 (by decide) (by decide) rfl rfl ?_
          refine Sim.aload_n 0 dX6_read_116 rfl ?_
          refine Sim.callV0U (d1 := 61) (s_X6_lawLine h) dX6_read_117 ml_X6_75 mv_X6_lawLine xO_X6 (Nat.le_of_ble_eq_true rfl) (Nat.le_of_ble_eq_true rfl) (Nat.le_of_ble_eq_true rfl) (fun x2 => ?_)
          refine Sim.goto 141 dX6_read_120 rfl ?_
          refine Sim.iinc (L' := [(5, .int (v5 + (1 : Int32))), (0, .ref 145), (1, .int v1), (4, .int v4)]) 3 dX6_read_141 rfl rfl (Nat.le_of_ble_eq_true rfl) rfl ?_
          refine Sim.goto 63 dX6_read_144 rfl ?_
          refine Sim.locs [1, 2, 3, 0] rfl ?_
          exact H63 (v1, v4, (v5 + (1 : Int32)), x2)
        refine Sim.ite _ (fun q3 => ?_) (fun q3 => ?_)
        · refine Sim.tswIn 123 dX6_read_88 q3 (by decide) (by decide) rfl rfl ?_
          refine Sim.aload_n 0 dX6_read_123 rfl ?_
          refine Sim.callV0U (d1 := 3) (s_X6_callsLine h) dX6_read_124 ml_X6_78 mv_X6_callsLine xO_X6 (Nat.le_of_ble_eq_true rfl) (Nat.le_of_ble_eq_true rfl) (Nat.le_of_ble_eq_true rfl) (fun x4 => ?_)
          refine Sim.goto 141 dX6_read_127 rfl ?_
          refine Sim.iinc (L' := [(5, .int (v5 + (1 : Int32))), (0, .ref 145), (1, .int v1), (4, .int v4)]) 3 dX6_read_141 rfl rfl (Nat.le_of_ble_eq_true rfl) rfl ?_
          refine Sim.goto 63 dX6_read_144 rfl ?_
          refine Sim.locs [1, 2, 3, 0] rfl ?_
          exact H63 (v1, v4, (v5 + (1 : Int32)), x4)
        refine Sim.ite _ (fun q5 => ?_) (fun q5 => ?_)
        · refine Sim.tswIn 130 dX6_read_88 q5 (by decide) (by decide) rfl rfl ?_
          refine Sim.aload_n 0 dX6_read_130 rfl ?_
          refine Sim.callV0U (d1 := 3) (s_X6_houseLine h) dX6_read_131 ml_X6_81 mv_X6_houseLine xO_X6 (Nat.le_of_ble_eq_true rfl) (Nat.le_of_ble_eq_true rfl) (Nat.le_of_ble_eq_true rfl) (fun x6 => ?_)
          refine Sim.goto 141 dX6_read_134 rfl ?_
          refine Sim.iinc (L' := [(5, .int (v5 + (1 : Int32))), (0, .ref 145), (1, .int v1), (4, .int v4)]) 3 dX6_read_141 rfl rfl (Nat.le_of_ble_eq_true rfl) rfl ?_
          refine Sim.goto 63 dX6_read_144 rfl ?_
          refine Sim.locs [1, 2, 3, 0] rfl ?_
          exact H63 (v1, v4, (v5 + (1 : Int32)), x6)
        refine Sim.tswOut 137 dX6_read_88 (by have aq1 : v1.toInt ≠ 0 := fun w => q1 (Int32.toInt_inj.mp w); have aq3 : v1.toInt ≠ 1 := fun w => q3 (Int32.toInt_inj.mp w); have aq5 : v1.toInt ≠ 2 := fun w => q5 (Int32.toInt_inj.mp w); omega) rfl ?_
        refine Sim.aload_n 0 dX6_read_137 rfl ?_
        refine Sim.callV0U (d1 := 3) (s_X6_kinLine h) dX6_read_138 ml_X6_84 mv_X6_kinLine xO_X6 (Nat.le_of_ble_eq_true rfl) (Nat.le_of_ble_eq_true rfl) (Nat.le_of_ble_eq_true rfl) (fun x7 => ?_)
        refine Sim.iinc (L' := [(5, .int (v5 + (1 : Int32))), (0, .ref 145), (1, .int v1), (4, .int v4)]) 3 dX6_read_141 rfl rfl (Nat.le_of_ble_eq_true rfl) rfl ?_
        refine Sim.goto 63 dX6_read_144 rfl ?_
        refine Sim.locs [1, 2, 3, 0] rfl ?_
        exact H63 (v1, v4, (v5 + (1 : Int32)), x7)
    · refine Sim.locs [0, 1, 2] rfl ?_
      exact f_X6_read_147_s v1 v4 h
  · refine Sim.locs [0, 1, 2] rfl ?_
    exact f_X6_read_147_s v1 v4 h
def f_X6_read_63_lp   (n : Nat) (v : Int32 × Int32 × Int32 × zHp) : Option (Int32 × zHp) := zlp (fun k63 v => f_X6_read_63 k63 v.1 v.2.1 v.2.2.1 v.2.2.2) n v
theorem f_X6_read_63_ls  (n : Nat) (v : Int32 × Int32 × Int32 × zHp) : Sim wX mX6_read 62 rI 63 [(0, .ref 145), (1, .int v.1), (4, .int v.2.1), (5, .int v.2.2.1)] [] v.2.2.2 (f_X6_read_63_lp n v) :=
  Sim.lp (V := Int32 × Int32 × Int32 × zHp) (Lf := fun v => [(0, .ref 145), (1, .int v.1), (4, .int v.2.1), (5, .int v.2.2.1)]) (sf := fun v => []) (hf := fun v => v.2.2.2) (fun k63 H63 v => f_X6_read_63_s k63 H63 v.1 v.2.1 v.2.2.1 v.2.2.2) n v
def f_X6_read_49   (v1 : Int32) (s0 : Int32) (h : zHp) : Option (Int32 × zHp) := (if s0 = 0 then f_X6_read_147 v1 s0 h else (f_X6_split h).bind fun x1 => f_X6_read_63_lp  zN (v1, s0, (0 : Int32), x1))
set_option maxHeartbeats 4000000 in
set_option maxRecDepth 100000 in
theorem f_X6_read_49_s  (v1 : Int32) (s0 : Int32) (h : zHp) : Sim wX mX6_read 62 rI 49 [(0, .ref 145), (1, .int v1)] [.int s0] h (f_X6_read_49 v1 s0 h) := by
  unfold f_X6_read_49
  refine Sim.istore (L' := [(4, .int s0), (0, .ref 145), (1, .int v1)]) dX6_read_49 (Nat.le_of_ble_eq_true rfl) rfl ?_
  refine Sim.iload 0 dX6_read_51 rfl ?_
  refine Sim.if_eq 147 dX6_read_53 rfl ?_ ?_
  · refine Sim.locs [1, 2, 0] rfl ?_
    exact f_X6_read_147_s v1 s0 h
  · refine Sim.aload_n 1 dX6_read_56 rfl ?_
    refine Sim.callV0U (d1 := 6) (s_X6_split h) dX6_read_57 ml_X6_72 mv_X6_split xO_X6 (Nat.le_of_ble_eq_true rfl) (Nat.le_of_ble_eq_true rfl) (Nat.le_of_ble_eq_true rfl) (fun x1 => ?_)
    refine Sim.iconst (v := (0 : Int32)) dX6_read_60 rfl ?_
    refine Sim.istore (L' := [(5, .int (0 : Int32)), (4, .int s0), (0, .ref 145), (1, .int v1)]) dX6_read_61 (Nat.le_of_ble_eq_true rfl) rfl ?_
    refine Sim.locs [2, 3, 1, 0] rfl ?_
    exact f_X6_read_63_ls  zN (v1, s0, (0 : Int32), x1)
def f_X6_read  (a1 : Int32) (a2 : Int32) (a3 : Int32) (h : zHp) : Option (Int32 × zHp) := zlt (zst h 145 12 (0 : Int32)) fun h1 => zlt (zst h1 145 13 (-1 : Int32)) fun h2 => (f_X1_clear 150 h2).bind fun x3 => zlt (zst x3 157 2 (0 : Int32)) fun h4 => zlt (zst h4 145 8 a2) fun h5 => zlt (zst h5 145 9 a3) fun h6 => (if a1 < 0 then f_X6_read_49 a1 (0 : Int32) h6 else (if (3 : Int32) < a1 then f_X6_read_49 a1 (0 : Int32) h6 else f_X6_read_49 a1 (1 : Int32) h6))
set_option maxHeartbeats 4000000 in
set_option maxRecDepth 100000 in
theorem s_X6_read  (a1 : Int32) (a2 : Int32) (a3 : Int32) (h : zHp) : Fn wX mX6_read 62 rI [.ref 145, .int a1, .int a2, .int a3] h (f_X6_read a1 a2 a3 h) := by
  refine Fn.of rfl (Nat.le_of_ble_eq_true rfl) ?_
  unfold f_X6_read
  refine Sim.aload_n 0 dX6_read_0 rfl ?_
  refine Sim.iconst (v := (0 : Int32)) dX6_read_1 rfl ?_
  refine Sim.put fp_X6_60 dX6_read_2 xI_145_12 rfl rfl ?_
  refine Sim.lth (fun h1 => ?_)
  refine Sim.aload_n 0 dX6_read_5 rfl ?_
  refine Sim.iconst (v := (-1 : Int32)) dX6_read_6 rfl ?_
  refine Sim.put fp_X6_63 dX6_read_7 xI_145_13 rfl rfl ?_
  refine Sim.lth (fun h2 => ?_)
  refine Sim.aload_n 0 dX6_read_10 rfl ?_
  refine Sim.getR (j := 150) fl_X6_47 dX6_read_11 xR_145_10 ?_
  refine Sim.callV0U (d1 := 0) (s_X1_clear 150 xL_X1_150 h2) dX6_read_14 ml_X6_66 mv_X1_clear (xOC_X1 _ xL_X1_150) (Nat.le_of_ble_eq_true rfl) (Nat.le_of_ble_eq_true rfl) (Nat.le_of_ble_eq_true rfl) (fun x3 => ?_)
  refine Sim.aload_n 0 dX6_read_17 rfl ?_
  refine Sim.getR (j := 157) fl_X6_56 dX6_read_18 xR_145_11 ?_
  refine Sim.iconst (v := (0 : Int32)) dX6_read_21 rfl ?_
  refine Sim.put fp_X6_69 dX6_read_22 (xI_X2_2 _ xL_X2_157) rfl rfl ?_
  refine Sim.lth (fun h4 => ?_)
  refine Sim.aload_n 0 dX6_read_25 rfl ?_
  refine Sim.iload_n 2 dX6_read_26 rfl ?_
  refine Sim.put fp_X6_38 dX6_read_27 xI_145_8 rfl rfl ?_
  refine Sim.lth (fun h5 => ?_)
  refine Sim.aload_n 0 dX6_read_30 rfl ?_
  refine Sim.iload_n 3 dX6_read_31 rfl ?_
  refine Sim.put fp_X6_41 dX6_read_32 xI_145_9 rfl rfl ?_
  refine Sim.lth (fun h6 => ?_)
  refine Sim.iload_n 1 dX6_read_35 rfl ?_
  refine Sim.if_lt 48 dX6_read_36 rfl ?_ ?_
  · refine Sim.iconst (v := (0 : Int32)) dX6_read_48 rfl ?_
    refine Sim.locs [0, 1] rfl ?_
    exact f_X6_read_49_s a1 (0 : Int32) h6
  · refine Sim.iload_n 1 dX6_read_39 rfl ?_
    refine Sim.iconst (v := (3 : Int32)) dX6_read_40 rfl ?_
    refine Sim.icmp_gt 48 dX6_read_41 rfl ?_ ?_
    · refine Sim.iconst (v := (0 : Int32)) dX6_read_48 rfl ?_
      refine Sim.locs [0, 1] rfl ?_
      exact f_X6_read_49_s a1 (0 : Int32) h6
    · refine Sim.iconst (v := (1 : Int32)) dX6_read_44 rfl ?_
      refine Sim.goto 49 dX6_read_45 rfl ?_
      refine Sim.locs [0, 1] rfl ?_
      exact f_X6_read_49_s a1 (1 : Int32) h6
theorem mv_X6_read : zMV mX6_read 3 := ⟨⟨zTb_in 767 (by decide +kernel) rfl, zTb_in 145 (by decide +kernel) rfl, ⟨by decide +kernel, by decide +kernel⟩, by decide +kernel⟩, zTb_in 765 (by decide +kernel) rfl, zTb_in 766 (by decide +kernel) rfl⟩
-- ===== RockingPorch$Row.clear()I
abbrev mX7_clear : zMt := (yX7_clear, cX7_clear, 1, some .int)
theorem fp_X7_9 : zFp RX7 9 7 1 .int := ⟨RX7, TX7, 2, tyX7, rfl, Nat.le_of_ble_eq_true rfl, zTb_in 317 (by decide +kernel) rfl, in_X7, tyX7_ok, nmX7, rfl, rfl⟩
theorem dX7_clear_0 : decode cX7_clear 0 = .ok (.aload_n 0, 1) := by decide +kernel
theorem dX7_clear_1 : decode cX7_clear 1 = .ok (.iconst 0, 1) := by decide +kernel
theorem dX7_clear_2 : decode cX7_clear 2 = .ok (.putfield 9, 3) := by decide +kernel
theorem dX7_clear_5 : decode cX7_clear 5 = .ok (.iconst 0, 1) := by decide +kernel
theorem dX7_clear_6 : decode cX7_clear 6 = .ok (.ireturn, 1) := by decide +kernel
def f_X7_clear (o : Nat)  (h : zHp) : Option (Int32 × zHp) := zlt (zst h o 1 (0 : Int32)) fun h1 => some ((0 : Int32), h1)
set_option maxHeartbeats 4000000 in
set_option maxRecDepth 100000 in
theorem s_X7_clear (o : Nat) (ho : o ∈ xRow)  (h : zHp) : Fn wX mX7_clear 0 rI [.ref o] h (f_X7_clear o h) := by
  refine Fn.of rfl (Nat.le_of_ble_eq_true rfl) ?_
  unfold f_X7_clear
  refine Sim.aload_n 0 dX7_clear_0 rfl ?_
  refine Sim.iconst (v := (0 : Int32)) dX7_clear_1 rfl ?_
  refine Sim.put fp_X7_9 dX7_clear_2 (xI_X7_1 _ ho) rfl rfl ?_
  refine Sim.lth (fun h1 => ?_)
  refine Sim.iconst (v := (0 : Int32)) dX7_clear_5 rfl ?_
  exact Sim.iret dX7_clear_6 rfl
theorem mv_X7_clear : zMV mX7_clear 0 := ⟨⟨zTb_in 1039 (by decide +kernel) rfl, zTb_in 143 (by decide +kernel) rfl, ⟨by decide +kernel, by decide +kernel⟩, by decide +kernel⟩, zTb_in 1037 (by decide +kernel) rfl, zTb_in 1038 (by decide +kernel) rfl⟩
