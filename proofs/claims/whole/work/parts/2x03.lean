-- ===== RockingPorch$Puzzles.winningSlide()I
abbrev mX5_winningSlide : zMt := (yX5_winningSlide, cX5_winningSlide, 6, some .int)
theorem ml_X5_116 : Cond.methodLink RX5 116 yX5_sortCoins ∈ zTb := zTb_in 1240 (by decide +kernel) rfl
theorem ml_X5_123 : Cond.methodLink RX5 123 yX5_isLost ∈ zTb := zTb_in 1248 (by decide +kernel) rfl
theorem dX5_winningSlide_0 : decode cX5_winningSlide 0 = .ok (.aload_n 0, 1) := by decide +kernel
theorem dX5_winningSlide_1 : decode cX5_winningSlide 1 = .ok (.getfield 24, 3) := by decide +kernel
theorem dX5_winningSlide_4 : decode cX5_winningSlide 4 = .ok (.getfield 113, 3) := by decide +kernel
theorem dX5_winningSlide_7 : decode cX5_winningSlide 7 = .ok (.getfield 34, 3) := by decide +kernel
theorem dX5_winningSlide_10 : decode cX5_winningSlide 10 = .ok (.istore_n 1, 1) := by decide +kernel
theorem dX5_winningSlide_11 : decode cX5_winningSlide 11 = .ok (.aload_n 0, 1) := by decide +kernel
theorem dX5_winningSlide_12 : decode cX5_winningSlide 12 = .ok (.iload_n 1, 1) := by decide +kernel
theorem dX5_winningSlide_13 : decode cX5_winningSlide 13 = .ok (.invokevirtual 116, 3) := by decide +kernel
theorem dX5_winningSlide_16 : decode cX5_winningSlide 16 = .ok (.iconst 0, 1) := by decide +kernel
theorem dX5_winningSlide_17 : decode cX5_winningSlide 17 = .ok (.istore_n 2, 1) := by decide +kernel
theorem dX5_winningSlide_18 : decode cX5_winningSlide 18 = .ok (.iload_n 2, 1) := by decide +kernel
theorem dX5_winningSlide_19 : decode cX5_winningSlide 19 = .ok (.iload_n 1, 1) := by decide +kernel
theorem dX5_winningSlide_20 : decode cX5_winningSlide 20 = .ok (.if_icmp .ge 78, 3) := by decide +kernel
theorem dX5_winningSlide_23 : decode cX5_winningSlide 23 = .ok (.iload_n 2, 1) := by decide +kernel
theorem dX5_winningSlide_24 : decode cX5_winningSlide 24 = .ok (.bipush 10, 2) := by decide +kernel
theorem dX5_winningSlide_26 : decode cX5_winningSlide 26 = .ok (.if_icmp .ge 72, 3) := by decide +kernel
theorem dX5_winningSlide_29 : decode cX5_winningSlide 29 = .ok (.aload_n 0, 1) := by decide +kernel
theorem dX5_winningSlide_30 : decode cX5_winningSlide 30 = .ok (.getfield 9, 3) := by decide +kernel
theorem dX5_winningSlide_33 : decode cX5_winningSlide 33 = .ok (.iload_n 2, 1) := by decide +kernel
theorem dX5_winningSlide_34 : decode cX5_winningSlide 34 = .ok (.iaload, 1) := by decide +kernel
theorem dX5_winningSlide_35 : decode cX5_winningSlide 35 = .ok (.istore_n 3, 1) := by decide +kernel
theorem dX5_winningSlide_36 : decode cX5_winningSlide 36 = .ok (.aload_n 0, 1) := by decide +kernel
theorem dX5_winningSlide_37 : decode cX5_winningSlide 37 = .ok (.iload_n 2, 1) := by decide +kernel
theorem dX5_winningSlide_38 : decode cX5_winningSlide 38 = .ok (.invokevirtual 120, 3) := by decide +kernel
theorem dX5_winningSlide_41 : decode cX5_winningSlide 41 = .ok (.istore 4, 2) := by decide +kernel
theorem dX5_winningSlide_43 : decode cX5_winningSlide 43 = .ok (.iconst 1, 1) := by decide +kernel
theorem dX5_winningSlide_44 : decode cX5_winningSlide 44 = .ok (.istore 5, 2) := by decide +kernel
theorem dX5_winningSlide_46 : decode cX5_winningSlide 46 = .ok (.iload 5, 2) := by decide +kernel
theorem dX5_winningSlide_48 : decode cX5_winningSlide 48 = .ok (.iload 4, 2) := by decide +kernel
theorem dX5_winningSlide_50 : decode cX5_winningSlide 50 = .ok (.if_icmp .gt 35, 3) := by decide +kernel
theorem dX5_winningSlide_53 : decode cX5_winningSlide 53 = .ok (.aload_n 0, 1) := by decide +kernel
theorem dX5_winningSlide_54 : decode cX5_winningSlide 54 = .ok (.getfield 9, 3) := by decide +kernel
theorem dX5_winningSlide_57 : decode cX5_winningSlide 57 = .ok (.iload_n 2, 1) := by decide +kernel
theorem dX5_winningSlide_58 : decode cX5_winningSlide 58 = .ok (.iload_n 3, 1) := by decide +kernel
theorem dX5_winningSlide_59 : decode cX5_winningSlide 59 = .ok (.iload 5, 2) := by decide +kernel
theorem dX5_winningSlide_61 : decode cX5_winningSlide 61 = .ok (.isub, 1) := by decide +kernel
theorem dX5_winningSlide_62 : decode cX5_winningSlide 62 = .ok (.iastore, 1) := by decide +kernel
theorem dX5_winningSlide_63 : decode cX5_winningSlide 63 = .ok (.aload_n 0, 1) := by decide +kernel
theorem dX5_winningSlide_64 : decode cX5_winningSlide 64 = .ok (.iload_n 1, 1) := by decide +kernel
theorem dX5_winningSlide_65 : decode cX5_winningSlide 65 = .ok (.invokevirtual 123, 3) := by decide +kernel
theorem dX5_winningSlide_68 : decode cX5_winningSlide 68 = .ok (.ifCond .eq 11, 3) := by decide +kernel
theorem dX5_winningSlide_71 : decode cX5_winningSlide 71 = .ok (.iload_n 3, 1) := by decide +kernel
theorem dX5_winningSlide_72 : decode cX5_winningSlide 72 = .ok (.bipush 100, 2) := by decide +kernel
theorem dX5_winningSlide_74 : decode cX5_winningSlide 74 = .ok (.imul, 1) := by decide +kernel
theorem dX5_winningSlide_75 : decode cX5_winningSlide 75 = .ok (.iload 5, 2) := by decide +kernel
theorem dX5_winningSlide_77 : decode cX5_winningSlide 77 = .ok (.iadd, 1) := by decide +kernel
theorem dX5_winningSlide_78 : decode cX5_winningSlide 78 = .ok (.ireturn, 1) := by decide +kernel
theorem dX5_winningSlide_79 : decode cX5_winningSlide 79 = .ok (.iinc 5 1, 3) := by decide +kernel
theorem dX5_winningSlide_82 : decode cX5_winningSlide 82 = .ok (.goto (-36), 3) := by decide +kernel
theorem dX5_winningSlide_85 : decode cX5_winningSlide 85 = .ok (.aload_n 0, 1) := by decide +kernel
theorem dX5_winningSlide_86 : decode cX5_winningSlide 86 = .ok (.getfield 9, 3) := by decide +kernel
theorem dX5_winningSlide_89 : decode cX5_winningSlide 89 = .ok (.iload_n 2, 1) := by decide +kernel
theorem dX5_winningSlide_90 : decode cX5_winningSlide 90 = .ok (.iload_n 3, 1) := by decide +kernel
theorem dX5_winningSlide_91 : decode cX5_winningSlide 91 = .ok (.iastore, 1) := by decide +kernel
theorem dX5_winningSlide_92 : decode cX5_winningSlide 92 = .ok (.iinc 2 1, 3) := by decide +kernel
theorem dX5_winningSlide_95 : decode cX5_winningSlide 95 = .ok (.goto (-77), 3) := by decide +kernel
theorem dX5_winningSlide_98 : decode cX5_winningSlide 98 = .ok (.iconst (-1), 1) := by decide +kernel
theorem dX5_winningSlide_99 : decode cX5_winningSlide 99 = .ok (.ireturn, 1) := by decide +kernel
def f_X5_winningSlide_46  (k18 : Int32 × Int32 × zHp → Option (Int32 × zHp)) (k46 : Int32 × Int32 × Int32 × Int32 × Int32 × zHp → Option (Int32 × zHp)) (v1 : Int32) (v2 : Int32) (v3 : Int32) (v4 : Int32) (v5 : Int32) (h : zHp) : Option (Int32 × zHp) := (if v4 < v5 then zix v2 10 (zlt (zst h 162 v2.toNatClampNeg v3) fun h1 => k18 (v1, (v2 + (1 : Int32)), h1)) else zix v2 10 (zlt (zst h 162 v2.toNatClampNeg (v3 - v5)) fun h2 => (f_X5_isLost v1 h2).bind fun x3 => (if x3.1 = 0 then k46 (v1, v2, v3, v4, (v5 + (1 : Int32)), x3.2) else some (((v3 * (100 : Int32)) + v5), x3.2))))
set_option maxHeartbeats 4000000 in
set_option maxRecDepth 100000 in
theorem f_X5_winningSlide_46_s  (k18 : Int32 × Int32 × zHp → Option (Int32 × zHp)) (H18 : ∀ v : Int32 × Int32 × zHp, Sim wX mX5_winningSlide 2 rI 18 [(0, .ref 161), (1, .int v.1), (2, .int v.2.1)] [] v.2.2 (k18 v)) (k46 : Int32 × Int32 × Int32 × Int32 × Int32 × zHp → Option (Int32 × zHp)) (H46 : ∀ v : Int32 × Int32 × Int32 × Int32 × Int32 × zHp, Sim wX mX5_winningSlide 2 rI 46 [(0, .ref 161), (1, .int v.1), (2, .int v.2.1), (3, .int v.2.2.1), (4, .int v.2.2.2.1), (5, .int v.2.2.2.2.1)] [] v.2.2.2.2.2 (k46 v)) (v1 : Int32) (v2 : Int32) (v3 : Int32) (v4 : Int32) (v5 : Int32) (h : zHp) : Sim wX mX5_winningSlide 2 rI 46 [(0, .ref 161), (1, .int v1), (2, .int v2), (3, .int v3), (4, .int v4), (5, .int v5)] [] h (f_X5_winningSlide_46 k18 k46 v1 v2 v3 v4 v5 h) := by
  unfold f_X5_winningSlide_46
  refine Sim.iload 5 dX5_winningSlide_46 rfl ?_
  refine Sim.iload 4 dX5_winningSlide_48 rfl ?_
  refine Sim.icmp_gt 85 dX5_winningSlide_50 rfl ?_ ?_
  · refine Sim.aload_n 0 dX5_winningSlide_85 rfl ?_
    refine Sim.getR (j := 162) fl_X5_9 dX5_winningSlide_86 xR_161_1 ?_
    refine Sim.iload_n 2 dX5_winningSlide_89 rfl ?_
    refine Sim.iload_n 3 dX5_winningSlide_90 rfl ?_
    refine Sim.iast (n := 10) dX5_winningSlide_91 xA_162 ?_
    refine Sim.lth (fun h1 => ?_)
    refine Sim.iinc (L' := [(2, .int (v2 + (1 : Int32))), (0, .ref 161), (1, .int v1), (3, .int v3), (4, .int v4), (5, .int v5)]) 2 dX5_winningSlide_92 rfl rfl (Nat.le_of_ble_eq_true rfl) rfl ?_
    refine Sim.goto 18 dX5_winningSlide_95 rfl ?_
    refine Sim.locs [1, 2, 0] rfl ?_
    exact H18 (v1, (v2 + (1 : Int32)), h1)
  · refine Sim.aload_n 0 dX5_winningSlide_53 rfl ?_
    refine Sim.getR (j := 162) fl_X5_9 dX5_winningSlide_54 xR_161_1 ?_
    refine Sim.iload_n 2 dX5_winningSlide_57 rfl ?_
    refine Sim.iload_n 3 dX5_winningSlide_58 rfl ?_
    refine Sim.iload 5 dX5_winningSlide_59 rfl ?_
    refine Sim.isub dX5_winningSlide_61 ?_
    refine Sim.iast (n := 10) dX5_winningSlide_62 xA_162 ?_
    refine Sim.lth (fun h2 => ?_)
    refine Sim.aload_n 0 dX5_winningSlide_63 rfl ?_
    refine Sim.iload_n 1 dX5_winningSlide_64 rfl ?_
    refine Sim.callV1I (d1 := 1) (s_X5_isLost v1 h2) dX5_winningSlide_65 ml_X5_123 mv_X5_isLost xO_X5 (Nat.le_of_ble_eq_true rfl) (Nat.le_of_ble_eq_true rfl) (Nat.le_of_ble_eq_true rfl) (fun x3 => ?_)
    refine Sim.if_eq 79 dX5_winningSlide_68 rfl ?_ ?_
    · refine Sim.iinc (L' := [(5, .int (v5 + (1 : Int32))), (0, .ref 161), (1, .int v1), (2, .int v2), (3, .int v3), (4, .int v4)]) 5 dX5_winningSlide_79 rfl rfl (Nat.le_of_ble_eq_true rfl) rfl ?_
      refine Sim.goto 46 dX5_winningSlide_82 rfl ?_
      refine Sim.locs [1, 2, 3, 4, 5, 0] rfl ?_
      exact H46 (v1, v2, v3, v4, (v5 + (1 : Int32)), x3.2)
    · refine Sim.iload_n 3 dX5_winningSlide_71 rfl ?_
      refine Sim.bipush (v := (100 : Int32)) dX5_winningSlide_72 rfl ?_
      refine Sim.imul dX5_winningSlide_74 ?_
      refine Sim.iload 5 dX5_winningSlide_75 rfl ?_
      refine Sim.iadd dX5_winningSlide_77 ?_
      exact Sim.iret dX5_winningSlide_78 rfl
def f_X5_winningSlide_46_lp  (k18 : Int32 × Int32 × zHp → Option (Int32 × zHp)) (n : Nat) (v : Int32 × Int32 × Int32 × Int32 × Int32 × zHp) : Option (Int32 × zHp) := zlp (fun k46 v => f_X5_winningSlide_46 k18 k46 v.1 v.2.1 v.2.2.1 v.2.2.2.1 v.2.2.2.2.1 v.2.2.2.2.2) n v
theorem f_X5_winningSlide_46_ls  (k18 : Int32 × Int32 × zHp → Option (Int32 × zHp)) (H18 : ∀ v : Int32 × Int32 × zHp, Sim wX mX5_winningSlide 2 rI 18 [(0, .ref 161), (1, .int v.1), (2, .int v.2.1)] [] v.2.2 (k18 v)) (n : Nat) (v : Int32 × Int32 × Int32 × Int32 × Int32 × zHp) : Sim wX mX5_winningSlide 2 rI 46 [(0, .ref 161), (1, .int v.1), (2, .int v.2.1), (3, .int v.2.2.1), (4, .int v.2.2.2.1), (5, .int v.2.2.2.2.1)] [] v.2.2.2.2.2 (f_X5_winningSlide_46_lp k18 n v) :=
  Sim.lp (V := Int32 × Int32 × Int32 × Int32 × Int32 × zHp) (Lf := fun v => [(0, .ref 161), (1, .int v.1), (2, .int v.2.1), (3, .int v.2.2.1), (4, .int v.2.2.2.1), (5, .int v.2.2.2.2.1)]) (sf := fun v => []) (hf := fun v => v.2.2.2.2.2) (fun k46 H46 v => f_X5_winningSlide_46_s k18 H18 k46 H46 v.1 v.2.1 v.2.2.1 v.2.2.2.1 v.2.2.2.2.1 v.2.2.2.2.2) n v
def f_X5_winningSlide_18  (k18 : Int32 × Int32 × zHp → Option (Int32 × zHp)) (v1 : Int32) (v2 : Int32) (h : zHp) : Option (Int32 × zHp) := (if v2 < v1 then (if v2 < (10 : Int32) then zix v2 10 (zlt (h 162 v2.toNatClampNeg) fun x1 => (f_X5_roomBelow v2 h).bind fun x2 => f_X5_winningSlide_46_lp k18 zN (v1, v2, x1, x2.1, (1 : Int32), x2.2)) else some ((-1 : Int32), h)) else some ((-1 : Int32), h))
set_option maxHeartbeats 4000000 in
set_option maxRecDepth 100000 in
theorem f_X5_winningSlide_18_s  (k18 : Int32 × Int32 × zHp → Option (Int32 × zHp)) (H18 : ∀ v : Int32 × Int32 × zHp, Sim wX mX5_winningSlide 2 rI 18 [(0, .ref 161), (1, .int v.1), (2, .int v.2.1)] [] v.2.2 (k18 v)) (v1 : Int32) (v2 : Int32) (h : zHp) : Sim wX mX5_winningSlide 2 rI 18 [(0, .ref 161), (1, .int v1), (2, .int v2)] [] h (f_X5_winningSlide_18 k18 v1 v2 h) := by
  unfold f_X5_winningSlide_18
  refine Sim.iload_n 2 dX5_winningSlide_18 rfl ?_
  refine Sim.iload_n 1 dX5_winningSlide_19 rfl ?_
  refine Sim.icmp_ge 98 dX5_winningSlide_20 rfl ?_ ?_
  · refine Sim.iload_n 2 dX5_winningSlide_23 rfl ?_
    refine Sim.bipush (v := (10 : Int32)) dX5_winningSlide_24 rfl ?_
    refine Sim.icmp_ge 98 dX5_winningSlide_26 rfl ?_ ?_
    · refine Sim.aload_n 0 dX5_winningSlide_29 rfl ?_
      refine Sim.getR (j := 162) fl_X5_9 dX5_winningSlide_30 xR_161_1 ?_
      refine Sim.iload_n 2 dX5_winningSlide_33 rfl ?_
      refine Sim.iald (n := 10) dX5_winningSlide_34 xA_162 ?_
      refine Sim.lti (fun x1 => ?_)
      refine Sim.istore_n (L' := [(3, .int x1), (0, .ref 161), (1, .int v1), (2, .int v2)]) dX5_winningSlide_35 (Nat.le_of_ble_eq_true rfl) rfl ?_
      refine Sim.aload_n 1 dX5_winningSlide_36 rfl ?_
      refine Sim.iload_n 3 dX5_winningSlide_37 rfl ?_
      refine Sim.callV1I (d1 := 0) (s_X5_roomBelow v2 h) dX5_winningSlide_38 ml_X5_120 mv_X5_roomBelow xO_X5 (Nat.le_of_ble_eq_true rfl) (Nat.le_of_ble_eq_true rfl) (Nat.le_of_ble_eq_true rfl) (fun x2 => ?_)
      refine Sim.istore (L' := [(4, .int x2.1), (3, .int x1), (0, .ref 161), (1, .int v1), (2, .int v2)]) dX5_winningSlide_41 (Nat.le_of_ble_eq_true rfl) rfl ?_
      refine Sim.iconst (v := (1 : Int32)) dX5_winningSlide_43 rfl ?_
      refine Sim.istore (L' := [(5, .int (1 : Int32)), (4, .int x2.1), (3, .int x1), (0, .ref 161), (1, .int v1), (2, .int v2)]) dX5_winningSlide_44 (Nat.le_of_ble_eq_true rfl) rfl ?_
      refine Sim.locs [3, 4, 5, 2, 1, 0] rfl ?_
      exact f_X5_winningSlide_46_ls k18 H18 zN (v1, v2, x1, x2.1, (1 : Int32), x2.2)
    · refine Sim.iconst (v := (-1 : Int32)) dX5_winningSlide_98 rfl ?_
      exact Sim.iret dX5_winningSlide_99 rfl
  · refine Sim.iconst (v := (-1 : Int32)) dX5_winningSlide_98 rfl ?_
    exact Sim.iret dX5_winningSlide_99 rfl
def f_X5_winningSlide_18_lp   (n : Nat) (v : Int32 × Int32 × zHp) : Option (Int32 × zHp) := zlp (fun k18 v => f_X5_winningSlide_18 k18 v.1 v.2.1 v.2.2) n v
theorem f_X5_winningSlide_18_ls  (n : Nat) (v : Int32 × Int32 × zHp) : Sim wX mX5_winningSlide 2 rI 18 [(0, .ref 161), (1, .int v.1), (2, .int v.2.1)] [] v.2.2 (f_X5_winningSlide_18_lp n v) :=
  Sim.lp (V := Int32 × Int32 × zHp) (Lf := fun v => [(0, .ref 161), (1, .int v.1), (2, .int v.2.1)]) (sf := fun v => []) (hf := fun v => v.2.2) (fun k18 H18 v => f_X5_winningSlide_18_s k18 H18 v.1 v.2.1 v.2.2) n v
def f_X5_winningSlide   (h : zHp) : Option (Int32 × zHp) := zlt (h 37 1) fun x1 => (f_X5_sortCoins x1 h).bind fun x2 => f_X5_winningSlide_18_lp  zN (x1, (0 : Int32), x2)
set_option maxHeartbeats 4000000 in
set_option maxRecDepth 100000 in
theorem s_X5_winningSlide   (h : zHp) : Fn wX mX5_winningSlide 2 rI [.ref 161] h (f_X5_winningSlide  h) := by
  refine Fn.of rfl (Nat.le_of_ble_eq_true rfl) ?_
  unfold f_X5_winningSlide
  refine Sim.aload_n 0 dX5_winningSlide_0 rfl ?_
  refine Sim.getR (j := 26) fl_X5_24 dX5_winningSlide_1 xR_161_0 ?_
  refine Sim.getR (j := 37) fl_X5_113 dX5_winningSlide_4 (xR_X8_5 _ xL_X8_26) ?_
  refine Sim.getI fl_X5_34 dX5_winningSlide_7 (xI_X7_1 _ xL_X7_37) ?_
  refine Sim.lti (fun x1 => ?_)
  refine Sim.istore_n (L' := [(1, .int x1), (0, .ref 161)]) dX5_winningSlide_10 (Nat.le_of_ble_eq_true rfl) rfl ?_
  refine Sim.aload_n 1 dX5_winningSlide_11 rfl ?_
  refine Sim.iload_n 0 dX5_winningSlide_12 rfl ?_
  refine Sim.callV1U (d1 := 1) (s_X5_sortCoins x1 h) dX5_winningSlide_13 ml_X5_116 mv_X5_sortCoins xO_X5 (Nat.le_of_ble_eq_true rfl) (Nat.le_of_ble_eq_true rfl) (Nat.le_of_ble_eq_true rfl) (fun x2 => ?_)
  refine Sim.iconst (v := (0 : Int32)) dX5_winningSlide_16 rfl ?_
  refine Sim.istore_n (L' := [(2, .int (0 : Int32)), (1, .int x1), (0, .ref 161)]) dX5_winningSlide_17 (Nat.le_of_ble_eq_true rfl) rfl ?_
  refine Sim.locs [2, 1, 0] rfl ?_
  exact f_X5_winningSlide_18_ls  zN (x1, (0 : Int32), x2)
theorem mv_X5_winningSlide : zMV mX5_winningSlide 0 := ⟨⟨zTb_in 1239 (by decide +kernel) rfl, zTb_in 147 (by decide +kernel) rfl, ⟨by decide +kernel, by decide +kernel⟩, by decide +kernel⟩, zTb_in 1237 (by decide +kernel) rfl, zTb_in 1238 (by decide +kernel) rfl⟩
-- ===== RockingPorch$Reader.hear(I)V
abbrev mX6_hear : zMt := (yX6_hear, cX6_hear, 3, none)
theorem fl_X6_15 : zF RX6 15 6 1 := ⟨RX6, TX6, 14, rfl, Nat.le_of_ble_eq_true rfl, zTb_in 430 (by decide +kernel) rfl, in_X6⟩
theorem fl_X6_9 : zF RX6 9 6 0 := ⟨RX6, TX6, 14, rfl, Nat.le_of_ble_eq_true rfl, zTb_in 429 (by decide +kernel) rfl, in_X6⟩
theorem fp_X6_15 : zFp RX6 15 6 1 .int := ⟨RX6, TX6, 14, tyX6, rfl, Nat.le_of_ble_eq_true rfl, zTb_in 430 (by decide +kernel) rfl, in_X6, tyX6_ok, nmX6, rfl, rfl⟩
theorem dX6_hear_0 : decode cX6_hear 0 = .ok (.bipush 24, 2) := by decide +kernel
theorem dX6_hear_2 : decode cX6_hear 2 = .ok (.istore_n 2, 1) := by decide +kernel
theorem dX6_hear_3 : decode cX6_hear 3 = .ok (.iload_n 2, 1) := by decide +kernel
theorem dX6_hear_4 : decode cX6_hear 4 = .ok (.ifCond .lt 46, 3) := by decide +kernel
theorem dX6_hear_7 : decode cX6_hear 7 = .ok (.aload_n 0, 1) := by decide +kernel
theorem dX6_hear_8 : decode cX6_hear 8 = .ok (.getfield 15, 3) := by decide +kernel
theorem dX6_hear_11 : decode cX6_hear 11 = .ok (.sipush 400, 3) := by decide +kernel
theorem dX6_hear_14 : decode cX6_hear 14 = .ok (.if_icmp .ge 30, 3) := by decide +kernel
theorem dX6_hear_17 : decode cX6_hear 17 = .ok (.aload_n 0, 1) := by decide +kernel
theorem dX6_hear_18 : decode cX6_hear 18 = .ok (.getfield 9, 3) := by decide +kernel
theorem dX6_hear_21 : decode cX6_hear 21 = .ok (.aload_n 0, 1) := by decide +kernel
theorem dX6_hear_22 : decode cX6_hear 22 = .ok (.getfield 15, 3) := by decide +kernel
theorem dX6_hear_25 : decode cX6_hear 25 = .ok (.iload_n 1, 1) := by decide +kernel
theorem dX6_hear_26 : decode cX6_hear 26 = .ok (.iload_n 2, 1) := by decide +kernel
theorem dX6_hear_27 : decode cX6_hear 27 = .ok (.iushr, 1) := by decide +kernel
theorem dX6_hear_28 : decode cX6_hear 28 = .ok (.sipush 255, 3) := by decide +kernel
theorem dX6_hear_31 : decode cX6_hear 31 = .ok (.iand, 1) := by decide +kernel
theorem dX6_hear_32 : decode cX6_hear 32 = .ok (.i2c, 1) := by decide +kernel
theorem dX6_hear_33 : decode cX6_hear 33 = .ok (.castore, 1) := by decide +kernel
theorem dX6_hear_34 : decode cX6_hear 34 = .ok (.aload_n 0, 1) := by decide +kernel
theorem dX6_hear_35 : decode cX6_hear 35 = .ok (.dup, 1) := by decide +kernel
theorem dX6_hear_36 : decode cX6_hear 36 = .ok (.getfield 15, 3) := by decide +kernel
theorem dX6_hear_39 : decode cX6_hear 39 = .ok (.iconst 1, 1) := by decide +kernel
theorem dX6_hear_40 : decode cX6_hear 40 = .ok (.iadd, 1) := by decide +kernel
theorem dX6_hear_41 : decode cX6_hear 41 = .ok (.putfield 15, 3) := by decide +kernel
theorem dX6_hear_44 : decode cX6_hear 44 = .ok (.iinc 2 (-8), 3) := by decide +kernel
theorem dX6_hear_47 : decode cX6_hear 47 = .ok (.goto (-44), 3) := by decide +kernel
theorem dX6_hear_50 : decode cX6_hear 50 = .ok (.return_, 1) := by decide +kernel
def f_X6_hear_3  (k3 : Int32 × Int32 × zHp → Option (zHp)) (v1 : Int32) (v2 : Int32) (h : zHp) : Option (zHp) := (if v2 < 0 then some h else (if (h 145 1) < (400 : Int32) then zix (h 145 1) 400 (zlt (zst h 146 (h 145 1).toNatClampNeg (vp_nar .char (((((v1.toUInt32 >>> (v2.toUInt32 &&& Int32.toUInt32 31)).toInt32) &&& (255 : Int32)).toUInt32 % 65536).toInt32))) fun h1 => zlt (zst h1 145 1 ((h1 145 1) + (1 : Int32))) fun h2 => k3 (v1, (v2 + (-8 : Int32)), h2)) else k3 (v1, (v2 + (-8 : Int32)), h)))
set_option maxHeartbeats 4000000 in
set_option maxRecDepth 100000 in
theorem f_X6_hear_3_s  (k3 : Int32 × Int32 × zHp → Option (zHp)) (H3 : ∀ v : Int32 × Int32 × zHp, Sim wX mX6_hear 0 rV 3 [(0, .ref 145), (1, .int v.1), (2, .int v.2.1)] [] v.2.2 (k3 v)) (v1 : Int32) (v2 : Int32) (h : zHp) : Sim wX mX6_hear 0 rV 3 [(0, .ref 145), (1, .int v1), (2, .int v2)] [] h (f_X6_hear_3 k3 v1 v2 h) := by
  unfold f_X6_hear_3
  refine Sim.iload_n 2 dX6_hear_3 rfl ?_
  refine Sim.if_lt 50 dX6_hear_4 rfl ?_ ?_
  · exact Sim.vret dX6_hear_50 rfl
  · refine Sim.aload_n 0 dX6_hear_7 rfl ?_
    refine Sim.getI fl_X6_15 dX6_hear_8 xI_145_1 ?_
    refine Sim.sipush (v := (400 : Int32)) dX6_hear_11 rfl ?_
    refine Sim.icmp_ge 44 dX6_hear_14 rfl ?_ ?_
    · refine Sim.aload_n 0 dX6_hear_17 rfl ?_
      refine Sim.getR (j := 146) fl_X6_9 dX6_hear_18 xR_145_0 ?_
      refine Sim.aload_n 0 dX6_hear_21 rfl ?_
      refine Sim.getI fl_X6_15 dX6_hear_22 xI_145_1 ?_
      refine Sim.iload_n 1 dX6_hear_25 rfl ?_
      refine Sim.iload_n 2 dX6_hear_26 rfl ?_
      refine Sim.iushr dX6_hear_27 ?_
      refine Sim.sipush (v := (255 : Int32)) dX6_hear_28 rfl ?_
      refine Sim.iand dX6_hear_31 ?_
      refine Sim.i2c dX6_hear_32 ?_
      refine Sim.cast (n := 400) dX6_hear_33 xA_146 ?_
      refine Sim.lth (fun h1 => ?_)
      refine Sim.aload_n 0 dX6_hear_34 rfl ?_
      refine Sim.dup dX6_hear_35 rfl ?_
      refine Sim.getI fl_X6_15 dX6_hear_36 xI_145_1 ?_
      refine Sim.iconst (v := (1 : Int32)) dX6_hear_39 rfl ?_
      refine Sim.iadd dX6_hear_40 ?_
      refine Sim.put fp_X6_15 dX6_hear_41 xI_145_1 rfl rfl ?_
      refine Sim.lth (fun h2 => ?_)
      refine Sim.iinc (L' := [(2, .int (v2 + (-8 : Int32))), (0, .ref 145), (1, .int v1)]) 2 dX6_hear_44 rfl rfl (Nat.le_of_ble_eq_true rfl) rfl ?_
      refine Sim.goto 3 dX6_hear_47 rfl ?_
      refine Sim.locs [1, 2, 0] rfl ?_
      exact H3 (v1, (v2 + (-8 : Int32)), h2)
    · refine Sim.iinc (L' := [(2, .int (v2 + (-8 : Int32))), (0, .ref 145), (1, .int v1)]) 2 dX6_hear_44 rfl rfl (Nat.le_of_ble_eq_true rfl) rfl ?_
      refine Sim.goto 3 dX6_hear_47 rfl ?_
      refine Sim.locs [1, 2, 0] rfl ?_
      exact H3 (v1, (v2 + (-8 : Int32)), h)
def f_X6_hear_3_lp   (n : Nat) (v : Int32 × Int32 × zHp) : Option (zHp) := zlp (fun k3 v => f_X6_hear_3 k3 v.1 v.2.1 v.2.2) n v
theorem f_X6_hear_3_ls  (n : Nat) (v : Int32 × Int32 × zHp) : Sim wX mX6_hear 0 rV 3 [(0, .ref 145), (1, .int v.1), (2, .int v.2.1)] [] v.2.2 (f_X6_hear_3_lp n v) :=
  Sim.lp (V := Int32 × Int32 × zHp) (Lf := fun v => [(0, .ref 145), (1, .int v.1), (2, .int v.2.1)]) (sf := fun v => []) (hf := fun v => v.2.2) (fun k3 H3 v => f_X6_hear_3_s k3 H3 v.1 v.2.1 v.2.2) n v
def f_X6_hear  (a1 : Int32) (h : zHp) : Option (zHp) := f_X6_hear_3_lp  zN (a1, (24 : Int32), h)
set_option maxHeartbeats 4000000 in
set_option maxRecDepth 100000 in
theorem s_X6_hear  (a1 : Int32) (h : zHp) : Fn wX mX6_hear 0 rV [.ref 145, .int a1] h (f_X6_hear a1 h) := by
  refine Fn.of rfl (Nat.le_of_ble_eq_true rfl) ?_
  unfold f_X6_hear
  refine Sim.bipush (v := (24 : Int32)) dX6_hear_0 rfl ?_
  refine Sim.istore_n (L' := [(2, .int (24 : Int32)), (0, .ref 145), (1, .int a1)]) dX6_hear_2 (Nat.le_of_ble_eq_true rfl) rfl ?_
  refine Sim.locs [1, 2, 0] rfl ?_
  exact f_X6_hear_3_ls  zN (a1, (24 : Int32), h)
theorem mv_X6_hear : zMV mX6_hear 1 := ⟨⟨zTb_in 755 (by decide +kernel) rfl, zTb_in 145 (by decide +kernel) rfl, ⟨by decide +kernel, by decide +kernel⟩, by decide +kernel⟩, zTb_in 753 (by decide +kernel) rfl, zTb_in 754 (by decide +kernel) rfl⟩
-- ===== RockingPorch$Reader.sortOf(C)I
abbrev mX6_sortOf : zMt := (yX6_sortOf, cX6_sortOf, 1, some .int)
theorem dX6_sortOf_0 : decode cX6_sortOf 0 = .ok (.iload_n 0, 1) := by decide +kernel
theorem dX6_sortOf_1 : decode cX6_sortOf 1 = .ok (.bipush 32, 2) := by decide +kernel
theorem dX6_sortOf_3 : decode cX6_sortOf 3 = .ok (.if_icmp .eq 9, 3) := by decide +kernel
theorem dX6_sortOf_6 : decode cX6_sortOf 6 = .ok (.iload_n 0, 1) := by decide +kernel
theorem dX6_sortOf_7 : decode cX6_sortOf 7 = .ok (.bipush 10, 2) := by decide +kernel
theorem dX6_sortOf_9 : decode cX6_sortOf 9 = .ok (.if_icmp .ne 5, 3) := by decide +kernel
theorem dX6_sortOf_12 : decode cX6_sortOf 12 = .ok (.iconst 0, 1) := by decide +kernel
theorem dX6_sortOf_13 : decode cX6_sortOf 13 = .ok (.ireturn, 1) := by decide +kernel
theorem dX6_sortOf_14 : decode cX6_sortOf 14 = .ok (.iload_n 0, 1) := by decide +kernel
theorem dX6_sortOf_15 : decode cX6_sortOf 15 = .ok (.bipush 97, 2) := by decide +kernel
theorem dX6_sortOf_17 : decode cX6_sortOf 17 = .ok (.if_icmp .lt 9, 3) := by decide +kernel
theorem dX6_sortOf_20 : decode cX6_sortOf 20 = .ok (.iload_n 0, 1) := by decide +kernel
theorem dX6_sortOf_21 : decode cX6_sortOf 21 = .ok (.bipush 122, 2) := by decide +kernel
theorem dX6_sortOf_23 : decode cX6_sortOf 23 = .ok (.if_icmp .le 15, 3) := by decide +kernel
theorem dX6_sortOf_26 : decode cX6_sortOf 26 = .ok (.iload_n 0, 1) := by decide +kernel
theorem dX6_sortOf_27 : decode cX6_sortOf 27 = .ok (.bipush 65, 2) := by decide +kernel
theorem dX6_sortOf_29 : decode cX6_sortOf 29 = .ok (.if_icmp .lt 11, 3) := by decide +kernel
theorem dX6_sortOf_32 : decode cX6_sortOf 32 = .ok (.iload_n 0, 1) := by decide +kernel
theorem dX6_sortOf_33 : decode cX6_sortOf 33 = .ok (.bipush 90, 2) := by decide +kernel
theorem dX6_sortOf_35 : decode cX6_sortOf 35 = .ok (.if_icmp .gt 5, 3) := by decide +kernel
theorem dX6_sortOf_38 : decode cX6_sortOf 38 = .ok (.iconst 1, 1) := by decide +kernel
theorem dX6_sortOf_39 : decode cX6_sortOf 39 = .ok (.ireturn, 1) := by decide +kernel
theorem dX6_sortOf_40 : decode cX6_sortOf 40 = .ok (.iload_n 0, 1) := by decide +kernel
theorem dX6_sortOf_41 : decode cX6_sortOf 41 = .ok (.bipush 48, 2) := by decide +kernel
theorem dX6_sortOf_43 : decode cX6_sortOf 43 = .ok (.if_icmp .lt 13, 3) := by decide +kernel
theorem dX6_sortOf_46 : decode cX6_sortOf 46 = .ok (.iload_n 0, 1) := by decide +kernel
theorem dX6_sortOf_47 : decode cX6_sortOf 47 = .ok (.bipush 57, 2) := by decide +kernel
theorem dX6_sortOf_49 : decode cX6_sortOf 49 = .ok (.if_icmp .gt 7, 3) := by decide +kernel
theorem dX6_sortOf_52 : decode cX6_sortOf 52 = .ok (.iconst 2, 1) := by decide +kernel
theorem dX6_sortOf_53 : decode cX6_sortOf 53 = .ok (.goto 4, 3) := by decide +kernel
theorem dX6_sortOf_56 : decode cX6_sortOf 56 = .ok (.iconst 3, 1) := by decide +kernel
theorem dX6_sortOf_57 : decode cX6_sortOf 57 = .ok (.ireturn, 1) := by decide +kernel
def f_X6_sortOf_40   (v0 : Int32) (h : zHp) : Option (Int32 × zHp) := (if v0 < (48 : Int32) then some ((3 : Int32), h) else (if (57 : Int32) < v0 then some ((3 : Int32), h) else some ((2 : Int32), h)))
set_option maxHeartbeats 4000000 in
set_option maxRecDepth 100000 in
theorem f_X6_sortOf_40_s  (v0 : Int32) (h : zHp) : Sim wX mX6_sortOf 0 rI 40 [(0, .int v0)] [] h (f_X6_sortOf_40 v0 h) := by
  unfold f_X6_sortOf_40
  refine Sim.iload_n 0 dX6_sortOf_40 rfl ?_
  refine Sim.bipush (v := (48 : Int32)) dX6_sortOf_41 rfl ?_
  refine Sim.icmp_lt 56 dX6_sortOf_43 rfl ?_ ?_
  · refine Sim.iconst (v := (3 : Int32)) dX6_sortOf_56 rfl ?_
    exact Sim.iret dX6_sortOf_57 rfl
  · refine Sim.iload_n 0 dX6_sortOf_46 rfl ?_
    refine Sim.bipush (v := (57 : Int32)) dX6_sortOf_47 rfl ?_
    refine Sim.icmp_gt 56 dX6_sortOf_49 rfl ?_ ?_
    · refine Sim.iconst (v := (3 : Int32)) dX6_sortOf_56 rfl ?_
      exact Sim.iret dX6_sortOf_57 rfl
    · refine Sim.iconst (v := (2 : Int32)) dX6_sortOf_52 rfl ?_
      refine Sim.goto 57 dX6_sortOf_53 rfl ?_
      exact Sim.iret dX6_sortOf_57 rfl
def f_X6_sortOf_26   (v0 : Int32) (h : zHp) : Option (Int32 × zHp) := (if v0 < (65 : Int32) then f_X6_sortOf_40 v0 h else (if (90 : Int32) < v0 then f_X6_sortOf_40 v0 h else some ((1 : Int32), h)))
set_option maxHeartbeats 4000000 in
set_option maxRecDepth 100000 in
theorem f_X6_sortOf_26_s  (v0 : Int32) (h : zHp) : Sim wX mX6_sortOf 0 rI 26 [(0, .int v0)] [] h (f_X6_sortOf_26 v0 h) := by
  unfold f_X6_sortOf_26
  refine Sim.iload_n 0 dX6_sortOf_26 rfl ?_
  refine Sim.bipush (v := (65 : Int32)) dX6_sortOf_27 rfl ?_
  refine Sim.icmp_lt 40 dX6_sortOf_29 rfl ?_ ?_
  · exact f_X6_sortOf_40_s v0 h
  · refine Sim.iload_n 0 dX6_sortOf_32 rfl ?_
    refine Sim.bipush (v := (90 : Int32)) dX6_sortOf_33 rfl ?_
    refine Sim.icmp_gt 40 dX6_sortOf_35 rfl ?_ ?_
    · exact f_X6_sortOf_40_s v0 h
    · refine Sim.iconst (v := (1 : Int32)) dX6_sortOf_38 rfl ?_
      exact Sim.iret dX6_sortOf_39 rfl
def f_X6_sortOf  (a1 : Int32) (h : zHp) : Option (Int32 × zHp) := (if a1 = (32 : Int32) then some ((0 : Int32), h) else (if a1 = (10 : Int32) then some ((0 : Int32), h) else (if a1 < (97 : Int32) then f_X6_sortOf_26 a1 h else (if (122 : Int32) < a1 then f_X6_sortOf_26 a1 h else some ((1 : Int32), h)))))
set_option maxHeartbeats 4000000 in
set_option maxRecDepth 100000 in
theorem s_X6_sortOf  (a1 : Int32) (h : zHp) : Fn wX mX6_sortOf 0 rI [.int a1] h (f_X6_sortOf a1 h) := by
  refine Fn.of rfl (Nat.le_of_ble_eq_true rfl) ?_
  unfold f_X6_sortOf
  refine Sim.iload_n 0 dX6_sortOf_0 rfl ?_
  refine Sim.bipush (v := (32 : Int32)) dX6_sortOf_1 rfl ?_
  refine Sim.icmp_eq 12 dX6_sortOf_3 rfl ?_ ?_
  · refine Sim.iconst (v := (0 : Int32)) dX6_sortOf_12 rfl ?_
    exact Sim.iret dX6_sortOf_13 rfl
  · refine Sim.iload_n 0 dX6_sortOf_6 rfl ?_
    refine Sim.bipush (v := (10 : Int32)) dX6_sortOf_7 rfl ?_
    refine Sim.icmp_ne 14 dX6_sortOf_9 rfl ?_ ?_
    · refine Sim.iconst (v := (0 : Int32)) dX6_sortOf_12 rfl ?_
      exact Sim.iret dX6_sortOf_13 rfl
    · refine Sim.iload_n 0 dX6_sortOf_14 rfl ?_
      refine Sim.bipush (v := (97 : Int32)) dX6_sortOf_15 rfl ?_
      refine Sim.icmp_lt 26 dX6_sortOf_17 rfl ?_ ?_
      · exact f_X6_sortOf_26_s a1 h
      · refine Sim.iload_n 0 dX6_sortOf_20 rfl ?_
        refine Sim.bipush (v := (122 : Int32)) dX6_sortOf_21 rfl ?_
        refine Sim.icmp_le 38 dX6_sortOf_23 rfl ?_ ?_
        · exact f_X6_sortOf_26_s a1 h
        · refine Sim.iconst (v := (1 : Int32)) dX6_sortOf_38 rfl ?_
          exact Sim.iret dX6_sortOf_39 rfl
theorem mv_X6_sortOf : zMS mX6_sortOf 1 := ⟨⟨zTb_in 778 (by decide +kernel) rfl, zTb_in 145 (by decide +kernel) rfl, ⟨by decide +kernel, by decide +kernel⟩, by decide +kernel⟩, zTb_in 777 (by decide +kernel) rfl⟩
-- ===== RockingPorch$Reader.put(III)V
abbrev mX6_put : zMt := (yX6_put, cX6_put, 4, none)
theorem fl_X6_19 : zF RX6 19 6 2 := ⟨RX6, TX6, 14, rfl, Nat.le_of_ble_eq_true rfl, zTb_in 432 (by decide +kernel) rfl, in_X6⟩
theorem fl_X6_23 : zF RX6 23 6 3 := ⟨RX6, TX6, 14, rfl, Nat.le_of_ble_eq_true rfl, zTb_in 433 (by decide +kernel) rfl, in_X6⟩
theorem fl_X6_26 : zF RX6 26 6 4 := ⟨RX6, TX6, 14, rfl, Nat.le_of_ble_eq_true rfl, zTb_in 434 (by decide +kernel) rfl, in_X6⟩
theorem fl_X6_29 : zF RX6 29 6 5 := ⟨RX6, TX6, 14, rfl, Nat.le_of_ble_eq_true rfl, zTb_in 435 (by decide +kernel) rfl, in_X6⟩
theorem fp_X6_29 : zFp RX6 29 6 5 .int := ⟨RX6, TX6, 14, tyX6, rfl, Nat.le_of_ble_eq_true rfl, zTb_in 435 (by decide +kernel) rfl, in_X6, tyX6_ok, nmX6, rfl, rfl⟩
theorem dX6_put_0 : decode cX6_put 0 = .ok (.aload_n 0, 1) := by decide +kernel
theorem dX6_put_1 : decode cX6_put 1 = .ok (.getfield 29, 3) := by decide +kernel
theorem dX6_put_4 : decode cX6_put 4 = .ok (.sipush 400, 3) := by decide +kernel
theorem dX6_put_7 : decode cX6_put 7 = .ok (.if_icmp .gt 43, 3) := by decide +kernel
theorem dX6_put_10 : decode cX6_put 10 = .ok (.aload_n 0, 1) := by decide +kernel
theorem dX6_put_11 : decode cX6_put 11 = .ok (.getfield 19, 3) := by decide +kernel
theorem dX6_put_14 : decode cX6_put 14 = .ok (.aload_n 0, 1) := by decide +kernel
theorem dX6_put_15 : decode cX6_put 15 = .ok (.getfield 29, 3) := by decide +kernel
theorem dX6_put_18 : decode cX6_put 18 = .ok (.iload_n 1, 1) := by decide +kernel
theorem dX6_put_19 : decode cX6_put 19 = .ok (.iastore, 1) := by decide +kernel
theorem dX6_put_20 : decode cX6_put 20 = .ok (.aload_n 0, 1) := by decide +kernel
theorem dX6_put_21 : decode cX6_put 21 = .ok (.getfield 23, 3) := by decide +kernel
theorem dX6_put_24 : decode cX6_put 24 = .ok (.aload_n 0, 1) := by decide +kernel
theorem dX6_put_25 : decode cX6_put 25 = .ok (.getfield 29, 3) := by decide +kernel
theorem dX6_put_28 : decode cX6_put 28 = .ok (.iload_n 2, 1) := by decide +kernel
theorem dX6_put_29 : decode cX6_put 29 = .ok (.iastore, 1) := by decide +kernel
theorem dX6_put_30 : decode cX6_put 30 = .ok (.aload_n 0, 1) := by decide +kernel
theorem dX6_put_31 : decode cX6_put 31 = .ok (.getfield 26, 3) := by decide +kernel
theorem dX6_put_34 : decode cX6_put 34 = .ok (.aload_n 0, 1) := by decide +kernel
theorem dX6_put_35 : decode cX6_put 35 = .ok (.getfield 29, 3) := by decide +kernel
theorem dX6_put_38 : decode cX6_put 38 = .ok (.iload_n 3, 1) := by decide +kernel
theorem dX6_put_39 : decode cX6_put 39 = .ok (.iastore, 1) := by decide +kernel
theorem dX6_put_40 : decode cX6_put 40 = .ok (.aload_n 0, 1) := by decide +kernel
theorem dX6_put_41 : decode cX6_put 41 = .ok (.dup, 1) := by decide +kernel
theorem dX6_put_42 : decode cX6_put 42 = .ok (.getfield 29, 3) := by decide +kernel
theorem dX6_put_45 : decode cX6_put 45 = .ok (.iconst 1, 1) := by decide +kernel
theorem dX6_put_46 : decode cX6_put 46 = .ok (.iadd, 1) := by decide +kernel
theorem dX6_put_47 : decode cX6_put 47 = .ok (.putfield 29, 3) := by decide +kernel
theorem dX6_put_50 : decode cX6_put 50 = .ok (.return_, 1) := by decide +kernel
def f_X6_put  (a1 : Int32) (a2 : Int32) (a3 : Int32) (h : zHp) : Option (zHp) := (if (400 : Int32) < (h 145 5) then some h else zix (h 145 5) 401 (zlt (zst h 147 (h 145 5).toNatClampNeg a1) fun h1 => zix (h1 145 5) 401 (zlt (zst h1 148 (h1 145 5).toNatClampNeg a2) fun h2 => zix (h2 145 5) 401 (zlt (zst h2 149 (h2 145 5).toNatClampNeg a3) fun h3 => zlt (zst h3 145 5 ((h3 145 5) + (1 : Int32))) fun h4 => some h4))))
set_option maxHeartbeats 4000000 in
set_option maxRecDepth 100000 in
theorem s_X6_put  (a1 : Int32) (a2 : Int32) (a3 : Int32) (h : zHp) : Fn wX mX6_put 0 rV [.ref 145, .int a1, .int a2, .int a3] h (f_X6_put a1 a2 a3 h) := by
  refine Fn.of rfl (Nat.le_of_ble_eq_true rfl) ?_
  unfold f_X6_put
  refine Sim.aload_n 0 dX6_put_0 rfl ?_
  refine Sim.getI fl_X6_29 dX6_put_1 xI_145_5 ?_
  refine Sim.sipush (v := (400 : Int32)) dX6_put_4 rfl ?_
  refine Sim.icmp_gt 50 dX6_put_7 rfl ?_ ?_
  · exact Sim.vret dX6_put_50 rfl
  · refine Sim.aload_n 0 dX6_put_10 rfl ?_
    refine Sim.getR (j := 147) fl_X6_19 dX6_put_11 xR_145_2 ?_
    refine Sim.aload_n 0 dX6_put_14 rfl ?_
    refine Sim.getI fl_X6_29 dX6_put_15 xI_145_5 ?_
    refine Sim.iload_n 1 dX6_put_18 rfl ?_
    refine Sim.iast (n := 401) dX6_put_19 xA_147 ?_
    refine Sim.lth (fun h1 => ?_)
    refine Sim.aload_n 0 dX6_put_20 rfl ?_
    refine Sim.getR (j := 148) fl_X6_23 dX6_put_21 xR_145_3 ?_
    refine Sim.aload_n 0 dX6_put_24 rfl ?_
    refine Sim.getI fl_X6_29 dX6_put_25 xI_145_5 ?_
    refine Sim.iload_n 2 dX6_put_28 rfl ?_
    refine Sim.iast (n := 401) dX6_put_29 xA_148 ?_
    refine Sim.lth (fun h2 => ?_)
    refine Sim.aload_n 0 dX6_put_30 rfl ?_
    refine Sim.getR (j := 149) fl_X6_26 dX6_put_31 xR_145_4 ?_
    refine Sim.aload_n 0 dX6_put_34 rfl ?_
    refine Sim.getI fl_X6_29 dX6_put_35 xI_145_5 ?_
    refine Sim.iload_n 3 dX6_put_38 rfl ?_
    refine Sim.iast (n := 401) dX6_put_39 xA_149 ?_
    refine Sim.lth (fun h3 => ?_)
    refine Sim.aload_n 0 dX6_put_40 rfl ?_
    refine Sim.dup dX6_put_41 rfl ?_
    refine Sim.getI fl_X6_29 dX6_put_42 xI_145_5 ?_
    refine Sim.iconst (v := (1 : Int32)) dX6_put_45 rfl ?_
    refine Sim.iadd dX6_put_46 ?_
    refine Sim.put fp_X6_29 dX6_put_47 xI_145_5 rfl rfl ?_
    refine Sim.lth (fun h4 => ?_)
    exact Sim.vret dX6_put_50 rfl
theorem mv_X6_put : zMV mX6_put 3 := ⟨⟨zTb_in 869 (by decide +kernel) rfl, zTb_in 145 (by decide +kernel) rfl, ⟨by decide +kernel, by decide +kernel⟩, by decide +kernel⟩, zTb_in 868 (by decide +kernel) rfl, zTb_in 13 (by decide +kernel) rfl⟩
-- ===== RockingPorch$Reader.wordOf(II)I
abbrev mX6_wordOf : zMt := (yX6_wordOf, cX6_wordOf, 8, some .int)
theorem ml_X6_122 : Cond.methodLink RX6 122 yJ0_length_8abf5 ∈ zTb := zTb_in 875 (by decide +kernel) rfl
theorem ml_X6_126 : Cond.methodLink RX6 126 yJ0_charAt_5068e ∈ zTb := zTb_in 876 (by decide +kernel) rfl
theorem dX6_wordOf_0 : decode cX6_wordOf 0 = .ok (.iconst 0, 1) := by decide +kernel
theorem dX6_wordOf_1 : decode cX6_wordOf 1 = .ok (.istore_n 3, 1) := by decide +kernel
theorem dX6_wordOf_2 : decode cX6_wordOf 2 = .ok (.iload_n 1, 1) := by decide +kernel
theorem dX6_wordOf_3 : decode cX6_wordOf 3 = .ok (.istore 4, 2) := by decide +kernel
theorem dX6_wordOf_5 : decode cX6_wordOf 5 = .ok (.iconst 1, 1) := by decide +kernel
theorem dX6_wordOf_6 : decode cX6_wordOf 6 = .ok (.istore 5, 2) := by decide +kernel
theorem dX6_wordOf_8 : decode cX6_wordOf 8 = .ok (.iconst 0, 1) := by decide +kernel
theorem dX6_wordOf_9 : decode cX6_wordOf 9 = .ok (.istore 6, 2) := by decide +kernel
theorem dX6_wordOf_11 : decode cX6_wordOf 11 = .ok (.iload 6, 2) := by decide +kernel
theorem dX6_wordOf_13 : decode cX6_wordOf 13 = .ok (.ldc 120, 2) := by decide +kernel
theorem dX6_wordOf_15 : decode cX6_wordOf 15 = .ok (.invokevirtual 122, 3) := by decide +kernel
theorem dX6_wordOf_18 : decode cX6_wordOf 18 = .ok (.if_icmp .gt 98, 3) := by decide +kernel
theorem dX6_wordOf_21 : decode cX6_wordOf 21 = .ok (.iload 6, 2) := by decide +kernel
theorem dX6_wordOf_23 : decode cX6_wordOf 23 = .ok (.ldc 120, 2) := by decide +kernel
theorem dX6_wordOf_25 : decode cX6_wordOf 25 = .ok (.invokevirtual 122, 3) := by decide +kernel
theorem dX6_wordOf_28 : decode cX6_wordOf 28 = .ok (.if_icmp .ge 13, 3) := by decide +kernel
theorem dX6_wordOf_31 : decode cX6_wordOf 31 = .ok (.ldc 120, 2) := by decide +kernel
theorem dX6_wordOf_33 : decode cX6_wordOf 33 = .ok (.iload 6, 2) := by decide +kernel
theorem dX6_wordOf_35 : decode cX6_wordOf 35 = .ok (.invokevirtual 126, 3) := by decide +kernel
theorem dX6_wordOf_38 : decode cX6_wordOf 38 = .ok (.goto 5, 3) := by decide +kernel
theorem dX6_wordOf_41 : decode cX6_wordOf 41 = .ok (.bipush 32, 2) := by decide +kernel
theorem dX6_wordOf_43 : decode cX6_wordOf 43 = .ok (.istore 7, 2) := by decide +kernel
theorem dX6_wordOf_45 : decode cX6_wordOf 45 = .ok (.iload 7, 2) := by decide +kernel
theorem dX6_wordOf_47 : decode cX6_wordOf 47 = .ok (.bipush 32, 2) := by decide +kernel
theorem dX6_wordOf_49 : decode cX6_wordOf 49 = .ok (.if_icmp .eq 39, 3) := by decide +kernel
theorem dX6_wordOf_52 : decode cX6_wordOf 52 = .ok (.iload 5, 2) := by decide +kernel
theorem dX6_wordOf_54 : decode cX6_wordOf 54 = .ok (.ifCond .eq 25, 3) := by decide +kernel
theorem dX6_wordOf_57 : decode cX6_wordOf 57 = .ok (.iload 4, 2) := by decide +kernel
theorem dX6_wordOf_59 : decode cX6_wordOf 59 = .ok (.iload_n 2, 1) := by decide +kernel
theorem dX6_wordOf_60 : decode cX6_wordOf 60 = .ok (.if_icmp .ge 19, 3) := by decide +kernel
theorem dX6_wordOf_63 : decode cX6_wordOf 63 = .ok (.aload_n 0, 1) := by decide +kernel
theorem dX6_wordOf_64 : decode cX6_wordOf 64 = .ok (.getfield 9, 3) := by decide +kernel
theorem dX6_wordOf_67 : decode cX6_wordOf 67 = .ok (.iload 4, 2) := by decide +kernel
theorem dX6_wordOf_69 : decode cX6_wordOf 69 = .ok (.caload, 1) := by decide +kernel
theorem dX6_wordOf_70 : decode cX6_wordOf 70 = .ok (.iload 7, 2) := by decide +kernel
theorem dX6_wordOf_72 : decode cX6_wordOf 72 = .ok (.if_icmp .ne 7, 3) := by decide +kernel
theorem dX6_wordOf_75 : decode cX6_wordOf 75 = .ok (.iconst 1, 1) := by decide +kernel
theorem dX6_wordOf_76 : decode cX6_wordOf 76 = .ok (.goto 4, 3) := by decide +kernel
theorem dX6_wordOf_79 : decode cX6_wordOf 79 = .ok (.iconst 0, 1) := by decide +kernel
theorem dX6_wordOf_80 : decode cX6_wordOf 80 = .ok (.istore 5, 2) := by decide +kernel
theorem dX6_wordOf_82 : decode cX6_wordOf 82 = .ok (.iinc 4 1, 3) := by decide +kernel
theorem dX6_wordOf_85 : decode cX6_wordOf 85 = .ok (.goto 25, 3) := by decide +kernel
theorem dX6_wordOf_88 : decode cX6_wordOf 88 = .ok (.iload 5, 2) := by decide +kernel
theorem dX6_wordOf_90 : decode cX6_wordOf 90 = .ok (.ifCond .eq 11, 3) := by decide +kernel
theorem dX6_wordOf_93 : decode cX6_wordOf 93 = .ok (.iload 4, 2) := by decide +kernel
theorem dX6_wordOf_95 : decode cX6_wordOf 95 = .ok (.iload_n 2, 1) := by decide +kernel
theorem dX6_wordOf_96 : decode cX6_wordOf 96 = .ok (.if_icmp .ne 5, 3) := by decide +kernel
theorem dX6_wordOf_99 : decode cX6_wordOf 99 = .ok (.iload_n 3, 1) := by decide +kernel
theorem dX6_wordOf_100 : decode cX6_wordOf 100 = .ok (.ireturn, 1) := by decide +kernel
theorem dX6_wordOf_101 : decode cX6_wordOf 101 = .ok (.iinc 3 1, 3) := by decide +kernel
theorem dX6_wordOf_104 : decode cX6_wordOf 104 = .ok (.iload_n 1, 1) := by decide +kernel
theorem dX6_wordOf_105 : decode cX6_wordOf 105 = .ok (.istore 4, 2) := by decide +kernel
theorem dX6_wordOf_107 : decode cX6_wordOf 107 = .ok (.iconst 1, 1) := by decide +kernel
theorem dX6_wordOf_108 : decode cX6_wordOf 108 = .ok (.istore 5, 2) := by decide +kernel
theorem dX6_wordOf_110 : decode cX6_wordOf 110 = .ok (.iinc 6 1, 3) := by decide +kernel
theorem dX6_wordOf_113 : decode cX6_wordOf 113 = .ok (.goto (-102), 3) := by decide +kernel
theorem dX6_wordOf_116 : decode cX6_wordOf 116 = .ok (.bipush 35, 2) := by decide +kernel
theorem dX6_wordOf_118 : decode cX6_wordOf 118 = .ok (.ireturn, 1) := by decide +kernel
def f_X6_wordOf_101  (k11 : Int32 × Int32 × Int32 × Int32 × Int32 × Int32 × zHp → Option (Int32 × zHp)) (v1 : Int32) (v2 : Int32) (v3 : Int32) (v6 : Int32) (h : zHp) : Option (Int32 × zHp) := k11 (v1, v2, (v3 + (1 : Int32)), v1, (1 : Int32), (v6 + (1 : Int32)), h)
set_option maxHeartbeats 4000000 in
set_option maxRecDepth 100000 in
theorem f_X6_wordOf_101_s  (k11 : Int32 × Int32 × Int32 × Int32 × Int32 × Int32 × zHp → Option (Int32 × zHp)) (H11 : ∀ v : Int32 × Int32 × Int32 × Int32 × Int32 × Int32 × zHp, Sim wX mX6_wordOf 4 rI 11 [(0, .ref 145), (1, .int v.1), (2, .int v.2.1), (3, .int v.2.2.1), (4, .int v.2.2.2.1), (5, .int v.2.2.2.2.1), (6, .int v.2.2.2.2.2.1)] [] v.2.2.2.2.2.2 (k11 v)) (v1 : Int32) (v2 : Int32) (v3 : Int32) (v6 : Int32) (h : zHp) : Sim wX mX6_wordOf 4 rI 101 [(0, .ref 145), (1, .int v1), (2, .int v2), (3, .int v3), (6, .int v6)] [] h (f_X6_wordOf_101 k11 v1 v2 v3 v6 h) := by
  unfold f_X6_wordOf_101
  refine Sim.iinc (L' := [(3, .int (v3 + (1 : Int32))), (0, .ref 145), (1, .int v1), (2, .int v2), (6, .int v6)]) 3 dX6_wordOf_101 rfl rfl (Nat.le_of_ble_eq_true rfl) rfl ?_
  refine Sim.iload_n 2 dX6_wordOf_104 rfl ?_
  refine Sim.istore (L' := [(4, .int v1), (3, .int (v3 + (1 : Int32))), (0, .ref 145), (1, .int v1), (2, .int v2), (6, .int v6)]) dX6_wordOf_105 (Nat.le_of_ble_eq_true rfl) rfl ?_
  refine Sim.iconst (v := (1 : Int32)) dX6_wordOf_107 rfl ?_
  refine Sim.istore (L' := [(5, .int (1 : Int32)), (4, .int v1), (3, .int (v3 + (1 : Int32))), (0, .ref 145), (1, .int v1), (2, .int v2), (6, .int v6)]) dX6_wordOf_108 (Nat.le_of_ble_eq_true rfl) rfl ?_
  refine Sim.iinc (L' := [(6, .int (v6 + (1 : Int32))), (5, .int (1 : Int32)), (4, .int v1), (3, .int (v3 + (1 : Int32))), (0, .ref 145), (1, .int v1), (2, .int v2)]) 6 dX6_wordOf_110 rfl rfl (Nat.le_of_ble_eq_true rfl) rfl ?_
  refine Sim.goto 11 dX6_wordOf_113 rfl ?_
  refine Sim.locs [4, 5, 6, 3, 2, 1, 0] rfl ?_
  exact H11 (v1, v2, (v3 + (1 : Int32)), v1, (1 : Int32), (v6 + (1 : Int32)), h)
def f_X6_wordOf_80  (k11 : Int32 × Int32 × Int32 × Int32 × Int32 × Int32 × zHp → Option (Int32 × zHp)) (v1 : Int32) (v2 : Int32) (v3 : Int32) (v4 : Int32) (v6 : Int32) (s0 : Int32) (h : zHp) : Option (Int32 × zHp) := k11 (v1, v2, v3, (v4 + (1 : Int32)), s0, (v6 + (1 : Int32)), h)
set_option maxHeartbeats 4000000 in
set_option maxRecDepth 100000 in
theorem f_X6_wordOf_80_s  (k11 : Int32 × Int32 × Int32 × Int32 × Int32 × Int32 × zHp → Option (Int32 × zHp)) (H11 : ∀ v : Int32 × Int32 × Int32 × Int32 × Int32 × Int32 × zHp, Sim wX mX6_wordOf 4 rI 11 [(0, .ref 145), (1, .int v.1), (2, .int v.2.1), (3, .int v.2.2.1), (4, .int v.2.2.2.1), (5, .int v.2.2.2.2.1), (6, .int v.2.2.2.2.2.1)] [] v.2.2.2.2.2.2 (k11 v)) (v1 : Int32) (v2 : Int32) (v3 : Int32) (v4 : Int32) (v6 : Int32) (s0 : Int32) (h : zHp) : Sim wX mX6_wordOf 4 rI 80 [(0, .ref 145), (1, .int v1), (2, .int v2), (3, .int v3), (4, .int v4), (6, .int v6)] [.int s0] h (f_X6_wordOf_80 k11 v1 v2 v3 v4 v6 s0 h) := by
  unfold f_X6_wordOf_80
  refine Sim.istore (L' := [(5, .int s0), (0, .ref 145), (1, .int v1), (2, .int v2), (3, .int v3), (4, .int v4), (6, .int v6)]) dX6_wordOf_80 (Nat.le_of_ble_eq_true rfl) rfl ?_
  refine Sim.iinc (L' := [(4, .int (v4 + (1 : Int32))), (5, .int s0), (0, .ref 145), (1, .int v1), (2, .int v2), (3, .int v3), (6, .int v6)]) 5 dX6_wordOf_82 rfl rfl (Nat.le_of_ble_eq_true rfl) rfl ?_
  refine Sim.goto 110 dX6_wordOf_85 rfl ?_
  refine Sim.iinc (L' := [(6, .int (v6 + (1 : Int32))), (4, .int (v4 + (1 : Int32))), (5, .int s0), (0, .ref 145), (1, .int v1), (2, .int v2), (3, .int v3)]) 6 dX6_wordOf_110 rfl rfl (Nat.le_of_ble_eq_true rfl) rfl ?_
  refine Sim.goto 11 dX6_wordOf_113 rfl ?_
  refine Sim.locs [3, 4, 5, 6, 1, 2, 0] rfl ?_
  exact H11 (v1, v2, v3, (v4 + (1 : Int32)), s0, (v6 + (1 : Int32)), h)
def f_X6_wordOf_43  (k11 : Int32 × Int32 × Int32 × Int32 × Int32 × Int32 × zHp → Option (Int32 × zHp)) (v1 : Int32) (v2 : Int32) (v3 : Int32) (v4 : Int32) (v5 : Int32) (v6 : Int32) (s0 : Int32) (h : zHp) : Option (Int32 × zHp) := (if s0 = (32 : Int32) then (if v5 = 0 then f_X6_wordOf_101 k11 v1 v2 v3 v6 h else (if v4 = v2 then some (v3, h) else f_X6_wordOf_101 k11 v1 v2 v3 v6 h)) else (if v5 = 0 then f_X6_wordOf_80 k11 v1 v2 v3 v4 v6 (0 : Int32) h else (if v4 < v2 then zix v4 400 ((if (h 146 v4.toNatClampNeg) = s0 then f_X6_wordOf_80 k11 v1 v2 v3 v4 v6 (1 : Int32) h else f_X6_wordOf_80 k11 v1 v2 v3 v4 v6 (0 : Int32) h)) else f_X6_wordOf_80 k11 v1 v2 v3 v4 v6 (0 : Int32) h)))
set_option maxHeartbeats 4000000 in
set_option maxRecDepth 100000 in
theorem f_X6_wordOf_43_s  (k11 : Int32 × Int32 × Int32 × Int32 × Int32 × Int32 × zHp → Option (Int32 × zHp)) (H11 : ∀ v : Int32 × Int32 × Int32 × Int32 × Int32 × Int32 × zHp, Sim wX mX6_wordOf 4 rI 11 [(0, .ref 145), (1, .int v.1), (2, .int v.2.1), (3, .int v.2.2.1), (4, .int v.2.2.2.1), (5, .int v.2.2.2.2.1), (6, .int v.2.2.2.2.2.1)] [] v.2.2.2.2.2.2 (k11 v)) (v1 : Int32) (v2 : Int32) (v3 : Int32) (v4 : Int32) (v5 : Int32) (v6 : Int32) (s0 : Int32) (h : zHp) : Sim wX mX6_wordOf 4 rI 43 [(0, .ref 145), (1, .int v1), (2, .int v2), (3, .int v3), (4, .int v4), (5, .int v5), (6, .int v6)] [.int s0] h (f_X6_wordOf_43 k11 v1 v2 v3 v4 v5 v6 s0 h) := by
  unfold f_X6_wordOf_43
  refine Sim.istore (L' := [(7, .int s0), (0, .ref 145), (1, .int v1), (2, .int v2), (3, .int v3), (4, .int v4), (5, .int v5), (6, .int v6)]) dX6_wordOf_43 (Nat.le_of_ble_eq_true rfl) rfl ?_
  refine Sim.iload 0 dX6_wordOf_45 rfl ?_
  refine Sim.bipush (v := (32 : Int32)) dX6_wordOf_47 rfl ?_
  refine Sim.icmp_eq 88 dX6_wordOf_49 rfl ?_ ?_
  · refine Sim.iload 6 dX6_wordOf_88 rfl ?_
    refine Sim.if_eq 101 dX6_wordOf_90 rfl ?_ ?_
    · refine Sim.locs [1, 2, 3, 4, 7] rfl ?_
      exact f_X6_wordOf_101_s k11 H11 v1 v2 v3 v6 h
    · refine Sim.iload 5 dX6_wordOf_93 rfl ?_
      refine Sim.iload_n 3 dX6_wordOf_95 rfl ?_
      refine Sim.icmp_ne 101 dX6_wordOf_96 rfl ?_ ?_
      · refine Sim.iload_n 4 dX6_wordOf_99 rfl ?_
        exact Sim.iret dX6_wordOf_100 rfl
      · refine Sim.locs [1, 2, 3, 4, 7] rfl ?_
        exact f_X6_wordOf_101_s k11 H11 v1 v2 v3 v6 h
  · refine Sim.iload 6 dX6_wordOf_52 rfl ?_
    refine Sim.if_eq 79 dX6_wordOf_54 rfl ?_ ?_
    · refine Sim.iconst (v := (0 : Int32)) dX6_wordOf_79 rfl ?_
      refine Sim.locs [1, 2, 3, 4, 5, 7] rfl ?_
      exact f_X6_wordOf_80_s k11 H11 v1 v2 v3 v4 v6 (0 : Int32) h
    · refine Sim.iload 5 dX6_wordOf_57 rfl ?_
      refine Sim.iload_n 3 dX6_wordOf_59 rfl ?_
      refine Sim.icmp_ge 79 dX6_wordOf_60 rfl ?_ ?_
      · refine Sim.aload_n 1 dX6_wordOf_63 rfl ?_
        refine Sim.getR (j := 146) fl_X6_9 dX6_wordOf_64 xR_145_0 ?_
        refine Sim.iload 5 dX6_wordOf_67 rfl ?_
        refine Sim.cald (n := 400) dX6_wordOf_69 xA_146 ?_
        refine Sim.iload 0 dX6_wordOf_70 rfl ?_
        refine Sim.icmp_ne 79 dX6_wordOf_72 rfl ?_ ?_
        · refine Sim.iconst (v := (1 : Int32)) dX6_wordOf_75 rfl ?_
          refine Sim.goto 80 dX6_wordOf_76 rfl ?_
          refine Sim.locs [1, 2, 3, 4, 5, 7] rfl ?_
          exact f_X6_wordOf_80_s k11 H11 v1 v2 v3 v4 v6 (1 : Int32) h
        · refine Sim.iconst (v := (0 : Int32)) dX6_wordOf_79 rfl ?_
          refine Sim.locs [1, 2, 3, 4, 5, 7] rfl ?_
          exact f_X6_wordOf_80_s k11 H11 v1 v2 v3 v4 v6 (0 : Int32) h
      · refine Sim.iconst (v := (0 : Int32)) dX6_wordOf_79 rfl ?_
        refine Sim.locs [1, 2, 3, 4, 5, 7] rfl ?_
        exact f_X6_wordOf_80_s k11 H11 v1 v2 v3 v4 v6 (0 : Int32) h
def f_X6_wordOf_11  (k11 : Int32 × Int32 × Int32 × Int32 × Int32 × Int32 × zHp → Option (Int32 × zHp)) (v1 : Int32) (v2 : Int32) (v3 : Int32) (v4 : Int32) (v5 : Int32) (v6 : Int32) (h : zHp) : Option (Int32 × zHp) := (f_J0_length_8abf5 1 h).bind fun x1 => (if x1.1 < v6 then some ((35 : Int32), x1.2) else (f_J0_length_8abf5 1 x1.2).bind fun x2 => (if v6 < x2.1 then (f_J0_charAt_5068e 1 v6 x2.2).bind fun x3 => f_X6_wordOf_43 k11 v1 v2 v3 v4 v5 v6 x3.1 x3.2 else f_X6_wordOf_43 k11 v1 v2 v3 v4 v5 v6 (32 : Int32) x2.2))
set_option maxHeartbeats 4000000 in
set_option maxRecDepth 100000 in
theorem f_X6_wordOf_11_s  (k11 : Int32 × Int32 × Int32 × Int32 × Int32 × Int32 × zHp → Option (Int32 × zHp)) (H11 : ∀ v : Int32 × Int32 × Int32 × Int32 × Int32 × Int32 × zHp, Sim wX mX6_wordOf 4 rI 11 [(0, .ref 145), (1, .int v.1), (2, .int v.2.1), (3, .int v.2.2.1), (4, .int v.2.2.2.1), (5, .int v.2.2.2.2.1), (6, .int v.2.2.2.2.2.1)] [] v.2.2.2.2.2.2 (k11 v)) (v1 : Int32) (v2 : Int32) (v3 : Int32) (v4 : Int32) (v5 : Int32) (v6 : Int32) (h : zHp) : Sim wX mX6_wordOf 4 rI 11 [(0, .ref 145), (1, .int v1), (2, .int v2), (3, .int v3), (4, .int v4), (5, .int v5), (6, .int v6)] [] h (f_X6_wordOf_11 k11 v1 v2 v3 v4 v5 v6 h) := by
  unfold f_X6_wordOf_11
  refine Sim.iload 6 dX6_wordOf_11 rfl ?_
  refine Sim.ldcS1001 rfl dX6_wordOf_13 ?_
  refine Sim.callT0I (i := 1) (d1 := 1) (s_J0_length_8abf5 1 (Nat.le_of_ble_eq_true rfl) h) dX6_wordOf_15 ml_X6_122 mv_J0_length_8abf5 (Nat.le_of_ble_eq_true rfl) rfl (Nat.le_of_ble_eq_true rfl) (Nat.le_of_ble_eq_true rfl) (Nat.le_of_ble_eq_true rfl) (fun x1 => ?_)
  refine Sim.icmp_gt 116 dX6_wordOf_18 rfl ?_ ?_
  · refine Sim.bipush (v := (35 : Int32)) dX6_wordOf_116 rfl ?_
    exact Sim.iret dX6_wordOf_118 rfl
  · refine Sim.iload 6 dX6_wordOf_21 rfl ?_
    refine Sim.ldcS1001 rfl dX6_wordOf_23 ?_
    refine Sim.callT0I (i := 1) (d1 := 1) (s_J0_length_8abf5 1 (Nat.le_of_ble_eq_true rfl) x1.2) dX6_wordOf_25 ml_X6_122 mv_J0_length_8abf5 (Nat.le_of_ble_eq_true rfl) rfl (Nat.le_of_ble_eq_true rfl) (Nat.le_of_ble_eq_true rfl) (Nat.le_of_ble_eq_true rfl) (fun x2 => ?_)
    refine Sim.icmp_ge 41 dX6_wordOf_28 rfl ?_ ?_
    · refine Sim.ldcS1001 rfl dX6_wordOf_31 ?_
      refine Sim.iload 6 dX6_wordOf_33 rfl ?_
      refine Sim.callT1I (i := 1) (d1 := 3) (s_J0_charAt_5068e 1 (Nat.le_of_ble_eq_true rfl) v6 x2.2) dX6_wordOf_35 ml_X6_126 mv_J0_charAt_5068e (Nat.le_of_ble_eq_true rfl) rfl (Nat.le_of_ble_eq_true rfl) (Nat.le_of_ble_eq_true rfl) (Nat.le_of_ble_eq_true rfl) (fun x3 => ?_)
      refine Sim.goto 43 dX6_wordOf_38 rfl ?_
      exact f_X6_wordOf_43_s k11 H11 v1 v2 v3 v4 v5 v6 x3.1 x3.2
    · refine Sim.bipush (v := (32 : Int32)) dX6_wordOf_41 rfl ?_
      exact f_X6_wordOf_43_s k11 H11 v1 v2 v3 v4 v5 v6 (32 : Int32) x2.2
def f_X6_wordOf_11_lp   (n : Nat) (v : Int32 × Int32 × Int32 × Int32 × Int32 × Int32 × zHp) : Option (Int32 × zHp) := zlp (fun k11 v => f_X6_wordOf_11 k11 v.1 v.2.1 v.2.2.1 v.2.2.2.1 v.2.2.2.2.1 v.2.2.2.2.2.1 v.2.2.2.2.2.2) n v
theorem f_X6_wordOf_11_ls  (n : Nat) (v : Int32 × Int32 × Int32 × Int32 × Int32 × Int32 × zHp) : Sim wX mX6_wordOf 4 rI 11 [(0, .ref 145), (1, .int v.1), (2, .int v.2.1), (3, .int v.2.2.1), (4, .int v.2.2.2.1), (5, .int v.2.2.2.2.1), (6, .int v.2.2.2.2.2.1)] [] v.2.2.2.2.2.2 (f_X6_wordOf_11_lp n v) :=
  Sim.lp (V := Int32 × Int32 × Int32 × Int32 × Int32 × Int32 × zHp) (Lf := fun v => [(0, .ref 145), (1, .int v.1), (2, .int v.2.1), (3, .int v.2.2.1), (4, .int v.2.2.2.1), (5, .int v.2.2.2.2.1), (6, .int v.2.2.2.2.2.1)]) (sf := fun v => []) (hf := fun v => v.2.2.2.2.2.2) (fun k11 H11 v => f_X6_wordOf_11_s k11 H11 v.1 v.2.1 v.2.2.1 v.2.2.2.1 v.2.2.2.2.1 v.2.2.2.2.2.1 v.2.2.2.2.2.2) n v
def f_X6_wordOf  (a1 : Int32) (a2 : Int32) (h : zHp) : Option (Int32 × zHp) := f_X6_wordOf_11_lp  zN (a1, a2, (0 : Int32), a1, (1 : Int32), (0 : Int32), h)
set_option maxHeartbeats 4000000 in
set_option maxRecDepth 100000 in
theorem s_X6_wordOf  (a1 : Int32) (a2 : Int32) (h : zHp) : Fn wX mX6_wordOf 4 rI [.ref 145, .int a1, .int a2] h (f_X6_wordOf a1 a2 h) := by
  refine Fn.of rfl (Nat.le_of_ble_eq_true rfl) ?_
  unfold f_X6_wordOf
  refine Sim.iconst (v := (0 : Int32)) dX6_wordOf_0 rfl ?_
  refine Sim.istore_n (L' := [(3, .int (0 : Int32)), (0, .ref 145), (1, .int a1), (2, .int a2)]) dX6_wordOf_1 (Nat.le_of_ble_eq_true rfl) rfl ?_
  refine Sim.iload_n 2 dX6_wordOf_2 rfl ?_
  refine Sim.istore (L' := [(4, .int a1), (3, .int (0 : Int32)), (0, .ref 145), (1, .int a1), (2, .int a2)]) dX6_wordOf_3 (Nat.le_of_ble_eq_true rfl) rfl ?_
  refine Sim.iconst (v := (1 : Int32)) dX6_wordOf_5 rfl ?_
  refine Sim.istore (L' := [(5, .int (1 : Int32)), (4, .int a1), (3, .int (0 : Int32)), (0, .ref 145), (1, .int a1), (2, .int a2)]) dX6_wordOf_6 (Nat.le_of_ble_eq_true rfl) rfl ?_
  refine Sim.iconst (v := (0 : Int32)) dX6_wordOf_8 rfl ?_
  refine Sim.istore (L' := [(6, .int (0 : Int32)), (5, .int (1 : Int32)), (4, .int a1), (3, .int (0 : Int32)), (0, .ref 145), (1, .int a1), (2, .int a2)]) dX6_wordOf_9 (Nat.le_of_ble_eq_true rfl) rfl ?_
  refine Sim.locs [4, 5, 6, 3, 2, 1, 0] rfl ?_
  exact f_X6_wordOf_11_ls  zN (a1, a2, (0 : Int32), a1, (1 : Int32), (0 : Int32), h)
theorem mv_X6_wordOf : zMV mX6_wordOf 2 := ⟨⟨zTb_in 873 (by decide +kernel) rfl, zTb_in 145 (by decide +kernel) rfl, ⟨by decide +kernel, by decide +kernel⟩, by decide +kernel⟩, zTb_in 872 (by decide +kernel) rfl, zTb_in 14 (by decide +kernel) rfl⟩
-- ===== RockingPorch$Reader.digits(II)I
abbrev mX6_digits : zMt := (yX6_digits, cX6_digits, 5, some .int)
theorem dX6_digits_0 : decode cX6_digits 0 = .ok (.iconst 0, 1) := by decide +kernel
theorem dX6_digits_1 : decode cX6_digits 1 = .ok (.istore_n 3, 1) := by decide +kernel
theorem dX6_digits_2 : decode cX6_digits 2 = .ok (.iload_n 1, 1) := by decide +kernel
theorem dX6_digits_3 : decode cX6_digits 3 = .ok (.istore 4, 2) := by decide +kernel
theorem dX6_digits_5 : decode cX6_digits 5 = .ok (.iload 4, 2) := by decide +kernel
theorem dX6_digits_7 : decode cX6_digits 7 = .ok (.iload_n 2, 1) := by decide +kernel
theorem dX6_digits_8 : decode cX6_digits 8 = .ok (.if_icmp .ge 33, 3) := by decide +kernel
theorem dX6_digits_11 : decode cX6_digits 11 = .ok (.iload 4, 2) := by decide +kernel
theorem dX6_digits_13 : decode cX6_digits 13 = .ok (.sipush 400, 3) := by decide +kernel
theorem dX6_digits_16 : decode cX6_digits 16 = .ok (.if_icmp .ge 25, 3) := by decide +kernel
theorem dX6_digits_19 : decode cX6_digits 19 = .ok (.bipush 10, 2) := by decide +kernel
theorem dX6_digits_21 : decode cX6_digits 21 = .ok (.iload_n 3, 1) := by decide +kernel
theorem dX6_digits_22 : decode cX6_digits 22 = .ok (.imul, 1) := by decide +kernel
theorem dX6_digits_23 : decode cX6_digits 23 = .ok (.aload_n 0, 1) := by decide +kernel
theorem dX6_digits_24 : decode cX6_digits 24 = .ok (.getfield 9, 3) := by decide +kernel
theorem dX6_digits_27 : decode cX6_digits 27 = .ok (.iload 4, 2) := by decide +kernel
theorem dX6_digits_29 : decode cX6_digits 29 = .ok (.caload, 1) := by decide +kernel
theorem dX6_digits_30 : decode cX6_digits 30 = .ok (.iadd, 1) := by decide +kernel
theorem dX6_digits_31 : decode cX6_digits 31 = .ok (.bipush 48, 2) := by decide +kernel
theorem dX6_digits_33 : decode cX6_digits 33 = .ok (.isub, 1) := by decide +kernel
theorem dX6_digits_34 : decode cX6_digits 34 = .ok (.istore_n 3, 1) := by decide +kernel
theorem dX6_digits_35 : decode cX6_digits 35 = .ok (.iinc 4 1, 3) := by decide +kernel
theorem dX6_digits_38 : decode cX6_digits 38 = .ok (.goto (-33), 3) := by decide +kernel
theorem dX6_digits_41 : decode cX6_digits 41 = .ok (.iload_n 3, 1) := by decide +kernel
theorem dX6_digits_42 : decode cX6_digits 42 = .ok (.ireturn, 1) := by decide +kernel
def f_X6_digits_5  (k5 : Int32 × Int32 × Int32 × zHp → Option (Int32 × zHp)) (v2 : Int32) (v3 : Int32) (v4 : Int32) (h : zHp) : Option (Int32 × zHp) := (if v4 < v2 then (if v4 < (400 : Int32) then zix v4 400 (zlt ((((10 : Int32) * v3) + (h 146 v4.toNatClampNeg)) - (48 : Int32)) fun x1 => k5 (v2, x1, (v4 + (1 : Int32)), h)) else some (v3, h)) else some (v3, h))
set_option maxHeartbeats 4000000 in
set_option maxRecDepth 100000 in
theorem f_X6_digits_5_s  (k5 : Int32 × Int32 × Int32 × zHp → Option (Int32 × zHp)) (H5 : ∀ v : Int32 × Int32 × Int32 × zHp, Sim wX mX6_digits 0 rI 5 [(0, .ref 145), (2, .int v.1), (3, .int v.2.1), (4, .int v.2.2.1)] [] v.2.2.2 (k5 v)) (v2 : Int32) (v3 : Int32) (v4 : Int32) (h : zHp) : Sim wX mX6_digits 0 rI 5 [(0, .ref 145), (2, .int v2), (3, .int v3), (4, .int v4)] [] h (f_X6_digits_5 k5 v2 v3 v4 h) := by
  unfold f_X6_digits_5
  refine Sim.iload 3 dX6_digits_5 rfl ?_
  refine Sim.iload_n 1 dX6_digits_7 rfl ?_
  refine Sim.icmp_ge 41 dX6_digits_8 rfl ?_ ?_
  · refine Sim.iload 3 dX6_digits_11 rfl ?_
    refine Sim.sipush (v := (400 : Int32)) dX6_digits_13 rfl ?_
    refine Sim.icmp_ge 41 dX6_digits_16 rfl ?_ ?_
    · refine Sim.bipush (v := (10 : Int32)) dX6_digits_19 rfl ?_
      refine Sim.iload_n 2 dX6_digits_21 rfl ?_
      refine Sim.imul dX6_digits_22 ?_
      refine Sim.aload_n 0 dX6_digits_23 rfl ?_
      refine Sim.getR (j := 146) fl_X6_9 dX6_digits_24 xR_145_0 ?_
      refine Sim.iload 3 dX6_digits_27 rfl ?_
      refine Sim.cald (n := 400) dX6_digits_29 xA_146 ?_
      refine Sim.iadd dX6_digits_30 ?_
      refine Sim.bipush (v := (48 : Int32)) dX6_digits_31 rfl ?_
      refine Sim.isub dX6_digits_33 ?_
      refine Sim.lti (fun x1 => ?_)
      refine Sim.istore_n (L' := [(3, .int x1), (0, .ref 145), (2, .int v2), (4, .int v4)]) dX6_digits_34 (Nat.le_of_ble_eq_true rfl) rfl ?_
      refine Sim.iinc (L' := [(4, .int (v4 + (1 : Int32))), (3, .int x1), (0, .ref 145), (2, .int v2)]) 3 dX6_digits_35 rfl rfl (Nat.le_of_ble_eq_true rfl) rfl ?_
      refine Sim.goto 5 dX6_digits_38 rfl ?_
      refine Sim.locs [2, 3, 1, 0] rfl ?_
      exact H5 (v2, x1, (v4 + (1 : Int32)), h)
    · refine Sim.iload_n 2 dX6_digits_41 rfl ?_
      exact Sim.iret dX6_digits_42 rfl
  · refine Sim.iload_n 2 dX6_digits_41 rfl ?_
    exact Sim.iret dX6_digits_42 rfl
def f_X6_digits_5_lp   (n : Nat) (v : Int32 × Int32 × Int32 × zHp) : Option (Int32 × zHp) := zlp (fun k5 v => f_X6_digits_5 k5 v.1 v.2.1 v.2.2.1 v.2.2.2) n v
theorem f_X6_digits_5_ls  (n : Nat) (v : Int32 × Int32 × Int32 × zHp) : Sim wX mX6_digits 0 rI 5 [(0, .ref 145), (2, .int v.1), (3, .int v.2.1), (4, .int v.2.2.1)] [] v.2.2.2 (f_X6_digits_5_lp n v) :=
  Sim.lp (V := Int32 × Int32 × Int32 × zHp) (Lf := fun v => [(0, .ref 145), (2, .int v.1), (3, .int v.2.1), (4, .int v.2.2.1)]) (sf := fun v => []) (hf := fun v => v.2.2.2) (fun k5 H5 v => f_X6_digits_5_s k5 H5 v.1 v.2.1 v.2.2.1 v.2.2.2) n v
def f_X6_digits  (a1 : Int32) (a2 : Int32) (h : zHp) : Option (Int32 × zHp) := f_X6_digits_5_lp  zN (a2, (0 : Int32), a1, h)
set_option maxHeartbeats 4000000 in
set_option maxRecDepth 100000 in
theorem s_X6_digits  (a1 : Int32) (a2 : Int32) (h : zHp) : Fn wX mX6_digits 0 rI [.ref 145, .int a1, .int a2] h (f_X6_digits a1 a2 h) := by
  refine Fn.of rfl (Nat.le_of_ble_eq_true rfl) ?_
  unfold f_X6_digits
  refine Sim.iconst (v := (0 : Int32)) dX6_digits_0 rfl ?_
  refine Sim.istore_n (L' := [(3, .int (0 : Int32)), (0, .ref 145), (1, .int a1), (2, .int a2)]) dX6_digits_1 (Nat.le_of_ble_eq_true rfl) rfl ?_
  refine Sim.iload_n 2 dX6_digits_2 rfl ?_
  refine Sim.istore (L' := [(4, .int a1), (3, .int (0 : Int32)), (0, .ref 145), (1, .int a1), (2, .int a2)]) dX6_digits_3 (Nat.le_of_ble_eq_true rfl) rfl ?_
  refine Sim.locs [2, 4, 1, 0] rfl ?_
  exact f_X6_digits_5_ls  zN (a2, (0 : Int32), a1, h)
theorem mv_X6_digits : zMV mX6_digits 2 := ⟨⟨zTb_in 900 (by decide +kernel) rfl, zTb_in 145 (by decide +kernel) rfl, ⟨by decide +kernel, by decide +kernel⟩, by decide +kernel⟩, zTb_in 899 (by decide +kernel) rfl, zTb_in 15 (by decide +kernel) rfl⟩
-- ===== RockingPorch$Reader.token(II)V
abbrev mX6_token : zMt := (yX6_token, cX6_token, 5, none)
theorem ml_X6_102 : Cond.methodLink RX6 102 yJ0_indexOf_0f7a4 ∈ zTb := zTb_in 784 (by decide +kernel) rfl
theorem ml_X6_108 : Cond.methodLink RX6 108 yX6_wordOf ∈ zTb := zTb_in 870 (by decide +kernel) rfl
theorem ml_X6_112 : Cond.methodLink RX6 112 Lib.Math.min.name ∈ zTb := zTb_in 896 (by decide +kernel) rfl
theorem ml_X6_117 : Cond.methodLink RX6 117 yX6_digits ∈ zTb := zTb_in 897 (by decide +kernel) rfl
theorem ml_X6_88 : Cond.methodLink RX6 88 yX6_sortOf ∈ zTb := zTb_in 776 (by decide +kernel) rfl
theorem ml_X6_96 : Cond.methodLink RX6 96 yX6_put ∈ zTb := zTb_in 866 (by decide +kernel) rfl
theorem dX6_token_0 : decode cX6_token 0 = .ok (.iload_n 1, 1) := by decide +kernel
theorem dX6_token_1 : decode cX6_token 1 = .ok (.iconst 1, 1) := by decide +kernel
theorem dX6_token_2 : decode cX6_token 2 = .ok (.iadd, 1) := by decide +kernel
theorem dX6_token_3 : decode cX6_token 3 = .ok (.istore_n 3, 1) := by decide +kernel
theorem dX6_token_4 : decode cX6_token 4 = .ok (.iload_n 2, 1) := by decide +kernel
theorem dX6_token_5 : decode cX6_token 5 = .ok (.iconst 3, 1) := by decide +kernel
theorem dX6_token_6 : decode cX6_token 6 = .ok (.if_icmp .ne 38, 3) := by decide +kernel
theorem dX6_token_9 : decode cX6_token 9 = .ok (.ldc 100, 2) := by decide +kernel
theorem dX6_token_11 : decode cX6_token 11 = .ok (.aload_n 0, 1) := by decide +kernel
theorem dX6_token_12 : decode cX6_token 12 = .ok (.getfield 9, 3) := by decide +kernel
theorem dX6_token_15 : decode cX6_token 15 = .ok (.iload_n 1, 1) := by decide +kernel
theorem dX6_token_16 : decode cX6_token 16 = .ok (.caload, 1) := by decide +kernel
theorem dX6_token_17 : decode cX6_token 17 = .ok (.invokevirtual 102, 3) := by decide +kernel
theorem dX6_token_20 : decode cX6_token 20 = .ok (.istore 4, 2) := by decide +kernel
theorem dX6_token_22 : decode cX6_token 22 = .ok (.aload_n 0, 1) := by decide +kernel
theorem dX6_token_23 : decode cX6_token 23 = .ok (.iload 4, 2) := by decide +kernel
theorem dX6_token_25 : decode cX6_token 25 = .ok (.ifCond .lt 11, 3) := by decide +kernel
theorem dX6_token_28 : decode cX6_token 28 = .ok (.bipush 24, 2) := by decide +kernel
theorem dX6_token_30 : decode cX6_token 30 = .ok (.iload 4, 2) := by decide +kernel
theorem dX6_token_32 : decode cX6_token 32 = .ok (.iadd, 1) := by decide +kernel
theorem dX6_token_33 : decode cX6_token 33 = .ok (.goto 5, 3) := by decide +kernel
theorem dX6_token_36 : decode cX6_token 36 = .ok (.bipush 35, 2) := by decide +kernel
theorem dX6_token_38 : decode cX6_token 38 = .ok (.iconst 0, 1) := by decide +kernel
theorem dX6_token_39 : decode cX6_token 39 = .ok (.iload_n 1, 1) := by decide +kernel
theorem dX6_token_40 : decode cX6_token 40 = .ok (.invokevirtual 96, 3) := by decide +kernel
theorem dX6_token_43 : decode cX6_token 43 = .ok (.return_, 1) := by decide +kernel
theorem dX6_token_44 : decode cX6_token 44 = .ok (.iload_n 3, 1) := by decide +kernel
theorem dX6_token_45 : decode cX6_token 45 = .ok (.aload_n 0, 1) := by decide +kernel
theorem dX6_token_46 : decode cX6_token 46 = .ok (.getfield 15, 3) := by decide +kernel
theorem dX6_token_49 : decode cX6_token 49 = .ok (.if_icmp .ge 29, 3) := by decide +kernel
theorem dX6_token_52 : decode cX6_token 52 = .ok (.iload_n 3, 1) := by decide +kernel
theorem dX6_token_53 : decode cX6_token 53 = .ok (.sipush 400, 3) := by decide +kernel
theorem dX6_token_56 : decode cX6_token 56 = .ok (.if_icmp .ge 22, 3) := by decide +kernel
theorem dX6_token_59 : decode cX6_token 59 = .ok (.aload_n 0, 1) := by decide +kernel
theorem dX6_token_60 : decode cX6_token 60 = .ok (.getfield 9, 3) := by decide +kernel
theorem dX6_token_63 : decode cX6_token 63 = .ok (.iload_n 3, 1) := by decide +kernel
theorem dX6_token_64 : decode cX6_token 64 = .ok (.caload, 1) := by decide +kernel
theorem dX6_token_65 : decode cX6_token 65 = .ok (.invokestatic 88, 3) := by decide +kernel
theorem dX6_token_68 : decode cX6_token 68 = .ok (.iload_n 2, 1) := by decide +kernel
theorem dX6_token_69 : decode cX6_token 69 = .ok (.if_icmp .ne 9, 3) := by decide +kernel
theorem dX6_token_72 : decode cX6_token 72 = .ok (.iinc 3 1, 3) := by decide +kernel
theorem dX6_token_75 : decode cX6_token 75 = .ok (.goto (-31), 3) := by decide +kernel
theorem dX6_token_78 : decode cX6_token 78 = .ok (.iload_n 2, 1) := by decide +kernel
theorem dX6_token_79 : decode cX6_token 79 = .ok (.iconst 1, 1) := by decide +kernel
theorem dX6_token_80 : decode cX6_token 80 = .ok (.if_icmp .ne 18, 3) := by decide +kernel
theorem dX6_token_83 : decode cX6_token 83 = .ok (.aload_n 0, 1) := by decide +kernel
theorem dX6_token_84 : decode cX6_token 84 = .ok (.aload_n 0, 1) := by decide +kernel
theorem dX6_token_85 : decode cX6_token 85 = .ok (.iload_n 1, 1) := by decide +kernel
theorem dX6_token_86 : decode cX6_token 86 = .ok (.iload_n 3, 1) := by decide +kernel
theorem dX6_token_87 : decode cX6_token 87 = .ok (.invokevirtual 108, 3) := by decide +kernel
theorem dX6_token_90 : decode cX6_token 90 = .ok (.iconst 0, 1) := by decide +kernel
theorem dX6_token_91 : decode cX6_token 91 = .ok (.iload_n 1, 1) := by decide +kernel
theorem dX6_token_92 : decode cX6_token 92 = .ok (.invokevirtual 96, 3) := by decide +kernel
theorem dX6_token_95 : decode cX6_token 95 = .ok (.goto 34, 3) := by decide +kernel
theorem dX6_token_98 : decode cX6_token 98 = .ok (.aload_n 0, 1) := by decide +kernel
theorem dX6_token_99 : decode cX6_token 99 = .ok (.iload_n 3, 1) := by decide +kernel
theorem dX6_token_100 : decode cX6_token 100 = .ok (.iload_n 1, 1) := by decide +kernel
theorem dX6_token_101 : decode cX6_token 101 = .ok (.isub, 1) := by decide +kernel
theorem dX6_token_102 : decode cX6_token 102 = .ok (.iconst 4, 1) := by decide +kernel
theorem dX6_token_103 : decode cX6_token 103 = .ok (.if_icmp .gt 8, 3) := by decide +kernel
theorem dX6_token_106 : decode cX6_token 106 = .ok (.bipush 34, 2) := by decide +kernel
theorem dX6_token_108 : decode cX6_token 108 = .ok (.goto 5, 3) := by decide +kernel
theorem dX6_token_111 : decode cX6_token 111 = .ok (.bipush 35, 2) := by decide +kernel
theorem dX6_token_113 : decode cX6_token 113 = .ok (.aload_n 0, 1) := by decide +kernel
theorem dX6_token_114 : decode cX6_token 114 = .ok (.iload_n 1, 1) := by decide +kernel
theorem dX6_token_115 : decode cX6_token 115 = .ok (.iload_n 3, 1) := by decide +kernel
theorem dX6_token_116 : decode cX6_token 116 = .ok (.iload_n 1, 1) := by decide +kernel
theorem dX6_token_117 : decode cX6_token 117 = .ok (.iconst 4, 1) := by decide +kernel
theorem dX6_token_118 : decode cX6_token 118 = .ok (.iadd, 1) := by decide +kernel
theorem dX6_token_119 : decode cX6_token 119 = .ok (.invokestatic 112, 3) := by decide +kernel
theorem dX6_token_122 : decode cX6_token 122 = .ok (.invokevirtual 117, 3) := by decide +kernel
theorem dX6_token_125 : decode cX6_token 125 = .ok (.iload_n 1, 1) := by decide +kernel
theorem dX6_token_126 : decode cX6_token 126 = .ok (.invokevirtual 96, 3) := by decide +kernel
theorem dX6_token_129 : decode cX6_token 129 = .ok (.return_, 1) := by decide +kernel
def f_X6_token_113   (v1 : Int32) (v3 : Int32) (s0 : Int32) (h : zHp) : Option (zHp) := (f_X6_digits v1 (if (v1 + (4 : Int32)) < v3 then (v1 + (4 : Int32)) else v3) h).bind fun x1 => (f_X6_put s0 x1.1 v1 x1.2).bind fun x2 => some x2
set_option maxHeartbeats 4000000 in
set_option maxRecDepth 100000 in
theorem f_X6_token_113_s  (v1 : Int32) (v3 : Int32) (s0 : Int32) (h : zHp) : Sim wX mX6_token 5 rV 113 [(0, .ref 145), (1, .int v1), (3, .int v3)] [.int s0, .ref 145] h (f_X6_token_113 v1 v3 s0 h) := by
  unfold f_X6_token_113
  refine Sim.aload_n 0 dX6_token_113 rfl ?_
  refine Sim.iload_n 1 dX6_token_114 rfl ?_
  refine Sim.iload_n 2 dX6_token_115 rfl ?_
  refine Sim.iload_n 1 dX6_token_116 rfl ?_
  refine Sim.iconst (v := (4 : Int32)) dX6_token_117 rfl ?_
  refine Sim.iadd dX6_token_118 ?_
  refine Sim.mmin dX6_token_119 ml_X6_112 ms_min ms_Math mc_min (Nat.le_of_ble_eq_true rfl) (Nat.le_of_ble_eq_true rfl) ?_
  refine Sim.callV2I (d1 := 0) (s_X6_digits v1 (if (v1 + (4 : Int32)) < v3 then (v1 + (4 : Int32)) else v3) h) dX6_token_122 ml_X6_117 mv_X6_digits xO_X6 (Nat.le_of_ble_eq_true rfl) (Nat.le_of_ble_eq_true rfl) (Nat.le_of_ble_eq_true rfl) (fun x1 => ?_)
  refine Sim.iload_n 1 dX6_token_125 rfl ?_
  refine Sim.callV3U (d1 := 0) (s_X6_put s0 x1.1 v1 x1.2) dX6_token_126 ml_X6_96 mv_X6_put xO_X6 (Nat.le_of_ble_eq_true rfl) (Nat.le_of_ble_eq_true rfl) (Nat.le_of_ble_eq_true rfl) (fun x2 => ?_)
  exact Sim.vret dX6_token_129 rfl
def f_X6_token_78   (v1 : Int32) (v2 : Int32) (v3 : Int32) (h : zHp) : Option (zHp) := (if v2 = (1 : Int32) then (f_X6_wordOf v1 v3 h).bind fun x1 => (f_X6_put x1.1 (0 : Int32) v1 x1.2).bind fun x2 => some x2 else (if (4 : Int32) < (v3 - v1) then f_X6_token_113 v1 v3 (35 : Int32) h else f_X6_token_113 v1 v3 (34 : Int32) h))
set_option maxHeartbeats 4000000 in
set_option maxRecDepth 100000 in
theorem f_X6_token_78_s  (v1 : Int32) (v2 : Int32) (v3 : Int32) (h : zHp) : Sim wX mX6_token 5 rV 78 [(0, .ref 145), (1, .int v1), (2, .int v2), (3, .int v3)] [] h (f_X6_token_78 v1 v2 v3 h) := by
  unfold f_X6_token_78
  refine Sim.iload_n 2 dX6_token_78 rfl ?_
  refine Sim.iconst (v := (1 : Int32)) dX6_token_79 rfl ?_
  refine Sim.icmp_ne 98 dX6_token_80 rfl ?_ ?_
  · refine Sim.aload_n 0 dX6_token_83 rfl ?_
    refine Sim.aload_n 0 dX6_token_84 rfl ?_
    refine Sim.iload_n 1 dX6_token_85 rfl ?_
    refine Sim.iload_n 3 dX6_token_86 rfl ?_
    refine Sim.callV2I (d1 := 4) (s_X6_wordOf v1 v3 h) dX6_token_87 ml_X6_108 mv_X6_wordOf xO_X6 (Nat.le_of_ble_eq_true rfl) (Nat.le_of_ble_eq_true rfl) (Nat.le_of_ble_eq_true rfl) (fun x1 => ?_)
    refine Sim.iconst (v := (0 : Int32)) dX6_token_90 rfl ?_
    refine Sim.iload_n 1 dX6_token_91 rfl ?_
    refine Sim.callV3U (d1 := 0) (s_X6_put x1.1 (0 : Int32) v1 x1.2) dX6_token_92 ml_X6_96 mv_X6_put xO_X6 (Nat.le_of_ble_eq_true rfl) (Nat.le_of_ble_eq_true rfl) (Nat.le_of_ble_eq_true rfl) (fun x2 => ?_)
    refine Sim.goto 129 dX6_token_95 rfl ?_
    exact Sim.vret dX6_token_129 rfl
  · refine Sim.aload_n 0 dX6_token_98 rfl ?_
    refine Sim.iload_n 3 dX6_token_99 rfl ?_
    refine Sim.iload_n 1 dX6_token_100 rfl ?_
    refine Sim.isub dX6_token_101 ?_
    refine Sim.iconst (v := (4 : Int32)) dX6_token_102 rfl ?_
    refine Sim.icmp_gt 111 dX6_token_103 rfl ?_ ?_
    · refine Sim.bipush (v := (35 : Int32)) dX6_token_111 rfl ?_
      refine Sim.locs [0, 1, 3] rfl ?_
      exact f_X6_token_113_s v1 v3 (35 : Int32) h
    · refine Sim.bipush (v := (34 : Int32)) dX6_token_106 rfl ?_
      refine Sim.goto 113 dX6_token_108 rfl ?_
      refine Sim.locs [0, 1, 3] rfl ?_
      exact f_X6_token_113_s v1 v3 (34 : Int32) h
def f_X6_token_44  (k44 : Int32 × Int32 × Int32 × zHp → Option (zHp)) (v1 : Int32) (v2 : Int32) (v3 : Int32) (h : zHp) : Option (zHp) := (if v3 < (h 145 1) then (if v3 < (400 : Int32) then zix v3 400 ((f_X6_sortOf (h 146 v3.toNatClampNeg) h).bind fun x1 => (if x1.1 = v2 then k44 (v1, v2, (v3 + (1 : Int32)), x1.2) else f_X6_token_78 v1 v2 v3 x1.2)) else f_X6_token_78 v1 v2 v3 h) else f_X6_token_78 v1 v2 v3 h)
set_option maxHeartbeats 4000000 in
set_option maxRecDepth 100000 in
theorem f_X6_token_44_s  (k44 : Int32 × Int32 × Int32 × zHp → Option (zHp)) (H44 : ∀ v : Int32 × Int32 × Int32 × zHp, Sim wX mX6_token 5 rV 44 [(0, .ref 145), (1, .int v.1), (2, .int v.2.1), (3, .int v.2.2.1)] [] v.2.2.2 (k44 v)) (v1 : Int32) (v2 : Int32) (v3 : Int32) (h : zHp) : Sim wX mX6_token 5 rV 44 [(0, .ref 145), (1, .int v1), (2, .int v2), (3, .int v3)] [] h (f_X6_token_44 k44 v1 v2 v3 h) := by
  unfold f_X6_token_44
  refine Sim.iload_n 3 dX6_token_44 rfl ?_
  refine Sim.aload_n 0 dX6_token_45 rfl ?_
  refine Sim.getI fl_X6_15 dX6_token_46 xI_145_1 ?_
  refine Sim.icmp_ge 78 dX6_token_49 rfl ?_ ?_
  · refine Sim.iload_n 3 dX6_token_52 rfl ?_
    refine Sim.sipush (v := (400 : Int32)) dX6_token_53 rfl ?_
    refine Sim.icmp_ge 78 dX6_token_56 rfl ?_ ?_
    · refine Sim.aload_n 0 dX6_token_59 rfl ?_
      refine Sim.getR (j := 146) fl_X6_9 dX6_token_60 xR_145_0 ?_
      refine Sim.iload_n 3 dX6_token_63 rfl ?_
      refine Sim.cald (n := 400) dX6_token_64 xA_146 ?_
      refine Sim.callS1I (d1 := 0) (s_X6_sortOf (h 146 v3.toNatClampNeg) h) dX6_token_65 ml_X6_88 mv_X6_sortOf (Nat.le_of_ble_eq_true rfl) (Nat.le_of_ble_eq_true rfl) (Nat.le_of_ble_eq_true rfl) (fun x1 => ?_)
      refine Sim.iload_n 2 dX6_token_68 rfl ?_
      refine Sim.icmp_ne 78 dX6_token_69 rfl ?_ ?_
      · refine Sim.iinc (L' := [(3, .int (v3 + (1 : Int32))), (0, .ref 145), (1, .int v1), (2, .int v2)]) 3 dX6_token_72 rfl rfl (Nat.le_of_ble_eq_true rfl) rfl ?_
        refine Sim.goto 44 dX6_token_75 rfl ?_
        refine Sim.locs [1, 2, 3, 0] rfl ?_
        exact H44 (v1, v2, (v3 + (1 : Int32)), x1.2)
      · exact f_X6_token_78_s v1 v2 v3 x1.2
    · exact f_X6_token_78_s v1 v2 v3 h
  · exact f_X6_token_78_s v1 v2 v3 h
def f_X6_token_44_lp   (n : Nat) (v : Int32 × Int32 × Int32 × zHp) : Option (zHp) := zlp (fun k44 v => f_X6_token_44 k44 v.1 v.2.1 v.2.2.1 v.2.2.2) n v
theorem f_X6_token_44_ls  (n : Nat) (v : Int32 × Int32 × Int32 × zHp) : Sim wX mX6_token 5 rV 44 [(0, .ref 145), (1, .int v.1), (2, .int v.2.1), (3, .int v.2.2.1)] [] v.2.2.2 (f_X6_token_44_lp n v) :=
  Sim.lp (V := Int32 × Int32 × Int32 × zHp) (Lf := fun v => [(0, .ref 145), (1, .int v.1), (2, .int v.2.1), (3, .int v.2.2.1)]) (sf := fun v => []) (hf := fun v => v.2.2.2) (fun k44 H44 v => f_X6_token_44_s k44 H44 v.1 v.2.1 v.2.2.1 v.2.2.2) n v
def f_X6_token  (a1 : Int32) (a2 : Int32) (h : zHp) : Option (zHp) := zlt (a1 + (1 : Int32)) fun x1 => (if a2 = (3 : Int32) then zix a1 400 ((f_J0_indexOf_0f7a4 0 (h 146 a1.toNatClampNeg) h).bind fun x2 => (if x2.1 < 0 then (f_X6_put (35 : Int32) (0 : Int32) a1 x2.2).bind fun x3 => some x3 else (f_X6_put ((24 : Int32) + x2.1) (0 : Int32) a1 x2.2).bind fun x4 => some x4)) else f_X6_token_44_lp  zN (a1, a2, x1, h))
set_option maxHeartbeats 4000000 in
set_option maxRecDepth 100000 in
theorem s_X6_token  (a1 : Int32) (a2 : Int32) (h : zHp) : Fn wX mX6_token 5 rV [.ref 145, .int a1, .int a2] h (f_X6_token a1 a2 h) := by
  refine Fn.of rfl (Nat.le_of_ble_eq_true rfl) ?_
  unfold f_X6_token
  refine Sim.iload_n 1 dX6_token_0 rfl ?_
  refine Sim.iconst (v := (1 : Int32)) dX6_token_1 rfl ?_
  refine Sim.iadd dX6_token_2 ?_
  refine Sim.lti (fun x1 => ?_)
  refine Sim.istore_n (L' := [(3, .int x1), (0, .ref 145), (1, .int a1), (2, .int a2)]) dX6_token_3 (Nat.le_of_ble_eq_true rfl) rfl ?_
  refine Sim.iload_n 3 dX6_token_4 rfl ?_
  refine Sim.iconst (v := (3 : Int32)) dX6_token_5 rfl ?_
  refine Sim.icmp_ne 44 dX6_token_6 rfl ?_ ?_
  · refine Sim.ldcS1000 rfl dX6_token_9 ?_
    refine Sim.aload_n 1 dX6_token_11 rfl ?_
    refine Sim.getR (j := 146) fl_X6_9 dX6_token_12 xR_145_0 ?_
    refine Sim.iload_n 2 dX6_token_15 rfl ?_
    refine Sim.cald (n := 400) dX6_token_16 xA_146 ?_
    refine Sim.callT1I (i := 0) (d1 := 3) (s_J0_indexOf_0f7a4 0 (Nat.le_of_ble_eq_true rfl) (h 146 a1.toNatClampNeg) h) dX6_token_17 ml_X6_102 mv_J0_indexOf_0f7a4 (Nat.le_of_ble_eq_true rfl) rfl (Nat.le_of_ble_eq_true rfl) (Nat.le_of_ble_eq_true rfl) (Nat.le_of_ble_eq_true rfl) (fun x2 => ?_)
    refine Sim.istore (L' := [(4, .int x2.1), (3, .int x1), (0, .ref 145), (1, .int a1), (2, .int a2)]) dX6_token_20 (Nat.le_of_ble_eq_true rfl) rfl ?_
    refine Sim.aload_n 2 dX6_token_22 rfl ?_
    refine Sim.iload 0 dX6_token_23 rfl ?_
    refine Sim.if_lt 36 dX6_token_25 rfl ?_ ?_
    · refine Sim.bipush (v := (35 : Int32)) dX6_token_36 rfl ?_
      refine Sim.iconst (v := (0 : Int32)) dX6_token_38 rfl ?_
      refine Sim.iload_n 3 dX6_token_39 rfl ?_
      refine Sim.callV3U (d1 := 0) (s_X6_put (35 : Int32) (0 : Int32) a1 x2.2) dX6_token_40 ml_X6_96 mv_X6_put xO_X6 (Nat.le_of_ble_eq_true rfl) (Nat.le_of_ble_eq_true rfl) (Nat.le_of_ble_eq_true rfl) (fun x3 => ?_)
      exact Sim.vret dX6_token_43 rfl
    · refine Sim.bipush (v := (24 : Int32)) dX6_token_28 rfl ?_
      refine Sim.iload 0 dX6_token_30 rfl ?_
      refine Sim.iadd dX6_token_32 ?_
      refine Sim.goto 38 dX6_token_33 rfl ?_
      refine Sim.iconst (v := (0 : Int32)) dX6_token_38 rfl ?_
      refine Sim.iload_n 3 dX6_token_39 rfl ?_
      refine Sim.callV3U (d1 := 0) (s_X6_put ((24 : Int32) + x2.1) (0 : Int32) a1 x2.2) dX6_token_40 ml_X6_96 mv_X6_put xO_X6 (Nat.le_of_ble_eq_true rfl) (Nat.le_of_ble_eq_true rfl) (Nat.le_of_ble_eq_true rfl) (fun x4 => ?_)
      exact Sim.vret dX6_token_43 rfl
  · refine Sim.locs [1, 2, 3, 0] rfl ?_
    exact f_X6_token_44_ls  zN (a1, a2, x1, h)
theorem mv_X6_token : zMV mX6_token 2 := ⟨⟨zTb_in 782 (by decide +kernel) rfl, zTb_in 145 (by decide +kernel) rfl, ⟨by decide +kernel, by decide +kernel⟩, by decide +kernel⟩, zTb_in 781 (by decide +kernel) rfl, zTb_in 12 (by decide +kernel) rfl⟩
-- ===== RockingPorch$Reader.split()V
abbrev mX6_split : zMt := (yX6_split, cX6_split, 4, none)
theorem fp_X6_32 : zFp RX6 32 6 6 .int := ⟨RX6, TX6, 14, tyX6, rfl, Nat.le_of_ble_eq_true rfl, zTb_in 436 (by decide +kernel) rfl, in_X6, tyX6_ok, nmX6, rfl, rfl⟩
theorem fp_X6_35 : zFp RX6 35 6 7 .int := ⟨RX6, TX6, 14, tyX6, rfl, Nat.le_of_ble_eq_true rfl, zTb_in 437 (by decide +kernel) rfl, in_X6, tyX6_ok, nmX6, rfl, rfl⟩
theorem ml_X6_92 : Cond.methodLink RX6 92 yX6_token ∈ zTb := zTb_in 779 (by decide +kernel) rfl
theorem dX6_split_0 : decode cX6_split 0 = .ok (.aload_n 0, 1) := by decide +kernel
theorem dX6_split_1 : decode cX6_split 1 = .ok (.iconst 0, 1) := by decide +kernel
theorem dX6_split_2 : decode cX6_split 2 = .ok (.putfield 29, 3) := by decide +kernel
theorem dX6_split_5 : decode cX6_split 5 = .ok (.iconst 0, 1) := by decide +kernel
theorem dX6_split_6 : decode cX6_split 6 = .ok (.istore_n 1, 1) := by decide +kernel
theorem dX6_split_7 : decode cX6_split 7 = .ok (.iload_n 1, 1) := by decide +kernel
theorem dX6_split_8 : decode cX6_split 8 = .ok (.aload_n 0, 1) := by decide +kernel
theorem dX6_split_9 : decode cX6_split 9 = .ok (.getfield 15, 3) := by decide +kernel
theorem dX6_split_12 : decode cX6_split 12 = .ok (.if_icmp .ge 75, 3) := by decide +kernel
theorem dX6_split_15 : decode cX6_split 15 = .ok (.iload_n 1, 1) := by decide +kernel
theorem dX6_split_16 : decode cX6_split 16 = .ok (.sipush 400, 3) := by decide +kernel
theorem dX6_split_19 : decode cX6_split 19 = .ok (.if_icmp .ge 68, 3) := by decide +kernel
theorem dX6_split_22 : decode cX6_split 22 = .ok (.aload_n 0, 1) := by decide +kernel
theorem dX6_split_23 : decode cX6_split 23 = .ok (.getfield 9, 3) := by decide +kernel
theorem dX6_split_26 : decode cX6_split 26 = .ok (.iload_n 1, 1) := by decide +kernel
theorem dX6_split_27 : decode cX6_split 27 = .ok (.caload, 1) := by decide +kernel
theorem dX6_split_28 : decode cX6_split 28 = .ok (.invokestatic 88, 3) := by decide +kernel
theorem dX6_split_31 : decode cX6_split 31 = .ok (.istore_n 2, 1) := by decide +kernel
theorem dX6_split_32 : decode cX6_split 32 = .ok (.iload_n 1, 1) := by decide +kernel
theorem dX6_split_33 : decode cX6_split 33 = .ok (.ifCond .le 32, 3) := by decide +kernel
theorem dX6_split_36 : decode cX6_split 36 = .ok (.iload_n 2, 1) := by decide +kernel
theorem dX6_split_37 : decode cX6_split 37 = .ok (.iconst 1, 1) := by decide +kernel
theorem dX6_split_38 : decode cX6_split 38 = .ok (.if_icmp .eq 8, 3) := by decide +kernel
theorem dX6_split_41 : decode cX6_split 41 = .ok (.iload_n 2, 1) := by decide +kernel
theorem dX6_split_42 : decode cX6_split 42 = .ok (.iconst 2, 1) := by decide +kernel
theorem dX6_split_43 : decode cX6_split 43 = .ok (.if_icmp .ne 22, 3) := by decide +kernel
theorem dX6_split_46 : decode cX6_split 46 = .ok (.iload_n 2, 1) := by decide +kernel
theorem dX6_split_47 : decode cX6_split 47 = .ok (.aload_n 0, 1) := by decide +kernel
theorem dX6_split_48 : decode cX6_split 48 = .ok (.getfield 9, 3) := by decide +kernel
theorem dX6_split_51 : decode cX6_split 51 = .ok (.iload_n 1, 1) := by decide +kernel
theorem dX6_split_52 : decode cX6_split 52 = .ok (.iconst 1, 1) := by decide +kernel
theorem dX6_split_53 : decode cX6_split 53 = .ok (.isub, 1) := by decide +kernel
theorem dX6_split_54 : decode cX6_split 54 = .ok (.caload, 1) := by decide +kernel
theorem dX6_split_55 : decode cX6_split 55 = .ok (.invokestatic 88, 3) := by decide +kernel
theorem dX6_split_58 : decode cX6_split 58 = .ok (.if_icmp .ne 7, 3) := by decide +kernel
theorem dX6_split_61 : decode cX6_split 61 = .ok (.iconst 1, 1) := by decide +kernel
theorem dX6_split_62 : decode cX6_split 62 = .ok (.goto 4, 3) := by decide +kernel
theorem dX6_split_65 : decode cX6_split 65 = .ok (.iconst 0, 1) := by decide +kernel
theorem dX6_split_66 : decode cX6_split 66 = .ok (.istore_n 3, 1) := by decide +kernel
theorem dX6_split_67 : decode cX6_split 67 = .ok (.iload_n 2, 1) := by decide +kernel
theorem dX6_split_68 : decode cX6_split 68 = .ok (.ifCond .eq 13, 3) := by decide +kernel
theorem dX6_split_71 : decode cX6_split 71 = .ok (.iload_n 3, 1) := by decide +kernel
theorem dX6_split_72 : decode cX6_split 72 = .ok (.ifCond .ne 9, 3) := by decide +kernel
theorem dX6_split_75 : decode cX6_split 75 = .ok (.aload_n 0, 1) := by decide +kernel
theorem dX6_split_76 : decode cX6_split 76 = .ok (.iload_n 1, 1) := by decide +kernel
theorem dX6_split_77 : decode cX6_split 77 = .ok (.iload_n 2, 1) := by decide +kernel
theorem dX6_split_78 : decode cX6_split 78 = .ok (.invokevirtual 92, 3) := by decide +kernel
theorem dX6_split_81 : decode cX6_split 81 = .ok (.iinc 1 1, 3) := by decide +kernel
theorem dX6_split_84 : decode cX6_split 84 = .ok (.goto (-77), 3) := by decide +kernel
theorem dX6_split_87 : decode cX6_split 87 = .ok (.aload_n 0, 1) := by decide +kernel
theorem dX6_split_88 : decode cX6_split 88 = .ok (.bipush 36, 2) := by decide +kernel
theorem dX6_split_90 : decode cX6_split 90 = .ok (.iconst 0, 1) := by decide +kernel
theorem dX6_split_91 : decode cX6_split 91 = .ok (.aload_n 0, 1) := by decide +kernel
theorem dX6_split_92 : decode cX6_split 92 = .ok (.getfield 15, 3) := by decide +kernel
theorem dX6_split_95 : decode cX6_split 95 = .ok (.invokevirtual 96, 3) := by decide +kernel
theorem dX6_split_98 : decode cX6_split 98 = .ok (.aload_n 0, 1) := by decide +kernel
theorem dX6_split_99 : decode cX6_split 99 = .ok (.iconst 0, 1) := by decide +kernel
theorem dX6_split_100 : decode cX6_split 100 = .ok (.putfield 32, 3) := by decide +kernel
theorem dX6_split_103 : decode cX6_split 103 = .ok (.aload_n 0, 1) := by decide +kernel
theorem dX6_split_104 : decode cX6_split 104 = .ok (.aload_n 0, 1) := by decide +kernel
theorem dX6_split_105 : decode cX6_split 105 = .ok (.getfield 19, 3) := by decide +kernel
theorem dX6_split_108 : decode cX6_split 108 = .ok (.iconst 0, 1) := by decide +kernel
theorem dX6_split_109 : decode cX6_split 109 = .ok (.iaload, 1) := by decide +kernel
theorem dX6_split_110 : decode cX6_split 110 = .ok (.putfield 35, 3) := by decide +kernel
theorem dX6_split_113 : decode cX6_split 113 = .ok (.return_, 1) := by decide +kernel
def f_X6_split_87    (h : zHp) : Option (zHp) := (f_X6_put (36 : Int32) (0 : Int32) (h 145 1) h).bind fun x1 => zlt (zst x1 145 6 (0 : Int32)) fun h2 => zix (0 : Int32) 401 (zlt (zst h2 145 7 (h2 147 (0 : Int32).toNatClampNeg)) fun h3 => some h3)
set_option maxHeartbeats 4000000 in
set_option maxRecDepth 100000 in
theorem f_X6_split_87_s   (h : zHp) : Sim wX mX6_split 6 rV 87 [(0, .ref 145)] [] h (f_X6_split_87 h) := by
  unfold f_X6_split_87
  refine Sim.aload_n 0 dX6_split_87 rfl ?_
  refine Sim.bipush (v := (36 : Int32)) dX6_split_88 rfl ?_
  refine Sim.iconst (v := (0 : Int32)) dX6_split_90 rfl ?_
  refine Sim.aload_n 0 dX6_split_91 rfl ?_
  refine Sim.getI fl_X6_15 dX6_split_92 xI_145_1 ?_
  refine Sim.callV3U (d1 := 0) (s_X6_put (36 : Int32) (0 : Int32) (h 145 1) h) dX6_split_95 ml_X6_96 mv_X6_put xO_X6 (Nat.le_of_ble_eq_true rfl) (Nat.le_of_ble_eq_true rfl) (Nat.le_of_ble_eq_true rfl) (fun x1 => ?_)
  refine Sim.aload_n 0 dX6_split_98 rfl ?_
  refine Sim.iconst (v := (0 : Int32)) dX6_split_99 rfl ?_
  refine Sim.put fp_X6_32 dX6_split_100 xI_145_6 rfl rfl ?_
  refine Sim.lth (fun h2 => ?_)
  refine Sim.aload_n 0 dX6_split_103 rfl ?_
  refine Sim.aload_n 0 dX6_split_104 rfl ?_
  refine Sim.getR (j := 147) fl_X6_19 dX6_split_105 xR_145_2 ?_
  refine Sim.iconst (v := (0 : Int32)) dX6_split_108 rfl ?_
  refine Sim.iald (n := 401) dX6_split_109 xA_147 ?_
  refine Sim.put fp_X6_35 dX6_split_110 xI_145_7 rfl rfl ?_
  refine Sim.lth (fun h3 => ?_)
  exact Sim.vret dX6_split_113 rfl
def f_X6_split_66  (k7 : Int32 × zHp → Option (zHp)) (v1 : Int32) (v2 : Int32) (s0 : Int32) (h : zHp) : Option (zHp) := (if v2 = 0 then k7 ((v1 + (1 : Int32)), h) else (if s0 = 0 then (f_X6_token v1 v2 h).bind fun x1 => k7 ((v1 + (1 : Int32)), x1) else k7 ((v1 + (1 : Int32)), h)))
set_option maxHeartbeats 4000000 in
set_option maxRecDepth 100000 in
theorem f_X6_split_66_s  (k7 : Int32 × zHp → Option (zHp)) (H7 : ∀ v : Int32 × zHp, Sim wX mX6_split 6 rV 7 [(0, .ref 145), (1, .int v.1)] [] v.2 (k7 v)) (v1 : Int32) (v2 : Int32) (s0 : Int32) (h : zHp) : Sim wX mX6_split 6 rV 66 [(0, .ref 145), (1, .int v1), (2, .int v2)] [.int s0] h (f_X6_split_66 k7 v1 v2 s0 h) := by
  unfold f_X6_split_66
  refine Sim.istore_n (L' := [(3, .int s0), (0, .ref 145), (1, .int v1), (2, .int v2)]) dX6_split_66 (Nat.le_of_ble_eq_true rfl) rfl ?_
  refine Sim.iload_n 3 dX6_split_67 rfl ?_
  refine Sim.if_eq 81 dX6_split_68 rfl ?_ ?_
  · refine Sim.iinc (L' := [(1, .int (v1 + (1 : Int32))), (3, .int s0), (0, .ref 145), (2, .int v2)]) 2 dX6_split_81 rfl rfl (Nat.le_of_ble_eq_true rfl) rfl ?_
    refine Sim.goto 7 dX6_split_84 rfl ?_
    refine Sim.locs [2, 0] rfl ?_
    exact H7 ((v1 + (1 : Int32)), h)
  · refine Sim.iload_n 0 dX6_split_71 rfl ?_
    refine Sim.if_ne 81 dX6_split_72 rfl ?_ ?_
    · refine Sim.aload_n 1 dX6_split_75 rfl ?_
      refine Sim.iload_n 2 dX6_split_76 rfl ?_
      refine Sim.iload_n 3 dX6_split_77 rfl ?_
      refine Sim.callV2U (d1 := 5) (s_X6_token v1 v2 h) dX6_split_78 ml_X6_92 mv_X6_token xO_X6 (Nat.le_of_ble_eq_true rfl) (Nat.le_of_ble_eq_true rfl) (Nat.le_of_ble_eq_true rfl) (fun x1 => ?_)
      refine Sim.iinc (L' := [(1, .int (v1 + (1 : Int32))), (3, .int s0), (0, .ref 145), (2, .int v2)]) 2 dX6_split_81 rfl rfl (Nat.le_of_ble_eq_true rfl) rfl ?_
      refine Sim.goto 7 dX6_split_84 rfl ?_
      refine Sim.locs [2, 0] rfl ?_
      exact H7 ((v1 + (1 : Int32)), x1)
    · refine Sim.iinc (L' := [(1, .int (v1 + (1 : Int32))), (3, .int s0), (0, .ref 145), (2, .int v2)]) 2 dX6_split_81 rfl rfl (Nat.le_of_ble_eq_true rfl) rfl ?_
      refine Sim.goto 7 dX6_split_84 rfl ?_
      refine Sim.locs [2, 0] rfl ?_
      exact H7 ((v1 + (1 : Int32)), h)
def f_X6_split_46  (k7 : Int32 × zHp → Option (zHp)) (v1 : Int32) (v2 : Int32) (h : zHp) : Option (zHp) := zix (v1 - (1 : Int32)) 400 ((f_X6_sortOf (h 146 (v1 - (1 : Int32)).toNatClampNeg) h).bind fun x1 => (if v2 = x1.1 then f_X6_split_66 k7 v1 v2 (1 : Int32) x1.2 else f_X6_split_66 k7 v1 v2 (0 : Int32) x1.2))
set_option maxHeartbeats 4000000 in
set_option maxRecDepth 100000 in
theorem f_X6_split_46_s  (k7 : Int32 × zHp → Option (zHp)) (H7 : ∀ v : Int32 × zHp, Sim wX mX6_split 6 rV 7 [(0, .ref 145), (1, .int v.1)] [] v.2 (k7 v)) (v1 : Int32) (v2 : Int32) (h : zHp) : Sim wX mX6_split 6 rV 46 [(0, .ref 145), (1, .int v1), (2, .int v2)] [] h (f_X6_split_46 k7 v1 v2 h) := by
  unfold f_X6_split_46
  refine Sim.iload_n 2 dX6_split_46 rfl ?_
  refine Sim.aload_n 0 dX6_split_47 rfl ?_
  refine Sim.getR (j := 146) fl_X6_9 dX6_split_48 xR_145_0 ?_
  refine Sim.iload_n 1 dX6_split_51 rfl ?_
  refine Sim.iconst (v := (1 : Int32)) dX6_split_52 rfl ?_
  refine Sim.isub dX6_split_53 ?_
  refine Sim.cald (n := 400) dX6_split_54 xA_146 ?_
  refine Sim.callS1I (d1 := 0) (s_X6_sortOf (h 146 (v1 - (1 : Int32)).toNatClampNeg) h) dX6_split_55 ml_X6_88 mv_X6_sortOf (Nat.le_of_ble_eq_true rfl) (Nat.le_of_ble_eq_true rfl) (Nat.le_of_ble_eq_true rfl) (fun x1 => ?_)
  refine Sim.icmp_ne 65 dX6_split_58 rfl ?_ ?_
  · refine Sim.iconst (v := (1 : Int32)) dX6_split_61 rfl ?_
    refine Sim.goto 66 dX6_split_62 rfl ?_
    exact f_X6_split_66_s k7 H7 v1 v2 (1 : Int32) x1.2
  · refine Sim.iconst (v := (0 : Int32)) dX6_split_65 rfl ?_
    exact f_X6_split_66_s k7 H7 v1 v2 (0 : Int32) x1.2
def f_X6_split_7  (k7 : Int32 × zHp → Option (zHp)) (v1 : Int32) (h : zHp) : Option (zHp) := (if v1 < (h 145 1) then (if v1 < (400 : Int32) then zix v1 400 ((f_X6_sortOf (h 146 v1.toNatClampNeg) h).bind fun x1 => (if 0 < v1 then (if x1.1 = (1 : Int32) then f_X6_split_46 k7 v1 x1.1 x1.2 else (if x1.1 = (2 : Int32) then f_X6_split_46 k7 v1 x1.1 x1.2 else f_X6_split_66 k7 v1 x1.1 (0 : Int32) x1.2)) else f_X6_split_66 k7 v1 x1.1 (0 : Int32) x1.2)) else f_X6_split_87 h) else f_X6_split_87 h)
set_option maxHeartbeats 4000000 in
set_option maxRecDepth 100000 in
theorem f_X6_split_7_s  (k7 : Int32 × zHp → Option (zHp)) (H7 : ∀ v : Int32 × zHp, Sim wX mX6_split 6 rV 7 [(0, .ref 145), (1, .int v.1)] [] v.2 (k7 v)) (v1 : Int32) (h : zHp) : Sim wX mX6_split 6 rV 7 [(0, .ref 145), (1, .int v1)] [] h (f_X6_split_7 k7 v1 h) := by
  unfold f_X6_split_7
  refine Sim.iload_n 1 dX6_split_7 rfl ?_
  refine Sim.aload_n 0 dX6_split_8 rfl ?_
  refine Sim.getI fl_X6_15 dX6_split_9 xI_145_1 ?_
  refine Sim.icmp_ge 87 dX6_split_12 rfl ?_ ?_
  · refine Sim.iload_n 1 dX6_split_15 rfl ?_
    refine Sim.sipush (v := (400 : Int32)) dX6_split_16 rfl ?_
    refine Sim.icmp_ge 87 dX6_split_19 rfl ?_ ?_
    · refine Sim.aload_n 0 dX6_split_22 rfl ?_
      refine Sim.getR (j := 146) fl_X6_9 dX6_split_23 xR_145_0 ?_
      refine Sim.iload_n 1 dX6_split_26 rfl ?_
      refine Sim.cald (n := 400) dX6_split_27 xA_146 ?_
      refine Sim.callS1I (d1 := 0) (s_X6_sortOf (h 146 v1.toNatClampNeg) h) dX6_split_28 ml_X6_88 mv_X6_sortOf (Nat.le_of_ble_eq_true rfl) (Nat.le_of_ble_eq_true rfl) (Nat.le_of_ble_eq_true rfl) (fun x1 => ?_)
      refine Sim.istore_n (L' := [(2, .int x1.1), (0, .ref 145), (1, .int v1)]) dX6_split_31 (Nat.le_of_ble_eq_true rfl) rfl ?_
      refine Sim.iload_n 2 dX6_split_32 rfl ?_
      refine Sim.if_le 65 dX6_split_33 rfl ?_ ?_
      · refine Sim.iload_n 0 dX6_split_36 rfl ?_
        refine Sim.iconst (v := (1 : Int32)) dX6_split_37 rfl ?_
        refine Sim.icmp_eq 46 dX6_split_38 rfl ?_ ?_
        · refine Sim.locs [1, 2, 0] rfl ?_
          exact f_X6_split_46_s k7 H7 v1 x1.1 x1.2
        · refine Sim.iload_n 0 dX6_split_41 rfl ?_
          refine Sim.iconst (v := (2 : Int32)) dX6_split_42 rfl ?_
          refine Sim.icmp_ne 65 dX6_split_43 rfl ?_ ?_
          · refine Sim.locs [1, 2, 0] rfl ?_
            exact f_X6_split_46_s k7 H7 v1 x1.1 x1.2
          · refine Sim.iconst (v := (0 : Int32)) dX6_split_65 rfl ?_
            refine Sim.locs [1, 2, 0] rfl ?_
            exact f_X6_split_66_s k7 H7 v1 x1.1 (0 : Int32) x1.2
      · refine Sim.iconst (v := (0 : Int32)) dX6_split_65 rfl ?_
        refine Sim.locs [1, 2, 0] rfl ?_
        exact f_X6_split_66_s k7 H7 v1 x1.1 (0 : Int32) x1.2
    · refine Sim.locs [0] rfl ?_
      exact f_X6_split_87_s h
  · refine Sim.locs [0] rfl ?_
    exact f_X6_split_87_s h
def f_X6_split_7_lp   (n : Nat) (v : Int32 × zHp) : Option (zHp) := zlp (fun k7 v => f_X6_split_7 k7 v.1 v.2) n v
theorem f_X6_split_7_ls  (n : Nat) (v : Int32 × zHp) : Sim wX mX6_split 6 rV 7 [(0, .ref 145), (1, .int v.1)] [] v.2 (f_X6_split_7_lp n v) :=
  Sim.lp (V := Int32 × zHp) (Lf := fun v => [(0, .ref 145), (1, .int v.1)]) (sf := fun v => []) (hf := fun v => v.2) (fun k7 H7 v => f_X6_split_7_s k7 H7 v.1 v.2) n v
def f_X6_split   (h : zHp) : Option (zHp) := zlt (zst h 145 5 (0 : Int32)) fun h1 => f_X6_split_7_lp  zN ((0 : Int32), h1)
set_option maxHeartbeats 4000000 in
set_option maxRecDepth 100000 in
theorem s_X6_split   (h : zHp) : Fn wX mX6_split 6 rV [.ref 145] h (f_X6_split  h) := by
  refine Fn.of rfl (Nat.le_of_ble_eq_true rfl) ?_
  unfold f_X6_split
  refine Sim.aload_n 0 dX6_split_0 rfl ?_
  refine Sim.iconst (v := (0 : Int32)) dX6_split_1 rfl ?_
  refine Sim.put fp_X6_29 dX6_split_2 xI_145_5 rfl rfl ?_
  refine Sim.lth (fun h1 => ?_)
  refine Sim.iconst (v := (0 : Int32)) dX6_split_5 rfl ?_
  refine Sim.istore_n (L' := [(1, .int (0 : Int32)), (0, .ref 145)]) dX6_split_6 (Nat.le_of_ble_eq_true rfl) rfl ?_
  refine Sim.locs [1, 0] rfl ?_
  exact f_X6_split_7_ls  zN ((0 : Int32), h1)
theorem mv_X6_split : zMV mX6_split 0 := ⟨⟨zTb_in 775 (by decide +kernel) rfl, zTb_in 145 (by decide +kernel) rfl, ⟨by decide +kernel, by decide +kernel⟩, by decide +kernel⟩, zTb_in 774 (by decide +kernel) rfl, zTb_in 11 (by decide +kernel) rfl⟩
-- ===== RockingPorch$Reader.fail(I)V
abbrev mX6_fail : zMt := (yX6_fail, cX6_fail, 2, none)
theorem fl_X6_32 : zF RX6 32 6 6 := ⟨RX6, TX6, 14, rfl, Nat.le_of_ble_eq_true rfl, zTb_in 436 (by decide +kernel) rfl, in_X6⟩
theorem fl_X6_60 : zF RX6 60 6 12 := ⟨RX6, TX6, 14, rfl, Nat.le_of_ble_eq_true rfl, zTb_in 444 (by decide +kernel) rfl, in_X6⟩
theorem fp_X6_60 : zFp RX6 60 6 12 .int := ⟨RX6, TX6, 14, tyX6, rfl, Nat.le_of_ble_eq_true rfl, zTb_in 444 (by decide +kernel) rfl, in_X6, tyX6_ok, nmX6, rfl, rfl⟩
theorem fp_X6_63 : zFp RX6 63 6 13 .int := ⟨RX6, TX6, 14, tyX6, rfl, Nat.le_of_ble_eq_true rfl, zTb_in 446 (by decide +kernel) rfl, in_X6, tyX6_ok, nmX6, rfl, rfl⟩
theorem dX6_fail_0 : decode cX6_fail 0 = .ok (.aload_n 0, 1) := by decide +kernel
theorem dX6_fail_1 : decode cX6_fail 1 = .ok (.getfield 60, 3) := by decide +kernel
theorem dX6_fail_4 : decode cX6_fail 4 = .ok (.ifCond .ne 21, 3) := by decide +kernel
theorem dX6_fail_7 : decode cX6_fail 7 = .ok (.aload_n 0, 1) := by decide +kernel
theorem dX6_fail_8 : decode cX6_fail 8 = .ok (.iload_n 1, 1) := by decide +kernel
theorem dX6_fail_9 : decode cX6_fail 9 = .ok (.putfield 60, 3) := by decide +kernel
theorem dX6_fail_12 : decode cX6_fail 12 = .ok (.aload_n 0, 1) := by decide +kernel
theorem dX6_fail_13 : decode cX6_fail 13 = .ok (.aload_n 0, 1) := by decide +kernel
theorem dX6_fail_14 : decode cX6_fail 14 = .ok (.getfield 26, 3) := by decide +kernel
theorem dX6_fail_17 : decode cX6_fail 17 = .ok (.aload_n 0, 1) := by decide +kernel
theorem dX6_fail_18 : decode cX6_fail 18 = .ok (.getfield 32, 3) := by decide +kernel
theorem dX6_fail_21 : decode cX6_fail 21 = .ok (.iaload, 1) := by decide +kernel
theorem dX6_fail_22 : decode cX6_fail 22 = .ok (.putfield 63, 3) := by decide +kernel
theorem dX6_fail_25 : decode cX6_fail 25 = .ok (.return_, 1) := by decide +kernel
def f_X6_fail  (a1 : Int32) (h : zHp) : Option (zHp) := (if (h 145 12) = 0 then zlt (zst h 145 12 a1) fun h1 => zix (h1 145 6) 401 (zlt (zst h1 145 13 (h1 149 (h1 145 6).toNatClampNeg)) fun h2 => some h2) else some h)
set_option maxHeartbeats 4000000 in
set_option maxRecDepth 100000 in
theorem s_X6_fail  (a1 : Int32) (h : zHp) : Fn wX mX6_fail 0 rV [.ref 145, .int a1] h (f_X6_fail a1 h) := by
  refine Fn.of rfl (Nat.le_of_ble_eq_true rfl) ?_
  unfold f_X6_fail
  refine Sim.aload_n 0 dX6_fail_0 rfl ?_
  refine Sim.getI fl_X6_60 dX6_fail_1 xI_145_12 ?_
  refine Sim.if_ne 25 dX6_fail_4 rfl ?_ ?_
  · refine Sim.aload_n 0 dX6_fail_7 rfl ?_
    refine Sim.iload_n 1 dX6_fail_8 rfl ?_
    refine Sim.put fp_X6_60 dX6_fail_9 xI_145_12 rfl rfl ?_
    refine Sim.lth (fun h1 => ?_)
    refine Sim.aload_n 0 dX6_fail_12 rfl ?_
    refine Sim.aload_n 0 dX6_fail_13 rfl ?_
    refine Sim.getR (j := 149) fl_X6_26 dX6_fail_14 xR_145_4 ?_
    refine Sim.aload_n 0 dX6_fail_17 rfl ?_
    refine Sim.getI fl_X6_32 dX6_fail_18 xI_145_6 ?_
    refine Sim.iald (n := 401) dX6_fail_21 xA_149 ?_
    refine Sim.put fp_X6_63 dX6_fail_22 xI_145_13 rfl rfl ?_
    refine Sim.lth (fun h2 => ?_)
    exact Sim.vret dX6_fail_25 rfl
  · exact Sim.vret dX6_fail_25 rfl
theorem mv_X6_fail : zMV mX6_fail 1 := ⟨⟨zTb_in 908 (by decide +kernel) rfl, zTb_in 145 (by decide +kernel) rfl, ⟨by decide +kernel, by decide +kernel⟩, by decide +kernel⟩, zTb_in 907 (by decide +kernel) rfl, zTb_in 17 (by decide +kernel) rfl⟩
-- ===== RockingPorch$Reader.advance()V
abbrev mX6_advance : zMt := (yX6_advance, cX6_advance, 1, none)
theorem dX6_advance_0 : decode cX6_advance 0 = .ok (.aload_n 0, 1) := by decide +kernel
theorem dX6_advance_1 : decode cX6_advance 1 = .ok (.getfield 32, 3) := by decide +kernel
theorem dX6_advance_4 : decode cX6_advance 4 = .ok (.iconst 1, 1) := by decide +kernel
theorem dX6_advance_5 : decode cX6_advance 5 = .ok (.iadd, 1) := by decide +kernel
theorem dX6_advance_6 : decode cX6_advance 6 = .ok (.aload_n 0, 1) := by decide +kernel
theorem dX6_advance_7 : decode cX6_advance 7 = .ok (.getfield 29, 3) := by decide +kernel
theorem dX6_advance_10 : decode cX6_advance 10 = .ok (.if_icmp .ge 26, 3) := by decide +kernel
theorem dX6_advance_13 : decode cX6_advance 13 = .ok (.aload_n 0, 1) := by decide +kernel
theorem dX6_advance_14 : decode cX6_advance 14 = .ok (.dup, 1) := by decide +kernel
theorem dX6_advance_15 : decode cX6_advance 15 = .ok (.getfield 32, 3) := by decide +kernel
theorem dX6_advance_18 : decode cX6_advance 18 = .ok (.iconst 1, 1) := by decide +kernel
theorem dX6_advance_19 : decode cX6_advance 19 = .ok (.iadd, 1) := by decide +kernel
theorem dX6_advance_20 : decode cX6_advance 20 = .ok (.putfield 32, 3) := by decide +kernel
theorem dX6_advance_23 : decode cX6_advance 23 = .ok (.aload_n 0, 1) := by decide +kernel
theorem dX6_advance_24 : decode cX6_advance 24 = .ok (.aload_n 0, 1) := by decide +kernel
theorem dX6_advance_25 : decode cX6_advance 25 = .ok (.getfield 19, 3) := by decide +kernel
theorem dX6_advance_28 : decode cX6_advance 28 = .ok (.aload_n 0, 1) := by decide +kernel
theorem dX6_advance_29 : decode cX6_advance 29 = .ok (.getfield 32, 3) := by decide +kernel
theorem dX6_advance_32 : decode cX6_advance 32 = .ok (.iaload, 1) := by decide +kernel
theorem dX6_advance_33 : decode cX6_advance 33 = .ok (.putfield 35, 3) := by decide +kernel
theorem dX6_advance_36 : decode cX6_advance 36 = .ok (.return_, 1) := by decide +kernel
def f_X6_advance   (h : zHp) : Option (zHp) := (if ((h 145 6) + (1 : Int32)) < (h 145 5) then zlt (zst h 145 6 ((h 145 6) + (1 : Int32))) fun h1 => zix (h1 145 6) 401 (zlt (zst h1 145 7 (h1 147 (h1 145 6).toNatClampNeg)) fun h2 => some h2) else some h)
set_option maxHeartbeats 4000000 in
set_option maxRecDepth 100000 in
theorem s_X6_advance   (h : zHp) : Fn wX mX6_advance 0 rV [.ref 145] h (f_X6_advance  h) := by
  refine Fn.of rfl (Nat.le_of_ble_eq_true rfl) ?_
  unfold f_X6_advance
  refine Sim.aload_n 0 dX6_advance_0 rfl ?_
  refine Sim.getI fl_X6_32 dX6_advance_1 xI_145_6 ?_
  refine Sim.iconst (v := (1 : Int32)) dX6_advance_4 rfl ?_
  refine Sim.iadd dX6_advance_5 ?_
  refine Sim.aload_n 0 dX6_advance_6 rfl ?_
  refine Sim.getI fl_X6_29 dX6_advance_7 xI_145_5 ?_
  refine Sim.icmp_ge 36 dX6_advance_10 rfl ?_ ?_
  · refine Sim.aload_n 0 dX6_advance_13 rfl ?_
    refine Sim.dup dX6_advance_14 rfl ?_
    refine Sim.getI fl_X6_32 dX6_advance_15 xI_145_6 ?_
    refine Sim.iconst (v := (1 : Int32)) dX6_advance_18 rfl ?_
    refine Sim.iadd dX6_advance_19 ?_
    refine Sim.put fp_X6_32 dX6_advance_20 xI_145_6 rfl rfl ?_
    refine Sim.lth (fun h1 => ?_)
    refine Sim.aload_n 0 dX6_advance_23 rfl ?_
    refine Sim.aload_n 0 dX6_advance_24 rfl ?_
    refine Sim.getR (j := 147) fl_X6_19 dX6_advance_25 xR_145_2 ?_
    refine Sim.aload_n 0 dX6_advance_28 rfl ?_
    refine Sim.getI fl_X6_32 dX6_advance_29 xI_145_6 ?_
    refine Sim.iald (n := 401) dX6_advance_32 xA_147 ?_
    refine Sim.put fp_X6_35 dX6_advance_33 xI_145_7 rfl rfl ?_
    refine Sim.lth (fun h2 => ?_)
    exact Sim.vret dX6_advance_36 rfl
  · exact Sim.vret dX6_advance_36 rfl
theorem mv_X6_advance : zMV mX6_advance 0 := ⟨⟨zTb_in 916 (by decide +kernel) rfl, zTb_in 145 (by decide +kernel) rfl, ⟨by decide +kernel, by decide +kernel⟩, by decide +kernel⟩, zTb_in 915 (by decide +kernel) rfl, zTb_in 18 (by decide +kernel) rfl⟩
-- ===== RockingPorch$Reader.expectNumber(II)I
abbrev mX6_expectNumber : zMt := (yX6_expectNumber, cX6_expectNumber, 4, some .int)
theorem fl_X6_35 : zF RX6 35 6 7 := ⟨RX6, TX6, 14, rfl, Nat.le_of_ble_eq_true rfl, zTb_in 437 (by decide +kernel) rfl, in_X6⟩
theorem ml_X6_130 : Cond.methodLink RX6 130 yX6_advance ∈ zTb := zTb_in 913 (by decide +kernel) rfl
theorem ml_X6_133 : Cond.methodLink RX6 133 yX6_fail ∈ zTb := zTb_in 905 (by decide +kernel) rfl
theorem dX6_expectNumber_0 : decode cX6_expectNumber 0 = .ok (.aload_n 0, 1) := by decide +kernel
theorem dX6_expectNumber_1 : decode cX6_expectNumber 1 = .ok (.getfield 60, 3) := by decide +kernel
theorem dX6_expectNumber_4 : decode cX6_expectNumber 4 = .ok (.ifCond .eq 5, 3) := by decide +kernel
theorem dX6_expectNumber_7 : decode cX6_expectNumber 7 = .ok (.iconst 0, 1) := by decide +kernel
theorem dX6_expectNumber_8 : decode cX6_expectNumber 8 = .ok (.ireturn, 1) := by decide +kernel
theorem dX6_expectNumber_9 : decode cX6_expectNumber 9 = .ok (.aload_n 0, 1) := by decide +kernel
theorem dX6_expectNumber_10 : decode cX6_expectNumber 10 = .ok (.getfield 23, 3) := by decide +kernel
theorem dX6_expectNumber_13 : decode cX6_expectNumber 13 = .ok (.aload_n 0, 1) := by decide +kernel
theorem dX6_expectNumber_14 : decode cX6_expectNumber 14 = .ok (.getfield 32, 3) := by decide +kernel
theorem dX6_expectNumber_17 : decode cX6_expectNumber 17 = .ok (.iaload, 1) := by decide +kernel
theorem dX6_expectNumber_18 : decode cX6_expectNumber 18 = .ok (.istore_n 3, 1) := by decide +kernel
theorem dX6_expectNumber_19 : decode cX6_expectNumber 19 = .ok (.aload_n 0, 1) := by decide +kernel
theorem dX6_expectNumber_20 : decode cX6_expectNumber 20 = .ok (.getfield 35, 3) := by decide +kernel
theorem dX6_expectNumber_23 : decode cX6_expectNumber 23 = .ok (.bipush 34, 2) := by decide +kernel
theorem dX6_expectNumber_25 : decode cX6_expectNumber 25 = .ok (.if_icmp .eq 11, 3) := by decide +kernel
theorem dX6_expectNumber_28 : decode cX6_expectNumber 28 = .ok (.aload_n 0, 1) := by decide +kernel
theorem dX6_expectNumber_29 : decode cX6_expectNumber 29 = .ok (.iconst 1, 1) := by decide +kernel
theorem dX6_expectNumber_30 : decode cX6_expectNumber 30 = .ok (.invokevirtual 133, 3) := by decide +kernel
theorem dX6_expectNumber_33 : decode cX6_expectNumber 33 = .ok (.goto 25, 3) := by decide +kernel
theorem dX6_expectNumber_36 : decode cX6_expectNumber 36 = .ok (.iload_n 3, 1) := by decide +kernel
theorem dX6_expectNumber_37 : decode cX6_expectNumber 37 = .ok (.iload_n 1, 1) := by decide +kernel
theorem dX6_expectNumber_38 : decode cX6_expectNumber 38 = .ok (.if_icmp .gt 8, 3) := by decide +kernel
theorem dX6_expectNumber_41 : decode cX6_expectNumber 41 = .ok (.iload_n 3, 1) := by decide +kernel
theorem dX6_expectNumber_42 : decode cX6_expectNumber 42 = .ok (.iload_n 2, 1) := by decide +kernel
theorem dX6_expectNumber_43 : decode cX6_expectNumber 43 = .ok (.if_icmp .ne 11, 3) := by decide +kernel
theorem dX6_expectNumber_46 : decode cX6_expectNumber 46 = .ok (.aload_n 0, 1) := by decide +kernel
theorem dX6_expectNumber_47 : decode cX6_expectNumber 47 = .ok (.iconst 2, 1) := by decide +kernel
theorem dX6_expectNumber_48 : decode cX6_expectNumber 48 = .ok (.invokevirtual 133, 3) := by decide +kernel
theorem dX6_expectNumber_51 : decode cX6_expectNumber 51 = .ok (.goto 7, 3) := by decide +kernel
theorem dX6_expectNumber_54 : decode cX6_expectNumber 54 = .ok (.aload_n 0, 1) := by decide +kernel
theorem dX6_expectNumber_55 : decode cX6_expectNumber 55 = .ok (.invokevirtual 130, 3) := by decide +kernel
theorem dX6_expectNumber_58 : decode cX6_expectNumber 58 = .ok (.iload_n 3, 1) := by decide +kernel
theorem dX6_expectNumber_59 : decode cX6_expectNumber 59 = .ok (.ireturn, 1) := by decide +kernel
def f_X6_expectNumber_46   (v3 : Int32) (h : zHp) : Option (Int32 × zHp) := (f_X6_fail (2 : Int32) h).bind fun x1 => some (v3, x1)
set_option maxHeartbeats 4000000 in
set_option maxRecDepth 100000 in
theorem f_X6_expectNumber_46_s  (v3 : Int32) (h : zHp) : Sim wX mX6_expectNumber 1 rI 46 [(0, .ref 145), (3, .int v3)] [] h (f_X6_expectNumber_46 v3 h) := by
  unfold f_X6_expectNumber_46
  refine Sim.aload_n 0 dX6_expectNumber_46 rfl ?_
  refine Sim.iconst (v := (2 : Int32)) dX6_expectNumber_47 rfl ?_
  refine Sim.callV1U (d1 := 0) (s_X6_fail (2 : Int32) h) dX6_expectNumber_48 ml_X6_133 mv_X6_fail xO_X6 (Nat.le_of_ble_eq_true rfl) (Nat.le_of_ble_eq_true rfl) (Nat.le_of_ble_eq_true rfl) (fun x1 => ?_)
  refine Sim.goto 58 dX6_expectNumber_51 rfl ?_
  refine Sim.iload_n 1 dX6_expectNumber_58 rfl ?_
  exact Sim.iret dX6_expectNumber_59 rfl
def f_X6_expectNumber  (a1 : Int32) (a2 : Int32) (h : zHp) : Option (Int32 × zHp) := (if (h 145 12) = 0 then zix (h 145 6) 401 (zlt (h 148 (h 145 6).toNatClampNeg) fun x1 => (if (h 145 7) = (34 : Int32) then (if a1 < x1 then f_X6_expectNumber_46 x1 h else (if x1 = a2 then f_X6_expectNumber_46 x1 h else (f_X6_advance h).bind fun x2 => some (x1, x2))) else (f_X6_fail (1 : Int32) h).bind fun x3 => some (x1, x3))) else some ((0 : Int32), h))
set_option maxHeartbeats 4000000 in
set_option maxRecDepth 100000 in
theorem s_X6_expectNumber  (a1 : Int32) (a2 : Int32) (h : zHp) : Fn wX mX6_expectNumber 1 rI [.ref 145, .int a1, .int a2] h (f_X6_expectNumber a1 a2 h) := by
  refine Fn.of rfl (Nat.le_of_ble_eq_true rfl) ?_
  unfold f_X6_expectNumber
  refine Sim.aload_n 0 dX6_expectNumber_0 rfl ?_
  refine Sim.getI fl_X6_60 dX6_expectNumber_1 xI_145_12 ?_
  refine Sim.if_eq 9 dX6_expectNumber_4 rfl ?_ ?_
  · refine Sim.aload_n 0 dX6_expectNumber_9 rfl ?_
    refine Sim.getR (j := 148) fl_X6_23 dX6_expectNumber_10 xR_145_3 ?_
    refine Sim.aload_n 0 dX6_expectNumber_13 rfl ?_
    refine Sim.getI fl_X6_32 dX6_expectNumber_14 xI_145_6 ?_
    refine Sim.iald (n := 401) dX6_expectNumber_17 xA_148 ?_
    refine Sim.lti (fun x1 => ?_)
    refine Sim.istore_n (L' := [(3, .int x1), (0, .ref 145), (1, .int a1), (2, .int a2)]) dX6_expectNumber_18 (Nat.le_of_ble_eq_true rfl) rfl ?_
    refine Sim.aload_n 1 dX6_expectNumber_19 rfl ?_
    refine Sim.getI fl_X6_35 dX6_expectNumber_20 xI_145_7 ?_
    refine Sim.bipush (v := (34 : Int32)) dX6_expectNumber_23 rfl ?_
    refine Sim.icmp_eq 36 dX6_expectNumber_25 rfl ?_ ?_
    · refine Sim.iload_n 0 dX6_expectNumber_36 rfl ?_
      refine Sim.iload_n 2 dX6_expectNumber_37 rfl ?_
      refine Sim.icmp_gt 46 dX6_expectNumber_38 rfl ?_ ?_
      · refine Sim.locs [1, 0] rfl ?_
        exact f_X6_expectNumber_46_s x1 h
      · refine Sim.iload_n 0 dX6_expectNumber_41 rfl ?_
        refine Sim.iload_n 3 dX6_expectNumber_42 rfl ?_
        refine Sim.icmp_ne 54 dX6_expectNumber_43 rfl ?_ ?_
        · refine Sim.locs [1, 0] rfl ?_
          exact f_X6_expectNumber_46_s x1 h
        · refine Sim.aload_n 1 dX6_expectNumber_54 rfl ?_
          refine Sim.callV0U (d1 := 0) (s_X6_advance h) dX6_expectNumber_55 ml_X6_130 mv_X6_advance xO_X6 (Nat.le_of_ble_eq_true rfl) (Nat.le_of_ble_eq_true rfl) (Nat.le_of_ble_eq_true rfl) (fun x2 => ?_)
          refine Sim.iload_n 0 dX6_expectNumber_58 rfl ?_
          exact Sim.iret dX6_expectNumber_59 rfl
    · refine Sim.aload_n 1 dX6_expectNumber_28 rfl ?_
      refine Sim.iconst (v := (1 : Int32)) dX6_expectNumber_29 rfl ?_
      refine Sim.callV1U (d1 := 0) (s_X6_fail (1 : Int32) h) dX6_expectNumber_30 ml_X6_133 mv_X6_fail xO_X6 (Nat.le_of_ble_eq_true rfl) (Nat.le_of_ble_eq_true rfl) (Nat.le_of_ble_eq_true rfl) (fun x3 => ?_)
      refine Sim.goto 58 dX6_expectNumber_33 rfl ?_
      refine Sim.iload_n 0 dX6_expectNumber_58 rfl ?_
      exact Sim.iret dX6_expectNumber_59 rfl
  · refine Sim.iconst (v := (0 : Int32)) dX6_expectNumber_7 rfl ?_
    exact Sim.iret dX6_expectNumber_8 rfl
theorem mv_X6_expectNumber : zMV mX6_expectNumber 2 := ⟨⟨zTb_in 924 (by decide +kernel) rfl, zTb_in 145 (by decide +kernel) rfl, ⟨by decide +kernel, by decide +kernel⟩, by decide +kernel⟩, zTb_in 923 (by decide +kernel) rfl, zTb_in 20 (by decide +kernel) rfl⟩
-- ===== RockingPorch$Reader.expectUnit()I
abbrev mX6_expectUnit : zMt := (yX6_expectUnit, cX6_expectUnit, 2, some .int)
theorem dX6_expectUnit_0 : decode cX6_expectUnit 0 = .ok (.aload_n 0, 1) := by decide +kernel
theorem dX6_expectUnit_1 : decode cX6_expectUnit 1 = .ok (.getfield 35, 3) := by decide +kernel
theorem dX6_expectUnit_4 : decode cX6_expectUnit 4 = .ok (.bipush 34, 2) := by decide +kernel
theorem dX6_expectUnit_6 : decode cX6_expectUnit 6 = .ok (.if_icmp .ne 15, 3) := by decide +kernel
theorem dX6_expectUnit_9 : decode cX6_expectUnit 9 = .ok (.aload_n 0, 1) := by decide +kernel
theorem dX6_expectUnit_10 : decode cX6_expectUnit 10 = .ok (.getfield 23, 3) := by decide +kernel
theorem dX6_expectUnit_13 : decode cX6_expectUnit 13 = .ok (.aload_n 0, 1) := by decide +kernel
theorem dX6_expectUnit_14 : decode cX6_expectUnit 14 = .ok (.getfield 32, 3) := by decide +kernel
theorem dX6_expectUnit_17 : decode cX6_expectUnit 17 = .ok (.iaload, 1) := by decide +kernel
theorem dX6_expectUnit_18 : decode cX6_expectUnit 18 = .ok (.goto 9, 3) := by decide +kernel
theorem dX6_expectUnit_21 : decode cX6_expectUnit 21 = .ok (.aload_n 0, 1) := by decide +kernel
theorem dX6_expectUnit_22 : decode cX6_expectUnit 22 = .ok (.getfield 35, 3) := by decide +kernel
theorem dX6_expectUnit_25 : decode cX6_expectUnit 25 = .ok (.iconst (-1), 1) := by decide +kernel
theorem dX6_expectUnit_26 : decode cX6_expectUnit 26 = .ok (.ixor, 1) := by decide +kernel
theorem dX6_expectUnit_27 : decode cX6_expectUnit 27 = .ok (.istore_n 1, 1) := by decide +kernel
theorem dX6_expectUnit_28 : decode cX6_expectUnit 28 = .ok (.aload_n 0, 1) := by decide +kernel
theorem dX6_expectUnit_29 : decode cX6_expectUnit 29 = .ok (.getfield 35, 3) := by decide +kernel
theorem dX6_expectUnit_32 : decode cX6_expectUnit 32 = .ok (.bipush 34, 2) := by decide +kernel
theorem dX6_expectUnit_34 : decode cX6_expectUnit 34 = .ok (.if_icmp .eq 20, 3) := by decide +kernel
theorem dX6_expectUnit_37 : decode cX6_expectUnit 37 = .ok (.aload_n 0, 1) := by decide +kernel
theorem dX6_expectUnit_38 : decode cX6_expectUnit 38 = .ok (.getfield 35, 3) := by decide +kernel
theorem dX6_expectUnit_41 : decode cX6_expectUnit 41 = .ok (.iconst 3, 1) := by decide +kernel
theorem dX6_expectUnit_42 : decode cX6_expectUnit 42 = .ok (.if_icmp .lt 19, 3) := by decide +kernel
theorem dX6_expectUnit_45 : decode cX6_expectUnit 45 = .ok (.aload_n 0, 1) := by decide +kernel
theorem dX6_expectUnit_46 : decode cX6_expectUnit 46 = .ok (.getfield 35, 3) := by decide +kernel
theorem dX6_expectUnit_49 : decode cX6_expectUnit 49 = .ok (.bipush 11, 2) := by decide +kernel
theorem dX6_expectUnit_51 : decode cX6_expectUnit 51 = .ok (.if_icmp .gt 10, 3) := by decide +kernel
theorem dX6_expectUnit_54 : decode cX6_expectUnit 54 = .ok (.aload_n 0, 1) := by decide +kernel
theorem dX6_expectUnit_55 : decode cX6_expectUnit 55 = .ok (.invokevirtual 130, 3) := by decide +kernel
theorem dX6_expectUnit_58 : decode cX6_expectUnit 58 = .ok (.goto 8, 3) := by decide +kernel
theorem dX6_expectUnit_61 : decode cX6_expectUnit 61 = .ok (.aload_n 0, 1) := by decide +kernel
theorem dX6_expectUnit_62 : decode cX6_expectUnit 62 = .ok (.iconst 1, 1) := by decide +kernel
theorem dX6_expectUnit_63 : decode cX6_expectUnit 63 = .ok (.invokevirtual 133, 3) := by decide +kernel
theorem dX6_expectUnit_66 : decode cX6_expectUnit 66 = .ok (.iload_n 1, 1) := by decide +kernel
theorem dX6_expectUnit_67 : decode cX6_expectUnit 67 = .ok (.ireturn, 1) := by decide +kernel
def f_X6_expectUnit_27   (s0 : Int32) (h : zHp) : Option (Int32 × zHp) := (if (h 145 7) = (34 : Int32) then (f_X6_advance h).bind fun x1 => some (s0, x1) else (if (h 145 7) < (3 : Int32) then (f_X6_fail (1 : Int32) h).bind fun x2 => some (s0, x2) else (if (11 : Int32) < (h 145 7) then (f_X6_fail (1 : Int32) h).bind fun x3 => some (s0, x3) else (f_X6_advance h).bind fun x4 => some (s0, x4))))
set_option maxHeartbeats 4000000 in
set_option maxRecDepth 100000 in
theorem f_X6_expectUnit_27_s  (s0 : Int32) (h : zHp) : Sim wX mX6_expectUnit 1 rI 27 [(0, .ref 145)] [.int s0] h (f_X6_expectUnit_27 s0 h) := by
  unfold f_X6_expectUnit_27
  refine Sim.istore_n (L' := [(1, .int s0), (0, .ref 145)]) dX6_expectUnit_27 (Nat.le_of_ble_eq_true rfl) rfl ?_
  refine Sim.aload_n 1 dX6_expectUnit_28 rfl ?_
  refine Sim.getI fl_X6_35 dX6_expectUnit_29 xI_145_7 ?_
  refine Sim.bipush (v := (34 : Int32)) dX6_expectUnit_32 rfl ?_
  refine Sim.icmp_eq 54 dX6_expectUnit_34 rfl ?_ ?_
  · refine Sim.aload_n 1 dX6_expectUnit_54 rfl ?_
    refine Sim.callV0U (d1 := 0) (s_X6_advance h) dX6_expectUnit_55 ml_X6_130 mv_X6_advance xO_X6 (Nat.le_of_ble_eq_true rfl) (Nat.le_of_ble_eq_true rfl) (Nat.le_of_ble_eq_true rfl) (fun x1 => ?_)
    refine Sim.goto 66 dX6_expectUnit_58 rfl ?_
    refine Sim.iload_n 0 dX6_expectUnit_66 rfl ?_
    exact Sim.iret dX6_expectUnit_67 rfl
  · refine Sim.aload_n 1 dX6_expectUnit_37 rfl ?_
    refine Sim.getI fl_X6_35 dX6_expectUnit_38 xI_145_7 ?_
    refine Sim.iconst (v := (3 : Int32)) dX6_expectUnit_41 rfl ?_
    refine Sim.icmp_lt 61 dX6_expectUnit_42 rfl ?_ ?_
    · refine Sim.aload_n 1 dX6_expectUnit_61 rfl ?_
      refine Sim.iconst (v := (1 : Int32)) dX6_expectUnit_62 rfl ?_
      refine Sim.callV1U (d1 := 0) (s_X6_fail (1 : Int32) h) dX6_expectUnit_63 ml_X6_133 mv_X6_fail xO_X6 (Nat.le_of_ble_eq_true rfl) (Nat.le_of_ble_eq_true rfl) (Nat.le_of_ble_eq_true rfl) (fun x2 => ?_)
      refine Sim.iload_n 0 dX6_expectUnit_66 rfl ?_
      exact Sim.iret dX6_expectUnit_67 rfl
    · refine Sim.aload_n 1 dX6_expectUnit_45 rfl ?_
      refine Sim.getI fl_X6_35 dX6_expectUnit_46 xI_145_7 ?_
      refine Sim.bipush (v := (11 : Int32)) dX6_expectUnit_49 rfl ?_
      refine Sim.icmp_gt 61 dX6_expectUnit_51 rfl ?_ ?_
      · refine Sim.aload_n 1 dX6_expectUnit_61 rfl ?_
        refine Sim.iconst (v := (1 : Int32)) dX6_expectUnit_62 rfl ?_
        refine Sim.callV1U (d1 := 0) (s_X6_fail (1 : Int32) h) dX6_expectUnit_63 ml_X6_133 mv_X6_fail xO_X6 (Nat.le_of_ble_eq_true rfl) (Nat.le_of_ble_eq_true rfl) (Nat.le_of_ble_eq_true rfl) (fun x3 => ?_)
        refine Sim.iload_n 0 dX6_expectUnit_66 rfl ?_
        exact Sim.iret dX6_expectUnit_67 rfl
      · refine Sim.aload_n 1 dX6_expectUnit_54 rfl ?_
        refine Sim.callV0U (d1 := 0) (s_X6_advance h) dX6_expectUnit_55 ml_X6_130 mv_X6_advance xO_X6 (Nat.le_of_ble_eq_true rfl) (Nat.le_of_ble_eq_true rfl) (Nat.le_of_ble_eq_true rfl) (fun x4 => ?_)
        refine Sim.goto 66 dX6_expectUnit_58 rfl ?_
        refine Sim.iload_n 0 dX6_expectUnit_66 rfl ?_
        exact Sim.iret dX6_expectUnit_67 rfl
def f_X6_expectUnit   (h : zHp) : Option (Int32 × zHp) := (if (h 145 7) = (34 : Int32) then zix (h 145 6) 401 (f_X6_expectUnit_27 (h 148 (h 145 6).toNatClampNeg) h) else f_X6_expectUnit_27 ((h 145 7) ^^^ (-1 : Int32)) h)
set_option maxHeartbeats 4000000 in
set_option maxRecDepth 100000 in
theorem s_X6_expectUnit   (h : zHp) : Fn wX mX6_expectUnit 1 rI [.ref 145] h (f_X6_expectUnit  h) := by
  refine Fn.of rfl (Nat.le_of_ble_eq_true rfl) ?_
  unfold f_X6_expectUnit
  refine Sim.aload_n 0 dX6_expectUnit_0 rfl ?_
  refine Sim.getI fl_X6_35 dX6_expectUnit_1 xI_145_7 ?_
  refine Sim.bipush (v := (34 : Int32)) dX6_expectUnit_4 rfl ?_
  refine Sim.icmp_ne 21 dX6_expectUnit_6 rfl ?_ ?_
  · refine Sim.aload_n 0 dX6_expectUnit_9 rfl ?_
    refine Sim.getR (j := 148) fl_X6_23 dX6_expectUnit_10 xR_145_3 ?_
    refine Sim.aload_n 0 dX6_expectUnit_13 rfl ?_
    refine Sim.getI fl_X6_32 dX6_expectUnit_14 xI_145_6 ?_
    refine Sim.iald (n := 401) dX6_expectUnit_17 xA_148 ?_
    refine Sim.goto 27 dX6_expectUnit_18 rfl ?_
    exact f_X6_expectUnit_27_s (h 148 (h 145 6).toNatClampNeg) h
  · refine Sim.aload_n 0 dX6_expectUnit_21 rfl ?_
    refine Sim.getI fl_X6_35 dX6_expectUnit_22 xI_145_7 ?_
    refine Sim.iconst (v := (-1 : Int32)) dX6_expectUnit_25 rfl ?_
    refine Sim.ixor dX6_expectUnit_26 ?_
    exact f_X6_expectUnit_27_s ((h 145 7) ^^^ (-1 : Int32)) h
theorem mv_X6_expectUnit : zMV mX6_expectUnit 0 := ⟨⟨zTb_in 928 (by decide +kernel) rfl, zTb_in 145 (by decide +kernel) rfl, ⟨by decide +kernel, by decide +kernel⟩, by decide +kernel⟩, zTb_in 927 (by decide +kernel) rfl, zTb_in 21 (by decide +kernel) rfl⟩
-- ===== RockingPorch$Reader.sumOf()V
abbrev mX6_sumOf : zMt := (yX6_sumOf, cX6_sumOf, 4, none)
theorem fl_X6_47 : zF RX6 47 6 10 := ⟨RX6, TX6, 14, rfl, Nat.le_of_ble_eq_true rfl, zTb_in 440 (by decide +kernel) rfl, in_X6⟩
theorem ml_X6_146 : Cond.methodLink RX6 146 yX6_expectNumber ∈ zTb := zTb_in 921 (by decide +kernel) rfl
theorem ml_X6_167 : Cond.methodLink RX6 167 yX6_expectUnit ∈ zTb := zTb_in 925 (by decide +kernel) rfl
theorem ml_X6_170 : Cond.methodLink RX6 170 yX1_add ∈ zTb := zTb_in 929 (by decide +kernel) rfl
theorem dX6_sumOf_0 : decode cX6_sumOf 0 = .ok (.bipush 35, 2) := by decide +kernel
theorem dX6_sumOf_2 : decode cX6_sumOf 2 = .ok (.istore_n 1, 1) := by decide +kernel
theorem dX6_sumOf_3 : decode cX6_sumOf 3 = .ok (.bipush 35, 2) := by decide +kernel
theorem dX6_sumOf_5 : decode cX6_sumOf 5 = .ok (.istore_n 2, 1) := by decide +kernel
theorem dX6_sumOf_6 : decode cX6_sumOf 6 = .ok (.iconst 0, 1) := by decide +kernel
theorem dX6_sumOf_7 : decode cX6_sumOf 7 = .ok (.istore_n 3, 1) := by decide +kernel
theorem dX6_sumOf_8 : decode cX6_sumOf 8 = .ok (.iload_n 3, 1) := by decide +kernel
theorem dX6_sumOf_9 : decode cX6_sumOf 9 = .ok (.sipush 400, 3) := by decide +kernel
theorem dX6_sumOf_12 : decode cX6_sumOf 12 = .ok (.if_icmp .ge 156, 3) := by decide +kernel
theorem dX6_sumOf_15 : decode cX6_sumOf 15 = .ok (.aload_n 0, 1) := by decide +kernel
theorem dX6_sumOf_16 : decode cX6_sumOf 16 = .ok (.getfield 60, 3) := by decide +kernel
theorem dX6_sumOf_19 : decode cX6_sumOf 19 = .ok (.ifCond .ne 149, 3) := by decide +kernel
theorem dX6_sumOf_22 : decode cX6_sumOf 22 = .ok (.aload_n 0, 1) := by decide +kernel
theorem dX6_sumOf_23 : decode cX6_sumOf 23 = .ok (.getfield 47, 3) := by decide +kernel
theorem dX6_sumOf_26 : decode cX6_sumOf 26 = .ok (.iload_n 1, 1) := by decide +kernel
theorem dX6_sumOf_27 : decode cX6_sumOf 27 = .ok (.bipush 28, 2) := by decide +kernel
theorem dX6_sumOf_29 : decode cX6_sumOf 29 = .ok (.if_icmp .ne 14, 3) := by decide +kernel
theorem dX6_sumOf_32 : decode cX6_sumOf 32 = .ok (.aload_n 0, 1) := by decide +kernel
theorem dX6_sumOf_33 : decode cX6_sumOf 33 = .ok (.sipush 9999, 3) := by decide +kernel
theorem dX6_sumOf_36 : decode cX6_sumOf 36 = .ok (.iconst 0, 1) := by decide +kernel
theorem dX6_sumOf_37 : decode cX6_sumOf 37 = .ok (.invokevirtual 146, 3) := by decide +kernel
theorem dX6_sumOf_40 : decode cX6_sumOf 40 = .ok (.goto 7, 3) := by decide +kernel
theorem dX6_sumOf_43 : decode cX6_sumOf 43 = .ok (.aload_n 0, 1) := by decide +kernel
theorem dX6_sumOf_44 : decode cX6_sumOf 44 = .ok (.invokevirtual 167, 3) := by decide +kernel
theorem dX6_sumOf_47 : decode cX6_sumOf 47 = .ok (.invokevirtual 170, 3) := by decide +kernel
theorem dX6_sumOf_50 : decode cX6_sumOf 50 = .ok (.iload_n 1, 1) := by decide +kernel
theorem dX6_sumOf_51 : decode cX6_sumOf 51 = .ok (.bipush 35, 2) := by decide +kernel
theorem dX6_sumOf_53 : decode cX6_sumOf 53 = .ok (.if_icmp .eq 13, 3) := by decide +kernel
theorem dX6_sumOf_56 : decode cX6_sumOf 56 = .ok (.aload_n 0, 1) := by decide +kernel
theorem dX6_sumOf_57 : decode cX6_sumOf 57 = .ok (.getfield 47, 3) := by decide +kernel
theorem dX6_sumOf_60 : decode cX6_sumOf 60 = .ok (.iload_n 1, 1) := by decide +kernel
theorem dX6_sumOf_61 : decode cX6_sumOf 61 = .ok (.iconst (-1), 1) := by decide +kernel
theorem dX6_sumOf_62 : decode cX6_sumOf 62 = .ok (.ixor, 1) := by decide +kernel
theorem dX6_sumOf_63 : decode cX6_sumOf 63 = .ok (.invokevirtual 170, 3) := by decide +kernel
theorem dX6_sumOf_66 : decode cX6_sumOf 66 = .ok (.aload_n 0, 1) := by decide +kernel
theorem dX6_sumOf_67 : decode cX6_sumOf 67 = .ok (.getfield 35, 3) := by decide +kernel
theorem dX6_sumOf_70 : decode cX6_sumOf 70 = .ok (.bipush 27, 2) := by decide +kernel
theorem dX6_sumOf_72 : decode cX6_sumOf 72 = .ok (.if_icmp .eq 12, 3) := by decide +kernel
theorem dX6_sumOf_75 : decode cX6_sumOf 75 = .ok (.aload_n 0, 1) := by decide +kernel
theorem dX6_sumOf_76 : decode cX6_sumOf 76 = .ok (.getfield 35, 3) := by decide +kernel
theorem dX6_sumOf_79 : decode cX6_sumOf 79 = .ok (.bipush 28, 2) := by decide +kernel
theorem dX6_sumOf_81 : decode cX6_sumOf 81 = .ok (.if_icmp .ne 10, 3) := by decide +kernel
theorem dX6_sumOf_84 : decode cX6_sumOf 84 = .ok (.aload_n 0, 1) := by decide +kernel
theorem dX6_sumOf_85 : decode cX6_sumOf 85 = .ok (.getfield 35, 3) := by decide +kernel
theorem dX6_sumOf_88 : decode cX6_sumOf 88 = .ok (.goto 5, 3) := by decide +kernel
theorem dX6_sumOf_91 : decode cX6_sumOf 91 = .ok (.bipush 35, 2) := by decide +kernel
theorem dX6_sumOf_93 : decode cX6_sumOf 93 = .ok (.istore_n 1, 1) := by decide +kernel
theorem dX6_sumOf_94 : decode cX6_sumOf 94 = .ok (.iload_n 1, 1) := by decide +kernel
theorem dX6_sumOf_95 : decode cX6_sumOf 95 = .ok (.bipush 35, 2) := by decide +kernel
theorem dX6_sumOf_97 : decode cX6_sumOf 97 = .ok (.if_icmp .ne 54, 3) := by decide +kernel
theorem dX6_sumOf_100 : decode cX6_sumOf 100 = .ok (.iload_n 2, 1) := by decide +kernel
theorem dX6_sumOf_101 : decode cX6_sumOf 101 = .ok (.bipush 35, 2) := by decide +kernel
theorem dX6_sumOf_103 : decode cX6_sumOf 103 = .ok (.if_icmp .eq 13, 3) := by decide +kernel
theorem dX6_sumOf_106 : decode cX6_sumOf 106 = .ok (.aload_n 0, 1) := by decide +kernel
theorem dX6_sumOf_107 : decode cX6_sumOf 107 = .ok (.getfield 47, 3) := by decide +kernel
theorem dX6_sumOf_110 : decode cX6_sumOf 110 = .ok (.iload_n 2, 1) := by decide +kernel
theorem dX6_sumOf_111 : decode cX6_sumOf 111 = .ok (.iconst (-1), 1) := by decide +kernel
theorem dX6_sumOf_112 : decode cX6_sumOf 112 = .ok (.ixor, 1) := by decide +kernel
theorem dX6_sumOf_113 : decode cX6_sumOf 113 = .ok (.invokevirtual 170, 3) := by decide +kernel
theorem dX6_sumOf_116 : decode cX6_sumOf 116 = .ok (.aload_n 0, 1) := by decide +kernel
theorem dX6_sumOf_117 : decode cX6_sumOf 117 = .ok (.getfield 35, 3) := by decide +kernel
theorem dX6_sumOf_120 : decode cX6_sumOf 120 = .ok (.bipush 25, 2) := by decide +kernel
theorem dX6_sumOf_122 : decode cX6_sumOf 122 = .ok (.if_icmp .eq 12, 3) := by decide +kernel
theorem dX6_sumOf_125 : decode cX6_sumOf 125 = .ok (.aload_n 0, 1) := by decide +kernel
theorem dX6_sumOf_126 : decode cX6_sumOf 126 = .ok (.getfield 35, 3) := by decide +kernel
theorem dX6_sumOf_129 : decode cX6_sumOf 129 = .ok (.bipush 26, 2) := by decide +kernel
theorem dX6_sumOf_131 : decode cX6_sumOf 131 = .ok (.if_icmp .ne 10, 3) := by decide +kernel
theorem dX6_sumOf_134 : decode cX6_sumOf 134 = .ok (.aload_n 0, 1) := by decide +kernel
theorem dX6_sumOf_135 : decode cX6_sumOf 135 = .ok (.getfield 35, 3) := by decide +kernel
theorem dX6_sumOf_138 : decode cX6_sumOf 138 = .ok (.goto 5, 3) := by decide +kernel
theorem dX6_sumOf_141 : decode cX6_sumOf 141 = .ok (.bipush 35, 2) := by decide +kernel
theorem dX6_sumOf_143 : decode cX6_sumOf 143 = .ok (.istore_n 2, 1) := by decide +kernel
theorem dX6_sumOf_144 : decode cX6_sumOf 144 = .ok (.iload_n 2, 1) := by decide +kernel
theorem dX6_sumOf_145 : decode cX6_sumOf 145 = .ok (.bipush 35, 2) := by decide +kernel
theorem dX6_sumOf_147 : decode cX6_sumOf 147 = .ok (.if_icmp .ne 4, 3) := by decide +kernel
theorem dX6_sumOf_150 : decode cX6_sumOf 150 = .ok (.return_, 1) := by decide +kernel
theorem dX6_sumOf_151 : decode cX6_sumOf 151 = .ok (.aload_n 0, 1) := by decide +kernel
theorem dX6_sumOf_152 : decode cX6_sumOf 152 = .ok (.getfield 60, 3) := by decide +kernel
theorem dX6_sumOf_155 : decode cX6_sumOf 155 = .ok (.ifCond .ne 7, 3) := by decide +kernel
theorem dX6_sumOf_158 : decode cX6_sumOf 158 = .ok (.aload_n 0, 1) := by decide +kernel
theorem dX6_sumOf_159 : decode cX6_sumOf 159 = .ok (.invokevirtual 130, 3) := by decide +kernel
theorem dX6_sumOf_162 : decode cX6_sumOf 162 = .ok (.iinc 3 1, 3) := by decide +kernel
theorem dX6_sumOf_165 : decode cX6_sumOf 165 = .ok (.goto (-157), 3) := by decide +kernel
theorem dX6_sumOf_168 : decode cX6_sumOf 168 = .ok (.return_, 1) := by decide +kernel
def f_X6_sumOf_151  (k8 : Int32 × Int32 × Int32 × zHp → Option (zHp)) (v1 : Int32) (v2 : Int32) (v3 : Int32) (h : zHp) : Option (zHp) := (if (h 145 12) = 0 then (f_X6_advance h).bind fun x1 => k8 (v1, v2, (v3 + (1 : Int32)), x1) else k8 (v1, v2, (v3 + (1 : Int32)), h))
set_option maxHeartbeats 4000000 in
set_option maxRecDepth 100000 in
theorem f_X6_sumOf_151_s  (k8 : Int32 × Int32 × Int32 × zHp → Option (zHp)) (H8 : ∀ v : Int32 × Int32 × Int32 × zHp, Sim wX mX6_sumOf 2 rV 8 [(0, .ref 145), (1, .int v.1), (2, .int v.2.1), (3, .int v.2.2.1)] [] v.2.2.2 (k8 v)) (v1 : Int32) (v2 : Int32) (v3 : Int32) (h : zHp) : Sim wX mX6_sumOf 2 rV 151 [(0, .ref 145), (1, .int v1), (2, .int v2), (3, .int v3)] [] h (f_X6_sumOf_151 k8 v1 v2 v3 h) := by
  unfold f_X6_sumOf_151
  refine Sim.aload_n 0 dX6_sumOf_151 rfl ?_
  refine Sim.getI fl_X6_60 dX6_sumOf_152 xI_145_12 ?_
  refine Sim.if_ne 162 dX6_sumOf_155 rfl ?_ ?_
  · refine Sim.aload_n 0 dX6_sumOf_158 rfl ?_
    refine Sim.callV0U (d1 := 0) (s_X6_advance h) dX6_sumOf_159 ml_X6_130 mv_X6_advance xO_X6 (Nat.le_of_ble_eq_true rfl) (Nat.le_of_ble_eq_true rfl) (Nat.le_of_ble_eq_true rfl) (fun x1 => ?_)
    refine Sim.iinc (L' := [(3, .int (v3 + (1 : Int32))), (0, .ref 145), (1, .int v1), (2, .int v2)]) 3 dX6_sumOf_162 rfl rfl (Nat.le_of_ble_eq_true rfl) rfl ?_
    refine Sim.goto 8 dX6_sumOf_165 rfl ?_
    refine Sim.locs [1, 2, 3, 0] rfl ?_
    exact H8 (v1, v2, (v3 + (1 : Int32)), x1)
  · refine Sim.iinc (L' := [(3, .int (v3 + (1 : Int32))), (0, .ref 145), (1, .int v1), (2, .int v2)]) 3 dX6_sumOf_162 rfl rfl (Nat.le_of_ble_eq_true rfl) rfl ?_
    refine Sim.goto 8 dX6_sumOf_165 rfl ?_
    refine Sim.locs [1, 2, 3, 0] rfl ?_
    exact H8 (v1, v2, (v3 + (1 : Int32)), h)
def f_X6_sumOf_143  (k8 : Int32 × Int32 × Int32 × zHp → Option (zHp)) (v1 : Int32) (v3 : Int32) (s0 : Int32) (h : zHp) : Option (zHp) := (if s0 = (35 : Int32) then some h else f_X6_sumOf_151 k8 v1 s0 v3 h)
set_option maxHeartbeats 4000000 in
set_option maxRecDepth 100000 in
theorem f_X6_sumOf_143_s  (k8 : Int32 × Int32 × Int32 × zHp → Option (zHp)) (H8 : ∀ v : Int32 × Int32 × Int32 × zHp, Sim wX mX6_sumOf 2 rV 8 [(0, .ref 145), (1, .int v.1), (2, .int v.2.1), (3, .int v.2.2.1)] [] v.2.2.2 (k8 v)) (v1 : Int32) (v3 : Int32) (s0 : Int32) (h : zHp) : Sim wX mX6_sumOf 2 rV 143 [(0, .ref 145), (1, .int v1), (3, .int v3)] [.int s0] h (f_X6_sumOf_143 k8 v1 v3 s0 h) := by
  unfold f_X6_sumOf_143
  refine Sim.istore_n (L' := [(2, .int s0), (0, .ref 145), (1, .int v1), (3, .int v3)]) dX6_sumOf_143 (Nat.le_of_ble_eq_true rfl) rfl ?_
  refine Sim.iload_n 0 dX6_sumOf_144 rfl ?_
  refine Sim.bipush (v := (35 : Int32)) dX6_sumOf_145 rfl ?_
  refine Sim.icmp_ne 151 dX6_sumOf_147 rfl ?_ ?_
  · exact Sim.vret dX6_sumOf_150 rfl
  · refine Sim.locs [1, 2, 0, 3] rfl ?_
    exact f_X6_sumOf_151_s k8 H8 v1 s0 v3 h
def f_X6_sumOf_116  (k8 : Int32 × Int32 × Int32 × zHp → Option (zHp)) (v1 : Int32) (v3 : Int32) (h : zHp) : Option (zHp) := (if (h 145 7) = (25 : Int32) then f_X6_sumOf_143 k8 v1 v3 (h 145 7) h else (if (h 145 7) = (26 : Int32) then f_X6_sumOf_143 k8 v1 v3 (h 145 7) h else f_X6_sumOf_143 k8 v1 v3 (35 : Int32) h))
set_option maxHeartbeats 4000000 in
set_option maxRecDepth 100000 in
theorem f_X6_sumOf_116_s  (k8 : Int32 × Int32 × Int32 × zHp → Option (zHp)) (H8 : ∀ v : Int32 × Int32 × Int32 × zHp, Sim wX mX6_sumOf 2 rV 8 [(0, .ref 145), (1, .int v.1), (2, .int v.2.1), (3, .int v.2.2.1)] [] v.2.2.2 (k8 v)) (v1 : Int32) (v3 : Int32) (h : zHp) : Sim wX mX6_sumOf 2 rV 116 [(0, .ref 145), (1, .int v1), (3, .int v3)] [] h (f_X6_sumOf_116 k8 v1 v3 h) := by
  unfold f_X6_sumOf_116
  refine Sim.aload_n 0 dX6_sumOf_116 rfl ?_
  refine Sim.getI fl_X6_35 dX6_sumOf_117 xI_145_7 ?_
  refine Sim.bipush (v := (25 : Int32)) dX6_sumOf_120 rfl ?_
  refine Sim.icmp_eq 134 dX6_sumOf_122 rfl ?_ ?_
  · refine Sim.aload_n 0 dX6_sumOf_134 rfl ?_
    refine Sim.getI fl_X6_35 dX6_sumOf_135 xI_145_7 ?_
    refine Sim.goto 143 dX6_sumOf_138 rfl ?_
    exact f_X6_sumOf_143_s k8 H8 v1 v3 (h 145 7) h
  · refine Sim.aload_n 0 dX6_sumOf_125 rfl ?_
    refine Sim.getI fl_X6_35 dX6_sumOf_126 xI_145_7 ?_
    refine Sim.bipush (v := (26 : Int32)) dX6_sumOf_129 rfl ?_
    refine Sim.icmp_ne 141 dX6_sumOf_131 rfl ?_ ?_
    · refine Sim.aload_n 0 dX6_sumOf_134 rfl ?_
      refine Sim.getI fl_X6_35 dX6_sumOf_135 xI_145_7 ?_
      refine Sim.goto 143 dX6_sumOf_138 rfl ?_
      exact f_X6_sumOf_143_s k8 H8 v1 v3 (h 145 7) h
    · refine Sim.bipush (v := (35 : Int32)) dX6_sumOf_141 rfl ?_
      exact f_X6_sumOf_143_s k8 H8 v1 v3 (35 : Int32) h
def f_X6_sumOf_93  (k8 : Int32 × Int32 × Int32 × zHp → Option (zHp)) (v2 : Int32) (v3 : Int32) (s0 : Int32) (h : zHp) : Option (zHp) := (if s0 = (35 : Int32) then (if v2 = (35 : Int32) then f_X6_sumOf_116 k8 s0 v3 h else (f_X1_add 150 (v2 ^^^ (-1 : Int32)) h).bind fun x1 => f_X6_sumOf_116 k8 s0 v3 x1) else f_X6_sumOf_151 k8 s0 v2 v3 h)
set_option maxHeartbeats 4000000 in
set_option maxRecDepth 100000 in
theorem f_X6_sumOf_93_s  (k8 : Int32 × Int32 × Int32 × zHp → Option (zHp)) (H8 : ∀ v : Int32 × Int32 × Int32 × zHp, Sim wX mX6_sumOf 2 rV 8 [(0, .ref 145), (1, .int v.1), (2, .int v.2.1), (3, .int v.2.2.1)] [] v.2.2.2 (k8 v)) (v2 : Int32) (v3 : Int32) (s0 : Int32) (h : zHp) : Sim wX mX6_sumOf 2 rV 93 [(0, .ref 145), (2, .int v2), (3, .int v3)] [.int s0] h (f_X6_sumOf_93 k8 v2 v3 s0 h) := by
  unfold f_X6_sumOf_93
  refine Sim.istore_n (L' := [(1, .int s0), (0, .ref 145), (2, .int v2), (3, .int v3)]) dX6_sumOf_93 (Nat.le_of_ble_eq_true rfl) rfl ?_
  refine Sim.iload_n 0 dX6_sumOf_94 rfl ?_
  refine Sim.bipush (v := (35 : Int32)) dX6_sumOf_95 rfl ?_
  refine Sim.icmp_ne 151 dX6_sumOf_97 rfl ?_ ?_
  · refine Sim.iload_n 2 dX6_sumOf_100 rfl ?_
    refine Sim.bipush (v := (35 : Int32)) dX6_sumOf_101 rfl ?_
    refine Sim.icmp_eq 116 dX6_sumOf_103 rfl ?_ ?_
    · refine Sim.locs [1, 0, 3] rfl ?_
      exact f_X6_sumOf_116_s k8 H8 s0 v3 h
    · refine Sim.aload_n 1 dX6_sumOf_106 rfl ?_
      refine Sim.getR (j := 150) fl_X6_47 dX6_sumOf_107 xR_145_10 ?_
      refine Sim.iload_n 2 dX6_sumOf_110 rfl ?_
      refine Sim.iconst (v := (-1 : Int32)) dX6_sumOf_111 rfl ?_
      refine Sim.ixor dX6_sumOf_112 ?_
      refine Sim.callV1U (d1 := 0) (s_X1_add 150 xL_X1_150 (v2 ^^^ (-1 : Int32)) h) dX6_sumOf_113 ml_X6_170 mv_X1_add (xOC_X1 _ xL_X1_150) (Nat.le_of_ble_eq_true rfl) (Nat.le_of_ble_eq_true rfl) (Nat.le_of_ble_eq_true rfl) (fun x1 => ?_)
      refine Sim.locs [1, 0, 3] rfl ?_
      exact f_X6_sumOf_116_s k8 H8 s0 v3 x1
  · refine Sim.locs [1, 0, 2, 3] rfl ?_
    exact f_X6_sumOf_151_s k8 H8 s0 v2 v3 h
def f_X6_sumOf_66  (k8 : Int32 × Int32 × Int32 × zHp → Option (zHp)) (v2 : Int32) (v3 : Int32) (h : zHp) : Option (zHp) := (if (h 145 7) = (27 : Int32) then f_X6_sumOf_93 k8 v2 v3 (h 145 7) h else (if (h 145 7) = (28 : Int32) then f_X6_sumOf_93 k8 v2 v3 (h 145 7) h else f_X6_sumOf_93 k8 v2 v3 (35 : Int32) h))
set_option maxHeartbeats 4000000 in
set_option maxRecDepth 100000 in
theorem f_X6_sumOf_66_s  (k8 : Int32 × Int32 × Int32 × zHp → Option (zHp)) (H8 : ∀ v : Int32 × Int32 × Int32 × zHp, Sim wX mX6_sumOf 2 rV 8 [(0, .ref 145), (1, .int v.1), (2, .int v.2.1), (3, .int v.2.2.1)] [] v.2.2.2 (k8 v)) (v2 : Int32) (v3 : Int32) (h : zHp) : Sim wX mX6_sumOf 2 rV 66 [(0, .ref 145), (2, .int v2), (3, .int v3)] [] h (f_X6_sumOf_66 k8 v2 v3 h) := by
  unfold f_X6_sumOf_66
  refine Sim.aload_n 0 dX6_sumOf_66 rfl ?_
  refine Sim.getI fl_X6_35 dX6_sumOf_67 xI_145_7 ?_
  refine Sim.bipush (v := (27 : Int32)) dX6_sumOf_70 rfl ?_
  refine Sim.icmp_eq 84 dX6_sumOf_72 rfl ?_ ?_
  · refine Sim.aload_n 0 dX6_sumOf_84 rfl ?_
    refine Sim.getI fl_X6_35 dX6_sumOf_85 xI_145_7 ?_
    refine Sim.goto 93 dX6_sumOf_88 rfl ?_
    exact f_X6_sumOf_93_s k8 H8 v2 v3 (h 145 7) h
  · refine Sim.aload_n 0 dX6_sumOf_75 rfl ?_
    refine Sim.getI fl_X6_35 dX6_sumOf_76 xI_145_7 ?_
    refine Sim.bipush (v := (28 : Int32)) dX6_sumOf_79 rfl ?_
    refine Sim.icmp_ne 91 dX6_sumOf_81 rfl ?_ ?_
    · refine Sim.aload_n 0 dX6_sumOf_84 rfl ?_
      refine Sim.getI fl_X6_35 dX6_sumOf_85 xI_145_7 ?_
      refine Sim.goto 93 dX6_sumOf_88 rfl ?_
      exact f_X6_sumOf_93_s k8 H8 v2 v3 (h 145 7) h
    · refine Sim.bipush (v := (35 : Int32)) dX6_sumOf_91 rfl ?_
      exact f_X6_sumOf_93_s k8 H8 v2 v3 (35 : Int32) h
def f_X6_sumOf_47  (k8 : Int32 × Int32 × Int32 × zHp → Option (zHp)) (v1 : Int32) (v2 : Int32) (v3 : Int32) (s0 : Int32) (h : zHp) : Option (zHp) := (f_X1_add 150 s0 h).bind fun x1 => (if v1 = (35 : Int32) then f_X6_sumOf_66 k8 v2 v3 x1 else (f_X1_add 150 (v1 ^^^ (-1 : Int32)) x1).bind fun x2 => f_X6_sumOf_66 k8 v2 v3 x2)
set_option maxHeartbeats 4000000 in
set_option maxRecDepth 100000 in
theorem f_X6_sumOf_47_s  (k8 : Int32 × Int32 × Int32 × zHp → Option (zHp)) (H8 : ∀ v : Int32 × Int32 × Int32 × zHp, Sim wX mX6_sumOf 2 rV 8 [(0, .ref 145), (1, .int v.1), (2, .int v.2.1), (3, .int v.2.2.1)] [] v.2.2.2 (k8 v)) (v1 : Int32) (v2 : Int32) (v3 : Int32) (s0 : Int32) (h : zHp) : Sim wX mX6_sumOf 2 rV 47 [(0, .ref 145), (1, .int v1), (2, .int v2), (3, .int v3)] [.int s0, .ref 150] h (f_X6_sumOf_47 k8 v1 v2 v3 s0 h) := by
  unfold f_X6_sumOf_47
  refine Sim.callV1U (d1 := 0) (s_X1_add 150 xL_X1_150 s0 h) dX6_sumOf_47 ml_X6_170 mv_X1_add (xOC_X1 _ xL_X1_150) (Nat.le_of_ble_eq_true rfl) (Nat.le_of_ble_eq_true rfl) (Nat.le_of_ble_eq_true rfl) (fun x1 => ?_)
  refine Sim.iload_n 1 dX6_sumOf_50 rfl ?_
  refine Sim.bipush (v := (35 : Int32)) dX6_sumOf_51 rfl ?_
  refine Sim.icmp_eq 66 dX6_sumOf_53 rfl ?_ ?_
  · refine Sim.locs [0, 2, 3] rfl ?_
    exact f_X6_sumOf_66_s k8 H8 v2 v3 x1
  · refine Sim.aload_n 0 dX6_sumOf_56 rfl ?_
    refine Sim.getR (j := 150) fl_X6_47 dX6_sumOf_57 xR_145_10 ?_
    refine Sim.iload_n 1 dX6_sumOf_60 rfl ?_
    refine Sim.iconst (v := (-1 : Int32)) dX6_sumOf_61 rfl ?_
    refine Sim.ixor dX6_sumOf_62 ?_
    refine Sim.callV1U (d1 := 0) (s_X1_add 150 xL_X1_150 (v1 ^^^ (-1 : Int32)) x1) dX6_sumOf_63 ml_X6_170 mv_X1_add (xOC_X1 _ xL_X1_150) (Nat.le_of_ble_eq_true rfl) (Nat.le_of_ble_eq_true rfl) (Nat.le_of_ble_eq_true rfl) (fun x2 => ?_)
    refine Sim.locs [0, 2, 3] rfl ?_
    exact f_X6_sumOf_66_s k8 H8 v2 v3 x2
def f_X6_sumOf_8  (k8 : Int32 × Int32 × Int32 × zHp → Option (zHp)) (v1 : Int32) (v2 : Int32) (v3 : Int32) (h : zHp) : Option (zHp) := (if v3 < (400 : Int32) then (if (h 145 12) = 0 then (if v1 = (28 : Int32) then (f_X6_expectNumber (9999 : Int32) (0 : Int32) h).bind fun x1 => f_X6_sumOf_47 k8 v1 v2 v3 x1.1 x1.2 else (f_X6_expectUnit h).bind fun x2 => f_X6_sumOf_47 k8 v1 v2 v3 x2.1 x2.2) else some h) else some h)
set_option maxHeartbeats 4000000 in
set_option maxRecDepth 100000 in
theorem f_X6_sumOf_8_s  (k8 : Int32 × Int32 × Int32 × zHp → Option (zHp)) (H8 : ∀ v : Int32 × Int32 × Int32 × zHp, Sim wX mX6_sumOf 2 rV 8 [(0, .ref 145), (1, .int v.1), (2, .int v.2.1), (3, .int v.2.2.1)] [] v.2.2.2 (k8 v)) (v1 : Int32) (v2 : Int32) (v3 : Int32) (h : zHp) : Sim wX mX6_sumOf 2 rV 8 [(0, .ref 145), (1, .int v1), (2, .int v2), (3, .int v3)] [] h (f_X6_sumOf_8 k8 v1 v2 v3 h) := by
  unfold f_X6_sumOf_8
  refine Sim.iload_n 3 dX6_sumOf_8 rfl ?_
  refine Sim.sipush (v := (400 : Int32)) dX6_sumOf_9 rfl ?_
  refine Sim.icmp_ge 168 dX6_sumOf_12 rfl ?_ ?_
  · refine Sim.aload_n 0 dX6_sumOf_15 rfl ?_
    refine Sim.getI fl_X6_60 dX6_sumOf_16 xI_145_12 ?_
    refine Sim.if_ne 168 dX6_sumOf_19 rfl ?_ ?_
    · refine Sim.aload_n 0 dX6_sumOf_22 rfl ?_
      refine Sim.getR (j := 150) fl_X6_47 dX6_sumOf_23 xR_145_10 ?_
      refine Sim.iload_n 1 dX6_sumOf_26 rfl ?_
      refine Sim.bipush (v := (28 : Int32)) dX6_sumOf_27 rfl ?_
      refine Sim.icmp_ne 43 dX6_sumOf_29 rfl ?_ ?_
      · refine Sim.aload_n 0 dX6_sumOf_32 rfl ?_
        refine Sim.sipush (v := (9999 : Int32)) dX6_sumOf_33 rfl ?_
        refine Sim.iconst (v := (0 : Int32)) dX6_sumOf_36 rfl ?_
        refine Sim.callV2I (d1 := 1) (s_X6_expectNumber (9999 : Int32) (0 : Int32) h) dX6_sumOf_37 ml_X6_146 mv_X6_expectNumber xO_X6 (Nat.le_of_ble_eq_true rfl) (Nat.le_of_ble_eq_true rfl) (Nat.le_of_ble_eq_true rfl) (fun x1 => ?_)
        refine Sim.goto 47 dX6_sumOf_40 rfl ?_
        exact f_X6_sumOf_47_s k8 H8 v1 v2 v3 x1.1 x1.2
      · refine Sim.aload_n 0 dX6_sumOf_43 rfl ?_
        refine Sim.callV0I (d1 := 1) (s_X6_expectUnit h) dX6_sumOf_44 ml_X6_167 mv_X6_expectUnit xO_X6 (Nat.le_of_ble_eq_true rfl) (Nat.le_of_ble_eq_true rfl) (Nat.le_of_ble_eq_true rfl) (fun x2 => ?_)
        exact f_X6_sumOf_47_s k8 H8 v1 v2 v3 x2.1 x2.2
    · exact Sim.vret dX6_sumOf_168 rfl
  · exact Sim.vret dX6_sumOf_168 rfl
def f_X6_sumOf_8_lp   (n : Nat) (v : Int32 × Int32 × Int32 × zHp) : Option (zHp) := zlp (fun k8 v => f_X6_sumOf_8 k8 v.1 v.2.1 v.2.2.1 v.2.2.2) n v
theorem f_X6_sumOf_8_ls  (n : Nat) (v : Int32 × Int32 × Int32 × zHp) : Sim wX mX6_sumOf 2 rV 8 [(0, .ref 145), (1, .int v.1), (2, .int v.2.1), (3, .int v.2.2.1)] [] v.2.2.2 (f_X6_sumOf_8_lp n v) :=
  Sim.lp (V := Int32 × Int32 × Int32 × zHp) (Lf := fun v => [(0, .ref 145), (1, .int v.1), (2, .int v.2.1), (3, .int v.2.2.1)]) (sf := fun v => []) (hf := fun v => v.2.2.2) (fun k8 H8 v => f_X6_sumOf_8_s k8 H8 v.1 v.2.1 v.2.2.1 v.2.2.2) n v
def f_X6_sumOf   (h : zHp) : Option (zHp) := f_X6_sumOf_8_lp  zN ((35 : Int32), (35 : Int32), (0 : Int32), h)
set_option maxHeartbeats 4000000 in
set_option maxRecDepth 100000 in
theorem s_X6_sumOf   (h : zHp) : Fn wX mX6_sumOf 2 rV [.ref 145] h (f_X6_sumOf  h) := by
  refine Fn.of rfl (Nat.le_of_ble_eq_true rfl) ?_
  unfold f_X6_sumOf
  refine Sim.bipush (v := (35 : Int32)) dX6_sumOf_0 rfl ?_
  refine Sim.istore_n (L' := [(1, .int (35 : Int32)), (0, .ref 145)]) dX6_sumOf_2 (Nat.le_of_ble_eq_true rfl) rfl ?_
  refine Sim.bipush (v := (35 : Int32)) dX6_sumOf_3 rfl ?_
  refine Sim.istore_n (L' := [(2, .int (35 : Int32)), (1, .int (35 : Int32)), (0, .ref 145)]) dX6_sumOf_5 (Nat.le_of_ble_eq_true rfl) rfl ?_
  refine Sim.iconst (v := (0 : Int32)) dX6_sumOf_6 rfl ?_
  refine Sim.istore_n (L' := [(3, .int (0 : Int32)), (2, .int (35 : Int32)), (1, .int (35 : Int32)), (0, .ref 145)]) dX6_sumOf_7 (Nat.le_of_ble_eq_true rfl) rfl ?_
  refine Sim.locs [3, 2, 1, 0] rfl ?_
  exact f_X6_sumOf_8_ls  zN ((35 : Int32), (35 : Int32), (0 : Int32), h)
theorem mv_X6_sumOf : zMV mX6_sumOf 0 := ⟨⟨zTb_in 920 (by decide +kernel) rfl, zTb_in 145 (by decide +kernel) rfl, ⟨by decide +kernel, by decide +kernel⟩, by decide +kernel⟩, zTb_in 919 (by decide +kernel) rfl, zTb_in 19 (by decide +kernel) rfl⟩
-- ===== RockingPorch$Reader.expect(I)V
abbrev mX6_expect : zMt := (yX6_expect, cX6_expect, 2, none)
theorem dX6_expect_0 : decode cX6_expect 0 = .ok (.aload_n 0, 1) := by decide +kernel
theorem dX6_expect_1 : decode cX6_expect 1 = .ok (.getfield 60, 3) := by decide +kernel
theorem dX6_expect_4 : decode cX6_expect 4 = .ok (.ifCond .eq 4, 3) := by decide +kernel
theorem dX6_expect_7 : decode cX6_expect 7 = .ok (.return_, 1) := by decide +kernel
theorem dX6_expect_8 : decode cX6_expect 8 = .ok (.aload_n 0, 1) := by decide +kernel
theorem dX6_expect_9 : decode cX6_expect 9 = .ok (.getfield 35, 3) := by decide +kernel
theorem dX6_expect_12 : decode cX6_expect 12 = .ok (.iload_n 1, 1) := by decide +kernel
theorem dX6_expect_13 : decode cX6_expect 13 = .ok (.if_icmp .ne 10, 3) := by decide +kernel
theorem dX6_expect_16 : decode cX6_expect 16 = .ok (.aload_n 0, 1) := by decide +kernel
theorem dX6_expect_17 : decode cX6_expect 17 = .ok (.invokevirtual 130, 3) := by decide +kernel
theorem dX6_expect_20 : decode cX6_expect 20 = .ok (.goto 8, 3) := by decide +kernel
theorem dX6_expect_23 : decode cX6_expect 23 = .ok (.aload_n 0, 1) := by decide +kernel
theorem dX6_expect_24 : decode cX6_expect 24 = .ok (.iconst 1, 1) := by decide +kernel
theorem dX6_expect_25 : decode cX6_expect 25 = .ok (.invokevirtual 133, 3) := by decide +kernel
theorem dX6_expect_28 : decode cX6_expect 28 = .ok (.return_, 1) := by decide +kernel
def f_X6_expect  (a1 : Int32) (h : zHp) : Option (zHp) := (if (h 145 12) = 0 then (if (h 145 7) = a1 then (f_X6_advance h).bind fun x1 => some x1 else (f_X6_fail (1 : Int32) h).bind fun x2 => some x2) else some h)
set_option maxHeartbeats 4000000 in
set_option maxRecDepth 100000 in
theorem s_X6_expect  (a1 : Int32) (h : zHp) : Fn wX mX6_expect 1 rV [.ref 145, .int a1] h (f_X6_expect a1 h) := by
  refine Fn.of rfl (Nat.le_of_ble_eq_true rfl) ?_
  unfold f_X6_expect
  refine Sim.aload_n 0 dX6_expect_0 rfl ?_
  refine Sim.getI fl_X6_60 dX6_expect_1 xI_145_12 ?_
  refine Sim.if_eq 8 dX6_expect_4 rfl ?_ ?_
  · refine Sim.aload_n 0 dX6_expect_8 rfl ?_
    refine Sim.getI fl_X6_35 dX6_expect_9 xI_145_7 ?_
    refine Sim.iload_n 1 dX6_expect_12 rfl ?_
    refine Sim.icmp_ne 23 dX6_expect_13 rfl ?_ ?_
    · refine Sim.aload_n 0 dX6_expect_16 rfl ?_
      refine Sim.callV0U (d1 := 0) (s_X6_advance h) dX6_expect_17 ml_X6_130 mv_X6_advance xO_X6 (Nat.le_of_ble_eq_true rfl) (Nat.le_of_ble_eq_true rfl) (Nat.le_of_ble_eq_true rfl) (fun x1 => ?_)
      refine Sim.goto 28 dX6_expect_20 rfl ?_
      exact Sim.vret dX6_expect_28 rfl
    · refine Sim.aload_n 0 dX6_expect_23 rfl ?_
      refine Sim.iconst (v := (1 : Int32)) dX6_expect_24 rfl ?_
      refine Sim.callV1U (d1 := 0) (s_X6_fail (1 : Int32) h) dX6_expect_25 ml_X6_133 mv_X6_fail xO_X6 (Nat.le_of_ble_eq_true rfl) (Nat.le_of_ble_eq_true rfl) (Nat.le_of_ble_eq_true rfl) (fun x2 => ?_)
      exact Sim.vret dX6_expect_28 rfl
  · exact Sim.vret dX6_expect_7 rfl
theorem mv_X6_expect : zMV mX6_expect 1 := ⟨⟨zTb_in 948 (by decide +kernel) rfl, zTb_in 145 (by decide +kernel) rfl, ⟨by decide +kernel, by decide +kernel⟩, by decide +kernel⟩, zTb_in 947 (by decide +kernel) rfl, zTb_in 24 (by decide +kernel) rfl⟩
abbrev mX6_single : zMt := (yX6_single, cX6_single, 4, none)
theorem mv_X6_single : zMV mX6_single 1 := ⟨⟨zTb_in 944 (by decide +kernel) rfl, zTb_in 145 (by decide +kernel) rfl, ⟨by decide +kernel, by decide +kernel⟩, by decide +kernel⟩, zTb_in 943 (by decide +kernel) rfl, zTb_in 23 (by decide +kernel) rfl⟩
abbrev mX6_condition : zMt := (yX6_condition, cX6_condition, 5, none)
theorem mv_X6_condition : zMV mX6_condition 1 := ⟨⟨zTb_in 940 (by decide +kernel) rfl, zTb_in 145 (by decide +kernel) rfl, ⟨by decide +kernel, by decide +kernel⟩, by decide +kernel⟩, zTb_in 939 (by decide +kernel) rfl, zTb_in 22 (by decide +kernel) rfl⟩
theorem ml_X6_136 : Cond.methodLink RX6 136 yX6_expect ∈ zTb := zTb_in 945 (by decide +kernel) rfl
theorem ml_X6_155 : Cond.methodLink RX6 155 yX6_sumOf ∈ zTb := zTb_in 917 (by decide +kernel) rfl
theorem ml_X6_161 : Cond.methodLink RX6 161 yX6_condition ∈ zTb := zTb_in 937 (by decide +kernel) rfl
theorem ml_X6_172 : Cond.methodLink RX6 172 yX6_single ∈ zTb := zTb_in 941 (by decide +kernel) rfl
theorem dX6_single_0 : decode cX6_single 0 = .ok (.aload_n 0, 1) := by decide +kernel
theorem dX6_single_1 : decode cX6_single 1 = .ok (.getfield 35, 3) := by decide +kernel
theorem dX6_single_4 : decode cX6_single 4 = .ok (.istore_n 2, 1) := by decide +kernel
theorem dX6_single_5 : decode cX6_single 5 = .ok (.iload_n 2, 1) := by decide +kernel
theorem dX6_single_6 : decode cX6_single 6 = .ok (.bipush 15, 2) := by decide +kernel
theorem dX6_single_8 : decode cX6_single 8 = .ok (.if_icmp .eq 62, 3) := by decide +kernel
theorem dX6_single_11 : decode cX6_single 11 = .ok (.iload_n 2, 1) := by decide +kernel
theorem dX6_single_12 : decode cX6_single 12 = .ok (.bipush 29, 2) := by decide +kernel
theorem dX6_single_14 : decode cX6_single 14 = .ok (.if_icmp .eq 56, 3) := by decide +kernel
theorem dX6_single_17 : decode cX6_single 17 = .ok (.aload_n 0, 1) := by decide +kernel
theorem dX6_single_18 : decode cX6_single 18 = .ok (.invokevirtual 155, 3) := by decide +kernel
theorem dX6_single_21 : decode cX6_single 21 = .ok (.aload_n 0, 1) := by decide +kernel
theorem dX6_single_22 : decode cX6_single 22 = .ok (.getfield 35, 3) := by decide +kernel
theorem dX6_single_25 : decode cX6_single 25 = .ok (.istore_n 3, 1) := by decide +kernel
theorem dX6_single_26 : decode cX6_single 26 = .ok (.aload_n 0, 1) := by decide +kernel
theorem dX6_single_27 : decode cX6_single 27 = .ok (.iload_n 3, 1) := by decide +kernel
theorem dX6_single_28 : decode cX6_single 28 = .ok (.bipush 31, 2) := by decide +kernel
theorem dX6_single_30 : decode cX6_single 30 = .ok (.if_icmp .eq 9, 3) := by decide +kernel
theorem dX6_single_33 : decode cX6_single 33 = .ok (.iload_n 3, 1) := by decide +kernel
theorem dX6_single_34 : decode cX6_single 34 = .ok (.bipush 33, 2) := by decide +kernel
theorem dX6_single_36 : decode cX6_single 36 = .ok (.if_icmp .ne 7, 3) := by decide +kernel
theorem dX6_single_39 : decode cX6_single 39 = .ok (.iload_n 3, 1) := by decide +kernel
theorem dX6_single_40 : decode cX6_single 40 = .ok (.goto 5, 3) := by decide +kernel
theorem dX6_single_43 : decode cX6_single 43 = .ok (.bipush 32, 2) := by decide +kernel
theorem dX6_single_45 : decode cX6_single 45 = .ok (.invokevirtual 136, 3) := by decide +kernel
theorem dX6_single_48 : decode cX6_single 48 = .ok (.aload_n 0, 1) := by decide +kernel
theorem dX6_single_49 : decode cX6_single 49 = .ok (.getfield 60, 3) := by decide +kernel
theorem dX6_single_52 : decode cX6_single 52 = .ok (.ifCond .ne 17, 3) := by decide +kernel
theorem dX6_single_55 : decode cX6_single 55 = .ok (.aload_n 0, 1) := by decide +kernel
theorem dX6_single_56 : decode cX6_single 56 = .ok (.invokevirtual 155, 3) := by decide +kernel
theorem dX6_single_59 : decode cX6_single 59 = .ok (.aload_n 0, 1) := by decide +kernel
theorem dX6_single_60 : decode cX6_single 60 = .ok (.getfield 47, 3) := by decide +kernel
theorem dX6_single_63 : decode cX6_single 63 = .ok (.iload_n 3, 1) := by decide +kernel
theorem dX6_single_64 : decode cX6_single 64 = .ok (.iconst (-1), 1) := by decide +kernel
theorem dX6_single_65 : decode cX6_single 65 = .ok (.ixor, 1) := by decide +kernel
theorem dX6_single_66 : decode cX6_single 66 = .ok (.invokevirtual 170, 3) := by decide +kernel
theorem dX6_single_69 : decode cX6_single 69 = .ok (.return_, 1) := by decide +kernel
theorem dX6_single_70 : decode cX6_single 70 = .ok (.iload_n 1, 1) := by decide +kernel
theorem dX6_single_71 : decode cX6_single 71 = .ok (.bipush 8, 2) := by decide +kernel
theorem dX6_single_73 : decode cX6_single 73 = .ok (.if_icmp .lt 9, 3) := by decide +kernel
theorem dX6_single_76 : decode cX6_single 76 = .ok (.aload_n 0, 1) := by decide +kernel
theorem dX6_single_77 : decode cX6_single 77 = .ok (.iconst 3, 1) := by decide +kernel
theorem dX6_single_78 : decode cX6_single 78 = .ok (.invokevirtual 133, 3) := by decide +kernel
theorem dX6_single_81 : decode cX6_single 81 = .ok (.return_, 1) := by decide +kernel
theorem dX6_single_82 : decode cX6_single 82 = .ok (.aload_n 0, 1) := by decide +kernel
theorem dX6_single_83 : decode cX6_single 83 = .ok (.invokevirtual 130, 3) := by decide +kernel
theorem dX6_single_86 : decode cX6_single 86 = .ok (.iload_n 2, 1) := by decide +kernel
theorem dX6_single_87 : decode cX6_single 87 = .ok (.bipush 15, 2) := by decide +kernel
theorem dX6_single_89 : decode cX6_single 89 = .ok (.if_icmp .ne 22, 3) := by decide +kernel
theorem dX6_single_92 : decode cX6_single 92 = .ok (.aload_n 0, 1) := by decide +kernel
theorem dX6_single_93 : decode cX6_single 93 = .ok (.iload_n 1, 1) := by decide +kernel
theorem dX6_single_94 : decode cX6_single 94 = .ok (.iconst 1, 1) := by decide +kernel
theorem dX6_single_95 : decode cX6_single 95 = .ok (.iadd, 1) := by decide +kernel
theorem dX6_single_96 : decode cX6_single 96 = .ok (.invokevirtual 172, 3) := by decide +kernel
theorem dX6_single_99 : decode cX6_single 99 = .ok (.aload_n 0, 1) := by decide +kernel
theorem dX6_single_100 : decode cX6_single 100 = .ok (.getfield 47, 3) := by decide +kernel
theorem dX6_single_103 : decode cX6_single 103 = .ok (.bipush (-16), 2) := by decide +kernel
theorem dX6_single_105 : decode cX6_single 105 = .ok (.invokevirtual 170, 3) := by decide +kernel
theorem dX6_single_108 : decode cX6_single 108 = .ok (.goto 16, 3) := by decide +kernel
theorem dX6_single_111 : decode cX6_single 111 = .ok (.aload_n 0, 1) := by decide +kernel
theorem dX6_single_112 : decode cX6_single 112 = .ok (.iload_n 1, 1) := by decide +kernel
theorem dX6_single_113 : decode cX6_single 113 = .ok (.iconst 1, 1) := by decide +kernel
theorem dX6_single_114 : decode cX6_single 114 = .ok (.iadd, 1) := by decide +kernel
theorem dX6_single_115 : decode cX6_single 115 = .ok (.invokevirtual 161, 3) := by decide +kernel
theorem dX6_single_118 : decode cX6_single 118 = .ok (.aload_n 0, 1) := by decide +kernel
theorem dX6_single_119 : decode cX6_single 119 = .ok (.bipush 30, 2) := by decide +kernel
theorem dX6_single_121 : decode cX6_single 121 = .ok (.invokevirtual 136, 3) := by decide +kernel
theorem dX6_single_124 : decode cX6_single 124 = .ok (.return_, 1) := by decide +kernel
def f_X6_single_70 (ks kc : Int32 → zHp → Option zHp)  (v1 : Int32) (v2 : Int32) (h : zHp) : Option (zHp) := (if v1 < (8 : Int32) then (f_X6_advance h).bind fun x1 => (if v2 = (15 : Int32) then (ks (v1 + (1 : Int32)) x1).bind fun x2 => (f_X1_add 150 (-16 : Int32) x2).bind fun x3 => some x3 else (kc (v1 + (1 : Int32)) x1).bind fun x4 => (f_X6_expect (30 : Int32) x4).bind fun x5 => some x5) else (f_X6_fail (3 : Int32) h).bind fun x6 => some x6)
set_option maxHeartbeats 4000000 in
set_option maxRecDepth 100000 in
theorem f_X6_single_70_s (dd : Nat) (ks kc : Int32 → zHp → Option zHp) (hks : ∀ a h, Fn wX mX6_single dd rV [.ref 145, .int a] h (ks a h)) (hkc : ∀ a h, Fn wX mX6_condition dd rV [.ref 145, .int a] h (kc a h)) (v1 : Int32) (v2 : Int32) (h : zHp) : Sim wX mX6_single (dd + 3) rV 70 [(0, .ref 145), (1, .int v1), (2, .int v2)] [] h (f_X6_single_70 ks kc v1 v2 h) := by
  unfold f_X6_single_70
  refine Sim.iload_n 1 dX6_single_70 rfl ?_
  refine Sim.bipush (v := (8 : Int32)) dX6_single_71 rfl ?_
  refine Sim.icmp_lt 82 dX6_single_73 rfl ?_ ?_
  · refine Sim.aload_n 0 dX6_single_82 rfl ?_
    refine Sim.callV0U (d1 := 0) (s_X6_advance h) dX6_single_83 ml_X6_130 mv_X6_advance xO_X6 (by omega) (Nat.le_of_ble_eq_true rfl) (Nat.le_of_ble_eq_true rfl) (fun x1 => ?_)
    refine Sim.iload_n 2 dX6_single_86 rfl ?_
    refine Sim.bipush (v := (15 : Int32)) dX6_single_87 rfl ?_
    refine Sim.icmp_ne 111 dX6_single_89 rfl ?_ ?_
    · refine Sim.aload_n 0 dX6_single_92 rfl ?_
      refine Sim.iload_n 1 dX6_single_93 rfl ?_
      refine Sim.iconst (v := (1 : Int32)) dX6_single_94 rfl ?_
      refine Sim.iadd dX6_single_95 ?_
      refine Sim.callV1U (d1 := dd) (hks (v1 + (1 : Int32)) x1) dX6_single_96 ml_X6_172 mv_X6_single xO_X6 (by omega) (Nat.le_of_ble_eq_true rfl) (Nat.le_of_ble_eq_true rfl) (fun x2 => ?_)
      refine Sim.aload_n 0 dX6_single_99 rfl ?_
      refine Sim.getR (j := 150) fl_X6_47 dX6_single_100 xR_145_10 ?_
      refine Sim.bipush (v := (-16 : Int32)) dX6_single_103 rfl ?_
      refine Sim.callV1U (d1 := 0) (s_X1_add 150 xL_X1_150 (-16 : Int32) x2) dX6_single_105 ml_X6_170 mv_X1_add (xOC_X1 _ xL_X1_150) (by omega) (Nat.le_of_ble_eq_true rfl) (Nat.le_of_ble_eq_true rfl) (fun x3 => ?_)
      refine Sim.goto 124 dX6_single_108 rfl ?_
      exact Sim.vret dX6_single_124 rfl
    · refine Sim.aload_n 0 dX6_single_111 rfl ?_
      refine Sim.iload_n 1 dX6_single_112 rfl ?_
      refine Sim.iconst (v := (1 : Int32)) dX6_single_113 rfl ?_
      refine Sim.iadd dX6_single_114 ?_
      refine Sim.callV1U (d1 := dd) (hkc (v1 + (1 : Int32)) x1) dX6_single_115 ml_X6_161 mv_X6_condition xO_X6 (by omega) (Nat.le_of_ble_eq_true rfl) (Nat.le_of_ble_eq_true rfl) (fun x4 => ?_)
      refine Sim.aload_n 0 dX6_single_118 rfl ?_
      refine Sim.bipush (v := (30 : Int32)) dX6_single_119 rfl ?_
      refine Sim.callV1U (d1 := 1) (s_X6_expect (30 : Int32) x4) dX6_single_121 ml_X6_136 mv_X6_expect xO_X6 (by omega) (Nat.le_of_ble_eq_true rfl) (Nat.le_of_ble_eq_true rfl) (fun x5 => ?_)
      exact Sim.vret dX6_single_124 rfl
  · refine Sim.aload_n 0 dX6_single_76 rfl ?_
    refine Sim.iconst (v := (3 : Int32)) dX6_single_77 rfl ?_
    refine Sim.callV1U (d1 := 0) (s_X6_fail (3 : Int32) h) dX6_single_78 ml_X6_133 mv_X6_fail xO_X6 (by omega) (Nat.le_of_ble_eq_true rfl) (Nat.le_of_ble_eq_true rfl) (fun x6 => ?_)
    exact Sim.vret dX6_single_81 rfl
def f_X6_single_45 (ks kc : Int32 → zHp → Option zHp)  (v3 : Int32) (s0 : Int32) (h : zHp) : Option (zHp) := (f_X6_expect s0 h).bind fun x1 => (if (x1 145 12) = 0 then (f_X6_sumOf x1).bind fun x2 => (f_X1_add 150 (v3 ^^^ (-1 : Int32)) x2).bind fun x3 => some x3 else some x1)
set_option maxHeartbeats 4000000 in
set_option maxRecDepth 100000 in
theorem f_X6_single_45_s (dd : Nat) (ks kc : Int32 → zHp → Option zHp) (hks : ∀ a h, Fn wX mX6_single dd rV [.ref 145, .int a] h (ks a h)) (hkc : ∀ a h, Fn wX mX6_condition dd rV [.ref 145, .int a] h (kc a h)) (v3 : Int32) (s0 : Int32) (h : zHp) : Sim wX mX6_single (dd + 3) rV 45 [(0, .ref 145), (3, .int v3)] [.int s0, .ref 145] h (f_X6_single_45 ks kc v3 s0 h) := by
  unfold f_X6_single_45
  refine Sim.callV1U (d1 := 1) (s_X6_expect s0 h) dX6_single_45 ml_X6_136 mv_X6_expect xO_X6 (by omega) (Nat.le_of_ble_eq_true rfl) (Nat.le_of_ble_eq_true rfl) (fun x1 => ?_)
  refine Sim.aload_n 0 dX6_single_48 rfl ?_
  refine Sim.getI fl_X6_60 dX6_single_49 xI_145_12 ?_
  refine Sim.if_ne 69 dX6_single_52 rfl ?_ ?_
  · refine Sim.aload_n 0 dX6_single_55 rfl ?_
    refine Sim.callV0U (d1 := 2) (s_X6_sumOf x1) dX6_single_56 ml_X6_155 mv_X6_sumOf xO_X6 (by omega) (Nat.le_of_ble_eq_true rfl) (Nat.le_of_ble_eq_true rfl) (fun x2 => ?_)
    refine Sim.aload_n 0 dX6_single_59 rfl ?_
    refine Sim.getR (j := 150) fl_X6_47 dX6_single_60 xR_145_10 ?_
    refine Sim.iload_n 1 dX6_single_63 rfl ?_
    refine Sim.iconst (v := (-1 : Int32)) dX6_single_64 rfl ?_
    refine Sim.ixor dX6_single_65 ?_
    refine Sim.callV1U (d1 := 0) (s_X1_add 150 xL_X1_150 (v3 ^^^ (-1 : Int32)) x2) dX6_single_66 ml_X6_170 mv_X1_add (xOC_X1 _ xL_X1_150) (by omega) (Nat.le_of_ble_eq_true rfl) (Nat.le_of_ble_eq_true rfl) (fun x3 => ?_)
    exact Sim.vret dX6_single_69 rfl
  · exact Sim.vret dX6_single_69 rfl
def f_X6_single_b (ks kc : Int32 → zHp → Option zHp) (a1 : Int32) (h : zHp) : Option (zHp) := zlt (h 145 7) fun x1 => (if x1 = (15 : Int32) then f_X6_single_70 ks kc a1 x1 h else (if x1 = (29 : Int32) then f_X6_single_70 ks kc a1 x1 h else (f_X6_sumOf h).bind fun x2 => zlt (x2 145 7) fun x3 => (if x3 = (31 : Int32) then f_X6_single_45 ks kc x3 x3 x2 else (if x3 = (33 : Int32) then f_X6_single_45 ks kc x3 x3 x2 else f_X6_single_45 ks kc x3 (32 : Int32) x2))))
set_option maxHeartbeats 4000000 in
set_option maxRecDepth 100000 in
theorem s_X6_single_b (dd : Nat) (ks kc : Int32 → zHp → Option zHp) (hks : ∀ a h, Fn wX mX6_single dd rV [.ref 145, .int a] h (ks a h)) (hkc : ∀ a h, Fn wX mX6_condition dd rV [.ref 145, .int a] h (kc a h)) (a1 : Int32) (h : zHp) : Fn wX mX6_single (dd + 3) rV [.ref 145, .int a1] h (f_X6_single_b ks kc a1 h) := by
  refine Fn.of rfl (Nat.le_of_ble_eq_true rfl) ?_
  unfold f_X6_single_b
  refine Sim.aload_n 0 dX6_single_0 rfl ?_
  refine Sim.getI fl_X6_35 dX6_single_1 xI_145_7 ?_
  refine Sim.lti (fun x1 => ?_)
  refine Sim.istore_n (L' := [(2, .int x1), (0, .ref 145), (1, .int a1)]) dX6_single_4 (Nat.le_of_ble_eq_true rfl) rfl ?_
  refine Sim.iload_n 0 dX6_single_5 rfl ?_
  refine Sim.bipush (v := (15 : Int32)) dX6_single_6 rfl ?_
  refine Sim.icmp_eq 70 dX6_single_8 rfl ?_ ?_
  · refine Sim.locs [1, 2, 0] rfl ?_
    exact f_X6_single_70_s dd ks kc hks hkc a1 x1 h
  · refine Sim.iload_n 0 dX6_single_11 rfl ?_
    refine Sim.bipush (v := (29 : Int32)) dX6_single_12 rfl ?_
    refine Sim.icmp_eq 70 dX6_single_14 rfl ?_ ?_
    · refine Sim.locs [1, 2, 0] rfl ?_
      exact f_X6_single_70_s dd ks kc hks hkc a1 x1 h
    · refine Sim.aload_n 1 dX6_single_17 rfl ?_
      refine Sim.callV0U (d1 := 2) (s_X6_sumOf h) dX6_single_18 ml_X6_155 mv_X6_sumOf xO_X6 (by omega) (Nat.le_of_ble_eq_true rfl) (Nat.le_of_ble_eq_true rfl) (fun x2 => ?_)
      refine Sim.aload_n 1 dX6_single_21 rfl ?_
      refine Sim.getI fl_X6_35 dX6_single_22 xI_145_7 ?_
      refine Sim.lti (fun x3 => ?_)
      refine Sim.istore_n (L' := [(3, .int x3), (2, .int x1), (0, .ref 145), (1, .int a1)]) dX6_single_25 (Nat.le_of_ble_eq_true rfl) rfl ?_
      refine Sim.aload_n 2 dX6_single_26 rfl ?_
      refine Sim.iload_n 0 dX6_single_27 rfl ?_
      refine Sim.bipush (v := (31 : Int32)) dX6_single_28 rfl ?_
      refine Sim.icmp_eq 39 dX6_single_30 rfl ?_ ?_
      · refine Sim.iload_n 0 dX6_single_39 rfl ?_
        refine Sim.goto 45 dX6_single_40 rfl ?_
        refine Sim.locs [2, 0] rfl ?_
        exact f_X6_single_45_s dd ks kc hks hkc x3 x3 x2
      · refine Sim.iload_n 0 dX6_single_33 rfl ?_
        refine Sim.bipush (v := (33 : Int32)) dX6_single_34 rfl ?_
        refine Sim.icmp_ne 43 dX6_single_36 rfl ?_ ?_
        · refine Sim.iload_n 0 dX6_single_39 rfl ?_
          refine Sim.goto 45 dX6_single_40 rfl ?_
          refine Sim.locs [2, 0] rfl ?_
          exact f_X6_single_45_s dd ks kc hks hkc x3 x3 x2
        · refine Sim.bipush (v := (32 : Int32)) dX6_single_43 rfl ?_
          refine Sim.locs [2, 0] rfl ?_
          exact f_X6_single_45_s dd ks kc hks hkc x3 (32 : Int32) x2
theorem dX6_condition_0 : decode cX6_condition 0 = .ok (.iconst 0, 1) := by decide +kernel
theorem dX6_condition_1 : decode cX6_condition 1 = .ok (.istore_n 2, 1) := by decide +kernel
theorem dX6_condition_2 : decode cX6_condition 2 = .ok (.iconst 0, 1) := by decide +kernel
theorem dX6_condition_3 : decode cX6_condition 3 = .ok (.istore_n 3, 1) := by decide +kernel
theorem dX6_condition_4 : decode cX6_condition 4 = .ok (.iconst 0, 1) := by decide +kernel
theorem dX6_condition_5 : decode cX6_condition 5 = .ok (.istore 4, 2) := by decide +kernel
theorem dX6_condition_7 : decode cX6_condition 7 = .ok (.iload 4, 2) := by decide +kernel
theorem dX6_condition_9 : decode cX6_condition 9 = .ok (.sipush 400, 3) := by decide +kernel
theorem dX6_condition_12 : decode cX6_condition 12 = .ok (.if_icmp .ge 109, 3) := by decide +kernel
theorem dX6_condition_15 : decode cX6_condition 15 = .ok (.aload_n 0, 1) := by decide +kernel
theorem dX6_condition_16 : decode cX6_condition 16 = .ok (.getfield 60, 3) := by decide +kernel
theorem dX6_condition_19 : decode cX6_condition 19 = .ok (.ifCond .ne 102, 3) := by decide +kernel
theorem dX6_condition_22 : decode cX6_condition 22 = .ok (.aload_n 0, 1) := by decide +kernel
theorem dX6_condition_23 : decode cX6_condition 23 = .ok (.iload_n 1, 1) := by decide +kernel
theorem dX6_condition_24 : decode cX6_condition 24 = .ok (.invokevirtual 172, 3) := by decide +kernel
theorem dX6_condition_27 : decode cX6_condition 27 = .ok (.iload_n 2, 1) := by decide +kernel
theorem dX6_condition_28 : decode cX6_condition 28 = .ok (.ifCond .eq 12, 3) := by decide +kernel
theorem dX6_condition_31 : decode cX6_condition 31 = .ok (.aload_n 0, 1) := by decide +kernel
theorem dX6_condition_32 : decode cX6_condition 32 = .ok (.getfield 47, 3) := by decide +kernel
theorem dX6_condition_35 : decode cX6_condition 35 = .ok (.bipush (-15), 2) := by decide +kernel
theorem dX6_condition_37 : decode cX6_condition 37 = .ok (.invokevirtual 170, 3) := by decide +kernel
theorem dX6_condition_40 : decode cX6_condition 40 = .ok (.aload_n 0, 1) := by decide +kernel
theorem dX6_condition_41 : decode cX6_condition 41 = .ok (.getfield 35, 3) := by decide +kernel
theorem dX6_condition_44 : decode cX6_condition 44 = .ok (.bipush 14, 2) := by decide +kernel
theorem dX6_condition_46 : decode cX6_condition 46 = .ok (.if_icmp .ne 7, 3) := by decide +kernel
theorem dX6_condition_49 : decode cX6_condition 49 = .ok (.iconst 1, 1) := by decide +kernel
theorem dX6_condition_50 : decode cX6_condition 50 = .ok (.goto 4, 3) := by decide +kernel
theorem dX6_condition_53 : decode cX6_condition 53 = .ok (.iconst 0, 1) := by decide +kernel
theorem dX6_condition_54 : decode cX6_condition 54 = .ok (.istore_n 2, 1) := by decide +kernel
theorem dX6_condition_55 : decode cX6_condition 55 = .ok (.iload_n 2, 1) := by decide +kernel
theorem dX6_condition_56 : decode cX6_condition 56 = .ok (.ifCond .ne 16, 3) := by decide +kernel
theorem dX6_condition_59 : decode cX6_condition 59 = .ok (.iload_n 3, 1) := by decide +kernel
theorem dX6_condition_60 : decode cX6_condition 60 = .ok (.ifCond .eq 12, 3) := by decide +kernel
theorem dX6_condition_63 : decode cX6_condition 63 = .ok (.aload_n 0, 1) := by decide +kernel
theorem dX6_condition_64 : decode cX6_condition 64 = .ok (.getfield 47, 3) := by decide +kernel
theorem dX6_condition_67 : decode cX6_condition 67 = .ok (.bipush (-14), 2) := by decide +kernel
theorem dX6_condition_69 : decode cX6_condition 69 = .ok (.invokevirtual 170, 3) := by decide +kernel
theorem dX6_condition_72 : decode cX6_condition 72 = .ok (.aload_n 0, 1) := by decide +kernel
theorem dX6_condition_73 : decode cX6_condition 73 = .ok (.getfield 35, 3) := by decide +kernel
theorem dX6_condition_76 : decode cX6_condition 76 = .ok (.bipush 13, 2) := by decide +kernel
theorem dX6_condition_78 : decode cX6_condition 78 = .ok (.if_icmp .eq 11, 3) := by decide +kernel
theorem dX6_condition_81 : decode cX6_condition 81 = .ok (.iload_n 2, 1) := by decide +kernel
theorem dX6_condition_82 : decode cX6_condition 82 = .ok (.ifCond .eq 11, 3) := by decide +kernel
theorem dX6_condition_85 : decode cX6_condition 85 = .ok (.iload_n 3, 1) := by decide +kernel
theorem dX6_condition_86 : decode cX6_condition 86 = .ok (.ifCond .eq 7, 3) := by decide +kernel
theorem dX6_condition_89 : decode cX6_condition 89 = .ok (.iconst 1, 1) := by decide +kernel
theorem dX6_condition_90 : decode cX6_condition 90 = .ok (.goto 4, 3) := by decide +kernel
theorem dX6_condition_93 : decode cX6_condition 93 = .ok (.iconst 0, 1) := by decide +kernel
theorem dX6_condition_94 : decode cX6_condition 94 = .ok (.istore_n 3, 1) := by decide +kernel
theorem dX6_condition_95 : decode cX6_condition 95 = .ok (.aload_n 0, 1) := by decide +kernel
theorem dX6_condition_96 : decode cX6_condition 96 = .ok (.getfield 60, 3) := by decide +kernel
theorem dX6_condition_99 : decode cX6_condition 99 = .ok (.ifCond .ne 11, 3) := by decide +kernel
theorem dX6_condition_102 : decode cX6_condition 102 = .ok (.iload_n 2, 1) := by decide +kernel
theorem dX6_condition_103 : decode cX6_condition 103 = .ok (.ifCond .ne 8, 3) := by decide +kernel
theorem dX6_condition_106 : decode cX6_condition 106 = .ok (.iload_n 3, 1) := by decide +kernel
theorem dX6_condition_107 : decode cX6_condition 107 = .ok (.ifCond .ne 4, 3) := by decide +kernel
theorem dX6_condition_110 : decode cX6_condition 110 = .ok (.return_, 1) := by decide +kernel
theorem dX6_condition_111 : decode cX6_condition 111 = .ok (.aload_n 0, 1) := by decide +kernel
theorem dX6_condition_112 : decode cX6_condition 112 = .ok (.invokevirtual 130, 3) := by decide +kernel
theorem dX6_condition_115 : decode cX6_condition 115 = .ok (.iinc 4 1, 3) := by decide +kernel
theorem dX6_condition_118 : decode cX6_condition 118 = .ok (.goto (-111), 3) := by decide +kernel
theorem dX6_condition_121 : decode cX6_condition 121 = .ok (.return_, 1) := by decide +kernel
def f_X6_condition_94 (ks kc : Int32 → zHp → Option zHp) (k7 : Int32 × Int32 × Int32 × Int32 × zHp → Option (zHp)) (v1 : Int32) (v2 : Int32) (v4 : Int32) (s0 : Int32) (h : zHp) : Option (zHp) := (if (h 145 12) = 0 then (if v2 = 0 then (if s0 = 0 then some h else (f_X6_advance h).bind fun x1 => k7 (v1, v2, s0, (v4 + (1 : Int32)), x1)) else (f_X6_advance h).bind fun x2 => k7 (v1, v2, s0, (v4 + (1 : Int32)), x2)) else some h)
set_option maxHeartbeats 4000000 in
set_option maxRecDepth 100000 in
theorem f_X6_condition_94_s (dd : Nat) (ks kc : Int32 → zHp → Option zHp) (hks : ∀ a h, Fn wX mX6_single dd rV [.ref 145, .int a] h (ks a h)) (hkc : ∀ a h, Fn wX mX6_condition dd rV [.ref 145, .int a] h (kc a h)) (k7 : Int32 × Int32 × Int32 × Int32 × zHp → Option (zHp)) (H7 : ∀ v : Int32 × Int32 × Int32 × Int32 × zHp, Sim wX mX6_condition (dd + 3) rV 7 [(0, .ref 145), (1, .int v.1), (2, .int v.2.1), (3, .int v.2.2.1), (4, .int v.2.2.2.1)] [] v.2.2.2.2 (k7 v)) (v1 : Int32) (v2 : Int32) (v4 : Int32) (s0 : Int32) (h : zHp) : Sim wX mX6_condition (dd + 3) rV 94 [(0, .ref 145), (1, .int v1), (2, .int v2), (4, .int v4)] [.int s0] h (f_X6_condition_94 ks kc k7 v1 v2 v4 s0 h) := by
  unfold f_X6_condition_94
  refine Sim.istore_n (L' := [(3, .int s0), (0, .ref 145), (1, .int v1), (2, .int v2), (4, .int v4)]) dX6_condition_94 (Nat.le_of_ble_eq_true rfl) rfl ?_
  refine Sim.aload_n 1 dX6_condition_95 rfl ?_
  refine Sim.getI fl_X6_60 dX6_condition_96 xI_145_12 ?_
  refine Sim.if_ne 110 dX6_condition_99 rfl ?_ ?_
  · refine Sim.iload_n 3 dX6_condition_102 rfl ?_
    refine Sim.if_ne 111 dX6_condition_103 rfl ?_ ?_
    · refine Sim.iload_n 0 dX6_condition_106 rfl ?_
      refine Sim.if_ne 111 dX6_condition_107 rfl ?_ ?_
      · exact Sim.vret dX6_condition_110 rfl
      · refine Sim.aload_n 1 dX6_condition_111 rfl ?_
        refine Sim.callV0U (d1 := 0) (s_X6_advance h) dX6_condition_112 ml_X6_130 mv_X6_advance xO_X6 (by omega) (Nat.le_of_ble_eq_true rfl) (Nat.le_of_ble_eq_true rfl) (fun x1 => ?_)
        refine Sim.iinc (L' := [(4, .int (v4 + (1 : Int32))), (3, .int s0), (0, .ref 145), (1, .int v1), (2, .int v2)]) 4 dX6_condition_115 rfl rfl (Nat.le_of_ble_eq_true rfl) rfl ?_
        refine Sim.goto 7 dX6_condition_118 rfl ?_
        refine Sim.locs [2, 3, 4, 1, 0] rfl ?_
        exact H7 (v1, v2, s0, (v4 + (1 : Int32)), x1)
    · refine Sim.aload_n 1 dX6_condition_111 rfl ?_
      refine Sim.callV0U (d1 := 0) (s_X6_advance h) dX6_condition_112 ml_X6_130 mv_X6_advance xO_X6 (by omega) (Nat.le_of_ble_eq_true rfl) (Nat.le_of_ble_eq_true rfl) (fun x2 => ?_)
      refine Sim.iinc (L' := [(4, .int (v4 + (1 : Int32))), (3, .int s0), (0, .ref 145), (1, .int v1), (2, .int v2)]) 4 dX6_condition_115 rfl rfl (Nat.le_of_ble_eq_true rfl) rfl ?_
      refine Sim.goto 7 dX6_condition_118 rfl ?_
      refine Sim.locs [2, 3, 4, 1, 0] rfl ?_
      exact H7 (v1, v2, s0, (v4 + (1 : Int32)), x2)
  · exact Sim.vret dX6_condition_110 rfl
def f_X6_condition_72 (ks kc : Int32 → zHp → Option zHp) (k7 : Int32 × Int32 × Int32 × Int32 × zHp → Option (zHp)) (v1 : Int32) (v2 : Int32) (v3 : Int32) (v4 : Int32) (h : zHp) : Option (zHp) := (if (h 145 7) = (13 : Int32) then f_X6_condition_94 ks kc k7 v1 v2 v4 (1 : Int32) h else (if v2 = 0 then f_X6_condition_94 ks kc k7 v1 v2 v4 (0 : Int32) h else (if v3 = 0 then f_X6_condition_94 ks kc k7 v1 v2 v4 (0 : Int32) h else f_X6_condition_94 ks kc k7 v1 v2 v4 (1 : Int32) h)))
set_option maxHeartbeats 4000000 in
set_option maxRecDepth 100000 in
theorem f_X6_condition_72_s (dd : Nat) (ks kc : Int32 → zHp → Option zHp) (hks : ∀ a h, Fn wX mX6_single dd rV [.ref 145, .int a] h (ks a h)) (hkc : ∀ a h, Fn wX mX6_condition dd rV [.ref 145, .int a] h (kc a h)) (k7 : Int32 × Int32 × Int32 × Int32 × zHp → Option (zHp)) (H7 : ∀ v : Int32 × Int32 × Int32 × Int32 × zHp, Sim wX mX6_condition (dd + 3) rV 7 [(0, .ref 145), (1, .int v.1), (2, .int v.2.1), (3, .int v.2.2.1), (4, .int v.2.2.2.1)] [] v.2.2.2.2 (k7 v)) (v1 : Int32) (v2 : Int32) (v3 : Int32) (v4 : Int32) (h : zHp) : Sim wX mX6_condition (dd + 3) rV 72 [(0, .ref 145), (1, .int v1), (2, .int v2), (3, .int v3), (4, .int v4)] [] h (f_X6_condition_72 ks kc k7 v1 v2 v3 v4 h) := by
  unfold f_X6_condition_72
  refine Sim.aload_n 0 dX6_condition_72 rfl ?_
  refine Sim.getI fl_X6_35 dX6_condition_73 xI_145_7 ?_
  refine Sim.bipush (v := (13 : Int32)) dX6_condition_76 rfl ?_
  refine Sim.icmp_eq 89 dX6_condition_78 rfl ?_ ?_
  · refine Sim.iconst (v := (1 : Int32)) dX6_condition_89 rfl ?_
    refine Sim.goto 94 dX6_condition_90 rfl ?_
    refine Sim.locs [0, 1, 2, 4] rfl ?_
    exact f_X6_condition_94_s dd ks kc hks hkc k7 H7 v1 v2 v4 (1 : Int32) h
  · refine Sim.iload_n 2 dX6_condition_81 rfl ?_
    refine Sim.if_eq 93 dX6_condition_82 rfl ?_ ?_
    · refine Sim.iconst (v := (0 : Int32)) dX6_condition_93 rfl ?_
      refine Sim.locs [0, 1, 2, 4] rfl ?_
      exact f_X6_condition_94_s dd ks kc hks hkc k7 H7 v1 v2 v4 (0 : Int32) h
    · refine Sim.iload_n 3 dX6_condition_85 rfl ?_
      refine Sim.if_eq 93 dX6_condition_86 rfl ?_ ?_
      · refine Sim.iconst (v := (0 : Int32)) dX6_condition_93 rfl ?_
        refine Sim.locs [0, 1, 2, 4] rfl ?_
        exact f_X6_condition_94_s dd ks kc hks hkc k7 H7 v1 v2 v4 (0 : Int32) h
      · refine Sim.iconst (v := (1 : Int32)) dX6_condition_89 rfl ?_
        refine Sim.goto 94 dX6_condition_90 rfl ?_
        refine Sim.locs [0, 1, 2, 4] rfl ?_
        exact f_X6_condition_94_s dd ks kc hks hkc k7 H7 v1 v2 v4 (1 : Int32) h
def f_X6_condition_54 (ks kc : Int32 → zHp → Option zHp) (k7 : Int32 × Int32 × Int32 × Int32 × zHp → Option (zHp)) (v1 : Int32) (v3 : Int32) (v4 : Int32) (s0 : Int32) (h : zHp) : Option (zHp) := (if s0 = 0 then (if v3 = 0 then f_X6_condition_72 ks kc k7 v1 s0 v3 v4 h else (f_X1_add 150 (-14 : Int32) h).bind fun x1 => f_X6_condition_72 ks kc k7 v1 s0 v3 v4 x1) else f_X6_condition_72 ks kc k7 v1 s0 v3 v4 h)
set_option maxHeartbeats 4000000 in
set_option maxRecDepth 100000 in
theorem f_X6_condition_54_s (dd : Nat) (ks kc : Int32 → zHp → Option zHp) (hks : ∀ a h, Fn wX mX6_single dd rV [.ref 145, .int a] h (ks a h)) (hkc : ∀ a h, Fn wX mX6_condition dd rV [.ref 145, .int a] h (kc a h)) (k7 : Int32 × Int32 × Int32 × Int32 × zHp → Option (zHp)) (H7 : ∀ v : Int32 × Int32 × Int32 × Int32 × zHp, Sim wX mX6_condition (dd + 3) rV 7 [(0, .ref 145), (1, .int v.1), (2, .int v.2.1), (3, .int v.2.2.1), (4, .int v.2.2.2.1)] [] v.2.2.2.2 (k7 v)) (v1 : Int32) (v3 : Int32) (v4 : Int32) (s0 : Int32) (h : zHp) : Sim wX mX6_condition (dd + 3) rV 54 [(0, .ref 145), (1, .int v1), (3, .int v3), (4, .int v4)] [.int s0] h (f_X6_condition_54 ks kc k7 v1 v3 v4 s0 h) := by
  unfold f_X6_condition_54
  refine Sim.istore_n (L' := [(2, .int s0), (0, .ref 145), (1, .int v1), (3, .int v3), (4, .int v4)]) dX6_condition_54 (Nat.le_of_ble_eq_true rfl) rfl ?_
  refine Sim.iload_n 0 dX6_condition_55 rfl ?_
  refine Sim.if_ne 72 dX6_condition_56 rfl ?_ ?_
  · refine Sim.iload_n 3 dX6_condition_59 rfl ?_
    refine Sim.if_eq 72 dX6_condition_60 rfl ?_ ?_
    · refine Sim.locs [1, 2, 0, 3, 4] rfl ?_
      exact f_X6_condition_72_s dd ks kc hks hkc k7 H7 v1 s0 v3 v4 h
    · refine Sim.aload_n 1 dX6_condition_63 rfl ?_
      refine Sim.getR (j := 150) fl_X6_47 dX6_condition_64 xR_145_10 ?_
      refine Sim.bipush (v := (-14 : Int32)) dX6_condition_67 rfl ?_
      refine Sim.callV1U (d1 := 0) (s_X1_add 150 xL_X1_150 (-14 : Int32) h) dX6_condition_69 ml_X6_170 mv_X1_add (xOC_X1 _ xL_X1_150) (by omega) (Nat.le_of_ble_eq_true rfl) (Nat.le_of_ble_eq_true rfl) (fun x1 => ?_)
      refine Sim.locs [1, 2, 0, 3, 4] rfl ?_
      exact f_X6_condition_72_s dd ks kc hks hkc k7 H7 v1 s0 v3 v4 x1
  · refine Sim.locs [1, 2, 0, 3, 4] rfl ?_
    exact f_X6_condition_72_s dd ks kc hks hkc k7 H7 v1 s0 v3 v4 h
def f_X6_condition_40 (ks kc : Int32 → zHp → Option zHp) (k7 : Int32 × Int32 × Int32 × Int32 × zHp → Option (zHp)) (v1 : Int32) (v3 : Int32) (v4 : Int32) (h : zHp) : Option (zHp) := (if (h 145 7) = (14 : Int32) then f_X6_condition_54 ks kc k7 v1 v3 v4 (1 : Int32) h else f_X6_condition_54 ks kc k7 v1 v3 v4 (0 : Int32) h)
set_option maxHeartbeats 4000000 in
set_option maxRecDepth 100000 in
theorem f_X6_condition_40_s (dd : Nat) (ks kc : Int32 → zHp → Option zHp) (hks : ∀ a h, Fn wX mX6_single dd rV [.ref 145, .int a] h (ks a h)) (hkc : ∀ a h, Fn wX mX6_condition dd rV [.ref 145, .int a] h (kc a h)) (k7 : Int32 × Int32 × Int32 × Int32 × zHp → Option (zHp)) (H7 : ∀ v : Int32 × Int32 × Int32 × Int32 × zHp, Sim wX mX6_condition (dd + 3) rV 7 [(0, .ref 145), (1, .int v.1), (2, .int v.2.1), (3, .int v.2.2.1), (4, .int v.2.2.2.1)] [] v.2.2.2.2 (k7 v)) (v1 : Int32) (v3 : Int32) (v4 : Int32) (h : zHp) : Sim wX mX6_condition (dd + 3) rV 40 [(0, .ref 145), (1, .int v1), (3, .int v3), (4, .int v4)] [] h (f_X6_condition_40 ks kc k7 v1 v3 v4 h) := by
  unfold f_X6_condition_40
  refine Sim.aload_n 0 dX6_condition_40 rfl ?_
  refine Sim.getI fl_X6_35 dX6_condition_41 xI_145_7 ?_
  refine Sim.bipush (v := (14 : Int32)) dX6_condition_44 rfl ?_
  refine Sim.icmp_ne 53 dX6_condition_46 rfl ?_ ?_
  · refine Sim.iconst (v := (1 : Int32)) dX6_condition_49 rfl ?_
    refine Sim.goto 54 dX6_condition_50 rfl ?_
    exact f_X6_condition_54_s dd ks kc hks hkc k7 H7 v1 v3 v4 (1 : Int32) h
  · refine Sim.iconst (v := (0 : Int32)) dX6_condition_53 rfl ?_
    exact f_X6_condition_54_s dd ks kc hks hkc k7 H7 v1 v3 v4 (0 : Int32) h
def f_X6_condition_7 (ks kc : Int32 → zHp → Option zHp) (k7 : Int32 × Int32 × Int32 × Int32 × zHp → Option (zHp)) (v1 : Int32) (v2 : Int32) (v3 : Int32) (v4 : Int32) (h : zHp) : Option (zHp) := (if v4 < (400 : Int32) then (if (h 145 12) = 0 then (ks v1 h).bind fun x1 => (if v2 = 0 then f_X6_condition_40 ks kc k7 v1 v3 v4 x1 else (f_X1_add 150 (-15 : Int32) x1).bind fun x2 => f_X6_condition_40 ks kc k7 v1 v3 v4 x2) else some h) else some h)
set_option maxHeartbeats 4000000 in
set_option maxRecDepth 100000 in
theorem f_X6_condition_7_s (dd : Nat) (ks kc : Int32 → zHp → Option zHp) (hks : ∀ a h, Fn wX mX6_single dd rV [.ref 145, .int a] h (ks a h)) (hkc : ∀ a h, Fn wX mX6_condition dd rV [.ref 145, .int a] h (kc a h)) (k7 : Int32 × Int32 × Int32 × Int32 × zHp → Option (zHp)) (H7 : ∀ v : Int32 × Int32 × Int32 × Int32 × zHp, Sim wX mX6_condition (dd + 3) rV 7 [(0, .ref 145), (1, .int v.1), (2, .int v.2.1), (3, .int v.2.2.1), (4, .int v.2.2.2.1)] [] v.2.2.2.2 (k7 v)) (v1 : Int32) (v2 : Int32) (v3 : Int32) (v4 : Int32) (h : zHp) : Sim wX mX6_condition (dd + 3) rV 7 [(0, .ref 145), (1, .int v1), (2, .int v2), (3, .int v3), (4, .int v4)] [] h (f_X6_condition_7 ks kc k7 v1 v2 v3 v4 h) := by
  unfold f_X6_condition_7
  refine Sim.iload 4 dX6_condition_7 rfl ?_
  refine Sim.sipush (v := (400 : Int32)) dX6_condition_9 rfl ?_
  refine Sim.icmp_ge 121 dX6_condition_12 rfl ?_ ?_
  · refine Sim.aload_n 0 dX6_condition_15 rfl ?_
    refine Sim.getI fl_X6_60 dX6_condition_16 xI_145_12 ?_
    refine Sim.if_ne 121 dX6_condition_19 rfl ?_ ?_
    · refine Sim.aload_n 0 dX6_condition_22 rfl ?_
      refine Sim.iload_n 1 dX6_condition_23 rfl ?_
      refine Sim.callV1U (d1 := dd) (hks v1 h) dX6_condition_24 ml_X6_172 mv_X6_single xO_X6 (by omega) (Nat.le_of_ble_eq_true rfl) (Nat.le_of_ble_eq_true rfl) (fun x1 => ?_)
      refine Sim.iload_n 2 dX6_condition_27 rfl ?_
      refine Sim.if_eq 40 dX6_condition_28 rfl ?_ ?_
      · refine Sim.locs [0, 1, 3, 4] rfl ?_
        exact f_X6_condition_40_s dd ks kc hks hkc k7 H7 v1 v3 v4 x1
      · refine Sim.aload_n 0 dX6_condition_31 rfl ?_
        refine Sim.getR (j := 150) fl_X6_47 dX6_condition_32 xR_145_10 ?_
        refine Sim.bipush (v := (-15 : Int32)) dX6_condition_35 rfl ?_
        refine Sim.callV1U (d1 := 0) (s_X1_add 150 xL_X1_150 (-15 : Int32) x1) dX6_condition_37 ml_X6_170 mv_X1_add (xOC_X1 _ xL_X1_150) (by omega) (Nat.le_of_ble_eq_true rfl) (Nat.le_of_ble_eq_true rfl) (fun x2 => ?_)
        refine Sim.locs [0, 1, 3, 4] rfl ?_
        exact f_X6_condition_40_s dd ks kc hks hkc k7 H7 v1 v3 v4 x2
    · exact Sim.vret dX6_condition_121 rfl
  · exact Sim.vret dX6_condition_121 rfl
def f_X6_condition_7_lp (ks kc : Int32 → zHp → Option zHp)  (n : Nat) (v : Int32 × Int32 × Int32 × Int32 × zHp) : Option (zHp) := zlp (fun k7 v => f_X6_condition_7 ks kc k7 v.1 v.2.1 v.2.2.1 v.2.2.2.1 v.2.2.2.2) n v
theorem f_X6_condition_7_ls (dd : Nat) (ks kc : Int32 → zHp → Option zHp) (hks : ∀ a h, Fn wX mX6_single dd rV [.ref 145, .int a] h (ks a h)) (hkc : ∀ a h, Fn wX mX6_condition dd rV [.ref 145, .int a] h (kc a h)) (n : Nat) (v : Int32 × Int32 × Int32 × Int32 × zHp) : Sim wX mX6_condition (dd + 3) rV 7 [(0, .ref 145), (1, .int v.1), (2, .int v.2.1), (3, .int v.2.2.1), (4, .int v.2.2.2.1)] [] v.2.2.2.2 (f_X6_condition_7_lp ks kc n v) :=
  Sim.lp (V := Int32 × Int32 × Int32 × Int32 × zHp) (Lf := fun v => [(0, .ref 145), (1, .int v.1), (2, .int v.2.1), (3, .int v.2.2.1), (4, .int v.2.2.2.1)]) (sf := fun v => []) (hf := fun v => v.2.2.2.2) (fun k7 H7 v => f_X6_condition_7_s dd ks kc hks hkc k7 H7 v.1 v.2.1 v.2.2.1 v.2.2.2.1 v.2.2.2.2) n v
def f_X6_condition_b (ks kc : Int32 → zHp → Option zHp) (a1 : Int32) (h : zHp) : Option (zHp) := f_X6_condition_7_lp ks kc zN (a1, (0 : Int32), (0 : Int32), (0 : Int32), h)
set_option maxHeartbeats 4000000 in
set_option maxRecDepth 100000 in
theorem s_X6_condition_b (dd : Nat) (ks kc : Int32 → zHp → Option zHp) (hks : ∀ a h, Fn wX mX6_single dd rV [.ref 145, .int a] h (ks a h)) (hkc : ∀ a h, Fn wX mX6_condition dd rV [.ref 145, .int a] h (kc a h)) (a1 : Int32) (h : zHp) : Fn wX mX6_condition (dd + 3) rV [.ref 145, .int a1] h (f_X6_condition_b ks kc a1 h) := by
  refine Fn.of rfl (Nat.le_of_ble_eq_true rfl) ?_
  unfold f_X6_condition_b
  refine Sim.iconst (v := (0 : Int32)) dX6_condition_0 rfl ?_
  refine Sim.istore_n (L' := [(2, .int (0 : Int32)), (0, .ref 145), (1, .int a1)]) dX6_condition_1 (Nat.le_of_ble_eq_true rfl) rfl ?_
  refine Sim.iconst (v := (0 : Int32)) dX6_condition_2 rfl ?_
  refine Sim.istore_n (L' := [(3, .int (0 : Int32)), (2, .int (0 : Int32)), (0, .ref 145), (1, .int a1)]) dX6_condition_3 (Nat.le_of_ble_eq_true rfl) rfl ?_
  refine Sim.iconst (v := (0 : Int32)) dX6_condition_4 rfl ?_
  refine Sim.istore (L' := [(4, .int (0 : Int32)), (3, .int (0 : Int32)), (2, .int (0 : Int32)), (0, .ref 145), (1, .int a1)]) dX6_condition_5 (Nat.le_of_ble_eq_true rfl) rfl ?_
  refine Sim.locs [3, 4, 2, 1, 0] rfl ?_
  exact f_X6_condition_7_ls dd ks kc hks hkc zN (a1, (0 : Int32), (0 : Int32), (0 : Int32), h)
def f_X6_rc : Nat → (Int32 → zHp → Option zHp) × (Int32 → zHp → Option zHp)
  | 0 => (fun _ _ => none, fun _ _ => none)
  | n + 1 => (fun a h => f_X6_single_b (f_X6_rc n).1 (f_X6_rc n).2 a h, fun a h => f_X6_condition_b (f_X6_rc n).1 (f_X6_rc n).2 a h)
theorem s_X6_rc : ∀ n, (∀ a h, Fn wX mX6_single (3 * n) rV [.ref 145, .int a] h ((f_X6_rc n).1 a h)) ∧ (∀ a h, Fn wX mX6_condition (3 * n) rV [.ref 145, .int a] h ((f_X6_rc n).2 a h))
  | 0 => ⟨fun _ _ _ q => by cases q, fun _ _ _ q => by cases q⟩
  | n + 1 => ⟨fun a h => s_X6_single_b (3 * n) _ _ (s_X6_rc n).1 (s_X6_rc n).2 a h, fun a h => s_X6_condition_b (3 * n) _ _ (s_X6_rc n).1 (s_X6_rc n).2 a h⟩
def f_X6_condition (a1 : Int32) (h : zHp) : Option zHp := (f_X6_rc 20).2 a1 h
theorem s_X6_condition (a1 : Int32) (h : zHp) : Fn wX mX6_condition 60 rV [.ref 145, .int a1] h (f_X6_condition a1 h) := (s_X6_rc 20).2 a1 h
-- ===== RockingPorch$Reader.lawLine()V
abbrev mX6_lawLine : zMt := (yX6_lawLine, cX6_lawLine, 1, none)
theorem fl_X6_87 : zF RX6 87 1 7 := ⟨RX1, TX1, 8, rfl, Nat.le_of_ble_eq_true rfl, zTb_in 285 (by decide +kernel) rfl, in_X1⟩
theorem ml_X6_152 : Cond.methodLink RX6 152 yX1_begin ∈ zTb := zTb_in 909 (by decide +kernel) rfl
theorem ml_X6_158 : Cond.methodLink RX6 158 yX1_middle ∈ zTb := zTb_in 933 (by decide +kernel) rfl
theorem ml_X6_164 : Cond.methodLink RX6 164 yX1_close ∈ zTb := zTb_in 949 (by decide +kernel) rfl
theorem dX6_lawLine_0 : decode cX6_lawLine 0 = .ok (.aload_n 0, 1) := by decide +kernel
theorem dX6_lawLine_1 : decode cX6_lawLine 1 = .ok (.getfield 35, 3) := by decide +kernel
theorem dX6_lawLine_4 : decode cX6_lawLine 4 = .ok (.iconst 2, 1) := by decide +kernel
theorem dX6_lawLine_5 : decode cX6_lawLine 5 = .ok (.if_icmp .le 9, 3) := by decide +kernel
theorem dX6_lawLine_8 : decode cX6_lawLine 8 = .ok (.aload_n 0, 1) := by decide +kernel
theorem dX6_lawLine_9 : decode cX6_lawLine 9 = .ok (.iconst 1, 1) := by decide +kernel
theorem dX6_lawLine_10 : decode cX6_lawLine 10 = .ok (.invokevirtual 133, 3) := by decide +kernel
theorem dX6_lawLine_13 : decode cX6_lawLine 13 = .ok (.return_, 1) := by decide +kernel
theorem dX6_lawLine_14 : decode cX6_lawLine 14 = .ok (.aload_n 0, 1) := by decide +kernel
theorem dX6_lawLine_15 : decode cX6_lawLine 15 = .ok (.getfield 47, 3) := by decide +kernel
theorem dX6_lawLine_18 : decode cX6_lawLine 18 = .ok (.getfield 87, 3) := by decide +kernel
theorem dX6_lawLine_21 : decode cX6_lawLine 21 = .ok (.bipush 16, 2) := by decide +kernel
theorem dX6_lawLine_23 : decode cX6_lawLine 23 = .ok (.if_icmp .lt 9, 3) := by decide +kernel
theorem dX6_lawLine_26 : decode cX6_lawLine 26 = .ok (.aload_n 0, 1) := by decide +kernel
theorem dX6_lawLine_27 : decode cX6_lawLine 27 = .ok (.iconst 3, 1) := by decide +kernel
theorem dX6_lawLine_28 : decode cX6_lawLine 28 = .ok (.invokevirtual 133, 3) := by decide +kernel
theorem dX6_lawLine_31 : decode cX6_lawLine 31 = .ok (.return_, 1) := by decide +kernel
theorem dX6_lawLine_32 : decode cX6_lawLine 32 = .ok (.aload_n 0, 1) := by decide +kernel
theorem dX6_lawLine_33 : decode cX6_lawLine 33 = .ok (.getfield 47, 3) := by decide +kernel
theorem dX6_lawLine_36 : decode cX6_lawLine 36 = .ok (.aload_n 0, 1) := by decide +kernel
theorem dX6_lawLine_37 : decode cX6_lawLine 37 = .ok (.getfield 35, 3) := by decide +kernel
theorem dX6_lawLine_40 : decode cX6_lawLine 40 = .ok (.invokevirtual 152, 3) := by decide +kernel
theorem dX6_lawLine_43 : decode cX6_lawLine 43 = .ok (.aload_n 0, 1) := by decide +kernel
theorem dX6_lawLine_44 : decode cX6_lawLine 44 = .ok (.invokevirtual 130, 3) := by decide +kernel
theorem dX6_lawLine_47 : decode cX6_lawLine 47 = .ok (.aload_n 0, 1) := by decide +kernel
theorem dX6_lawLine_48 : decode cX6_lawLine 48 = .ok (.invokevirtual 155, 3) := by decide +kernel
theorem dX6_lawLine_51 : decode cX6_lawLine 51 = .ok (.aload_n 0, 1) := by decide +kernel
theorem dX6_lawLine_52 : decode cX6_lawLine 52 = .ok (.getfield 47, 3) := by decide +kernel
theorem dX6_lawLine_55 : decode cX6_lawLine 55 = .ok (.invokevirtual 158, 3) := by decide +kernel
theorem dX6_lawLine_58 : decode cX6_lawLine 58 = .ok (.aload_n 0, 1) := by decide +kernel
theorem dX6_lawLine_59 : decode cX6_lawLine 59 = .ok (.getfield 60, 3) := by decide +kernel
theorem dX6_lawLine_62 : decode cX6_lawLine 62 = .ok (.ifCond .ne 21, 3) := by decide +kernel
theorem dX6_lawLine_65 : decode cX6_lawLine 65 = .ok (.aload_n 0, 1) := by decide +kernel
theorem dX6_lawLine_66 : decode cX6_lawLine 66 = .ok (.getfield 35, 3) := by decide +kernel
theorem dX6_lawLine_69 : decode cX6_lawLine 69 = .ok (.bipush 12, 2) := by decide +kernel
theorem dX6_lawLine_71 : decode cX6_lawLine 71 = .ok (.if_icmp .ne 12, 3) := by decide +kernel
theorem dX6_lawLine_74 : decode cX6_lawLine 74 = .ok (.aload_n 0, 1) := by decide +kernel
theorem dX6_lawLine_75 : decode cX6_lawLine 75 = .ok (.invokevirtual 130, 3) := by decide +kernel
theorem dX6_lawLine_78 : decode cX6_lawLine 78 = .ok (.aload_n 0, 1) := by decide +kernel
theorem dX6_lawLine_79 : decode cX6_lawLine 79 = .ok (.iconst 0, 1) := by decide +kernel
theorem dX6_lawLine_80 : decode cX6_lawLine 80 = .ok (.invokevirtual 161, 3) := by decide +kernel
theorem dX6_lawLine_83 : decode cX6_lawLine 83 = .ok (.aload_n 0, 1) := by decide +kernel
theorem dX6_lawLine_84 : decode cX6_lawLine 84 = .ok (.bipush 24, 2) := by decide +kernel
theorem dX6_lawLine_86 : decode cX6_lawLine 86 = .ok (.invokevirtual 136, 3) := by decide +kernel
theorem dX6_lawLine_89 : decode cX6_lawLine 89 = .ok (.aload_n 0, 1) := by decide +kernel
theorem dX6_lawLine_90 : decode cX6_lawLine 90 = .ok (.getfield 60, 3) := by decide +kernel
theorem dX6_lawLine_93 : decode cX6_lawLine 93 = .ok (.ifCond .ne 10, 3) := by decide +kernel
theorem dX6_lawLine_96 : decode cX6_lawLine 96 = .ok (.aload_n 0, 1) := by decide +kernel
theorem dX6_lawLine_97 : decode cX6_lawLine 97 = .ok (.getfield 47, 3) := by decide +kernel
theorem dX6_lawLine_100 : decode cX6_lawLine 100 = .ok (.invokevirtual 164, 3) := by decide +kernel
theorem dX6_lawLine_103 : decode cX6_lawLine 103 = .ok (.return_, 1) := by decide +kernel
def f_X6_lawLine_83    (h : zHp) : Option (zHp) := (f_X6_expect (24 : Int32) h).bind fun x1 => (if (x1 145 12) = 0 then (f_X1_close 150 x1).bind fun x2 => some x2 else some x1)
set_option maxHeartbeats 4000000 in
set_option maxRecDepth 100000 in
theorem f_X6_lawLine_83_s   (h : zHp) : Sim wX mX6_lawLine 61 rV 83 [(0, .ref 145)] [] h (f_X6_lawLine_83 h) := by
  unfold f_X6_lawLine_83
  refine Sim.aload_n 0 dX6_lawLine_83 rfl ?_
  refine Sim.bipush (v := (24 : Int32)) dX6_lawLine_84 rfl ?_
  refine Sim.callV1U (d1 := 1) (s_X6_expect (24 : Int32) h) dX6_lawLine_86 ml_X6_136 mv_X6_expect xO_X6 (Nat.le_of_ble_eq_true rfl) (Nat.le_of_ble_eq_true rfl) (Nat.le_of_ble_eq_true rfl) (fun x1 => ?_)
  refine Sim.aload_n 0 dX6_lawLine_89 rfl ?_
  refine Sim.getI fl_X6_60 dX6_lawLine_90 xI_145_12 ?_
  refine Sim.if_ne 103 dX6_lawLine_93 rfl ?_ ?_
  · refine Sim.aload_n 0 dX6_lawLine_96 rfl ?_
    refine Sim.getR (j := 150) fl_X6_47 dX6_lawLine_97 xR_145_10 ?_
    refine Sim.callV0U (d1 := 0) (s_X1_close 150 xL_X1_150 x1) dX6_lawLine_100 ml_X6_164 mv_X1_close (xOC_X1 _ xL_X1_150) (Nat.le_of_ble_eq_true rfl) (Nat.le_of_ble_eq_true rfl) (Nat.le_of_ble_eq_true rfl) (fun x2 => ?_)
    exact Sim.vret dX6_lawLine_103 rfl
  · exact Sim.vret dX6_lawLine_103 rfl
def f_X6_lawLine   (h : zHp) : Option (zHp) := (if (2 : Int32) < (h 145 7) then (f_X6_fail (1 : Int32) h).bind fun x1 => some x1 else (if (h 150 7) < (16 : Int32) then (f_X1_begin 150 (h 145 7) h).bind fun x2 => (f_X6_advance x2).bind fun x3 => (f_X6_sumOf x3).bind fun x4 => (f_X1_middle 150 x4).bind fun x5 => (if (x5 145 12) = 0 then (if (x5 145 7) = (12 : Int32) then (f_X6_advance x5).bind fun x6 => (f_X6_condition (0 : Int32) x6).bind fun x7 => f_X6_lawLine_83 x7 else f_X6_lawLine_83 x5) else f_X6_lawLine_83 x5) else (f_X6_fail (3 : Int32) h).bind fun x8 => some x8))
set_option maxHeartbeats 4000000 in
set_option maxRecDepth 100000 in
theorem s_X6_lawLine   (h : zHp) : Fn wX mX6_lawLine 61 rV [.ref 145] h (f_X6_lawLine  h) := by
  refine Fn.of rfl (Nat.le_of_ble_eq_true rfl) ?_
  unfold f_X6_lawLine
  refine Sim.aload_n 0 dX6_lawLine_0 rfl ?_
  refine Sim.getI fl_X6_35 dX6_lawLine_1 xI_145_7 ?_
  refine Sim.iconst (v := (2 : Int32)) dX6_lawLine_4 rfl ?_
  refine Sim.icmp_le 14 dX6_lawLine_5 rfl ?_ ?_
  · refine Sim.aload_n 0 dX6_lawLine_8 rfl ?_
    refine Sim.iconst (v := (1 : Int32)) dX6_lawLine_9 rfl ?_
    refine Sim.callV1U (d1 := 0) (s_X6_fail (1 : Int32) h) dX6_lawLine_10 ml_X6_133 mv_X6_fail xO_X6 (Nat.le_of_ble_eq_true rfl) (Nat.le_of_ble_eq_true rfl) (Nat.le_of_ble_eq_true rfl) (fun x1 => ?_)
    exact Sim.vret dX6_lawLine_13 rfl
  · refine Sim.aload_n 0 dX6_lawLine_14 rfl ?_
    refine Sim.getR (j := 150) fl_X6_47 dX6_lawLine_15 xR_145_10 ?_
    refine Sim.getI fl_X6_87 dX6_lawLine_18 (xI_X1_7 _ xL_X1_150) ?_
    refine Sim.bipush (v := (16 : Int32)) dX6_lawLine_21 rfl ?_
    refine Sim.icmp_lt 32 dX6_lawLine_23 rfl ?_ ?_
    · refine Sim.aload_n 0 dX6_lawLine_32 rfl ?_
      refine Sim.getR (j := 150) fl_X6_47 dX6_lawLine_33 xR_145_10 ?_
      refine Sim.aload_n 0 dX6_lawLine_36 rfl ?_
      refine Sim.getI fl_X6_35 dX6_lawLine_37 xI_145_7 ?_
      refine Sim.callV1U (d1 := 0) (s_X1_begin 150 xL_X1_150 (h 145 7) h) dX6_lawLine_40 ml_X6_152 mv_X1_begin (xOC_X1 _ xL_X1_150) (Nat.le_of_ble_eq_true rfl) (Nat.le_of_ble_eq_true rfl) (Nat.le_of_ble_eq_true rfl) (fun x2 => ?_)
      refine Sim.aload_n 0 dX6_lawLine_43 rfl ?_
      refine Sim.callV0U (d1 := 0) (s_X6_advance x2) dX6_lawLine_44 ml_X6_130 mv_X6_advance xO_X6 (Nat.le_of_ble_eq_true rfl) (Nat.le_of_ble_eq_true rfl) (Nat.le_of_ble_eq_true rfl) (fun x3 => ?_)
      refine Sim.aload_n 0 dX6_lawLine_47 rfl ?_
      refine Sim.callV0U (d1 := 2) (s_X6_sumOf x3) dX6_lawLine_48 ml_X6_155 mv_X6_sumOf xO_X6 (Nat.le_of_ble_eq_true rfl) (Nat.le_of_ble_eq_true rfl) (Nat.le_of_ble_eq_true rfl) (fun x4 => ?_)
      refine Sim.aload_n 0 dX6_lawLine_51 rfl ?_
      refine Sim.getR (j := 150) fl_X6_47 dX6_lawLine_52 xR_145_10 ?_
      refine Sim.callV0U (d1 := 0) (s_X1_middle 150 xL_X1_150 x4) dX6_lawLine_55 ml_X6_158 mv_X1_middle (xOC_X1 _ xL_X1_150) (Nat.le_of_ble_eq_true rfl) (Nat.le_of_ble_eq_true rfl) (Nat.le_of_ble_eq_true rfl) (fun x5 => ?_)
      refine Sim.aload_n 0 dX6_lawLine_58 rfl ?_
      refine Sim.getI fl_X6_60 dX6_lawLine_59 xI_145_12 ?_
      refine Sim.if_ne 83 dX6_lawLine_62 rfl ?_ ?_
      · refine Sim.aload_n 0 dX6_lawLine_65 rfl ?_
        refine Sim.getI fl_X6_35 dX6_lawLine_66 xI_145_7 ?_
        refine Sim.bipush (v := (12 : Int32)) dX6_lawLine_69 rfl ?_
        refine Sim.icmp_ne 83 dX6_lawLine_71 rfl ?_ ?_
        · refine Sim.aload_n 0 dX6_lawLine_74 rfl ?_
          refine Sim.callV0U (d1 := 0) (s_X6_advance x5) dX6_lawLine_75 ml_X6_130 mv_X6_advance xO_X6 (Nat.le_of_ble_eq_true rfl) (Nat.le_of_ble_eq_true rfl) (Nat.le_of_ble_eq_true rfl) (fun x6 => ?_)
          refine Sim.aload_n 0 dX6_lawLine_78 rfl ?_
          refine Sim.iconst (v := (0 : Int32)) dX6_lawLine_79 rfl ?_
          refine Sim.callV1U (d1 := 60) (s_X6_condition (0 : Int32) x6) dX6_lawLine_80 ml_X6_161 mv_X6_condition xO_X6 (Nat.le_of_ble_eq_true rfl) (Nat.le_of_ble_eq_true rfl) (Nat.le_of_ble_eq_true rfl) (fun x7 => ?_)
          exact f_X6_lawLine_83_s x7
        · exact f_X6_lawLine_83_s x5
      · exact f_X6_lawLine_83_s x5
    · refine Sim.aload_n 0 dX6_lawLine_26 rfl ?_
      refine Sim.iconst (v := (3 : Int32)) dX6_lawLine_27 rfl ?_
      refine Sim.callV1U (d1 := 0) (s_X6_fail (3 : Int32) h) dX6_lawLine_28 ml_X6_133 mv_X6_fail xO_X6 (Nat.le_of_ble_eq_true rfl) (Nat.le_of_ble_eq_true rfl) (Nat.le_of_ble_eq_true rfl) (fun x8 => ?_)
      exact Sim.vret dX6_lawLine_31 rfl
theorem mv_X6_lawLine : zMV mX6_lawLine 0 := ⟨⟨zTb_in 904 (by decide +kernel) rfl, zTb_in 145 (by decide +kernel) rfl, ⟨by decide +kernel, by decide +kernel⟩, by decide +kernel⟩, zTb_in 903 (by decide +kernel) rfl, zTb_in 16 (by decide +kernel) rfl⟩
-- ===== RockingPorch$Reader.expectLine(I)V
abbrev mX6_expectLine : zMt := (yX6_expectLine, cX6_expectLine, 2, none)
theorem fl_X6_56 : zF RX6 56 6 11 := ⟨RX6, TX6, 14, rfl, Nat.le_of_ble_eq_true rfl, zTb_in 442 (by decide +kernel) rfl, in_X6⟩
theorem fl_X6_69 : zF RX6 69 2 2 := ⟨RX2, TX2, 3, rfl, Nat.le_of_ble_eq_true rfl, zTb_in 260 (by decide +kernel) rfl, in_X2⟩
theorem dX6_expectLine_0 : decode cX6_expectLine 0 = .ok (.aload_n 0, 1) := by decide +kernel
theorem dX6_expectLine_1 : decode cX6_expectLine 1 = .ok (.getfield 35, 3) := by decide +kernel
theorem dX6_expectLine_4 : decode cX6_expectLine 4 = .ok (.iload_n 1, 1) := by decide +kernel
theorem dX6_expectLine_5 : decode cX6_expectLine 5 = .ok (.if_icmp .ne 20, 3) := by decide +kernel
theorem dX6_expectLine_8 : decode cX6_expectLine 8 = .ok (.aload_n 0, 1) := by decide +kernel
theorem dX6_expectLine_9 : decode cX6_expectLine 9 = .ok (.getfield 56, 3) := by decide +kernel
theorem dX6_expectLine_12 : decode cX6_expectLine 12 = .ok (.getfield 69, 3) := by decide +kernel
theorem dX6_expectLine_15 : decode cX6_expectLine 15 = .ok (.bipush 16, 2) := by decide +kernel
theorem dX6_expectLine_17 : decode cX6_expectLine 17 = .ok (.if_icmp .lt 8, 3) := by decide +kernel
theorem dX6_expectLine_20 : decode cX6_expectLine 20 = .ok (.aload_n 0, 1) := by decide +kernel
theorem dX6_expectLine_21 : decode cX6_expectLine 21 = .ok (.iconst 3, 1) := by decide +kernel
theorem dX6_expectLine_22 : decode cX6_expectLine 22 = .ok (.invokevirtual 133, 3) := by decide +kernel
theorem dX6_expectLine_25 : decode cX6_expectLine 25 = .ok (.aload_n 0, 1) := by decide +kernel
theorem dX6_expectLine_26 : decode cX6_expectLine 26 = .ok (.iload_n 1, 1) := by decide +kernel
theorem dX6_expectLine_27 : decode cX6_expectLine 27 = .ok (.invokevirtual 136, 3) := by decide +kernel
theorem dX6_expectLine_30 : decode cX6_expectLine 30 = .ok (.return_, 1) := by decide +kernel
def f_X6_expectLine  (a1 : Int32) (h : zHp) : Option (zHp) := (if (h 145 7) = a1 then (if (h 157 2) < (16 : Int32) then (f_X6_expect a1 h).bind fun x1 => some x1 else (f_X6_fail (3 : Int32) h).bind fun x2 => (f_X6_expect a1 x2).bind fun x3 => some x3) else (f_X6_expect a1 h).bind fun x4 => some x4)
set_option maxHeartbeats 4000000 in
set_option maxRecDepth 100000 in
theorem s_X6_expectLine  (a1 : Int32) (h : zHp) : Fn wX mX6_expectLine 2 rV [.ref 145, .int a1] h (f_X6_expectLine a1 h) := by
  refine Fn.of rfl (Nat.le_of_ble_eq_true rfl) ?_
  unfold f_X6_expectLine
  refine Sim.aload_n 0 dX6_expectLine_0 rfl ?_
  refine Sim.getI fl_X6_35 dX6_expectLine_1 xI_145_7 ?_
  refine Sim.iload_n 1 dX6_expectLine_4 rfl ?_
  refine Sim.icmp_ne 25 dX6_expectLine_5 rfl ?_ ?_
  · refine Sim.aload_n 0 dX6_expectLine_8 rfl ?_
    refine Sim.getR (j := 157) fl_X6_56 dX6_expectLine_9 xR_145_11 ?_
    refine Sim.getI fl_X6_69 dX6_expectLine_12 (xI_X2_2 _ xL_X2_157) ?_
    refine Sim.bipush (v := (16 : Int32)) dX6_expectLine_15 rfl ?_
    refine Sim.icmp_lt 25 dX6_expectLine_17 rfl ?_ ?_
    · refine Sim.aload_n 0 dX6_expectLine_25 rfl ?_
      refine Sim.iload_n 1 dX6_expectLine_26 rfl ?_
      refine Sim.callV1U (d1 := 1) (s_X6_expect a1 h) dX6_expectLine_27 ml_X6_136 mv_X6_expect xO_X6 (Nat.le_of_ble_eq_true rfl) (Nat.le_of_ble_eq_true rfl) (Nat.le_of_ble_eq_true rfl) (fun x1 => ?_)
      exact Sim.vret dX6_expectLine_30 rfl
    · refine Sim.aload_n 0 dX6_expectLine_20 rfl ?_
      refine Sim.iconst (v := (3 : Int32)) dX6_expectLine_21 rfl ?_
      refine Sim.callV1U (d1 := 0) (s_X6_fail (3 : Int32) h) dX6_expectLine_22 ml_X6_133 mv_X6_fail xO_X6 (Nat.le_of_ble_eq_true rfl) (Nat.le_of_ble_eq_true rfl) (Nat.le_of_ble_eq_true rfl) (fun x2 => ?_)
      refine Sim.aload_n 0 dX6_expectLine_25 rfl ?_
      refine Sim.iload_n 1 dX6_expectLine_26 rfl ?_
      refine Sim.callV1U (d1 := 1) (s_X6_expect a1 x2) dX6_expectLine_27 ml_X6_136 mv_X6_expect xO_X6 (Nat.le_of_ble_eq_true rfl) (Nat.le_of_ble_eq_true rfl) (Nat.le_of_ble_eq_true rfl) (fun x3 => ?_)
      exact Sim.vret dX6_expectLine_30 rfl
  · refine Sim.aload_n 0 dX6_expectLine_25 rfl ?_
    refine Sim.iload_n 1 dX6_expectLine_26 rfl ?_
    refine Sim.callV1U (d1 := 1) (s_X6_expect a1 h) dX6_expectLine_27 ml_X6_136 mv_X6_expect xO_X6 (Nat.le_of_ble_eq_true rfl) (Nat.le_of_ble_eq_true rfl) (Nat.le_of_ble_eq_true rfl) (fun x4 => ?_)
    exact Sim.vret dX6_expectLine_30 rfl
theorem mv_X6_expectLine : zMV mX6_expectLine 1 := ⟨⟨zTb_in 960 (by decide +kernel) rfl, zTb_in 145 (by decide +kernel) rfl, ⟨by decide +kernel, by decide +kernel⟩, by decide +kernel⟩, zTb_in 959 (by decide +kernel) rfl, zTb_in 26 (by decide +kernel) rfl⟩
-- ===== RockingPorch$Reader.closeLine(IIII)V
abbrev mX6_closeLine : zMt := (yX6_closeLine, cX6_closeLine, 5, none)
theorem ml_X6_139 : Cond.methodLink RX6 139 yX2_add ∈ zTb := zTb_in 965 (by decide +kernel) rfl
theorem dX6_closeLine_0 : decode cX6_closeLine 0 = .ok (.aload_n 0, 1) := by decide +kernel
theorem dX6_closeLine_1 : decode cX6_closeLine 1 = .ok (.bipush 24, 2) := by decide +kernel
theorem dX6_closeLine_3 : decode cX6_closeLine 3 = .ok (.invokevirtual 136, 3) := by decide +kernel
theorem dX6_closeLine_6 : decode cX6_closeLine 6 = .ok (.aload_n 0, 1) := by decide +kernel
theorem dX6_closeLine_7 : decode cX6_closeLine 7 = .ok (.getfield 60, 3) := by decide +kernel
theorem dX6_closeLine_10 : decode cX6_closeLine 10 = .ok (.ifCond .ne 15, 3) := by decide +kernel
theorem dX6_closeLine_13 : decode cX6_closeLine 13 = .ok (.aload_n 0, 1) := by decide +kernel
theorem dX6_closeLine_14 : decode cX6_closeLine 14 = .ok (.getfield 56, 3) := by decide +kernel
theorem dX6_closeLine_17 : decode cX6_closeLine 17 = .ok (.iload_n 1, 1) := by decide +kernel
theorem dX6_closeLine_18 : decode cX6_closeLine 18 = .ok (.iload_n 2, 1) := by decide +kernel
theorem dX6_closeLine_19 : decode cX6_closeLine 19 = .ok (.iload_n 3, 1) := by decide +kernel
theorem dX6_closeLine_20 : decode cX6_closeLine 20 = .ok (.iload 4, 2) := by decide +kernel
theorem dX6_closeLine_22 : decode cX6_closeLine 22 = .ok (.invokevirtual 139, 3) := by decide +kernel
theorem dX6_closeLine_25 : decode cX6_closeLine 25 = .ok (.return_, 1) := by decide +kernel
def f_X6_closeLine  (a1 : Int32) (a2 : Int32) (a3 : Int32) (a4 : Int32) (h : zHp) : Option (zHp) := (f_X6_expect (24 : Int32) h).bind fun x1 => (if (x1 145 12) = 0 then (f_X2_add 157 a1 a2 a3 a4 x1).bind fun x2 => some x2 else some x1)
set_option maxHeartbeats 4000000 in
set_option maxRecDepth 100000 in
theorem s_X6_closeLine  (a1 : Int32) (a2 : Int32) (a3 : Int32) (a4 : Int32) (h : zHp) : Fn wX mX6_closeLine 2 rV [.ref 145, .int a1, .int a2, .int a3, .int a4] h (f_X6_closeLine a1 a2 a3 a4 h) := by
  refine Fn.of rfl (Nat.le_of_ble_eq_true rfl) ?_
  unfold f_X6_closeLine
  refine Sim.aload_n 0 dX6_closeLine_0 rfl ?_
  refine Sim.bipush (v := (24 : Int32)) dX6_closeLine_1 rfl ?_
  refine Sim.callV1U (d1 := 1) (s_X6_expect (24 : Int32) h) dX6_closeLine_3 ml_X6_136 mv_X6_expect xO_X6 (Nat.le_of_ble_eq_true rfl) (Nat.le_of_ble_eq_true rfl) (Nat.le_of_ble_eq_true rfl) (fun x1 => ?_)
  refine Sim.aload_n 0 dX6_closeLine_6 rfl ?_
  refine Sim.getI fl_X6_60 dX6_closeLine_7 xI_145_12 ?_
  refine Sim.if_ne 25 dX6_closeLine_10 rfl ?_ ?_
  · refine Sim.aload_n 0 dX6_closeLine_13 rfl ?_
    refine Sim.getR (j := 157) fl_X6_56 dX6_closeLine_14 xR_145_11 ?_
    refine Sim.iload_n 1 dX6_closeLine_17 rfl ?_
    refine Sim.iload_n 2 dX6_closeLine_18 rfl ?_
    refine Sim.iload_n 3 dX6_closeLine_19 rfl ?_
    refine Sim.iload 4 dX6_closeLine_20 rfl ?_
    refine Sim.callV4U (d1 := 0) (s_X2_add 157 xL_X2_157 a1 a2 a3 a4 x1) dX6_closeLine_22 ml_X6_139 mv_X2_add (xOC_X2 _ xL_X2_157) (Nat.le_of_ble_eq_true rfl) (Nat.le_of_ble_eq_true rfl) (Nat.le_of_ble_eq_true rfl) (fun x2 => ?_)
    exact Sim.vret dX6_closeLine_25 rfl
  · exact Sim.vret dX6_closeLine_25 rfl
theorem mv_X6_closeLine : zMV mX6_closeLine 4 := ⟨⟨zTb_in 964 (by decide +kernel) rfl, zTb_in 145 (by decide +kernel) rfl, ⟨by decide +kernel, by decide +kernel⟩, by decide +kernel⟩, zTb_in 963 (by decide +kernel) rfl, zTb_in 27 (by decide +kernel) rfl⟩
-- ===== RockingPorch$Reader.callsLine()V
abbrev mX6_callsLine : zMt := (yX6_callsLine, cX6_callsLine, 5, none)
theorem fl_X6_38 : zF RX6 38 6 8 := ⟨RX6, TX6, 14, rfl, Nat.le_of_ble_eq_true rfl, zTb_in 438 (by decide +kernel) rfl, in_X6⟩
theorem fl_X6_41 : zF RX6 41 6 9 := ⟨RX6, TX6, 14, rfl, Nat.le_of_ble_eq_true rfl, zTb_in 439 (by decide +kernel) rfl, in_X6⟩
theorem ml_X6_143 : Cond.methodLink RX6 143 yX6_expectLine ∈ zTb := zTb_in 957 (by decide +kernel) rfl
theorem ml_X6_149 : Cond.methodLink RX6 149 yX6_closeLine ∈ zTb := zTb_in 961 (by decide +kernel) rfl
theorem dX6_callsLine_0 : decode cX6_callsLine 0 = .ok (.aload_n 0, 1) := by decide +kernel
theorem dX6_callsLine_1 : decode cX6_callsLine 1 = .ok (.bipush 16, 2) := by decide +kernel
theorem dX6_callsLine_3 : decode cX6_callsLine 3 = .ok (.invokevirtual 143, 3) := by decide +kernel
theorem dX6_callsLine_6 : decode cX6_callsLine 6 = .ok (.aload_n 0, 1) := by decide +kernel
theorem dX6_callsLine_7 : decode cX6_callsLine 7 = .ok (.sipush 999, 3) := by decide +kernel
theorem dX6_callsLine_10 : decode cX6_callsLine 10 = .ok (.iconst (-1), 1) := by decide +kernel
theorem dX6_callsLine_11 : decode cX6_callsLine 11 = .ok (.invokevirtual 146, 3) := by decide +kernel
theorem dX6_callsLine_14 : decode cX6_callsLine 14 = .ok (.istore_n 1, 1) := by decide +kernel
theorem dX6_callsLine_15 : decode cX6_callsLine 15 = .ok (.aload_n 0, 1) := by decide +kernel
theorem dX6_callsLine_16 : decode cX6_callsLine 16 = .ok (.bipush 17, 2) := by decide +kernel
theorem dX6_callsLine_18 : decode cX6_callsLine 18 = .ok (.invokevirtual 136, 3) := by decide +kernel
theorem dX6_callsLine_21 : decode cX6_callsLine 21 = .ok (.aload_n 0, 1) := by decide +kernel
theorem dX6_callsLine_22 : decode cX6_callsLine 22 = .ok (.aload_n 0, 1) := by decide +kernel
theorem dX6_callsLine_23 : decode cX6_callsLine 23 = .ok (.getfield 41, 3) := by decide +kernel
theorem dX6_callsLine_26 : decode cX6_callsLine 26 = .ok (.iconst 1, 1) := by decide +kernel
theorem dX6_callsLine_27 : decode cX6_callsLine 27 = .ok (.isub, 1) := by decide +kernel
theorem dX6_callsLine_28 : decode cX6_callsLine 28 = .ok (.iconst (-1), 1) := by decide +kernel
theorem dX6_callsLine_29 : decode cX6_callsLine 29 = .ok (.invokevirtual 146, 3) := by decide +kernel
theorem dX6_callsLine_32 : decode cX6_callsLine 32 = .ok (.istore_n 2, 1) := by decide +kernel
theorem dX6_callsLine_33 : decode cX6_callsLine 33 = .ok (.aload_n 0, 1) := by decide +kernel
theorem dX6_callsLine_34 : decode cX6_callsLine 34 = .ok (.getfield 35, 3) := by decide +kernel
theorem dX6_callsLine_37 : decode cX6_callsLine 37 = .ok (.istore_n 3, 1) := by decide +kernel
theorem dX6_callsLine_38 : decode cX6_callsLine 38 = .ok (.aload_n 0, 1) := by decide +kernel
theorem dX6_callsLine_39 : decode cX6_callsLine 39 = .ok (.iload_n 3, 1) := by decide +kernel
theorem dX6_callsLine_40 : decode cX6_callsLine 40 = .ok (.bipush 18, 2) := by decide +kernel
theorem dX6_callsLine_42 : decode cX6_callsLine 42 = .ok (.if_icmp .lt 13, 3) := by decide +kernel
theorem dX6_callsLine_45 : decode cX6_callsLine 45 = .ok (.iload_n 3, 1) := by decide +kernel
theorem dX6_callsLine_46 : decode cX6_callsLine 46 = .ok (.bipush 21, 2) := by decide +kernel
theorem dX6_callsLine_48 : decode cX6_callsLine 48 = .ok (.if_icmp .gt 7, 3) := by decide +kernel
theorem dX6_callsLine_51 : decode cX6_callsLine 51 = .ok (.iload_n 3, 1) := by decide +kernel
theorem dX6_callsLine_52 : decode cX6_callsLine 52 = .ok (.goto 5, 3) := by decide +kernel
theorem dX6_callsLine_55 : decode cX6_callsLine 55 = .ok (.bipush 18, 2) := by decide +kernel
theorem dX6_callsLine_57 : decode cX6_callsLine 57 = .ok (.invokevirtual 136, 3) := by decide +kernel
theorem dX6_callsLine_60 : decode cX6_callsLine 60 = .ok (.iload_n 3, 1) := by decide +kernel
theorem dX6_callsLine_61 : decode cX6_callsLine 61 = .ok (.bipush 18, 2) := by decide +kernel
theorem dX6_callsLine_63 : decode cX6_callsLine 63 = .ok (.if_icmp .ne 17, 3) := by decide +kernel
theorem dX6_callsLine_66 : decode cX6_callsLine 66 = .ok (.aload_n 0, 1) := by decide +kernel
theorem dX6_callsLine_67 : decode cX6_callsLine 67 = .ok (.aload_n 0, 1) := by decide +kernel
theorem dX6_callsLine_68 : decode cX6_callsLine 68 = .ok (.getfield 38, 3) := by decide +kernel
theorem dX6_callsLine_71 : decode cX6_callsLine 71 = .ok (.iconst 1, 1) := by decide +kernel
theorem dX6_callsLine_72 : decode cX6_callsLine 72 = .ok (.isub, 1) := by decide +kernel
theorem dX6_callsLine_73 : decode cX6_callsLine 73 = .ok (.iconst (-1), 1) := by decide +kernel
theorem dX6_callsLine_74 : decode cX6_callsLine 74 = .ok (.invokevirtual 146, 3) := by decide +kernel
theorem dX6_callsLine_77 : decode cX6_callsLine 77 = .ok (.goto 4, 3) := by decide +kernel
theorem dX6_callsLine_80 : decode cX6_callsLine 80 = .ok (.iconst (-1), 1) := by decide +kernel
theorem dX6_callsLine_81 : decode cX6_callsLine 81 = .ok (.istore 4, 2) := by decide +kernel
theorem dX6_callsLine_83 : decode cX6_callsLine 83 = .ok (.aload_n 0, 1) := by decide +kernel
theorem dX6_callsLine_84 : decode cX6_callsLine 84 = .ok (.iload_n 1, 1) := by decide +kernel
theorem dX6_callsLine_85 : decode cX6_callsLine 85 = .ok (.iload_n 3, 1) := by decide +kernel
theorem dX6_callsLine_86 : decode cX6_callsLine 86 = .ok (.iload_n 2, 1) := by decide +kernel
theorem dX6_callsLine_87 : decode cX6_callsLine 87 = .ok (.iload 4, 2) := by decide +kernel
theorem dX6_callsLine_89 : decode cX6_callsLine 89 = .ok (.invokevirtual 149, 3) := by decide +kernel
theorem dX6_callsLine_92 : decode cX6_callsLine 92 = .ok (.return_, 1) := by decide +kernel
def f_X6_callsLine_81   (v1 : Int32) (v2 : Int32) (v3 : Int32) (s0 : Int32) (h : zHp) : Option (zHp) := (f_X6_closeLine v1 v3 v2 s0 h).bind fun x1 => some x1
set_option maxHeartbeats 4000000 in
set_option maxRecDepth 100000 in
theorem f_X6_callsLine_81_s  (v1 : Int32) (v2 : Int32) (v3 : Int32) (s0 : Int32) (h : zHp) : Sim wX mX6_callsLine 3 rV 81 [(0, .ref 145), (1, .int v1), (2, .int v2), (3, .int v3)] [.int s0] h (f_X6_callsLine_81 v1 v2 v3 s0 h) := by
  unfold f_X6_callsLine_81
  refine Sim.istore (L' := [(4, .int s0), (0, .ref 145), (1, .int v1), (2, .int v2), (3, .int v3)]) dX6_callsLine_81 (Nat.le_of_ble_eq_true rfl) rfl ?_
  refine Sim.aload_n 1 dX6_callsLine_83 rfl ?_
  refine Sim.iload_n 2 dX6_callsLine_84 rfl ?_
  refine Sim.iload_n 4 dX6_callsLine_85 rfl ?_
  refine Sim.iload_n 3 dX6_callsLine_86 rfl ?_
  refine Sim.iload 0 dX6_callsLine_87 rfl ?_
  refine Sim.callV4U (d1 := 2) (s_X6_closeLine v1 v3 v2 s0 h) dX6_callsLine_89 ml_X6_149 mv_X6_closeLine xO_X6 (Nat.le_of_ble_eq_true rfl) (Nat.le_of_ble_eq_true rfl) (Nat.le_of_ble_eq_true rfl) (fun x1 => ?_)
  exact Sim.vret dX6_callsLine_92 rfl
def f_X6_callsLine_57   (v1 : Int32) (v2 : Int32) (v3 : Int32) (s0 : Int32) (h : zHp) : Option (zHp) := (f_X6_expect s0 h).bind fun x1 => (if v3 = (18 : Int32) then (f_X6_expectNumber ((x1 145 8) - (1 : Int32)) (-1 : Int32) x1).bind fun x2 => f_X6_callsLine_81 v1 v2 v3 x2.1 x2.2 else f_X6_callsLine_81 v1 v2 v3 (-1 : Int32) x1)
set_option maxHeartbeats 4000000 in
set_option maxRecDepth 100000 in
theorem f_X6_callsLine_57_s  (v1 : Int32) (v2 : Int32) (v3 : Int32) (s0 : Int32) (h : zHp) : Sim wX mX6_callsLine 3 rV 57 [(0, .ref 145), (1, .int v1), (2, .int v2), (3, .int v3)] [.int s0, .ref 145] h (f_X6_callsLine_57 v1 v2 v3 s0 h) := by
  unfold f_X6_callsLine_57
  refine Sim.callV1U (d1 := 1) (s_X6_expect s0 h) dX6_callsLine_57 ml_X6_136 mv_X6_expect xO_X6 (Nat.le_of_ble_eq_true rfl) (Nat.le_of_ble_eq_true rfl) (Nat.le_of_ble_eq_true rfl) (fun x1 => ?_)
  refine Sim.iload_n 3 dX6_callsLine_60 rfl ?_
  refine Sim.bipush (v := (18 : Int32)) dX6_callsLine_61 rfl ?_
  refine Sim.icmp_ne 80 dX6_callsLine_63 rfl ?_ ?_
  · refine Sim.aload_n 0 dX6_callsLine_66 rfl ?_
    refine Sim.aload_n 0 dX6_callsLine_67 rfl ?_
    refine Sim.getI fl_X6_38 dX6_callsLine_68 xI_145_8 ?_
    refine Sim.iconst (v := (1 : Int32)) dX6_callsLine_71 rfl ?_
    refine Sim.isub dX6_callsLine_72 ?_
    refine Sim.iconst (v := (-1 : Int32)) dX6_callsLine_73 rfl ?_
    refine Sim.callV2I (d1 := 1) (s_X6_expectNumber ((x1 145 8) - (1 : Int32)) (-1 : Int32) x1) dX6_callsLine_74 ml_X6_146 mv_X6_expectNumber xO_X6 (Nat.le_of_ble_eq_true rfl) (Nat.le_of_ble_eq_true rfl) (Nat.le_of_ble_eq_true rfl) (fun x2 => ?_)
    refine Sim.goto 81 dX6_callsLine_77 rfl ?_
    exact f_X6_callsLine_81_s v1 v2 v3 x2.1 x2.2
  · refine Sim.iconst (v := (-1 : Int32)) dX6_callsLine_80 rfl ?_
    exact f_X6_callsLine_81_s v1 v2 v3 (-1 : Int32) x1
def f_X6_callsLine   (h : zHp) : Option (zHp) := (f_X6_expectLine (16 : Int32) h).bind fun x1 => (f_X6_expectNumber (999 : Int32) (-1 : Int32) x1).bind fun x2 => (f_X6_expect (17 : Int32) x2.2).bind fun x3 => (f_X6_expectNumber ((x3 145 9) - (1 : Int32)) (-1 : Int32) x3).bind fun x4 => zlt (x4.2 145 7) fun x5 => (if x5 < (18 : Int32) then f_X6_callsLine_57 x2.1 x4.1 x5 (18 : Int32) x4.2 else (if (21 : Int32) < x5 then f_X6_callsLine_57 x2.1 x4.1 x5 (18 : Int32) x4.2 else f_X6_callsLine_57 x2.1 x4.1 x5 x5 x4.2))
set_option maxHeartbeats 4000000 in
set_option maxRecDepth 100000 in
theorem s_X6_callsLine   (h : zHp) : Fn wX mX6_callsLine 3 rV [.ref 145] h (f_X6_callsLine  h) := by
  refine Fn.of rfl (Nat.le_of_ble_eq_true rfl) ?_
  unfold f_X6_callsLine
  refine Sim.aload_n 0 dX6_callsLine_0 rfl ?_
  refine Sim.bipush (v := (16 : Int32)) dX6_callsLine_1 rfl ?_
  refine Sim.callV1U (d1 := 2) (s_X6_expectLine (16 : Int32) h) dX6_callsLine_3 ml_X6_143 mv_X6_expectLine xO_X6 (Nat.le_of_ble_eq_true rfl) (Nat.le_of_ble_eq_true rfl) (Nat.le_of_ble_eq_true rfl) (fun x1 => ?_)
  refine Sim.aload_n 0 dX6_callsLine_6 rfl ?_
  refine Sim.sipush (v := (999 : Int32)) dX6_callsLine_7 rfl ?_
  refine Sim.iconst (v := (-1 : Int32)) dX6_callsLine_10 rfl ?_
  refine Sim.callV2I (d1 := 1) (s_X6_expectNumber (999 : Int32) (-1 : Int32) x1) dX6_callsLine_11 ml_X6_146 mv_X6_expectNumber xO_X6 (Nat.le_of_ble_eq_true rfl) (Nat.le_of_ble_eq_true rfl) (Nat.le_of_ble_eq_true rfl) (fun x2 => ?_)
  refine Sim.istore_n (L' := [(1, .int x2.1), (0, .ref 145)]) dX6_callsLine_14 (Nat.le_of_ble_eq_true rfl) rfl ?_
  refine Sim.aload_n 1 dX6_callsLine_15 rfl ?_
  refine Sim.bipush (v := (17 : Int32)) dX6_callsLine_16 rfl ?_
  refine Sim.callV1U (d1 := 1) (s_X6_expect (17 : Int32) x2.2) dX6_callsLine_18 ml_X6_136 mv_X6_expect xO_X6 (Nat.le_of_ble_eq_true rfl) (Nat.le_of_ble_eq_true rfl) (Nat.le_of_ble_eq_true rfl) (fun x3 => ?_)
  refine Sim.aload_n 1 dX6_callsLine_21 rfl ?_
  refine Sim.aload_n 1 dX6_callsLine_22 rfl ?_
  refine Sim.getI fl_X6_41 dX6_callsLine_23 xI_145_9 ?_
  refine Sim.iconst (v := (1 : Int32)) dX6_callsLine_26 rfl ?_
  refine Sim.isub dX6_callsLine_27 ?_
  refine Sim.iconst (v := (-1 : Int32)) dX6_callsLine_28 rfl ?_
  refine Sim.callV2I (d1 := 1) (s_X6_expectNumber ((x3 145 9) - (1 : Int32)) (-1 : Int32) x3) dX6_callsLine_29 ml_X6_146 mv_X6_expectNumber xO_X6 (Nat.le_of_ble_eq_true rfl) (Nat.le_of_ble_eq_true rfl) (Nat.le_of_ble_eq_true rfl) (fun x4 => ?_)
  refine Sim.istore_n (L' := [(2, .int x4.1), (1, .int x2.1), (0, .ref 145)]) dX6_callsLine_32 (Nat.le_of_ble_eq_true rfl) rfl ?_
  refine Sim.aload_n 2 dX6_callsLine_33 rfl ?_
  refine Sim.getI fl_X6_35 dX6_callsLine_34 xI_145_7 ?_
  refine Sim.lti (fun x5 => ?_)
  refine Sim.istore_n (L' := [(3, .int x5), (2, .int x4.1), (1, .int x2.1), (0, .ref 145)]) dX6_callsLine_37 (Nat.le_of_ble_eq_true rfl) rfl ?_
  refine Sim.aload_n 3 dX6_callsLine_38 rfl ?_
  refine Sim.iload_n 0 dX6_callsLine_39 rfl ?_
  refine Sim.bipush (v := (18 : Int32)) dX6_callsLine_40 rfl ?_
  refine Sim.icmp_lt 55 dX6_callsLine_42 rfl ?_ ?_
  · refine Sim.bipush (v := (18 : Int32)) dX6_callsLine_55 rfl ?_
    refine Sim.locs [3, 2, 1, 0] rfl ?_
    exact f_X6_callsLine_57_s x2.1 x4.1 x5 (18 : Int32) x4.2
  · refine Sim.iload_n 0 dX6_callsLine_45 rfl ?_
    refine Sim.bipush (v := (21 : Int32)) dX6_callsLine_46 rfl ?_
    refine Sim.icmp_gt 55 dX6_callsLine_48 rfl ?_ ?_
    · refine Sim.bipush (v := (18 : Int32)) dX6_callsLine_55 rfl ?_
      refine Sim.locs [3, 2, 1, 0] rfl ?_
      exact f_X6_callsLine_57_s x2.1 x4.1 x5 (18 : Int32) x4.2
    · refine Sim.iload_n 0 dX6_callsLine_51 rfl ?_
      refine Sim.goto 57 dX6_callsLine_52 rfl ?_
      refine Sim.locs [3, 2, 1, 0] rfl ?_
      exact f_X6_callsLine_57_s x2.1 x4.1 x5 x5 x4.2
theorem mv_X6_callsLine : zMV mX6_callsLine 0 := ⟨⟨zTb_in 956 (by decide +kernel) rfl, zTb_in 145 (by decide +kernel) rfl, ⟨by decide +kernel, by decide +kernel⟩, by decide +kernel⟩, zTb_in 955 (by decide +kernel) rfl, zTb_in 25 (by decide +kernel) rfl⟩
-- ===== RockingPorch$Reader.houseLine()V
abbrev mX6_houseLine : zMt := (yX6_houseLine, cX6_houseLine, 5, none)
theorem dX6_houseLine_0 : decode cX6_houseLine 0 = .ok (.aload_n 0, 1) := by decide +kernel
theorem dX6_houseLine_1 : decode cX6_houseLine 1 = .ok (.bipush 16, 2) := by decide +kernel
theorem dX6_houseLine_3 : decode cX6_houseLine 3 = .ok (.invokevirtual 143, 3) := by decide +kernel
theorem dX6_houseLine_6 : decode cX6_houseLine 6 = .ok (.aload_n 0, 1) := by decide +kernel
theorem dX6_houseLine_7 : decode cX6_houseLine 7 = .ok (.sipush 999, 3) := by decide +kernel
theorem dX6_houseLine_10 : decode cX6_houseLine 10 = .ok (.iconst (-1), 1) := by decide +kernel
theorem dX6_houseLine_11 : decode cX6_houseLine 11 = .ok (.invokevirtual 146, 3) := by decide +kernel
theorem dX6_houseLine_14 : decode cX6_houseLine 14 = .ok (.istore_n 1, 1) := by decide +kernel
theorem dX6_houseLine_15 : decode cX6_houseLine 15 = .ok (.aload_n 0, 1) := by decide +kernel
theorem dX6_houseLine_16 : decode cX6_houseLine 16 = .ok (.getfield 35, 3) := by decide +kernel
theorem dX6_houseLine_19 : decode cX6_houseLine 19 = .ok (.istore_n 2, 1) := by decide +kernel
theorem dX6_houseLine_20 : decode cX6_houseLine 20 = .ok (.aload_n 0, 1) := by decide +kernel
theorem dX6_houseLine_21 : decode cX6_houseLine 21 = .ok (.iload_n 2, 1) := by decide +kernel
theorem dX6_houseLine_22 : decode cX6_houseLine 22 = .ok (.bipush 9, 2) := by decide +kernel
theorem dX6_houseLine_24 : decode cX6_houseLine 24 = .ok (.if_icmp .eq 9, 3) := by decide +kernel
theorem dX6_houseLine_27 : decode cX6_houseLine 27 = .ok (.iload_n 2, 1) := by decide +kernel
theorem dX6_houseLine_28 : decode cX6_houseLine 28 = .ok (.bipush 23, 2) := by decide +kernel
theorem dX6_houseLine_30 : decode cX6_houseLine 30 = .ok (.if_icmp .ne 7, 3) := by decide +kernel
theorem dX6_houseLine_33 : decode cX6_houseLine 33 = .ok (.iload_n 2, 1) := by decide +kernel
theorem dX6_houseLine_34 : decode cX6_houseLine 34 = .ok (.goto 5, 3) := by decide +kernel
theorem dX6_houseLine_37 : decode cX6_houseLine 37 = .ok (.bipush 22, 2) := by decide +kernel
theorem dX6_houseLine_39 : decode cX6_houseLine 39 = .ok (.invokevirtual 136, 3) := by decide +kernel
theorem dX6_houseLine_42 : decode cX6_houseLine 42 = .ok (.iload_n 2, 1) := by decide +kernel
theorem dX6_houseLine_43 : decode cX6_houseLine 43 = .ok (.bipush 22, 2) := by decide +kernel
theorem dX6_houseLine_45 : decode cX6_houseLine 45 = .ok (.if_icmp .ne 17, 3) := by decide +kernel
theorem dX6_houseLine_48 : decode cX6_houseLine 48 = .ok (.aload_n 0, 1) := by decide +kernel
theorem dX6_houseLine_49 : decode cX6_houseLine 49 = .ok (.aload_n 0, 1) := by decide +kernel
theorem dX6_houseLine_50 : decode cX6_houseLine 50 = .ok (.getfield 38, 3) := by decide +kernel
theorem dX6_houseLine_53 : decode cX6_houseLine 53 = .ok (.iconst 1, 1) := by decide +kernel
theorem dX6_houseLine_54 : decode cX6_houseLine 54 = .ok (.isub, 1) := by decide +kernel
theorem dX6_houseLine_55 : decode cX6_houseLine 55 = .ok (.iconst (-1), 1) := by decide +kernel
theorem dX6_houseLine_56 : decode cX6_houseLine 56 = .ok (.invokevirtual 146, 3) := by decide +kernel
theorem dX6_houseLine_59 : decode cX6_houseLine 59 = .ok (.goto 4, 3) := by decide +kernel
theorem dX6_houseLine_62 : decode cX6_houseLine 62 = .ok (.iconst (-1), 1) := by decide +kernel
theorem dX6_houseLine_63 : decode cX6_houseLine 63 = .ok (.istore_n 3, 1) := by decide +kernel
theorem dX6_houseLine_64 : decode cX6_houseLine 64 = .ok (.iload_n 2, 1) := by decide +kernel
theorem dX6_houseLine_65 : decode cX6_houseLine 65 = .ok (.bipush 9, 2) := by decide +kernel
theorem dX6_houseLine_67 : decode cX6_houseLine 67 = .ok (.if_icmp .ne 13, 3) := by decide +kernel
theorem dX6_houseLine_70 : decode cX6_houseLine 70 = .ok (.aload_n 0, 1) := by decide +kernel
theorem dX6_houseLine_71 : decode cX6_houseLine 71 = .ok (.bipush 9, 2) := by decide +kernel
theorem dX6_houseLine_73 : decode cX6_houseLine 73 = .ok (.iconst (-1), 1) := by decide +kernel
theorem dX6_houseLine_74 : decode cX6_houseLine 74 = .ok (.invokevirtual 146, 3) := by decide +kernel
theorem dX6_houseLine_77 : decode cX6_houseLine 77 = .ok (.goto 4, 3) := by decide +kernel
theorem dX6_houseLine_80 : decode cX6_houseLine 80 = .ok (.iconst 0, 1) := by decide +kernel
theorem dX6_houseLine_81 : decode cX6_houseLine 81 = .ok (.istore 4, 2) := by decide +kernel
theorem dX6_houseLine_83 : decode cX6_houseLine 83 = .ok (.aload_n 0, 1) := by decide +kernel
theorem dX6_houseLine_84 : decode cX6_houseLine 84 = .ok (.iload_n 1, 1) := by decide +kernel
theorem dX6_houseLine_85 : decode cX6_houseLine 85 = .ok (.iload_n 2, 1) := by decide +kernel
theorem dX6_houseLine_86 : decode cX6_houseLine 86 = .ok (.iload_n 3, 1) := by decide +kernel
theorem dX6_houseLine_87 : decode cX6_houseLine 87 = .ok (.iload 4, 2) := by decide +kernel
theorem dX6_houseLine_89 : decode cX6_houseLine 89 = .ok (.invokevirtual 149, 3) := by decide +kernel
theorem dX6_houseLine_92 : decode cX6_houseLine 92 = .ok (.return_, 1) := by decide +kernel
def f_X6_houseLine_81   (v1 : Int32) (v2 : Int32) (v3 : Int32) (s0 : Int32) (h : zHp) : Option (zHp) := (f_X6_closeLine v1 v2 v3 s0 h).bind fun x1 => some x1
set_option maxHeartbeats 4000000 in
set_option maxRecDepth 100000 in
theorem f_X6_houseLine_81_s  (v1 : Int32) (v2 : Int32) (v3 : Int32) (s0 : Int32) (h : zHp) : Sim wX mX6_houseLine 3 rV 81 [(0, .ref 145), (1, .int v1), (2, .int v2), (3, .int v3)] [.int s0] h (f_X6_houseLine_81 v1 v2 v3 s0 h) := by
  unfold f_X6_houseLine_81
  refine Sim.istore (L' := [(4, .int s0), (0, .ref 145), (1, .int v1), (2, .int v2), (3, .int v3)]) dX6_houseLine_81 (Nat.le_of_ble_eq_true rfl) rfl ?_
  refine Sim.aload_n 1 dX6_houseLine_83 rfl ?_
  refine Sim.iload_n 2 dX6_houseLine_84 rfl ?_
  refine Sim.iload_n 3 dX6_houseLine_85 rfl ?_
  refine Sim.iload_n 4 dX6_houseLine_86 rfl ?_
  refine Sim.iload 0 dX6_houseLine_87 rfl ?_
  refine Sim.callV4U (d1 := 2) (s_X6_closeLine v1 v2 v3 s0 h) dX6_houseLine_89 ml_X6_149 mv_X6_closeLine xO_X6 (Nat.le_of_ble_eq_true rfl) (Nat.le_of_ble_eq_true rfl) (Nat.le_of_ble_eq_true rfl) (fun x1 => ?_)
  exact Sim.vret dX6_houseLine_92 rfl
def f_X6_houseLine_63   (v1 : Int32) (v2 : Int32) (s0 : Int32) (h : zHp) : Option (zHp) := (if v2 = (9 : Int32) then (f_X6_expectNumber (9 : Int32) (-1 : Int32) h).bind fun x1 => f_X6_houseLine_81 v1 v2 s0 x1.1 x1.2 else f_X6_houseLine_81 v1 v2 s0 (0 : Int32) h)
set_option maxHeartbeats 4000000 in
set_option maxRecDepth 100000 in
theorem f_X6_houseLine_63_s  (v1 : Int32) (v2 : Int32) (s0 : Int32) (h : zHp) : Sim wX mX6_houseLine 3 rV 63 [(0, .ref 145), (1, .int v1), (2, .int v2)] [.int s0] h (f_X6_houseLine_63 v1 v2 s0 h) := by
  unfold f_X6_houseLine_63
  refine Sim.istore_n (L' := [(3, .int s0), (0, .ref 145), (1, .int v1), (2, .int v2)]) dX6_houseLine_63 (Nat.le_of_ble_eq_true rfl) rfl ?_
  refine Sim.iload_n 3 dX6_houseLine_64 rfl ?_
  refine Sim.bipush (v := (9 : Int32)) dX6_houseLine_65 rfl ?_
  refine Sim.icmp_ne 80 dX6_houseLine_67 rfl ?_ ?_
  · refine Sim.aload_n 1 dX6_houseLine_70 rfl ?_
    refine Sim.bipush (v := (9 : Int32)) dX6_houseLine_71 rfl ?_
    refine Sim.iconst (v := (-1 : Int32)) dX6_houseLine_73 rfl ?_
    refine Sim.callV2I (d1 := 1) (s_X6_expectNumber (9 : Int32) (-1 : Int32) h) dX6_houseLine_74 ml_X6_146 mv_X6_expectNumber xO_X6 (Nat.le_of_ble_eq_true rfl) (Nat.le_of_ble_eq_true rfl) (Nat.le_of_ble_eq_true rfl) (fun x1 => ?_)
    refine Sim.goto 81 dX6_houseLine_77 rfl ?_
    refine Sim.locs [1, 2, 3, 0] rfl ?_
    exact f_X6_houseLine_81_s v1 v2 s0 x1.1 x1.2
  · refine Sim.iconst (v := (0 : Int32)) dX6_houseLine_80 rfl ?_
    refine Sim.locs [1, 2, 3, 0] rfl ?_
    exact f_X6_houseLine_81_s v1 v2 s0 (0 : Int32) h
def f_X6_houseLine_39   (v1 : Int32) (v2 : Int32) (s0 : Int32) (h : zHp) : Option (zHp) := (f_X6_expect s0 h).bind fun x1 => (if v2 = (22 : Int32) then (f_X6_expectNumber ((x1 145 8) - (1 : Int32)) (-1 : Int32) x1).bind fun x2 => f_X6_houseLine_63 v1 v2 x2.1 x2.2 else f_X6_houseLine_63 v1 v2 (-1 : Int32) x1)
set_option maxHeartbeats 4000000 in
set_option maxRecDepth 100000 in
theorem f_X6_houseLine_39_s  (v1 : Int32) (v2 : Int32) (s0 : Int32) (h : zHp) : Sim wX mX6_houseLine 3 rV 39 [(0, .ref 145), (1, .int v1), (2, .int v2)] [.int s0, .ref 145] h (f_X6_houseLine_39 v1 v2 s0 h) := by
  unfold f_X6_houseLine_39
  refine Sim.callV1U (d1 := 1) (s_X6_expect s0 h) dX6_houseLine_39 ml_X6_136 mv_X6_expect xO_X6 (Nat.le_of_ble_eq_true rfl) (Nat.le_of_ble_eq_true rfl) (Nat.le_of_ble_eq_true rfl) (fun x1 => ?_)
  refine Sim.iload_n 2 dX6_houseLine_42 rfl ?_
  refine Sim.bipush (v := (22 : Int32)) dX6_houseLine_43 rfl ?_
  refine Sim.icmp_ne 62 dX6_houseLine_45 rfl ?_ ?_
  · refine Sim.aload_n 0 dX6_houseLine_48 rfl ?_
    refine Sim.aload_n 0 dX6_houseLine_49 rfl ?_
    refine Sim.getI fl_X6_38 dX6_houseLine_50 xI_145_8 ?_
    refine Sim.iconst (v := (1 : Int32)) dX6_houseLine_53 rfl ?_
    refine Sim.isub dX6_houseLine_54 ?_
    refine Sim.iconst (v := (-1 : Int32)) dX6_houseLine_55 rfl ?_
    refine Sim.callV2I (d1 := 1) (s_X6_expectNumber ((x1 145 8) - (1 : Int32)) (-1 : Int32) x1) dX6_houseLine_56 ml_X6_146 mv_X6_expectNumber xO_X6 (Nat.le_of_ble_eq_true rfl) (Nat.le_of_ble_eq_true rfl) (Nat.le_of_ble_eq_true rfl) (fun x2 => ?_)
    refine Sim.goto 63 dX6_houseLine_59 rfl ?_
    exact f_X6_houseLine_63_s v1 v2 x2.1 x2.2
  · refine Sim.iconst (v := (-1 : Int32)) dX6_houseLine_62 rfl ?_
    exact f_X6_houseLine_63_s v1 v2 (-1 : Int32) x1
def f_X6_houseLine   (h : zHp) : Option (zHp) := (f_X6_expectLine (16 : Int32) h).bind fun x1 => (f_X6_expectNumber (999 : Int32) (-1 : Int32) x1).bind fun x2 => zlt (x2.2 145 7) fun x3 => (if x3 = (9 : Int32) then f_X6_houseLine_39 x2.1 x3 x3 x2.2 else (if x3 = (23 : Int32) then f_X6_houseLine_39 x2.1 x3 x3 x2.2 else f_X6_houseLine_39 x2.1 x3 (22 : Int32) x2.2))
set_option maxHeartbeats 4000000 in
set_option maxRecDepth 100000 in
theorem s_X6_houseLine   (h : zHp) : Fn wX mX6_houseLine 3 rV [.ref 145] h (f_X6_houseLine  h) := by
  refine Fn.of rfl (Nat.le_of_ble_eq_true rfl) ?_
  unfold f_X6_houseLine
  refine Sim.aload_n 0 dX6_houseLine_0 rfl ?_
  refine Sim.bipush (v := (16 : Int32)) dX6_houseLine_1 rfl ?_
  refine Sim.callV1U (d1 := 2) (s_X6_expectLine (16 : Int32) h) dX6_houseLine_3 ml_X6_143 mv_X6_expectLine xO_X6 (Nat.le_of_ble_eq_true rfl) (Nat.le_of_ble_eq_true rfl) (Nat.le_of_ble_eq_true rfl) (fun x1 => ?_)
  refine Sim.aload_n 0 dX6_houseLine_6 rfl ?_
  refine Sim.sipush (v := (999 : Int32)) dX6_houseLine_7 rfl ?_
  refine Sim.iconst (v := (-1 : Int32)) dX6_houseLine_10 rfl ?_
  refine Sim.callV2I (d1 := 1) (s_X6_expectNumber (999 : Int32) (-1 : Int32) x1) dX6_houseLine_11 ml_X6_146 mv_X6_expectNumber xO_X6 (Nat.le_of_ble_eq_true rfl) (Nat.le_of_ble_eq_true rfl) (Nat.le_of_ble_eq_true rfl) (fun x2 => ?_)
  refine Sim.istore_n (L' := [(1, .int x2.1), (0, .ref 145)]) dX6_houseLine_14 (Nat.le_of_ble_eq_true rfl) rfl ?_
  refine Sim.aload_n 1 dX6_houseLine_15 rfl ?_
  refine Sim.getI fl_X6_35 dX6_houseLine_16 xI_145_7 ?_
  refine Sim.lti (fun x3 => ?_)
  refine Sim.istore_n (L' := [(2, .int x3), (1, .int x2.1), (0, .ref 145)]) dX6_houseLine_19 (Nat.le_of_ble_eq_true rfl) rfl ?_
  refine Sim.aload_n 2 dX6_houseLine_20 rfl ?_
  refine Sim.iload_n 0 dX6_houseLine_21 rfl ?_
  refine Sim.bipush (v := (9 : Int32)) dX6_houseLine_22 rfl ?_
  refine Sim.icmp_eq 33 dX6_houseLine_24 rfl ?_ ?_
  · refine Sim.iload_n 0 dX6_houseLine_33 rfl ?_
    refine Sim.goto 39 dX6_houseLine_34 rfl ?_
    refine Sim.locs [2, 1, 0] rfl ?_
    exact f_X6_houseLine_39_s x2.1 x3 x3 x2.2
  · refine Sim.iload_n 0 dX6_houseLine_27 rfl ?_
    refine Sim.bipush (v := (23 : Int32)) dX6_houseLine_28 rfl ?_
    refine Sim.icmp_ne 37 dX6_houseLine_30 rfl ?_ ?_
    · refine Sim.iload_n 0 dX6_houseLine_33 rfl ?_
      refine Sim.goto 39 dX6_houseLine_34 rfl ?_
      refine Sim.locs [2, 1, 0] rfl ?_
      exact f_X6_houseLine_39_s x2.1 x3 x3 x2.2
    · refine Sim.bipush (v := (22 : Int32)) dX6_houseLine_37 rfl ?_
      refine Sim.locs [2, 1, 0] rfl ?_
      exact f_X6_houseLine_39_s x2.1 x3 (22 : Int32) x2.2
theorem mv_X6_houseLine : zMV mX6_houseLine 0 := ⟨⟨zTb_in 969 (by decide +kernel) rfl, zTb_in 145 (by decide +kernel) rfl, ⟨by decide +kernel, by decide +kernel⟩, by decide +kernel⟩, zTb_in 968 (by decide +kernel) rfl, zTb_in 28 (by decide +kernel) rfl⟩
-- ===== RockingPorch$Reader.kinLine()V
abbrev mX6_kinLine : zMt := (yX6_kinLine, cX6_kinLine, 3, none)
theorem dX6_kinLine_0 : decode cX6_kinLine 0 = .ok (.aload_n 0, 1) := by decide +kernel
theorem dX6_kinLine_1 : decode cX6_kinLine 1 = .ok (.bipush 17, 2) := by decide +kernel
theorem dX6_kinLine_3 : decode cX6_kinLine 3 = .ok (.invokevirtual 143, 3) := by decide +kernel
theorem dX6_kinLine_6 : decode cX6_kinLine 6 = .ok (.aload_n 0, 1) := by decide +kernel
theorem dX6_kinLine_7 : decode cX6_kinLine 7 = .ok (.aload_n 0, 1) := by decide +kernel
theorem dX6_kinLine_8 : decode cX6_kinLine 8 = .ok (.getfield 41, 3) := by decide +kernel
theorem dX6_kinLine_11 : decode cX6_kinLine 11 = .ok (.iconst 1, 1) := by decide +kernel
theorem dX6_kinLine_12 : decode cX6_kinLine 12 = .ok (.isub, 1) := by decide +kernel
theorem dX6_kinLine_13 : decode cX6_kinLine 13 = .ok (.iconst (-1), 1) := by decide +kernel
theorem dX6_kinLine_14 : decode cX6_kinLine 14 = .ok (.invokevirtual 146, 3) := by decide +kernel
theorem dX6_kinLine_17 : decode cX6_kinLine 17 = .ok (.istore_n 1, 1) := by decide +kernel
theorem dX6_kinLine_18 : decode cX6_kinLine 18 = .ok (.aload_n 0, 1) := by decide +kernel
theorem dX6_kinLine_19 : decode cX6_kinLine 19 = .ok (.bipush 6, 2) := by decide +kernel
theorem dX6_kinLine_21 : decode cX6_kinLine 21 = .ok (.invokevirtual 136, 3) := by decide +kernel
theorem dX6_kinLine_24 : decode cX6_kinLine 24 = .ok (.aload_n 0, 1) := by decide +kernel
theorem dX6_kinLine_25 : decode cX6_kinLine 25 = .ok (.aload_n 0, 1) := by decide +kernel
theorem dX6_kinLine_26 : decode cX6_kinLine 26 = .ok (.getfield 41, 3) := by decide +kernel
theorem dX6_kinLine_29 : decode cX6_kinLine 29 = .ok (.iconst 1, 1) := by decide +kernel
theorem dX6_kinLine_30 : decode cX6_kinLine 30 = .ok (.isub, 1) := by decide +kernel
theorem dX6_kinLine_31 : decode cX6_kinLine 31 = .ok (.iload_n 1, 1) := by decide +kernel
theorem dX6_kinLine_32 : decode cX6_kinLine 32 = .ok (.invokevirtual 146, 3) := by decide +kernel
theorem dX6_kinLine_35 : decode cX6_kinLine 35 = .ok (.istore_n 2, 1) := by decide +kernel
theorem dX6_kinLine_36 : decode cX6_kinLine 36 = .ok (.aload_n 0, 1) := by decide +kernel
theorem dX6_kinLine_37 : decode cX6_kinLine 37 = .ok (.iconst 0, 1) := by decide +kernel
theorem dX6_kinLine_38 : decode cX6_kinLine 38 = .ok (.bipush 6, 2) := by decide +kernel
theorem dX6_kinLine_40 : decode cX6_kinLine 40 = .ok (.iload_n 1, 1) := by decide +kernel
theorem dX6_kinLine_41 : decode cX6_kinLine 41 = .ok (.iload_n 2, 1) := by decide +kernel
theorem dX6_kinLine_42 : decode cX6_kinLine 42 = .ok (.invokevirtual 149, 3) := by decide +kernel
theorem dX6_kinLine_45 : decode cX6_kinLine 45 = .ok (.return_, 1) := by decide +kernel
def f_X6_kinLine   (h : zHp) : Option (zHp) := (f_X6_expectLine (17 : Int32) h).bind fun x1 => (f_X6_expectNumber ((x1 145 9) - (1 : Int32)) (-1 : Int32) x1).bind fun x2 => (f_X6_expect (6 : Int32) x2.2).bind fun x3 => (f_X6_expectNumber ((x3 145 9) - (1 : Int32)) x2.1 x3).bind fun x4 => (f_X6_closeLine (0 : Int32) (6 : Int32) x2.1 x4.1 x4.2).bind fun x5 => some x5
set_option maxHeartbeats 4000000 in
set_option maxRecDepth 100000 in
theorem s_X6_kinLine   (h : zHp) : Fn wX mX6_kinLine 3 rV [.ref 145] h (f_X6_kinLine  h) := by
  refine Fn.of rfl (Nat.le_of_ble_eq_true rfl) ?_
  unfold f_X6_kinLine
  refine Sim.aload_n 0 dX6_kinLine_0 rfl ?_
  refine Sim.bipush (v := (17 : Int32)) dX6_kinLine_1 rfl ?_
  refine Sim.callV1U (d1 := 2) (s_X6_expectLine (17 : Int32) h) dX6_kinLine_3 ml_X6_143 mv_X6_expectLine xO_X6 (Nat.le_of_ble_eq_true rfl) (Nat.le_of_ble_eq_true rfl) (Nat.le_of_ble_eq_true rfl) (fun x1 => ?_)
  refine Sim.aload_n 0 dX6_kinLine_6 rfl ?_
  refine Sim.aload_n 0 dX6_kinLine_7 rfl ?_
  refine Sim.getI fl_X6_41 dX6_kinLine_8 xI_145_9 ?_
  refine Sim.iconst (v := (1 : Int32)) dX6_kinLine_11 rfl ?_
  refine Sim.isub dX6_kinLine_12 ?_
  refine Sim.iconst (v := (-1 : Int32)) dX6_kinLine_13 rfl ?_
  refine Sim.callV2I (d1 := 1) (s_X6_expectNumber ((x1 145 9) - (1 : Int32)) (-1 : Int32) x1) dX6_kinLine_14 ml_X6_146 mv_X6_expectNumber xO_X6 (Nat.le_of_ble_eq_true rfl) (Nat.le_of_ble_eq_true rfl) (Nat.le_of_ble_eq_true rfl) (fun x2 => ?_)
  refine Sim.istore_n (L' := [(1, .int x2.1), (0, .ref 145)]) dX6_kinLine_17 (Nat.le_of_ble_eq_true rfl) rfl ?_
  refine Sim.aload_n 1 dX6_kinLine_18 rfl ?_
  refine Sim.bipush (v := (6 : Int32)) dX6_kinLine_19 rfl ?_
  refine Sim.callV1U (d1 := 1) (s_X6_expect (6 : Int32) x2.2) dX6_kinLine_21 ml_X6_136 mv_X6_expect xO_X6 (Nat.le_of_ble_eq_true rfl) (Nat.le_of_ble_eq_true rfl) (Nat.le_of_ble_eq_true rfl) (fun x3 => ?_)
  refine Sim.aload_n 1 dX6_kinLine_24 rfl ?_
  refine Sim.aload_n 1 dX6_kinLine_25 rfl ?_
  refine Sim.getI fl_X6_41 dX6_kinLine_26 xI_145_9 ?_
  refine Sim.iconst (v := (1 : Int32)) dX6_kinLine_29 rfl ?_
  refine Sim.isub dX6_kinLine_30 ?_
  refine Sim.iload_n 0 dX6_kinLine_31 rfl ?_
  refine Sim.callV2I (d1 := 1) (s_X6_expectNumber ((x3 145 9) - (1 : Int32)) x2.1 x3) dX6_kinLine_32 ml_X6_146 mv_X6_expectNumber xO_X6 (Nat.le_of_ble_eq_true rfl) (Nat.le_of_ble_eq_true rfl) (Nat.le_of_ble_eq_true rfl) (fun x4 => ?_)
  refine Sim.istore_n (L' := [(2, .int x4.1), (1, .int x2.1), (0, .ref 145)]) dX6_kinLine_35 (Nat.le_of_ble_eq_true rfl) rfl ?_
  refine Sim.aload_n 2 dX6_kinLine_36 rfl ?_
  refine Sim.iconst (v := (0 : Int32)) dX6_kinLine_37 rfl ?_
  refine Sim.bipush (v := (6 : Int32)) dX6_kinLine_38 rfl ?_
  refine Sim.iload_n 1 dX6_kinLine_40 rfl ?_
  refine Sim.iload_n 0 dX6_kinLine_41 rfl ?_
  refine Sim.callV4U (d1 := 2) (s_X6_closeLine (0 : Int32) (6 : Int32) x2.1 x4.1 x4.2) dX6_kinLine_42 ml_X6_149 mv_X6_closeLine xO_X6 (Nat.le_of_ble_eq_true rfl) (Nat.le_of_ble_eq_true rfl) (Nat.le_of_ble_eq_true rfl) (fun x5 => ?_)
  exact Sim.vret dX6_kinLine_45 rfl
theorem mv_X6_kinLine : zMV mX6_kinLine 0 := ⟨⟨zTb_in 973 (by decide +kernel) rfl, zTb_in 145 (by decide +kernel) rfl, ⟨by decide +kernel, by decide +kernel⟩, by decide +kernel⟩, zTb_in 972 (by decide +kernel) rfl, zTb_in 29 (by decide +kernel) rfl⟩
-- ===== RockingPorch$Reader.read(III)I
abbrev mX6_read : zMt := (yX6_read, cX6_read, 6, some .int)
theorem fp_X6_38 : zFp RX6 38 6 8 .int := ⟨RX6, TX6, 14, tyX6, rfl, Nat.le_of_ble_eq_true rfl, zTb_in 438 (by decide +kernel) rfl, in_X6, tyX6_ok, nmX6, rfl, rfl⟩
theorem fp_X6_41 : zFp RX6 41 6 9 .int := ⟨RX6, TX6, 14, tyX6, rfl, Nat.le_of_ble_eq_true rfl, zTb_in 439 (by decide +kernel) rfl, in_X6, tyX6_ok, nmX6, rfl, rfl⟩
theorem fp_X6_69 : zFp RX6 69 2 2 .int := ⟨RX2, TX2, 3, tyX2, rfl, Nat.le_of_ble_eq_true rfl, zTb_in 260 (by decide +kernel) rfl, in_X2, tyX2_ok, nmX2, rfl, rfl⟩
theorem ml_X6_66 : Cond.methodLink RX6 66 yX1_clear ∈ zTb := zTb_in 768 (by decide +kernel) rfl
theorem ml_X6_72 : Cond.methodLink RX6 72 yX6_split ∈ zTb := zTb_in 772 (by decide +kernel) rfl
theorem ml_X6_75 : Cond.methodLink RX6 75 yX6_lawLine ∈ zTb := zTb_in 901 (by decide +kernel) rfl
theorem ml_X6_78 : Cond.methodLink RX6 78 yX6_callsLine ∈ zTb := zTb_in 953 (by decide +kernel) rfl
theorem ml_X6_81 : Cond.methodLink RX6 81 yX6_houseLine ∈ zTb := zTb_in 966 (by decide +kernel) rfl
theorem ml_X6_84 : Cond.methodLink RX6 84 yX6_kinLine ∈ zTb := zTb_in 970 (by decide +kernel) rfl
theorem dX6_read_0 : decode cX6_read 0 = .ok (.aload_n 0, 1) := by decide +kernel
theorem dX6_read_1 : decode cX6_read 1 = .ok (.iconst 0, 1) := by decide +kernel
theorem dX6_read_2 : decode cX6_read 2 = .ok (.putfield 60, 3) := by decide +kernel
theorem dX6_read_5 : decode cX6_read 5 = .ok (.aload_n 0, 1) := by decide +kernel
theorem dX6_read_6 : decode cX6_read 6 = .ok (.iconst (-1), 1) := by decide +kernel
theorem dX6_read_7 : decode cX6_read 7 = .ok (.putfield 63, 3) := by decide +kernel
theorem dX6_read_10 : decode cX6_read 10 = .ok (.aload_n 0, 1) := by decide +kernel
theorem dX6_read_11 : decode cX6_read 11 = .ok (.getfield 47, 3) := by decide +kernel
theorem dX6_read_14 : decode cX6_read 14 = .ok (.invokevirtual 66, 3) := by decide +kernel
theorem dX6_read_17 : decode cX6_read 17 = .ok (.aload_n 0, 1) := by decide +kernel
theorem dX6_read_18 : decode cX6_read 18 = .ok (.getfield 56, 3) := by decide +kernel
theorem dX6_read_21 : decode cX6_read 21 = .ok (.iconst 0, 1) := by decide +kernel
theorem dX6_read_22 : decode cX6_read 22 = .ok (.putfield 69, 3) := by decide +kernel
theorem dX6_read_25 : decode cX6_read 25 = .ok (.aload_n 0, 1) := by decide +kernel
theorem dX6_read_26 : decode cX6_read 26 = .ok (.iload_n 2, 1) := by decide +kernel
theorem dX6_read_27 : decode cX6_read 27 = .ok (.putfield 38, 3) := by decide +kernel
theorem dX6_read_30 : decode cX6_read 30 = .ok (.aload_n 0, 1) := by decide +kernel
theorem dX6_read_31 : decode cX6_read 31 = .ok (.iload_n 3, 1) := by decide +kernel
theorem dX6_read_32 : decode cX6_read 32 = .ok (.putfield 41, 3) := by decide +kernel
theorem dX6_read_35 : decode cX6_read 35 = .ok (.iload_n 1, 1) := by decide +kernel
theorem dX6_read_36 : decode cX6_read 36 = .ok (.ifCond .lt 12, 3) := by decide +kernel
theorem dX6_read_39 : decode cX6_read 39 = .ok (.iload_n 1, 1) := by decide +kernel
theorem dX6_read_40 : decode cX6_read 40 = .ok (.iconst 3, 1) := by decide +kernel
theorem dX6_read_41 : decode cX6_read 41 = .ok (.if_icmp .gt 7, 3) := by decide +kernel
theorem dX6_read_44 : decode cX6_read 44 = .ok (.iconst 1, 1) := by decide +kernel
theorem dX6_read_45 : decode cX6_read 45 = .ok (.goto 4, 3) := by decide +kernel
theorem dX6_read_48 : decode cX6_read 48 = .ok (.iconst 0, 1) := by decide +kernel
theorem dX6_read_49 : decode cX6_read 49 = .ok (.istore 4, 2) := by decide +kernel
theorem dX6_read_51 : decode cX6_read 51 = .ok (.iload 4, 2) := by decide +kernel
theorem dX6_read_53 : decode cX6_read 53 = .ok (.ifCond .eq 94, 3) := by decide +kernel
theorem dX6_read_56 : decode cX6_read 56 = .ok (.aload_n 0, 1) := by decide +kernel
theorem dX6_read_57 : decode cX6_read 57 = .ok (.invokevirtual 72, 3) := by decide +kernel
theorem dX6_read_60 : decode cX6_read 60 = .ok (.iconst 0, 1) := by decide +kernel
theorem dX6_read_61 : decode cX6_read 61 = .ok (.istore 5, 2) := by decide +kernel
theorem dX6_read_63 : decode cX6_read 63 = .ok (.iload 5, 2) := by decide +kernel
theorem dX6_read_65 : decode cX6_read 65 = .ok (.sipush 400, 3) := by decide +kernel
theorem dX6_read_68 : decode cX6_read 68 = .ok (.if_icmp .ge 79, 3) := by decide +kernel
theorem dX6_read_71 : decode cX6_read 71 = .ok (.aload_n 0, 1) := by decide +kernel
theorem dX6_read_72 : decode cX6_read 72 = .ok (.getfield 60, 3) := by decide +kernel
theorem dX6_read_75 : decode cX6_read 75 = .ok (.ifCond .ne 72, 3) := by decide +kernel
theorem dX6_read_78 : decode cX6_read 78 = .ok (.aload_n 0, 1) := by decide +kernel
theorem dX6_read_79 : decode cX6_read 79 = .ok (.getfield 35, 3) := by decide +kernel
theorem dX6_read_82 : decode cX6_read 82 = .ok (.bipush 36, 2) := by decide +kernel
theorem dX6_read_84 : decode cX6_read 84 = .ok (.if_icmp .eq 63, 3) := by decide +kernel
theorem dX6_read_87 : decode cX6_read 87 = .ok (.iload_n 1, 1) := by decide +kernel
theorem dX6_read_88 : decode cX6_read 88 = .ok (.tableswitch 49 0 2 #[28, 35, 42], 28) := by decide +kernel
theorem dX6_read_116 : decode cX6_read 116 = .ok (.aload_n 0, 1) := by decide +kernel
theorem dX6_read_117 : decode cX6_read 117 = .ok (.invokevirtual 75, 3) := by decide +kernel
theorem dX6_read_120 : decode cX6_read 120 = .ok (.goto 21, 3) := by decide +kernel
theorem dX6_read_123 : decode cX6_read 123 = .ok (.aload_n 0, 1) := by decide +kernel
theorem dX6_read_124 : decode cX6_read 124 = .ok (.invokevirtual 78, 3) := by decide +kernel
theorem dX6_read_127 : decode cX6_read 127 = .ok (.goto 14, 3) := by decide +kernel
theorem dX6_read_130 : decode cX6_read 130 = .ok (.aload_n 0, 1) := by decide +kernel
theorem dX6_read_131 : decode cX6_read 131 = .ok (.invokevirtual 81, 3) := by decide +kernel
theorem dX6_read_134 : decode cX6_read 134 = .ok (.goto 7, 3) := by decide +kernel
theorem dX6_read_137 : decode cX6_read 137 = .ok (.aload_n 0, 1) := by decide +kernel
theorem dX6_read_138 : decode cX6_read 138 = .ok (.invokevirtual 84, 3) := by decide +kernel
theorem dX6_read_141 : decode cX6_read 141 = .ok (.iinc 5 1, 3) := by decide +kernel
theorem dX6_read_144 : decode cX6_read 144 = .ok (.goto (-81), 3) := by decide +kernel
theorem dX6_read_147 : decode cX6_read 147 = .ok (.aload_n 0, 1) := by decide +kernel
theorem dX6_read_148 : decode cX6_read 148 = .ok (.iconst 0, 1) := by decide +kernel
theorem dX6_read_149 : decode cX6_read 149 = .ok (.putfield 15, 3) := by decide +kernel
theorem dX6_read_152 : decode cX6_read 152 = .ok (.iload 4, 2) := by decide +kernel
theorem dX6_read_154 : decode cX6_read 154 = .ok (.ifCond .eq 10, 3) := by decide +kernel
theorem dX6_read_157 : decode cX6_read 157 = .ok (.aload_n 0, 1) := by decide +kernel
theorem dX6_read_158 : decode cX6_read 158 = .ok (.getfield 60, 3) := by decide +kernel
theorem dX6_read_161 : decode cX6_read 161 = .ok (.ifCond .eq 7, 3) := by decide +kernel
theorem dX6_read_164 : decode cX6_read 164 = .ok (.iconst (-1), 1) := by decide +kernel
theorem dX6_read_165 : decode cX6_read 165 = .ok (.goto 24, 3) := by decide +kernel
theorem dX6_read_168 : decode cX6_read 168 = .ok (.iload_n 1, 1) := by decide +kernel
theorem dX6_read_169 : decode cX6_read 169 = .ok (.ifCond .ne 13, 3) := by decide +kernel
theorem dX6_read_172 : decode cX6_read 172 = .ok (.aload_n 0, 1) := by decide +kernel
theorem dX6_read_173 : decode cX6_read 173 = .ok (.getfield 47, 3) := by decide +kernel
theorem dX6_read_176 : decode cX6_read 176 = .ok (.getfield 87, 3) := by decide +kernel
theorem dX6_read_179 : decode cX6_read 179 = .ok (.goto 10, 3) := by decide +kernel
theorem dX6_read_182 : decode cX6_read 182 = .ok (.aload_n 0, 1) := by decide +kernel
theorem dX6_read_183 : decode cX6_read 183 = .ok (.getfield 56, 3) := by decide +kernel
theorem dX6_read_186 : decode cX6_read 186 = .ok (.getfield 69, 3) := by decide +kernel
theorem dX6_read_189 : decode cX6_read 189 = .ok (.ireturn, 1) := by decide +kernel
def f_X6_read_147   (v1 : Int32) (v4 : Int32) (h : zHp) : Option (Int32 × zHp) := zlt (zst h 145 1 (0 : Int32)) fun h1 => (if v4 = 0 then some ((-1 : Int32), h1) else (if (h1 145 12) = 0 then (if v1 = 0 then some ((h1 150 7), h1) else some ((h1 157 2), h1)) else some ((-1 : Int32), h1)))
set_option maxHeartbeats 4000000 in
set_option maxRecDepth 100000 in
theorem f_X6_read_147_s  (v1 : Int32) (v4 : Int32) (h : zHp) : Sim wX mX6_read 62 rI 147 [(0, .ref 145), (1, .int v1), (4, .int v4)] [] h (f_X6_read_147 v1 v4 h) := by
  unfold f_X6_read_147
  refine Sim.aload_n 0 dX6_read_147 rfl ?_
  refine Sim.iconst (v := (0 : Int32)) dX6_read_148 rfl ?_
  refine Sim.put fp_X6_15 dX6_read_149 xI_145_1 rfl rfl ?_
  refine Sim.lth (fun h1 => ?_)
  refine Sim.iload 2 dX6_read_152 rfl ?_
  refine Sim.if_eq 164 dX6_read_154 rfl ?_ ?_
  · refine Sim.iconst (v := (-1 : Int32)) dX6_read_164 rfl ?_
    refine Sim.goto 189 dX6_read_165 rfl ?_
    exact Sim.iret dX6_read_189 rfl
  · refine Sim.aload_n 0 dX6_read_157 rfl ?_
    refine Sim.getI fl_X6_60 dX6_read_158 xI_145_12 ?_
    refine Sim.if_eq 168 dX6_read_161 rfl ?_ ?_
    · refine Sim.iload_n 1 dX6_read_168 rfl ?_
      refine Sim.if_ne 182 dX6_read_169 rfl ?_ ?_
      · refine Sim.aload_n 0 dX6_read_172 rfl ?_
        refine Sim.getR (j := 150) fl_X6_47 dX6_read_173 xR_145_10 ?_
        refine Sim.getI fl_X6_87 dX6_read_176 (xI_X1_7 _ xL_X1_150) ?_
        refine Sim.goto 189 dX6_read_179 rfl ?_
        exact Sim.iret dX6_read_189 rfl
      · refine Sim.aload_n 0 dX6_read_182 rfl ?_
        refine Sim.getR (j := 157) fl_X6_56 dX6_read_183 xR_145_11 ?_
        refine Sim.getI fl_X6_69 dX6_read_186 (xI_X2_2 _ xL_X2_157) ?_
        exact Sim.iret dX6_read_189 rfl
    · refine Sim.iconst (v := (-1 : Int32)) dX6_read_164 rfl ?_
      refine Sim.goto 189 dX6_read_165 rfl ?_
      exact Sim.iret dX6_read_189 rfl
def f_X6_read_63  (k63 : Int32 × Int32 × Int32 × zHp → Option (Int32 × zHp)) (v1 : Int32) (v4 : Int32) (v5 : Int32) (h : zHp) : Option (Int32 × zHp) := (if v5 < (400 : Int32) then (if (h 145 12) = 0 then (if (h 145 7) = (36 : Int32) then f_X6_read_147 v1 v4 h else (if v1 = (0 : Int32) then (f_X6_lawLine h).bind fun x2 => k63 (v1, v4, (v5 + (1 : Int32)), x2) else (if v1 = (1 : Int32) then (f_X6_callsLine h).bind fun x4 => k63 (v1, v4, (v5 + (1 : Int32)), x4) else (if v1 = (2 : Int32) then (f_X6_houseLine h).bind fun x6 => k63 (v1, v4, (v5 + (1 : Int32)), x6) else (f_X6_kinLine h).bind fun x7 => k63 (v1, v4, (v5 + (1 : Int32)), x7))))) else f_X6_read_147 v1 v4 h) else f_X6_read_147 v1 v4 h)
set_option maxHeartbeats 4000000 in
set_option maxRecDepth 100000 in
theorem f_X6_read_63_s  (k63 : Int32 × Int32 × Int32 × zHp → Option (Int32 × zHp)) (H63 : ∀ v : Int32 × Int32 × Int32 × zHp, Sim wX mX6_read 62 rI 63 [(0, .ref 145), (1, .int v.1), (4, .int v.2.1), (5, .int v.2.2.1)] [] v.2.2.2 (k63 v)) (v1 : Int32) (v4 : Int32) (v5 : Int32) (h : zHp) : Sim wX mX6_read 62 rI 63 [(0, .ref 145), (1, .int v1), (4, .int v4), (5, .int v5)] [] h (f_X6_read_63 k63 v1 v4 v5 h) := by
  unfold f_X6_read_63
  refine Sim.iload 3 dX6_read_63 rfl ?_
  refine Sim.sipush (v := (400 : Int32)) dX6_read_65 rfl ?_
  refine Sim.icmp_ge 147 dX6_read_68 rfl ?_ ?_
  · refine Sim.aload_n 0 dX6_read_71 rfl ?_
    refine Sim.getI fl_X6_60 dX6_read_72 xI_145_12 ?_
    refine Sim.if_ne 147 dX6_read_75 rfl ?_ ?_
    · refine Sim.aload_n 0 dX6_read_78 rfl ?_
      refine Sim.getI fl_X6_35 dX6_read_79 xI_145_7 ?_
      refine Sim.bipush (v := (36 : Int32)) dX6_read_82 rfl ?_
      refine Sim.icmp_eq 147 dX6_read_84 rfl ?_ ?_
      · refine Sim.locs [0, 1, 2] rfl ?_
        exact f_X6_read_147_s v1 v4 h
      · refine Sim.iload_n 1 dX6_read_87 rfl ?_
        refine Sim.ite _ (fun q1 => ?_) (fun q1 => ?_)
        · refine Sim.tswIn 116 dX6_read_88 q1 (by decide) (by decide) rfl rfl ?_
          refine Sim.aload_n 0 dX6_read_116 rfl ?_
          refine Sim.callV0U (d1 := 61) (s_X6_lawLine h) dX6_read_117 ml_X6_75 mv_X6_lawLine xO_X6 (Nat.le_of_ble_eq_true rfl) (Nat.le_of_ble_eq_true rfl) (Nat.le_of_ble_eq_true rfl) (fun x2 => ?_)
          refine Sim.goto 141 dX6_read_120 rfl ?_
          refine Sim.iinc (L' := [(5, .int (v5 + (1 : Int32))), (0, .ref 145), (1, .int v1), (4, .int v4)]) 3 dX6_read_141 rfl rfl (Nat.le_of_ble_eq_true rfl) rfl ?_
          refine Sim.goto 63 dX6_read_144 rfl ?_
          refine Sim.locs [1, 2, 3, 0] rfl ?_
          exact H63 (v1, v4, (v5 + (1 : Int32)), x2)
        refine Sim.ite _ (fun q3 => ?_) (fun q3 => ?_)
        · refine Sim.tswIn 123 dX6_read_88 q3 (by decide) (by decide) rfl rfl ?_
          refine Sim.aload_n 0 dX6_read_123 rfl ?_
          refine Sim.callV0U (d1 := 3) (s_X6_callsLine h) dX6_read_124 ml_X6_78 mv_X6_callsLine xO_X6 (Nat.le_of_ble_eq_true rfl) (Nat.le_of_ble_eq_true rfl) (Nat.le_of_ble_eq_true rfl) (fun x4 => ?_)
          refine Sim.goto 141 dX6_read_127 rfl ?_
          refine Sim.iinc (L' := [(5, .int (v5 + (1 : Int32))), (0, .ref 145), (1, .int v1), (4, .int v4)]) 3 dX6_read_141 rfl rfl (Nat.le_of_ble_eq_true rfl) rfl ?_
          refine Sim.goto 63 dX6_read_144 rfl ?_
          refine Sim.locs [1, 2, 3, 0] rfl ?_
          exact H63 (v1, v4, (v5 + (1 : Int32)), x4)
        refine Sim.ite _ (fun q5 => ?_) (fun q5 => ?_)
        · refine Sim.tswIn 130 dX6_read_88 q5 (by decide) (by decide) rfl rfl ?_
          refine Sim.aload_n 0 dX6_read_130 rfl ?_
          refine Sim.callV0U (d1 := 3) (s_X6_houseLine h) dX6_read_131 ml_X6_81 mv_X6_houseLine xO_X6 (Nat.le_of_ble_eq_true rfl) (Nat.le_of_ble_eq_true rfl) (Nat.le_of_ble_eq_true rfl) (fun x6 => ?_)
          refine Sim.goto 141 dX6_read_134 rfl ?_
          refine Sim.iinc (L' := [(5, .int (v5 + (1 : Int32))), (0, .ref 145), (1, .int v1), (4, .int v4)]) 3 dX6_read_141 rfl rfl (Nat.le_of_ble_eq_true rfl) rfl ?_
          refine Sim.goto 63 dX6_read_144 rfl ?_
          refine Sim.locs [1, 2, 3, 0] rfl ?_
          exact H63 (v1, v4, (v5 + (1 : Int32)), x6)
        refine Sim.tswOut 137 dX6_read_88 (by have aq1 : v1.toInt ≠ 0 := fun w => q1 (Int32.toInt_inj.mp w); have aq3 : v1.toInt ≠ 1 := fun w => q3 (Int32.toInt_inj.mp w); have aq5 : v1.toInt ≠ 2 := fun w => q5 (Int32.toInt_inj.mp w); omega) rfl ?_
        refine Sim.aload_n 0 dX6_read_137 rfl ?_
        refine Sim.callV0U (d1 := 3) (s_X6_kinLine h) dX6_read_138 ml_X6_84 mv_X6_kinLine xO_X6 (Nat.le_of_ble_eq_true rfl) (Nat.le_of_ble_eq_true rfl) (Nat.le_of_ble_eq_true rfl) (fun x7 => ?_)
        refine Sim.iinc (L' := [(5, .int (v5 + (1 : Int32))), (0, .ref 145), (1, .int v1), (4, .int v4)]) 3 dX6_read_141 rfl rfl (Nat.le_of_ble_eq_true rfl) rfl ?_
        refine Sim.goto 63 dX6_read_144 rfl ?_
        refine Sim.locs [1, 2, 3, 0] rfl ?_
        exact H63 (v1, v4, (v5 + (1 : Int32)), x7)
    · refine Sim.locs [0, 1, 2] rfl ?_
      exact f_X6_read_147_s v1 v4 h
  · refine Sim.locs [0, 1, 2] rfl ?_
    exact f_X6_read_147_s v1 v4 h
def f_X6_read_63_lp   (n : Nat) (v : Int32 × Int32 × Int32 × zHp) : Option (Int32 × zHp) := zlp (fun k63 v => f_X6_read_63 k63 v.1 v.2.1 v.2.2.1 v.2.2.2) n v
theorem f_X6_read_63_ls  (n : Nat) (v : Int32 × Int32 × Int32 × zHp) : Sim wX mX6_read 62 rI 63 [(0, .ref 145), (1, .int v.1), (4, .int v.2.1), (5, .int v.2.2.1)] [] v.2.2.2 (f_X6_read_63_lp n v) :=
  Sim.lp (V := Int32 × Int32 × Int32 × zHp) (Lf := fun v => [(0, .ref 145), (1, .int v.1), (4, .int v.2.1), (5, .int v.2.2.1)]) (sf := fun v => []) (hf := fun v => v.2.2.2) (fun k63 H63 v => f_X6_read_63_s k63 H63 v.1 v.2.1 v.2.2.1 v.2.2.2) n v
def f_X6_read_49   (v1 : Int32) (s0 : Int32) (h : zHp) : Option (Int32 × zHp) := (if s0 = 0 then f_X6_read_147 v1 s0 h else (f_X6_split h).bind fun x1 => f_X6_read_63_lp  zN (v1, s0, (0 : Int32), x1))
set_option maxHeartbeats 4000000 in
set_option maxRecDepth 100000 in
theorem f_X6_read_49_s  (v1 : Int32) (s0 : Int32) (h : zHp) : Sim wX mX6_read 62 rI 49 [(0, .ref 145), (1, .int v1)] [.int s0] h (f_X6_read_49 v1 s0 h) := by
  unfold f_X6_read_49
  refine Sim.istore (L' := [(4, .int s0), (0, .ref 145), (1, .int v1)]) dX6_read_49 (Nat.le_of_ble_eq_true rfl) rfl ?_
  refine Sim.iload 0 dX6_read_51 rfl ?_
  refine Sim.if_eq 147 dX6_read_53 rfl ?_ ?_
  · refine Sim.locs [1, 2, 0] rfl ?_
    exact f_X6_read_147_s v1 s0 h
  · refine Sim.aload_n 1 dX6_read_56 rfl ?_
    refine Sim.callV0U (d1 := 6) (s_X6_split h) dX6_read_57 ml_X6_72 mv_X6_split xO_X6 (Nat.le_of_ble_eq_true rfl) (Nat.le_of_ble_eq_true rfl) (Nat.le_of_ble_eq_true rfl) (fun x1 => ?_)
    refine Sim.iconst (v := (0 : Int32)) dX6_read_60 rfl ?_
    refine Sim.istore (L' := [(5, .int (0 : Int32)), (4, .int s0), (0, .ref 145), (1, .int v1)]) dX6_read_61 (Nat.le_of_ble_eq_true rfl) rfl ?_
    refine Sim.locs [2, 3, 1, 0] rfl ?_
    exact f_X6_read_63_ls  zN (v1, s0, (0 : Int32), x1)
def f_X6_read  (a1 : Int32) (a2 : Int32) (a3 : Int32) (h : zHp) : Option (Int32 × zHp) := zlt (zst h 145 12 (0 : Int32)) fun h1 => zlt (zst h1 145 13 (-1 : Int32)) fun h2 => (f_X1_clear 150 h2).bind fun x3 => zlt (zst x3 157 2 (0 : Int32)) fun h4 => zlt (zst h4 145 8 a2) fun h5 => zlt (zst h5 145 9 a3) fun h6 => (if a1 < 0 then f_X6_read_49 a1 (0 : Int32) h6 else (if (3 : Int32) < a1 then f_X6_read_49 a1 (0 : Int32) h6 else f_X6_read_49 a1 (1 : Int32) h6))
set_option maxHeartbeats 4000000 in
set_option maxRecDepth 100000 in
theorem s_X6_read  (a1 : Int32) (a2 : Int32) (a3 : Int32) (h : zHp) : Fn wX mX6_read 62 rI [.ref 145, .int a1, .int a2, .int a3] h (f_X6_read a1 a2 a3 h) := by
  refine Fn.of rfl (Nat.le_of_ble_eq_true rfl) ?_
  unfold f_X6_read
  refine Sim.aload_n 0 dX6_read_0 rfl ?_
  refine Sim.iconst (v := (0 : Int32)) dX6_read_1 rfl ?_
  refine Sim.put fp_X6_60 dX6_read_2 xI_145_12 rfl rfl ?_
  refine Sim.lth (fun h1 => ?_)
  refine Sim.aload_n 0 dX6_read_5 rfl ?_
  refine Sim.iconst (v := (-1 : Int32)) dX6_read_6 rfl ?_
  refine Sim.put fp_X6_63 dX6_read_7 xI_145_13 rfl rfl ?_
  refine Sim.lth (fun h2 => ?_)
  refine Sim.aload_n 0 dX6_read_10 rfl ?_
  refine Sim.getR (j := 150) fl_X6_47 dX6_read_11 xR_145_10 ?_
  refine Sim.callV0U (d1 := 0) (s_X1_clear 150 xL_X1_150 h2) dX6_read_14 ml_X6_66 mv_X1_clear (xOC_X1 _ xL_X1_150) (Nat.le_of_ble_eq_true rfl) (Nat.le_of_ble_eq_true rfl) (Nat.le_of_ble_eq_true rfl) (fun x3 => ?_)
  refine Sim.aload_n 0 dX6_read_17 rfl ?_
  refine Sim.getR (j := 157) fl_X6_56 dX6_read_18 xR_145_11 ?_
  refine Sim.iconst (v := (0 : Int32)) dX6_read_21 rfl ?_
  refine Sim.put fp_X6_69 dX6_read_22 (xI_X2_2 _ xL_X2_157) rfl rfl ?_
  refine Sim.lth (fun h4 => ?_)
  refine Sim.aload_n 0 dX6_read_25 rfl ?_
  refine Sim.iload_n 2 dX6_read_26 rfl ?_
  refine Sim.put fp_X6_38 dX6_read_27 xI_145_8 rfl rfl ?_
  refine Sim.lth (fun h5 => ?_)
  refine Sim.aload_n 0 dX6_read_30 rfl ?_
  refine Sim.iload_n 3 dX6_read_31 rfl ?_
  refine Sim.put fp_X6_41 dX6_read_32 xI_145_9 rfl rfl ?_
  refine Sim.lth (fun h6 => ?_)
  refine Sim.iload_n 1 dX6_read_35 rfl ?_
  refine Sim.if_lt 48 dX6_read_36 rfl ?_ ?_
  · refine Sim.iconst (v := (0 : Int32)) dX6_read_48 rfl ?_
    refine Sim.locs [0, 1] rfl ?_
    exact f_X6_read_49_s a1 (0 : Int32) h6
  · refine Sim.iload_n 1 dX6_read_39 rfl ?_
    refine Sim.iconst (v := (3 : Int32)) dX6_read_40 rfl ?_
    refine Sim.icmp_gt 48 dX6_read_41 rfl ?_ ?_
    · refine Sim.iconst (v := (0 : Int32)) dX6_read_48 rfl ?_
      refine Sim.locs [0, 1] rfl ?_
      exact f_X6_read_49_s a1 (0 : Int32) h6
    · refine Sim.iconst (v := (1 : Int32)) dX6_read_44 rfl ?_
      refine Sim.goto 49 dX6_read_45 rfl ?_
      refine Sim.locs [0, 1] rfl ?_
      exact f_X6_read_49_s a1 (1 : Int32) h6
theorem mv_X6_read : zMV mX6_read 3 := ⟨⟨zTb_in 767 (by decide +kernel) rfl, zTb_in 145 (by decide +kernel) rfl, ⟨by decide +kernel, by decide +kernel⟩, by decide +kernel⟩, zTb_in 765 (by decide +kernel) rfl, zTb_in 766 (by decide +kernel) rfl⟩
-- ===== RockingPorch$Row.clear()I
abbrev mX7_clear : zMt := (yX7_clear, cX7_clear, 1, some .int)
theorem fp_X7_9 : zFp RX7 9 7 1 .int := ⟨RX7, TX7, 2, tyX7, rfl, Nat.le_of_ble_eq_true rfl, zTb_in 317 (by decide +kernel) rfl, in_X7, tyX7_ok, nmX7, rfl, rfl⟩
theorem dX7_clear_0 : decode cX7_clear 0 = .ok (.aload_n 0, 1) := by decide +kernel
theorem dX7_clear_1 : decode cX7_clear 1 = .ok (.iconst 0, 1) := by decide +kernel
theorem dX7_clear_2 : decode cX7_clear 2 = .ok (.putfield 9, 3) := by decide +kernel
theorem dX7_clear_5 : decode cX7_clear 5 = .ok (.iconst 0, 1) := by decide +kernel
theorem dX7_clear_6 : decode cX7_clear 6 = .ok (.ireturn, 1) := by decide +kernel
def f_X7_clear (o : Nat)  (h : zHp) : Option (Int32 × zHp) := zlt (zst h o 1 (0 : Int32)) fun h1 => some ((0 : Int32), h1)
set_option maxHeartbeats 4000000 in
set_option maxRecDepth 100000 in
theorem s_X7_clear (o : Nat) (ho : o ∈ xRow)  (h : zHp) : Fn wX mX7_clear 0 rI [.ref o] h (f_X7_clear o h) := by
  refine Fn.of rfl (Nat.le_of_ble_eq_true rfl) ?_
  unfold f_X7_clear
  refine Sim.aload_n 0 dX7_clear_0 rfl ?_
  refine Sim.iconst (v := (0 : Int32)) dX7_clear_1 rfl ?_
  refine Sim.put fp_X7_9 dX7_clear_2 (xI_X7_1 _ ho) rfl rfl ?_
  refine Sim.lth (fun h1 => ?_)
  refine Sim.iconst (v := (0 : Int32)) dX7_clear_5 rfl ?_
  exact Sim.iret dX7_clear_6 rfl
theorem mv_X7_clear : zMV mX7_clear 0 := ⟨⟨zTb_in 1039 (by decide +kernel) rfl, zTb_in 143 (by decide +kernel) rfl, ⟨by decide +kernel, by decide +kernel⟩, by decide +kernel⟩, zTb_in 1037 (by decide +kernel) rfl, zTb_in 1038 (by decide +kernel) rfl⟩
-- ===== RockingPorch$Row.add(I)I
abbrev mX7_add : zMt := (yX7_add, cX7_add, 2, some .int)
theorem dX7_add_0 : decode cX7_add 0 = .ok (.aload_n 0, 1) := by decide +kernel
theorem dX7_add_1 : decode cX7_add 1 = .ok (.getfield 9, 3) := by decide +kernel
theorem dX7_add_4 : decode cX7_add 4 = .ok (.aload_n 0, 1) := by decide +kernel
theorem dX7_add_5 : decode cX7_add 5 = .ok (.getfield 15, 3) := by decide +kernel
theorem dX7_add_8 : decode cX7_add 8 = .ok (.arraylength, 1) := by decide +kernel
theorem dX7_add_9 : decode cX7_add 9 = .ok (.if_icmp .lt 5, 3) := by decide +kernel
theorem dX7_add_12 : decode cX7_add 12 = .ok (.iconst (-1), 1) := by decide +kernel
theorem dX7_add_13 : decode cX7_add 13 = .ok (.ireturn, 1) := by decide +kernel
theorem dX7_add_14 : decode cX7_add 14 = .ok (.aload_n 0, 1) := by decide +kernel
theorem dX7_add_15 : decode cX7_add 15 = .ok (.getfield 15, 3) := by decide +kernel
theorem dX7_add_18 : decode cX7_add 18 = .ok (.aload_n 0, 1) := by decide +kernel
theorem dX7_add_19 : decode cX7_add 19 = .ok (.getfield 9, 3) := by decide +kernel
theorem dX7_add_22 : decode cX7_add 22 = .ok (.iload_n 1, 1) := by decide +kernel
theorem dX7_add_23 : decode cX7_add 23 = .ok (.iastore, 1) := by decide +kernel
theorem dX7_add_24 : decode cX7_add 24 = .ok (.aload_n 0, 1) := by decide +kernel
theorem dX7_add_25 : decode cX7_add 25 = .ok (.dup, 1) := by decide +kernel
theorem dX7_add_26 : decode cX7_add 26 = .ok (.getfield 9, 3) := by decide +kernel
theorem dX7_add_29 : decode cX7_add 29 = .ok (.iconst 1, 1) := by decide +kernel
theorem dX7_add_30 : decode cX7_add 30 = .ok (.iadd, 1) := by decide +kernel
theorem dX7_add_31 : decode cX7_add 31 = .ok (.putfield 9, 3) := by decide +kernel
theorem dX7_add_34 : decode cX7_add 34 = .ok (.aload_n 0, 1) := by decide +kernel
theorem dX7_add_35 : decode cX7_add 35 = .ok (.getfield 9, 3) := by decide +kernel
theorem dX7_add_38 : decode cX7_add 38 = .ok (.ireturn, 1) := by decide +kernel
def f_X7_add (o : Nat) (a1 : Int32) (h : zHp) : Option (Int32 × zHp) := (if (h o 1) < (Int32.ofNat (zln wX (o + 1))) then zix (h o 1) (zln wX (o + 1)) (zlt (zst h (o + 1) (h o 1).toNatClampNeg a1) fun h1 => zlt (zst h1 o 1 ((h1 o 1) + (1 : Int32))) fun h2 => some ((h2 o 1), h2)) else some ((-1 : Int32), h))
set_option maxHeartbeats 4000000 in
set_option maxRecDepth 100000 in
theorem s_X7_add (o : Nat) (ho : o ∈ xRow) (a1 : Int32) (h : zHp) : Fn wX mX7_add 0 rI [.ref o, .int a1] h (f_X7_add o a1 h) := by
  refine Fn.of rfl (Nat.le_of_ble_eq_true rfl) ?_
  unfold f_X7_add
  refine Sim.aload_n 0 dX7_add_0 rfl ?_
  refine Sim.getI fl_X7_9 dX7_add_1 (xI_X7_1 _ ho) ?_
  refine Sim.aload_n 0 dX7_add_4 rfl ?_
  refine Sim.getR (j := (o + 1)) fl_X7_15 dX7_add_5 (xR_X7_0 _ ho) ?_
  refine Sim.alen (n := (zln wX (o + 1))) dX7_add_8 (xA_X7_0 _ ho) ?_
  refine Sim.icmp_lt 14 dX7_add_9 rfl ?_ ?_
  · refine Sim.aload_n 0 dX7_add_14 rfl ?_
    refine Sim.getR (j := (o + 1)) fl_X7_15 dX7_add_15 (xR_X7_0 _ ho) ?_
    refine Sim.aload_n 0 dX7_add_18 rfl ?_
    refine Sim.getI fl_X7_9 dX7_add_19 (xI_X7_1 _ ho) ?_
    refine Sim.iload_n 1 dX7_add_22 rfl ?_
    refine Sim.iast (n := (zln wX (o + 1))) dX7_add_23 (xA_X7_0 _ ho) ?_
    refine Sim.lth (fun h1 => ?_)
    refine Sim.aload_n 0 dX7_add_24 rfl ?_
    refine Sim.dup dX7_add_25 rfl ?_
    refine Sim.getI fl_X7_9 dX7_add_26 (xI_X7_1 _ ho) ?_
    refine Sim.iconst (v := (1 : Int32)) dX7_add_29 rfl ?_
    refine Sim.iadd dX7_add_30 ?_
    refine Sim.put fp_X7_9 dX7_add_31 (xI_X7_1 _ ho) rfl rfl ?_
    refine Sim.lth (fun h2 => ?_)
    refine Sim.aload_n 0 dX7_add_34 rfl ?_
    refine Sim.getI fl_X7_9 dX7_add_35 (xI_X7_1 _ ho) ?_
    exact Sim.iret dX7_add_38 rfl
  · refine Sim.iconst (v := (-1 : Int32)) dX7_add_12 rfl ?_
    exact Sim.iret dX7_add_13 rfl
theorem mv_X7_add : zMV mX7_add 1 := ⟨⟨zTb_in 1046 (by decide +kernel) rfl, zTb_in 143 (by decide +kernel) rfl, ⟨by decide +kernel, by decide +kernel⟩, by decide +kernel⟩, zTb_in 1044 (by decide +kernel) rfl, zTb_in 1045 (by decide +kernel) rfl⟩
-- ===== RockingPorch$Row.addUnlike(I)I
abbrev mX7_addUnlike : zMt := (yX7_addUnlike, cX7_addUnlike, 3, some .int)
theorem ml_X7_19 : Cond.methodLink RX7 19 yX7_add ∈ zTb := zTb_in 1097 (by decide +kernel) rfl
theorem dX7_addUnlike_0 : decode cX7_addUnlike 0 = .ok (.iconst 0, 1) := by decide +kernel
theorem dX7_addUnlike_1 : decode cX7_addUnlike 1 = .ok (.istore_n 2, 1) := by decide +kernel
theorem dX7_addUnlike_2 : decode cX7_addUnlike 2 = .ok (.iload_n 2, 1) := by decide +kernel
theorem dX7_addUnlike_3 : decode cX7_addUnlike 3 = .ok (.aload_n 0, 1) := by decide +kernel
theorem dX7_addUnlike_4 : decode cX7_addUnlike 4 = .ok (.getfield 9, 3) := by decide +kernel
theorem dX7_addUnlike_7 : decode cX7_addUnlike 7 = .ok (.if_icmp .ge 30, 3) := by decide +kernel
theorem dX7_addUnlike_10 : decode cX7_addUnlike 10 = .ok (.iload_n 2, 1) := by decide +kernel
theorem dX7_addUnlike_11 : decode cX7_addUnlike 11 = .ok (.aload_n 0, 1) := by decide +kernel
theorem dX7_addUnlike_12 : decode cX7_addUnlike 12 = .ok (.getfield 15, 3) := by decide +kernel
theorem dX7_addUnlike_15 : decode cX7_addUnlike 15 = .ok (.arraylength, 1) := by decide +kernel
theorem dX7_addUnlike_16 : decode cX7_addUnlike 16 = .ok (.if_icmp .ge 21, 3) := by decide +kernel
theorem dX7_addUnlike_19 : decode cX7_addUnlike 19 = .ok (.aload_n 0, 1) := by decide +kernel
theorem dX7_addUnlike_20 : decode cX7_addUnlike 20 = .ok (.getfield 15, 3) := by decide +kernel
theorem dX7_addUnlike_23 : decode cX7_addUnlike 23 = .ok (.iload_n 2, 1) := by decide +kernel
theorem dX7_addUnlike_24 : decode cX7_addUnlike 24 = .ok (.iaload, 1) := by decide +kernel
theorem dX7_addUnlike_25 : decode cX7_addUnlike 25 = .ok (.iload_n 1, 1) := by decide +kernel
theorem dX7_addUnlike_26 : decode cX7_addUnlike 26 = .ok (.if_icmp .ne 5, 3) := by decide +kernel
theorem dX7_addUnlike_29 : decode cX7_addUnlike 29 = .ok (.iconst (-1), 1) := by decide +kernel
theorem dX7_addUnlike_30 : decode cX7_addUnlike 30 = .ok (.ireturn, 1) := by decide +kernel
theorem dX7_addUnlike_31 : decode cX7_addUnlike 31 = .ok (.iinc 2 1, 3) := by decide +kernel
theorem dX7_addUnlike_34 : decode cX7_addUnlike 34 = .ok (.goto (-32), 3) := by decide +kernel
theorem dX7_addUnlike_37 : decode cX7_addUnlike 37 = .ok (.aload_n 0, 1) := by decide +kernel
theorem dX7_addUnlike_38 : decode cX7_addUnlike 38 = .ok (.iload_n 1, 1) := by decide +kernel
theorem dX7_addUnlike_39 : decode cX7_addUnlike 39 = .ok (.invokevirtual 19, 3) := by decide +kernel
theorem dX7_addUnlike_42 : decode cX7_addUnlike 42 = .ok (.ireturn, 1) := by decide +kernel
def f_X7_addUnlike_2 (o : Nat) (k2 : Int32 × Int32 × zHp → Option (Int32 × zHp)) (v1 : Int32) (v2 : Int32) (h : zHp) : Option (Int32 × zHp) := (if v2 < (h o 1) then (if v2 < (Int32.ofNat (zln wX (o + 1))) then zix v2 (zln wX (o + 1)) ((if (h (o + 1) v2.toNatClampNeg) = v1 then some ((-1 : Int32), h) else k2 (v1, (v2 + (1 : Int32)), h))) else (f_X7_add o v1 h).bind fun x1 => some (x1.1, x1.2)) else (f_X7_add o v1 h).bind fun x2 => some (x2.1, x2.2))
set_option maxHeartbeats 4000000 in
set_option maxRecDepth 100000 in
theorem f_X7_addUnlike_2_s (o : Nat) (ho : o ∈ xRow) (k2 : Int32 × Int32 × zHp → Option (Int32 × zHp)) (H2 : ∀ v : Int32 × Int32 × zHp, Sim wX mX7_addUnlike 1 rI 2 [(0, .ref o), (1, .int v.1), (2, .int v.2.1)] [] v.2.2 (k2 v)) (v1 : Int32) (v2 : Int32) (h : zHp) : Sim wX mX7_addUnlike 1 rI 2 [(0, .ref o), (1, .int v1), (2, .int v2)] [] h (f_X7_addUnlike_2 o k2 v1 v2 h) := by
  unfold f_X7_addUnlike_2
  refine Sim.iload_n 2 dX7_addUnlike_2 rfl ?_
  refine Sim.aload_n 0 dX7_addUnlike_3 rfl ?_
  refine Sim.getI fl_X7_9 dX7_addUnlike_4 (xI_X7_1 _ ho) ?_
  refine Sim.icmp_ge 37 dX7_addUnlike_7 rfl ?_ ?_
  · refine Sim.iload_n 2 dX7_addUnlike_10 rfl ?_
    refine Sim.aload_n 0 dX7_addUnlike_11 rfl ?_
    refine Sim.getR (j := (o + 1)) fl_X7_15 dX7_addUnlike_12 (xR_X7_0 _ ho) ?_
    refine Sim.alen (n := (zln wX (o + 1))) dX7_addUnlike_15 (xA_X7_0 _ ho) ?_
    refine Sim.icmp_ge 37 dX7_addUnlike_16 rfl ?_ ?_
    · refine Sim.aload_n 0 dX7_addUnlike_19 rfl ?_
      refine Sim.getR (j := (o + 1)) fl_X7_15 dX7_addUnlike_20 (xR_X7_0 _ ho) ?_
      refine Sim.iload_n 2 dX7_addUnlike_23 rfl ?_
      refine Sim.iald (n := (zln wX (o + 1))) dX7_addUnlike_24 (xA_X7_0 _ ho) ?_
      refine Sim.iload_n 1 dX7_addUnlike_25 rfl ?_
      refine Sim.icmp_ne 31 dX7_addUnlike_26 rfl ?_ ?_
      · refine Sim.iconst (v := (-1 : Int32)) dX7_addUnlike_29 rfl ?_
        exact Sim.iret dX7_addUnlike_30 rfl
      · refine Sim.iinc (L' := [(2, .int (v2 + (1 : Int32))), (0, .ref o), (1, .int v1)]) 2 dX7_addUnlike_31 rfl rfl (Nat.le_of_ble_eq_true rfl) rfl ?_
        refine Sim.goto 2 dX7_addUnlike_34 rfl ?_
        refine Sim.locs [1, 2, 0] rfl ?_
        exact H2 (v1, (v2 + (1 : Int32)), h)
    · refine Sim.aload_n 0 dX7_addUnlike_37 rfl ?_
      refine Sim.iload_n 1 dX7_addUnlike_38 rfl ?_
      refine Sim.callV1I (d1 := 0) (s_X7_add o ho v1 h) dX7_addUnlike_39 ml_X7_19 mv_X7_add (xOC_X7 _ ho) (Nat.le_of_ble_eq_true rfl) (Nat.le_of_ble_eq_true rfl) (Nat.le_of_ble_eq_true rfl) (fun x1 => ?_)
      exact Sim.iret dX7_addUnlike_42 rfl
  · refine Sim.aload_n 0 dX7_addUnlike_37 rfl ?_
    refine Sim.iload_n 1 dX7_addUnlike_38 rfl ?_
    refine Sim.callV1I (d1 := 0) (s_X7_add o ho v1 h) dX7_addUnlike_39 ml_X7_19 mv_X7_add (xOC_X7 _ ho) (Nat.le_of_ble_eq_true rfl) (Nat.le_of_ble_eq_true rfl) (Nat.le_of_ble_eq_true rfl) (fun x2 => ?_)
    exact Sim.iret dX7_addUnlike_42 rfl
def f_X7_addUnlike_2_lp (o : Nat)  (n : Nat) (v : Int32 × Int32 × zHp) : Option (Int32 × zHp) := zlp (fun k2 v => f_X7_addUnlike_2 o k2 v.1 v.2.1 v.2.2) n v
theorem f_X7_addUnlike_2_ls (o : Nat) (ho : o ∈ xRow) (n : Nat) (v : Int32 × Int32 × zHp) : Sim wX mX7_addUnlike 1 rI 2 [(0, .ref o), (1, .int v.1), (2, .int v.2.1)] [] v.2.2 (f_X7_addUnlike_2_lp o n v) :=
  Sim.lp (V := Int32 × Int32 × zHp) (Lf := fun v => [(0, .ref o), (1, .int v.1), (2, .int v.2.1)]) (sf := fun v => []) (hf := fun v => v.2.2) (fun k2 H2 v => f_X7_addUnlike_2_s o ho k2 H2 v.1 v.2.1 v.2.2) n v
def f_X7_addUnlike (o : Nat) (a1 : Int32) (h : zHp) : Option (Int32 × zHp) := f_X7_addUnlike_2_lp o zN (a1, (0 : Int32), h)
set_option maxHeartbeats 4000000 in
set_option maxRecDepth 100000 in
theorem s_X7_addUnlike (o : Nat) (ho : o ∈ xRow) (a1 : Int32) (h : zHp) : Fn wX mX7_addUnlike 1 rI [.ref o, .int a1] h (f_X7_addUnlike o a1 h) := by
  refine Fn.of rfl (Nat.le_of_ble_eq_true rfl) ?_
  unfold f_X7_addUnlike
  refine Sim.iconst (v := (0 : Int32)) dX7_addUnlike_0 rfl ?_
  refine Sim.istore_n (L' := [(2, .int (0 : Int32)), (0, .ref o), (1, .int a1)]) dX7_addUnlike_1 (Nat.le_of_ble_eq_true rfl) rfl ?_
  refine Sim.locs [1, 2, 0] rfl ?_
  exact f_X7_addUnlike_2_ls o ho zN (a1, (0 : Int32), h)
theorem mv_X7_addUnlike : zMV mX7_addUnlike 1 := ⟨⟨zTb_in 1096 (by decide +kernel) rfl, zTb_in 143 (by decide +kernel) rfl, ⟨by decide +kernel, by decide +kernel⟩, by decide +kernel⟩, zTb_in 1094 (by decide +kernel) rfl, zTb_in 1095 (by decide +kernel) rfl⟩
-- ===== RockingPorch$Row.greatest()I
abbrev mX7_greatest : zMt := (yX7_greatest, cX7_greatest, 3, some .int)
theorem ml_X7_23 : Cond.methodLink RX7 23 Lib.Math.max.name ∈ zTb := zTb_in 1163 (by decide +kernel) rfl
theorem dX7_greatest_0 : decode cX7_greatest 0 = .ok (.iconst 0, 1) := by decide +kernel
theorem dX7_greatest_1 : decode cX7_greatest 1 = .ok (.istore_n 1, 1) := by decide +kernel
theorem dX7_greatest_2 : decode cX7_greatest 2 = .ok (.iconst 0, 1) := by decide +kernel
theorem dX7_greatest_3 : decode cX7_greatest 3 = .ok (.istore_n 2, 1) := by decide +kernel
theorem dX7_greatest_4 : decode cX7_greatest 4 = .ok (.iload_n 2, 1) := by decide +kernel
theorem dX7_greatest_5 : decode cX7_greatest 5 = .ok (.aload_n 0, 1) := by decide +kernel
theorem dX7_greatest_6 : decode cX7_greatest 6 = .ok (.getfield 9, 3) := by decide +kernel
theorem dX7_greatest_9 : decode cX7_greatest 9 = .ok (.if_icmp .ge 29, 3) := by decide +kernel
theorem dX7_greatest_12 : decode cX7_greatest 12 = .ok (.iload_n 2, 1) := by decide +kernel
theorem dX7_greatest_13 : decode cX7_greatest 13 = .ok (.aload_n 0, 1) := by decide +kernel
theorem dX7_greatest_14 : decode cX7_greatest 14 = .ok (.getfield 15, 3) := by decide +kernel
theorem dX7_greatest_17 : decode cX7_greatest 17 = .ok (.arraylength, 1) := by decide +kernel
theorem dX7_greatest_18 : decode cX7_greatest 18 = .ok (.if_icmp .ge 20, 3) := by decide +kernel
theorem dX7_greatest_21 : decode cX7_greatest 21 = .ok (.iload_n 1, 1) := by decide +kernel
theorem dX7_greatest_22 : decode cX7_greatest 22 = .ok (.aload_n 0, 1) := by decide +kernel
theorem dX7_greatest_23 : decode cX7_greatest 23 = .ok (.getfield 15, 3) := by decide +kernel
theorem dX7_greatest_26 : decode cX7_greatest 26 = .ok (.iload_n 2, 1) := by decide +kernel
theorem dX7_greatest_27 : decode cX7_greatest 27 = .ok (.iaload, 1) := by decide +kernel
theorem dX7_greatest_28 : decode cX7_greatest 28 = .ok (.invokestatic 23, 3) := by decide +kernel
theorem dX7_greatest_31 : decode cX7_greatest 31 = .ok (.istore_n 1, 1) := by decide +kernel
theorem dX7_greatest_32 : decode cX7_greatest 32 = .ok (.iinc 2 1, 3) := by decide +kernel
theorem dX7_greatest_35 : decode cX7_greatest 35 = .ok (.goto (-31), 3) := by decide +kernel
theorem dX7_greatest_38 : decode cX7_greatest 38 = .ok (.iload_n 1, 1) := by decide +kernel
theorem dX7_greatest_39 : decode cX7_greatest 39 = .ok (.ireturn, 1) := by decide +kernel
def f_X7_greatest_4 (o : Nat) (k4 : Int32 × Int32 × zHp → Option (Int32 × zHp)) (v1 : Int32) (v2 : Int32) (h : zHp) : Option (Int32 × zHp) := (if v2 < (h o 1) then (if v2 < (Int32.ofNat (zln wX (o + 1))) then zix v2 (zln wX (o + 1)) (zlt (if v1 < (h (o + 1) v2.toNatClampNeg) then (h (o + 1) v2.toNatClampNeg) else v1) fun x1 => k4 (x1, (v2 + (1 : Int32)), h)) else some (v1, h)) else some (v1, h))
set_option maxHeartbeats 4000000 in
set_option maxRecDepth 100000 in
theorem f_X7_greatest_4_s (o : Nat) (ho : o ∈ xRow) (k4 : Int32 × Int32 × zHp → Option (Int32 × zHp)) (H4 : ∀ v : Int32 × Int32 × zHp, Sim wX mX7_greatest 1 rI 4 [(0, .ref o), (1, .int v.1), (2, .int v.2.1)] [] v.2.2 (k4 v)) (v1 : Int32) (v2 : Int32) (h : zHp) : Sim wX mX7_greatest 1 rI 4 [(0, .ref o), (1, .int v1), (2, .int v2)] [] h (f_X7_greatest_4 o k4 v1 v2 h) := by
  unfold f_X7_greatest_4
  refine Sim.iload_n 2 dX7_greatest_4 rfl ?_
  refine Sim.aload_n 0 dX7_greatest_5 rfl ?_
  refine Sim.getI fl_X7_9 dX7_greatest_6 (xI_X7_1 _ ho) ?_
  refine Sim.icmp_ge 38 dX7_greatest_9 rfl ?_ ?_
  · refine Sim.iload_n 2 dX7_greatest_12 rfl ?_
    refine Sim.aload_n 0 dX7_greatest_13 rfl ?_
    refine Sim.getR (j := (o + 1)) fl_X7_15 dX7_greatest_14 (xR_X7_0 _ ho) ?_
    refine Sim.alen (n := (zln wX (o + 1))) dX7_greatest_17 (xA_X7_0 _ ho) ?_
    refine Sim.icmp_ge 38 dX7_greatest_18 rfl ?_ ?_
    · refine Sim.iload_n 1 dX7_greatest_21 rfl ?_
      refine Sim.aload_n 0 dX7_greatest_22 rfl ?_
      refine Sim.getR (j := (o + 1)) fl_X7_15 dX7_greatest_23 (xR_X7_0 _ ho) ?_
      refine Sim.iload_n 2 dX7_greatest_26 rfl ?_
      refine Sim.iald (n := (zln wX (o + 1))) dX7_greatest_27 (xA_X7_0 _ ho) ?_
      refine Sim.mmax dX7_greatest_28 ml_X7_23 ms_max ms_Math mc_max (Nat.le_of_ble_eq_true rfl) (Nat.le_of_ble_eq_true rfl) ?_
      refine Sim.lti (fun x1 => ?_)
      refine Sim.istore_n (L' := [(1, .int x1), (0, .ref o), (2, .int v2)]) dX7_greatest_31 (Nat.le_of_ble_eq_true rfl) rfl ?_
      refine Sim.iinc (L' := [(2, .int (v2 + (1 : Int32))), (1, .int x1), (0, .ref o)]) 2 dX7_greatest_32 rfl rfl (Nat.le_of_ble_eq_true rfl) rfl ?_
      refine Sim.goto 4 dX7_greatest_35 rfl ?_
      refine Sim.locs [2, 1, 0] rfl ?_
      exact H4 (x1, (v2 + (1 : Int32)), h)
    · refine Sim.iload_n 1 dX7_greatest_38 rfl ?_
      exact Sim.iret dX7_greatest_39 rfl
  · refine Sim.iload_n 1 dX7_greatest_38 rfl ?_
    exact Sim.iret dX7_greatest_39 rfl
def f_X7_greatest_4_lp (o : Nat)  (n : Nat) (v : Int32 × Int32 × zHp) : Option (Int32 × zHp) := zlp (fun k4 v => f_X7_greatest_4 o k4 v.1 v.2.1 v.2.2) n v
theorem f_X7_greatest_4_ls (o : Nat) (ho : o ∈ xRow) (n : Nat) (v : Int32 × Int32 × zHp) : Sim wX mX7_greatest 1 rI 4 [(0, .ref o), (1, .int v.1), (2, .int v.2.1)] [] v.2.2 (f_X7_greatest_4_lp o n v) :=
  Sim.lp (V := Int32 × Int32 × zHp) (Lf := fun v => [(0, .ref o), (1, .int v.1), (2, .int v.2.1)]) (sf := fun v => []) (hf := fun v => v.2.2) (fun k4 H4 v => f_X7_greatest_4_s o ho k4 H4 v.1 v.2.1 v.2.2) n v
def f_X7_greatest (o : Nat)  (h : zHp) : Option (Int32 × zHp) := f_X7_greatest_4_lp o zN ((0 : Int32), (0 : Int32), h)
set_option maxHeartbeats 4000000 in
set_option maxRecDepth 100000 in
theorem s_X7_greatest (o : Nat) (ho : o ∈ xRow)  (h : zHp) : Fn wX mX7_greatest 1 rI [.ref o] h (f_X7_greatest o h) := by
  refine Fn.of rfl (Nat.le_of_ble_eq_true rfl) ?_
  unfold f_X7_greatest
  refine Sim.iconst (v := (0 : Int32)) dX7_greatest_0 rfl ?_
  refine Sim.istore_n (L' := [(1, .int (0 : Int32)), (0, .ref o)]) dX7_greatest_1 (Nat.le_of_ble_eq_true rfl) rfl ?_
  refine Sim.iconst (v := (0 : Int32)) dX7_greatest_2 rfl ?_
  refine Sim.istore_n (L' := [(2, .int (0 : Int32)), (1, .int (0 : Int32)), (0, .ref o)]) dX7_greatest_3 (Nat.le_of_ble_eq_true rfl) rfl ?_
  refine Sim.locs [2, 1, 0] rfl ?_
  exact f_X7_greatest_4_ls o ho zN ((0 : Int32), (0 : Int32), h)
theorem mv_X7_greatest : zMV mX7_greatest 0 := ⟨⟨zTb_in 1162 (by decide +kernel) rfl, zTb_in 143 (by decide +kernel) rfl, ⟨by decide +kernel, by decide +kernel⟩, by decide +kernel⟩, zTb_in 1160 (by decide +kernel) rfl, zTb_in 1161 (by decide +kernel) rfl⟩
-- ===== RockingPorch$Row.copyFrom(LRockingPorch$Row;)V
abbrev mX7_copyFrom : zMt := (yX7_copyFrom, cX7_copyFrom, 2, none)
theorem ml_X7_29 : Cond.methodLink RX7 29 arraycopyName ∈ zTb := zTb_in 1277 (by decide +kernel) rfl
theorem dX7_copyFrom_0 : decode cX7_copyFrom 0 = .ok (.aload_n 1, 1) := by decide +kernel
theorem dX7_copyFrom_1 : decode cX7_copyFrom 1 = .ok (.getfield 15, 3) := by decide +kernel
theorem dX7_copyFrom_4 : decode cX7_copyFrom 4 = .ok (.arraylength, 1) := by decide +kernel
theorem dX7_copyFrom_5 : decode cX7_copyFrom 5 = .ok (.aload_n 0, 1) := by decide +kernel
theorem dX7_copyFrom_6 : decode cX7_copyFrom 6 = .ok (.getfield 15, 3) := by decide +kernel
theorem dX7_copyFrom_9 : decode cX7_copyFrom 9 = .ok (.arraylength, 1) := by decide +kernel
theorem dX7_copyFrom_10 : decode cX7_copyFrom 10 = .ok (.if_icmp .ne 29, 3) := by decide +kernel
theorem dX7_copyFrom_13 : decode cX7_copyFrom 13 = .ok (.aload_n 1, 1) := by decide +kernel
theorem dX7_copyFrom_14 : decode cX7_copyFrom 14 = .ok (.getfield 15, 3) := by decide +kernel
theorem dX7_copyFrom_17 : decode cX7_copyFrom 17 = .ok (.iconst 0, 1) := by decide +kernel
theorem dX7_copyFrom_18 : decode cX7_copyFrom 18 = .ok (.aload_n 0, 1) := by decide +kernel
theorem dX7_copyFrom_19 : decode cX7_copyFrom 19 = .ok (.getfield 15, 3) := by decide +kernel
theorem dX7_copyFrom_22 : decode cX7_copyFrom 22 = .ok (.iconst 0, 1) := by decide +kernel
theorem dX7_copyFrom_23 : decode cX7_copyFrom 23 = .ok (.aload_n 0, 1) := by decide +kernel
theorem dX7_copyFrom_24 : decode cX7_copyFrom 24 = .ok (.getfield 15, 3) := by decide +kernel
theorem dX7_copyFrom_27 : decode cX7_copyFrom 27 = .ok (.arraylength, 1) := by decide +kernel
theorem dX7_copyFrom_28 : decode cX7_copyFrom 28 = .ok (.invokestatic 29, 3) := by decide +kernel
theorem dX7_copyFrom_31 : decode cX7_copyFrom 31 = .ok (.aload_n 0, 1) := by decide +kernel
theorem dX7_copyFrom_32 : decode cX7_copyFrom 32 = .ok (.aload_n 1, 1) := by decide +kernel
theorem dX7_copyFrom_33 : decode cX7_copyFrom 33 = .ok (.getfield 9, 3) := by decide +kernel
theorem dX7_copyFrom_36 : decode cX7_copyFrom 36 = .ok (.putfield 9, 3) := by decide +kernel
theorem dX7_copyFrom_39 : decode cX7_copyFrom 39 = .ok (.return_, 1) := by decide +kernel
def f_X7_copyFrom (o : Nat) (b1 : Nat)  (h : zHp) : Option (zHp) := (if (Int32.ofNat (zln wX (b1 + 1))) = (Int32.ofNat (zln wX (o + 1))) then zac (0 : Int32) (0 : Int32) (Int32.ofNat (zln wX (o + 1))) (zln wX (b1 + 1)) (zln wX (o + 1)) (zlt (zcp h (b1 + 1) (0 : Int32).toNatClampNeg (o + 1) (0 : Int32).toNatClampNeg (Int32.ofNat (zln wX (o + 1))).toNatClampNeg) fun h1 => zlt (zst h1 o 1 (h1 b1 1)) fun h2 => some h2) else some h)
set_option maxHeartbeats 4000000 in
set_option maxRecDepth 100000 in
theorem s_X7_copyFrom (o : Nat) (ho : o ∈ xRow) (b1 : Nat) (hb1 : b1 ∈ xRow)  (h : zHp) : Fn wX mX7_copyFrom 1 rV [.ref o, .ref b1] h (f_X7_copyFrom o b1 h) := by
  refine Fn.of rfl (Nat.le_of_ble_eq_true rfl) ?_
  unfold f_X7_copyFrom
  refine Sim.aload_n 1 dX7_copyFrom_0 rfl ?_
  refine Sim.getR (j := (b1 + 1)) fl_X7_15 dX7_copyFrom_1 (xR_X7_0 _ hb1) ?_
  refine Sim.alen (n := (zln wX (b1 + 1))) dX7_copyFrom_4 (xA_X7_0 _ hb1) ?_
  refine Sim.aload_n 0 dX7_copyFrom_5 rfl ?_
  refine Sim.getR (j := (o + 1)) fl_X7_15 dX7_copyFrom_6 (xR_X7_0 _ ho) ?_
  refine Sim.alen (n := (zln wX (o + 1))) dX7_copyFrom_9 (xA_X7_0 _ ho) ?_
  refine Sim.icmp_ne 39 dX7_copyFrom_10 rfl ?_ ?_
  · refine Sim.aload_n 1 dX7_copyFrom_13 rfl ?_
    refine Sim.getR (j := (b1 + 1)) fl_X7_15 dX7_copyFrom_14 (xR_X7_0 _ hb1) ?_
    refine Sim.iconst (v := (0 : Int32)) dX7_copyFrom_17 rfl ?_
    refine Sim.aload_n 0 dX7_copyFrom_18 rfl ?_
    refine Sim.getR (j := (o + 1)) fl_X7_15 dX7_copyFrom_19 (xR_X7_0 _ ho) ?_
    refine Sim.iconst (v := (0 : Int32)) dX7_copyFrom_22 rfl ?_
    refine Sim.aload_n 0 dX7_copyFrom_23 rfl ?_
    refine Sim.getR (j := (o + 1)) fl_X7_15 dX7_copyFrom_24 (xR_X7_0 _ ho) ?_
    refine Sim.alen (n := (zln wX (o + 1))) dX7_copyFrom_27 (xA_X7_0 _ ho) ?_
    refine Sim.acpy (n0 := (zln wX (b1 + 1))) (n1 := (zln wX (o + 1))) dX7_copyFrom_28 ml_X7_29 ac_n ac_s ac_i (xA_X7_0 _ hb1) (xA_X7_0 _ ho) (Nat.le_of_ble_eq_true rfl) (Nat.le_of_ble_eq_true rfl) ?_
    refine Sim.lth (fun h1 => ?_)
    refine Sim.aload_n 0 dX7_copyFrom_31 rfl ?_
    refine Sim.aload_n 1 dX7_copyFrom_32 rfl ?_
    refine Sim.getI fl_X7_9 dX7_copyFrom_33 (xI_X7_1 _ hb1) ?_
    refine Sim.put fp_X7_9 dX7_copyFrom_36 (xI_X7_1 _ ho) rfl rfl ?_
    refine Sim.lth (fun h2 => ?_)
    exact Sim.vret dX7_copyFrom_39 rfl
  · exact Sim.vret dX7_copyFrom_39 rfl
theorem mv_X7_copyFrom : zMV mX7_copyFrom 1 := ⟨⟨zTb_in 1276 (by decide +kernel) rfl, zTb_in 143 (by decide +kernel) rfl, ⟨by decide +kernel, by decide +kernel⟩, by decide +kernel⟩, zTb_in 1274 (by decide +kernel) rfl, zTb_in 1275 (by decide +kernel) rfl⟩
-- ===== RockingPorch$Told.pair(II)I
abbrev mX8_pair : zMt := (yX8_pair, cX8_pair, 2, some .int)
theorem dX8_pair_0 : decode cX8_pair 0 = .ok (.iload_n 0, 1) := by decide +kernel
theorem dX8_pair_1 : decode cX8_pair 1 = .ok (.bipush 32, 2) := by decide +kernel
theorem dX8_pair_3 : decode cX8_pair 3 = .ok (.imul, 1) := by decide +kernel
theorem dX8_pair_4 : decode cX8_pair 4 = .ok (.iload_n 1, 1) := by decide +kernel
theorem dX8_pair_5 : decode cX8_pair 5 = .ok (.iadd, 1) := by decide +kernel
theorem dX8_pair_6 : decode cX8_pair 6 = .ok (.ireturn, 1) := by decide +kernel
def f_X8_pair  (a1 : Int32) (a2 : Int32) (h : zHp) : Option (Int32 × zHp) := some (((a1 * (32 : Int32)) + a2), h)
set_option maxHeartbeats 4000000 in
set_option maxRecDepth 100000 in
theorem s_X8_pair  (a1 : Int32) (a2 : Int32) (h : zHp) : Fn wX mX8_pair 0 rI [.int a1, .int a2] h (f_X8_pair a1 a2 h) := by
  refine Fn.of rfl (Nat.le_of_ble_eq_true rfl) ?_
  unfold f_X8_pair
  refine Sim.iload_n 0 dX8_pair_0 rfl ?_
  refine Sim.bipush (v := (32 : Int32)) dX8_pair_1 rfl ?_
  refine Sim.imul dX8_pair_3 ?_
  refine Sim.iload_n 1 dX8_pair_4 rfl ?_
  refine Sim.iadd dX8_pair_5 ?_
  exact Sim.iret dX8_pair_6 rfl
theorem mv_X8_pair : zMS mX8_pair 2 := ⟨⟨zTb_in 1042 (by decide +kernel) rfl, zTb_in 142 (by decide +kernel) rfl, ⟨by decide +kernel, by decide +kernel⟩, by decide +kernel⟩, zTb_in 1041 (by decide +kernel) rfl⟩
-- ===== RockingPorch$Told.copyFrom(LRockingPorch$Told;)V
abbrev mX8_copyFrom : zMt := (yX8_copyFrom, cX8_copyFrom, 2, none)
theorem fl_X8_14 : zF RX8 14 8 0 := ⟨RX8, TX8, 7, rfl, Nat.le_of_ble_eq_true rfl, zTb_in 324 (by decide +kernel) rfl, in_X8⟩
theorem fl_X8_20 : zF RX8 20 8 1 := ⟨RX8, TX8, 7, rfl, Nat.le_of_ble_eq_true rfl, zTb_in 327 (by decide +kernel) rfl, in_X8⟩
theorem fl_X8_23 : zF RX8 23 8 2 := ⟨RX8, TX8, 7, rfl, Nat.le_of_ble_eq_true rfl, zTb_in 330 (by decide +kernel) rfl, in_X8⟩
theorem fl_X8_26 : zF RX8 26 8 3 := ⟨RX8, TX8, 7, rfl, Nat.le_of_ble_eq_true rfl, zTb_in 333 (by decide +kernel) rfl, in_X8⟩
theorem fl_X8_29 : zF RX8 29 8 4 := ⟨RX8, TX8, 7, rfl, Nat.le_of_ble_eq_true rfl, zTb_in 336 (by decide +kernel) rfl, in_X8⟩
theorem fl_X8_32 : zF RX8 32 8 5 := ⟨RX8, TX8, 7, rfl, Nat.le_of_ble_eq_true rfl, zTb_in 339 (by decide +kernel) rfl, in_X8⟩
theorem fl_X8_35 : zF RX8 35 8 6 := ⟨RX8, TX8, 7, rfl, Nat.le_of_ble_eq_true rfl, zTb_in 342 (by decide +kernel) rfl, in_X8⟩
theorem ml_X8_39 : Cond.methodLink RX8 39 yX7_copyFrom ∈ zTb := zTb_in 1273 (by decide +kernel) rfl
theorem ml_X8_43 : Cond.methodLink RX8 43 arraycopyName ∈ zTb := zTb_in 1278 (by decide +kernel) rfl
theorem dX8_copyFrom_0 : decode cX8_copyFrom 0 = .ok (.aload_n 0, 1) := by decide +kernel
theorem dX8_copyFrom_1 : decode cX8_copyFrom 1 = .ok (.getfield 14, 3) := by decide +kernel
theorem dX8_copyFrom_4 : decode cX8_copyFrom 4 = .ok (.aload_n 1, 1) := by decide +kernel
theorem dX8_copyFrom_5 : decode cX8_copyFrom 5 = .ok (.getfield 14, 3) := by decide +kernel
theorem dX8_copyFrom_8 : decode cX8_copyFrom 8 = .ok (.invokevirtual 39, 3) := by decide +kernel
theorem dX8_copyFrom_11 : decode cX8_copyFrom 11 = .ok (.aload_n 0, 1) := by decide +kernel
theorem dX8_copyFrom_12 : decode cX8_copyFrom 12 = .ok (.getfield 20, 3) := by decide +kernel
theorem dX8_copyFrom_15 : decode cX8_copyFrom 15 = .ok (.aload_n 1, 1) := by decide +kernel
theorem dX8_copyFrom_16 : decode cX8_copyFrom 16 = .ok (.getfield 20, 3) := by decide +kernel
theorem dX8_copyFrom_19 : decode cX8_copyFrom 19 = .ok (.invokevirtual 39, 3) := by decide +kernel
theorem dX8_copyFrom_22 : decode cX8_copyFrom 22 = .ok (.aload_n 0, 1) := by decide +kernel
theorem dX8_copyFrom_23 : decode cX8_copyFrom 23 = .ok (.getfield 23, 3) := by decide +kernel
theorem dX8_copyFrom_26 : decode cX8_copyFrom 26 = .ok (.aload_n 1, 1) := by decide +kernel
theorem dX8_copyFrom_27 : decode cX8_copyFrom 27 = .ok (.getfield 23, 3) := by decide +kernel
theorem dX8_copyFrom_30 : decode cX8_copyFrom 30 = .ok (.invokevirtual 39, 3) := by decide +kernel
theorem dX8_copyFrom_33 : decode cX8_copyFrom 33 = .ok (.aload_n 0, 1) := by decide +kernel
theorem dX8_copyFrom_34 : decode cX8_copyFrom 34 = .ok (.getfield 26, 3) := by decide +kernel
theorem dX8_copyFrom_37 : decode cX8_copyFrom 37 = .ok (.aload_n 1, 1) := by decide +kernel
theorem dX8_copyFrom_38 : decode cX8_copyFrom 38 = .ok (.getfield 26, 3) := by decide +kernel
theorem dX8_copyFrom_41 : decode cX8_copyFrom 41 = .ok (.invokevirtual 39, 3) := by decide +kernel
theorem dX8_copyFrom_44 : decode cX8_copyFrom 44 = .ok (.aload_n 0, 1) := by decide +kernel
theorem dX8_copyFrom_45 : decode cX8_copyFrom 45 = .ok (.getfield 29, 3) := by decide +kernel
theorem dX8_copyFrom_48 : decode cX8_copyFrom 48 = .ok (.aload_n 1, 1) := by decide +kernel
theorem dX8_copyFrom_49 : decode cX8_copyFrom 49 = .ok (.getfield 29, 3) := by decide +kernel
theorem dX8_copyFrom_52 : decode cX8_copyFrom 52 = .ok (.invokevirtual 39, 3) := by decide +kernel
theorem dX8_copyFrom_55 : decode cX8_copyFrom 55 = .ok (.aload_n 0, 1) := by decide +kernel
theorem dX8_copyFrom_56 : decode cX8_copyFrom 56 = .ok (.getfield 32, 3) := by decide +kernel
theorem dX8_copyFrom_59 : decode cX8_copyFrom 59 = .ok (.aload_n 1, 1) := by decide +kernel
theorem dX8_copyFrom_60 : decode cX8_copyFrom 60 = .ok (.getfield 32, 3) := by decide +kernel
theorem dX8_copyFrom_63 : decode cX8_copyFrom 63 = .ok (.invokevirtual 39, 3) := by decide +kernel
theorem dX8_copyFrom_66 : decode cX8_copyFrom 66 = .ok (.aload_n 1, 1) := by decide +kernel
theorem dX8_copyFrom_67 : decode cX8_copyFrom 67 = .ok (.getfield 35, 3) := by decide +kernel
theorem dX8_copyFrom_70 : decode cX8_copyFrom 70 = .ok (.iconst 0, 1) := by decide +kernel
theorem dX8_copyFrom_71 : decode cX8_copyFrom 71 = .ok (.aload_n 0, 1) := by decide +kernel
theorem dX8_copyFrom_72 : decode cX8_copyFrom 72 = .ok (.getfield 35, 3) := by decide +kernel
theorem dX8_copyFrom_75 : decode cX8_copyFrom 75 = .ok (.iconst 0, 1) := by decide +kernel
theorem dX8_copyFrom_76 : decode cX8_copyFrom 76 = .ok (.aload_n 0, 1) := by decide +kernel
theorem dX8_copyFrom_77 : decode cX8_copyFrom 77 = .ok (.getfield 35, 3) := by decide +kernel
theorem dX8_copyFrom_80 : decode cX8_copyFrom 80 = .ok (.arraylength, 1) := by decide +kernel
theorem dX8_copyFrom_81 : decode cX8_copyFrom 81 = .ok (.invokestatic 43, 3) := by decide +kernel
theorem dX8_copyFrom_84 : decode cX8_copyFrom 84 = .ok (.return_, 1) := by decide +kernel
def f_X8_copyFrom (o : Nat) (b1 : Nat)  (h : zHp) : Option (zHp) := (f_X7_copyFrom (o + 1) (b1 + 1) h).bind fun x1 => (f_X7_copyFrom (o + 3) (b1 + 3) x1).bind fun x2 => (f_X7_copyFrom (o + 5) (b1 + 5) x2).bind fun x3 => (f_X7_copyFrom (o + 7) (b1 + 7) x3).bind fun x4 => (f_X7_copyFrom (o + 9) (b1 + 9) x4).bind fun x5 => (f_X7_copyFrom (o + 11) (b1 + 11) x5).bind fun x6 => zac (0 : Int32) (0 : Int32) (Int32.ofNat 36) 36 36 (zlt (zcp x6 (b1 + 13) (0 : Int32).toNatClampNeg (o + 13) (0 : Int32).toNatClampNeg (Int32.ofNat 36).toNatClampNeg) fun h7 => some h7)
set_option maxHeartbeats 4000000 in
set_option maxRecDepth 100000 in
theorem s_X8_copyFrom (o : Nat) (ho : o ∈ xTold) (b1 : Nat) (hb1 : b1 ∈ xTold)  (h : zHp) : Fn wX mX8_copyFrom 2 rV [.ref o, .ref b1] h (f_X8_copyFrom o b1 h) := by
  refine Fn.of rfl (Nat.le_of_ble_eq_true rfl) ?_
  unfold f_X8_copyFrom
  refine Sim.aload_n 0 dX8_copyFrom_0 rfl ?_
  refine Sim.getR (j := (o + 1)) fl_X8_14 dX8_copyFrom_1 (xR_X8_0 _ ho) ?_
  refine Sim.aload_n 1 dX8_copyFrom_4 rfl ?_
  refine Sim.getR (j := (b1 + 1)) fl_X8_14 dX8_copyFrom_5 (xR_X8_0 _ hb1) ?_
  refine Sim.callV1U (d1 := 1) (s_X7_copyFrom (o + 1) (xC_X8_0 _ ho) (b1 + 1) (xC_X8_0 _ hb1) h) dX8_copyFrom_8 ml_X8_39 mv_X7_copyFrom (xOC_X7 _ (xC_X8_0 _ ho)) (Nat.le_of_ble_eq_true rfl) (Nat.le_of_ble_eq_true rfl) (Nat.le_of_ble_eq_true rfl) (fun x1 => ?_)
  refine Sim.aload_n 0 dX8_copyFrom_11 rfl ?_
  refine Sim.getR (j := (o + 3)) fl_X8_20 dX8_copyFrom_12 (xR_X8_1 _ ho) ?_
  refine Sim.aload_n 1 dX8_copyFrom_15 rfl ?_
  refine Sim.getR (j := (b1 + 3)) fl_X8_20 dX8_copyFrom_16 (xR_X8_1 _ hb1) ?_
  refine Sim.callV1U (d1 := 1) (s_X7_copyFrom (o + 3) (xC_X8_1 _ ho) (b1 + 3) (xC_X8_1 _ hb1) x1) dX8_copyFrom_19 ml_X8_39 mv_X7_copyFrom (xOC_X7 _ (xC_X8_1 _ ho)) (Nat.le_of_ble_eq_true rfl) (Nat.le_of_ble_eq_true rfl) (Nat.le_of_ble_eq_true rfl) (fun x2 => ?_)
  refine Sim.aload_n 0 dX8_copyFrom_22 rfl ?_
  refine Sim.getR (j := (o + 5)) fl_X8_23 dX8_copyFrom_23 (xR_X8_2 _ ho) ?_
  refine Sim.aload_n 1 dX8_copyFrom_26 rfl ?_
  refine Sim.getR (j := (b1 + 5)) fl_X8_23 dX8_copyFrom_27 (xR_X8_2 _ hb1) ?_
  refine Sim.callV1U (d1 := 1) (s_X7_copyFrom (o + 5) (xC_X8_2 _ ho) (b1 + 5) (xC_X8_2 _ hb1) x2) dX8_copyFrom_30 ml_X8_39 mv_X7_copyFrom (xOC_X7 _ (xC_X8_2 _ ho)) (Nat.le_of_ble_eq_true rfl) (Nat.le_of_ble_eq_true rfl) (Nat.le_of_ble_eq_true rfl) (fun x3 => ?_)
  refine Sim.aload_n 0 dX8_copyFrom_33 rfl ?_
  refine Sim.getR (j := (o + 7)) fl_X8_26 dX8_copyFrom_34 (xR_X8_3 _ ho) ?_
  refine Sim.aload_n 1 dX8_copyFrom_37 rfl ?_
  refine Sim.getR (j := (b1 + 7)) fl_X8_26 dX8_copyFrom_38 (xR_X8_3 _ hb1) ?_
  refine Sim.callV1U (d1 := 1) (s_X7_copyFrom (o + 7) (xC_X8_3 _ ho) (b1 + 7) (xC_X8_3 _ hb1) x3) dX8_copyFrom_41 ml_X8_39 mv_X7_copyFrom (xOC_X7 _ (xC_X8_3 _ ho)) (Nat.le_of_ble_eq_true rfl) (Nat.le_of_ble_eq_true rfl) (Nat.le_of_ble_eq_true rfl) (fun x4 => ?_)
  refine Sim.aload_n 0 dX8_copyFrom_44 rfl ?_
  refine Sim.getR (j := (o + 9)) fl_X8_29 dX8_copyFrom_45 (xR_X8_4 _ ho) ?_
  refine Sim.aload_n 1 dX8_copyFrom_48 rfl ?_
  refine Sim.getR (j := (b1 + 9)) fl_X8_29 dX8_copyFrom_49 (xR_X8_4 _ hb1) ?_
  refine Sim.callV1U (d1 := 1) (s_X7_copyFrom (o + 9) (xC_X8_4 _ ho) (b1 + 9) (xC_X8_4 _ hb1) x4) dX8_copyFrom_52 ml_X8_39 mv_X7_copyFrom (xOC_X7 _ (xC_X8_4 _ ho)) (Nat.le_of_ble_eq_true rfl) (Nat.le_of_ble_eq_true rfl) (Nat.le_of_ble_eq_true rfl) (fun x5 => ?_)
  refine Sim.aload_n 0 dX8_copyFrom_55 rfl ?_
  refine Sim.getR (j := (o + 11)) fl_X8_32 dX8_copyFrom_56 (xR_X8_5 _ ho) ?_
  refine Sim.aload_n 1 dX8_copyFrom_59 rfl ?_
  refine Sim.getR (j := (b1 + 11)) fl_X8_32 dX8_copyFrom_60 (xR_X8_5 _ hb1) ?_
  refine Sim.callV1U (d1 := 1) (s_X7_copyFrom (o + 11) (xC_X8_5 _ ho) (b1 + 11) (xC_X8_5 _ hb1) x5) dX8_copyFrom_63 ml_X8_39 mv_X7_copyFrom (xOC_X7 _ (xC_X8_5 _ ho)) (Nat.le_of_ble_eq_true rfl) (Nat.le_of_ble_eq_true rfl) (Nat.le_of_ble_eq_true rfl) (fun x6 => ?_)
  refine Sim.aload_n 1 dX8_copyFrom_66 rfl ?_
  refine Sim.getR (j := (b1 + 13)) fl_X8_35 dX8_copyFrom_67 (xR_X8_6 _ hb1) ?_
  refine Sim.iconst (v := (0 : Int32)) dX8_copyFrom_70 rfl ?_
  refine Sim.aload_n 0 dX8_copyFrom_71 rfl ?_
  refine Sim.getR (j := (o + 13)) fl_X8_35 dX8_copyFrom_72 (xR_X8_6 _ ho) ?_
  refine Sim.iconst (v := (0 : Int32)) dX8_copyFrom_75 rfl ?_
  refine Sim.aload_n 0 dX8_copyFrom_76 rfl ?_
  refine Sim.getR (j := (o + 13)) fl_X8_35 dX8_copyFrom_77 (xR_X8_6 _ ho) ?_
  refine Sim.alen (n := 36) dX8_copyFrom_80 (xA_X8_6 _ ho) ?_
  refine Sim.acpy (n0 := 36) (n1 := 36) dX8_copyFrom_81 ml_X8_43 ac_n ac_s ac_i (xA_X8_6 _ hb1) (xA_X8_6 _ ho) (Nat.le_of_ble_eq_true rfl) (Nat.le_of_ble_eq_true rfl) ?_
  refine Sim.lth (fun h7 => ?_)
  exact Sim.vret dX8_copyFrom_84 rfl
theorem mv_X8_copyFrom : zMV mX8_copyFrom 1 := ⟨⟨zTb_in 1272 (by decide +kernel) rfl, zTb_in 142 (by decide +kernel) rfl, ⟨by decide +kernel, by decide +kernel⟩, by decide +kernel⟩, zTb_in 1270 (by decide +kernel) rfl, zTb_in 1271 (by decide +kernel) rfl⟩
-- ===== RockingPorch$Whole.copyFrom(LRockingPorch$Whole;)V
abbrev mX9_copyFrom : zMt := (yX9_copyFrom, cX9_copyFrom, 2, none)
theorem fl_X9_14 : zF RX9 14 9 0 := ⟨RX9, TX9, 7, rfl, Nat.le_of_ble_eq_true rfl, zTb_in 360 (by decide +kernel) rfl, in_X9⟩
theorem fl_X9_25 : zF RX9 25 9 1 := ⟨RX9, TX9, 7, rfl, Nat.le_of_ble_eq_true rfl, zTb_in 362 (by decide +kernel) rfl, in_X9⟩
theorem fl_X9_32 : zF RX9 32 9 2 := ⟨RX9, TX9, 7, rfl, Nat.le_of_ble_eq_true rfl, zTb_in 365 (by decide +kernel) rfl, in_X9⟩
theorem fl_X9_36 : zF RX9 36 9 3 := ⟨RX9, TX9, 7, rfl, Nat.le_of_ble_eq_true rfl, zTb_in 368 (by decide +kernel) rfl, in_X9⟩
theorem fl_X9_39 : zF RX9 39 9 4 := ⟨RX9, TX9, 7, rfl, Nat.le_of_ble_eq_true rfl, zTb_in 371 (by decide +kernel) rfl, in_X9⟩
theorem fl_X9_42 : zF RX9 42 9 5 := ⟨RX9, TX9, 7, rfl, Nat.le_of_ble_eq_true rfl, zTb_in 374 (by decide +kernel) rfl, in_X9⟩
theorem fl_X9_48 : zF RX9 48 9 6 := ⟨RX9, TX9, 7, rfl, Nat.le_of_ble_eq_true rfl, zTb_in 377 (by decide +kernel) rfl, in_X9⟩
theorem ml_X9_52 : Cond.methodLink RX9 52 yX4_copyFrom ∈ zTb := zTb_in 1268 (by decide +kernel) rfl
theorem ml_X9_56 : Cond.methodLink RX9 56 yX2_copyFrom ∈ zTb := zTb_in 983 (by decide +kernel) rfl
theorem ml_X9_59 : Cond.methodLink RX9 59 yX1_copyFrom ∈ zTb := zTb_in 978 (by decide +kernel) rfl
theorem ml_X9_62 : Cond.methodLink RX9 62 yX8_copyFrom ∈ zTb := zTb_in 1269 (by decide +kernel) rfl
theorem dX9_copyFrom_0 : decode cX9_copyFrom 0 = .ok (.aload_n 0, 1) := by decide +kernel
theorem dX9_copyFrom_1 : decode cX9_copyFrom 1 = .ok (.getfield 14, 3) := by decide +kernel
theorem dX9_copyFrom_4 : decode cX9_copyFrom 4 = .ok (.aload_n 1, 1) := by decide +kernel
theorem dX9_copyFrom_5 : decode cX9_copyFrom 5 = .ok (.getfield 14, 3) := by decide +kernel
theorem dX9_copyFrom_8 : decode cX9_copyFrom 8 = .ok (.invokevirtual 52, 3) := by decide +kernel
theorem dX9_copyFrom_11 : decode cX9_copyFrom 11 = .ok (.aload_n 0, 1) := by decide +kernel
theorem dX9_copyFrom_12 : decode cX9_copyFrom 12 = .ok (.getfield 25, 3) := by decide +kernel
theorem dX9_copyFrom_15 : decode cX9_copyFrom 15 = .ok (.aload_n 1, 1) := by decide +kernel
theorem dX9_copyFrom_16 : decode cX9_copyFrom 16 = .ok (.getfield 25, 3) := by decide +kernel
theorem dX9_copyFrom_19 : decode cX9_copyFrom 19 = .ok (.invokevirtual 56, 3) := by decide +kernel
theorem dX9_copyFrom_22 : decode cX9_copyFrom 22 = .ok (.aload_n 0, 1) := by decide +kernel
theorem dX9_copyFrom_23 : decode cX9_copyFrom 23 = .ok (.getfield 32, 3) := by decide +kernel
theorem dX9_copyFrom_26 : decode cX9_copyFrom 26 = .ok (.aload_n 1, 1) := by decide +kernel
theorem dX9_copyFrom_27 : decode cX9_copyFrom 27 = .ok (.getfield 32, 3) := by decide +kernel
theorem dX9_copyFrom_30 : decode cX9_copyFrom 30 = .ok (.invokevirtual 59, 3) := by decide +kernel
theorem dX9_copyFrom_33 : decode cX9_copyFrom 33 = .ok (.aload_n 0, 1) := by decide +kernel
theorem dX9_copyFrom_34 : decode cX9_copyFrom 34 = .ok (.getfield 36, 3) := by decide +kernel
theorem dX9_copyFrom_37 : decode cX9_copyFrom 37 = .ok (.aload_n 1, 1) := by decide +kernel
theorem dX9_copyFrom_38 : decode cX9_copyFrom 38 = .ok (.getfield 36, 3) := by decide +kernel
theorem dX9_copyFrom_41 : decode cX9_copyFrom 41 = .ok (.invokevirtual 56, 3) := by decide +kernel
theorem dX9_copyFrom_44 : decode cX9_copyFrom 44 = .ok (.aload_n 0, 1) := by decide +kernel
theorem dX9_copyFrom_45 : decode cX9_copyFrom 45 = .ok (.getfield 39, 3) := by decide +kernel
theorem dX9_copyFrom_48 : decode cX9_copyFrom 48 = .ok (.aload_n 1, 1) := by decide +kernel
theorem dX9_copyFrom_49 : decode cX9_copyFrom 49 = .ok (.getfield 39, 3) := by decide +kernel
theorem dX9_copyFrom_52 : decode cX9_copyFrom 52 = .ok (.invokevirtual 56, 3) := by decide +kernel
theorem dX9_copyFrom_55 : decode cX9_copyFrom 55 = .ok (.aload_n 0, 1) := by decide +kernel
theorem dX9_copyFrom_56 : decode cX9_copyFrom 56 = .ok (.getfield 42, 3) := by decide +kernel
theorem dX9_copyFrom_59 : decode cX9_copyFrom 59 = .ok (.aload_n 1, 1) := by decide +kernel
theorem dX9_copyFrom_60 : decode cX9_copyFrom 60 = .ok (.getfield 42, 3) := by decide +kernel
theorem dX9_copyFrom_63 : decode cX9_copyFrom 63 = .ok (.invokevirtual 56, 3) := by decide +kernel
theorem dX9_copyFrom_66 : decode cX9_copyFrom 66 = .ok (.aload_n 0, 1) := by decide +kernel
theorem dX9_copyFrom_67 : decode cX9_copyFrom 67 = .ok (.getfield 48, 3) := by decide +kernel
theorem dX9_copyFrom_70 : decode cX9_copyFrom 70 = .ok (.aload_n 1, 1) := by decide +kernel
theorem dX9_copyFrom_71 : decode cX9_copyFrom 71 = .ok (.getfield 48, 3) := by decide +kernel
theorem dX9_copyFrom_74 : decode cX9_copyFrom 74 = .ok (.invokevirtual 62, 3) := by decide +kernel
theorem dX9_copyFrom_77 : decode cX9_copyFrom 77 = .ok (.return_, 1) := by decide +kernel
def f_X9_copyFrom (o : Nat) (b1 : Nat)  (h : zHp) : Option (zHp) := (f_X4_copyFrom (o + 1) (b1 + 1) h).bind fun x1 => (f_X2_copyFrom (o + 10) (b1 + 10) x1).bind fun x2 => (f_X1_copyFrom (o + 12) (b1 + 12) x2).bind fun x3 => (f_X2_copyFrom (o + 19) (b1 + 19) x3).bind fun x4 => (f_X2_copyFrom (o + 21) (b1 + 21) x4).bind fun x5 => (f_X2_copyFrom (o + 23) (b1 + 23) x5).bind fun x6 => (f_X8_copyFrom (o + 25) (b1 + 25) x6).bind fun x7 => some x7
set_option maxHeartbeats 4000000 in
set_option maxRecDepth 100000 in
theorem s_X9_copyFrom (o : Nat) (ho : o ∈ xWhole) (b1 : Nat) (hb1 : b1 ∈ xWhole)  (h : zHp) : Fn wX mX9_copyFrom 3 rV [.ref o, .ref b1] h (f_X9_copyFrom o b1 h) := by
  refine Fn.of rfl (Nat.le_of_ble_eq_true rfl) ?_
  unfold f_X9_copyFrom
  refine Sim.aload_n 0 dX9_copyFrom_0 rfl ?_
  refine Sim.getR (j := (o + 1)) fl_X9_14 dX9_copyFrom_1 (xR_X9_0 _ ho) ?_
  refine Sim.aload_n 1 dX9_copyFrom_4 rfl ?_
  refine Sim.getR (j := (b1 + 1)) fl_X9_14 dX9_copyFrom_5 (xR_X9_0 _ hb1) ?_
  refine Sim.callV1U (d1 := 1) (s_X4_copyFrom (o + 1) (xC_X9_0 _ ho) (b1 + 1) (xC_X9_0 _ hb1) h) dX9_copyFrom_8 ml_X9_52 mv_X4_copyFrom (xOC_X4 _ (xC_X9_0 _ ho)) (Nat.le_of_ble_eq_true rfl) (Nat.le_of_ble_eq_true rfl) (Nat.le_of_ble_eq_true rfl) (fun x1 => ?_)
  refine Sim.aload_n 0 dX9_copyFrom_11 rfl ?_
  refine Sim.getR (j := (o + 10)) fl_X9_25 dX9_copyFrom_12 (xR_X9_1 _ ho) ?_
  refine Sim.aload_n 1 dX9_copyFrom_15 rfl ?_
  refine Sim.getR (j := (b1 + 10)) fl_X9_25 dX9_copyFrom_16 (xR_X9_1 _ hb1) ?_
  refine Sim.callV1U (d1 := 1) (s_X2_copyFrom (o + 10) (xC_X9_1 _ ho) (b1 + 10) (xC_X9_1 _ hb1) x1) dX9_copyFrom_19 ml_X9_56 mv_X2_copyFrom (xOC_X2 _ (xC_X9_1 _ ho)) (Nat.le_of_ble_eq_true rfl) (Nat.le_of_ble_eq_true rfl) (Nat.le_of_ble_eq_true rfl) (fun x2 => ?_)
  refine Sim.aload_n 0 dX9_copyFrom_22 rfl ?_
  refine Sim.getR (j := (o + 12)) fl_X9_32 dX9_copyFrom_23 (xR_X9_2 _ ho) ?_
  refine Sim.aload_n 1 dX9_copyFrom_26 rfl ?_
  refine Sim.getR (j := (b1 + 12)) fl_X9_32 dX9_copyFrom_27 (xR_X9_2 _ hb1) ?_
  refine Sim.callV1U (d1 := 1) (s_X1_copyFrom (o + 12) (xC_X9_2 _ ho) (b1 + 12) (xC_X9_2 _ hb1) x2) dX9_copyFrom_30 ml_X9_59 mv_X1_copyFrom (xOC_X1 _ (xC_X9_2 _ ho)) (Nat.le_of_ble_eq_true rfl) (Nat.le_of_ble_eq_true rfl) (Nat.le_of_ble_eq_true rfl) (fun x3 => ?_)
  refine Sim.aload_n 0 dX9_copyFrom_33 rfl ?_
  refine Sim.getR (j := (o + 19)) fl_X9_36 dX9_copyFrom_34 (xR_X9_3 _ ho) ?_
  refine Sim.aload_n 1 dX9_copyFrom_37 rfl ?_
  refine Sim.getR (j := (b1 + 19)) fl_X9_36 dX9_copyFrom_38 (xR_X9_3 _ hb1) ?_
  refine Sim.callV1U (d1 := 1) (s_X2_copyFrom (o + 19) (xC_X9_3 _ ho) (b1 + 19) (xC_X9_3 _ hb1) x3) dX9_copyFrom_41 ml_X9_56 mv_X2_copyFrom (xOC_X2 _ (xC_X9_3 _ ho)) (Nat.le_of_ble_eq_true rfl) (Nat.le_of_ble_eq_true rfl) (Nat.le_of_ble_eq_true rfl) (fun x4 => ?_)
  refine Sim.aload_n 0 dX9_copyFrom_44 rfl ?_
  refine Sim.getR (j := (o + 21)) fl_X9_39 dX9_copyFrom_45 (xR_X9_4 _ ho) ?_
  refine Sim.aload_n 1 dX9_copyFrom_48 rfl ?_
  refine Sim.getR (j := (b1 + 21)) fl_X9_39 dX9_copyFrom_49 (xR_X9_4 _ hb1) ?_
  refine Sim.callV1U (d1 := 1) (s_X2_copyFrom (o + 21) (xC_X9_4 _ ho) (b1 + 21) (xC_X9_4 _ hb1) x4) dX9_copyFrom_52 ml_X9_56 mv_X2_copyFrom (xOC_X2 _ (xC_X9_4 _ ho)) (Nat.le_of_ble_eq_true rfl) (Nat.le_of_ble_eq_true rfl) (Nat.le_of_ble_eq_true rfl) (fun x5 => ?_)
  refine Sim.aload_n 0 dX9_copyFrom_55 rfl ?_
  refine Sim.getR (j := (o + 23)) fl_X9_42 dX9_copyFrom_56 (xR_X9_5 _ ho) ?_
  refine Sim.aload_n 1 dX9_copyFrom_59 rfl ?_
  refine Sim.getR (j := (b1 + 23)) fl_X9_42 dX9_copyFrom_60 (xR_X9_5 _ hb1) ?_
  refine Sim.callV1U (d1 := 1) (s_X2_copyFrom (o + 23) (xC_X9_5 _ ho) (b1 + 23) (xC_X9_5 _ hb1) x5) dX9_copyFrom_63 ml_X9_56 mv_X2_copyFrom (xOC_X2 _ (xC_X9_5 _ ho)) (Nat.le_of_ble_eq_true rfl) (Nat.le_of_ble_eq_true rfl) (Nat.le_of_ble_eq_true rfl) (fun x6 => ?_)
  refine Sim.aload_n 0 dX9_copyFrom_66 rfl ?_
  refine Sim.getR (j := (o + 25)) fl_X9_48 dX9_copyFrom_67 (xR_X9_6 _ ho) ?_
  refine Sim.aload_n 1 dX9_copyFrom_70 rfl ?_
  refine Sim.getR (j := (b1 + 25)) fl_X9_48 dX9_copyFrom_71 (xR_X9_6 _ hb1) ?_
  refine Sim.callV1U (d1 := 2) (s_X8_copyFrom (o + 25) (xC_X9_6 _ ho) (b1 + 25) (xC_X9_6 _ hb1) x6) dX9_copyFrom_74 ml_X9_62 mv_X8_copyFrom (xOC_X8 _ (xC_X9_6 _ ho)) (Nat.le_of_ble_eq_true rfl) (Nat.le_of_ble_eq_true rfl) (Nat.le_of_ble_eq_true rfl) (fun x7 => ?_)
  exact Sim.vret dX9_copyFrom_77 rfl
theorem mv_X9_copyFrom : zMV mX9_copyFrom 1 := ⟨⟨zTb_in 1267 (by decide +kernel) rfl, zTb_in 138 (by decide +kernel) rfl, ⟨by decide +kernel, by decide +kernel⟩, by decide +kernel⟩, zTb_in 1265 (by decide +kernel) rfl, zTb_in 1266 (by decide +kernel) rfl⟩
-- ===== RockingPorch$Whole.learn(ILRockingPorch$Reader;)V
abbrev mX9_learn : zMt := (yX9_learn, cX9_learn, 3, none)
theorem fl_X9_65 : zF RX9 65 6 10 := ⟨RX6, TX6, 14, rfl, Nat.le_of_ble_eq_true rfl, zTb_in 441 (by decide +kernel) rfl, in_X6⟩
theorem fl_X9_68 : zF RX9 68 6 11 := ⟨RX6, TX6, 14, rfl, Nat.le_of_ble_eq_true rfl, zTb_in 443 (by decide +kernel) rfl, in_X6⟩
theorem dX9_learn_0 : decode cX9_learn 0 = .ok (.iload_n 1, 1) := by decide +kernel
theorem dX9_learn_1 : decode cX9_learn 1 = .ok (.tableswitch 69 0 2 #[27, 41, 55], 27) := by decide +kernel
theorem dX9_learn_28 : decode cX9_learn 28 = .ok (.aload_n 0, 1) := by decide +kernel
theorem dX9_learn_29 : decode cX9_learn 29 = .ok (.getfield 32, 3) := by decide +kernel
theorem dX9_learn_32 : decode cX9_learn 32 = .ok (.aload_n 2, 1) := by decide +kernel
theorem dX9_learn_33 : decode cX9_learn 33 = .ok (.getfield 65, 3) := by decide +kernel
theorem dX9_learn_36 : decode cX9_learn 36 = .ok (.invokevirtual 59, 3) := by decide +kernel
theorem dX9_learn_39 : decode cX9_learn 39 = .ok (.goto 42, 3) := by decide +kernel
theorem dX9_learn_42 : decode cX9_learn 42 = .ok (.aload_n 0, 1) := by decide +kernel
theorem dX9_learn_43 : decode cX9_learn 43 = .ok (.getfield 36, 3) := by decide +kernel
theorem dX9_learn_46 : decode cX9_learn 46 = .ok (.aload_n 2, 1) := by decide +kernel
theorem dX9_learn_47 : decode cX9_learn 47 = .ok (.getfield 68, 3) := by decide +kernel
theorem dX9_learn_50 : decode cX9_learn 50 = .ok (.invokevirtual 56, 3) := by decide +kernel
theorem dX9_learn_53 : decode cX9_learn 53 = .ok (.goto 28, 3) := by decide +kernel
theorem dX9_learn_56 : decode cX9_learn 56 = .ok (.aload_n 0, 1) := by decide +kernel
theorem dX9_learn_57 : decode cX9_learn 57 = .ok (.getfield 39, 3) := by decide +kernel
theorem dX9_learn_60 : decode cX9_learn 60 = .ok (.aload_n 2, 1) := by decide +kernel
theorem dX9_learn_61 : decode cX9_learn 61 = .ok (.getfield 68, 3) := by decide +kernel
theorem dX9_learn_64 : decode cX9_learn 64 = .ok (.invokevirtual 56, 3) := by decide +kernel
theorem dX9_learn_67 : decode cX9_learn 67 = .ok (.goto 14, 3) := by decide +kernel
theorem dX9_learn_70 : decode cX9_learn 70 = .ok (.aload_n 0, 1) := by decide +kernel
theorem dX9_learn_71 : decode cX9_learn 71 = .ok (.getfield 42, 3) := by decide +kernel
theorem dX9_learn_74 : decode cX9_learn 74 = .ok (.aload_n 2, 1) := by decide +kernel
theorem dX9_learn_75 : decode cX9_learn 75 = .ok (.getfield 68, 3) := by decide +kernel
theorem dX9_learn_78 : decode cX9_learn 78 = .ok (.invokevirtual 56, 3) := by decide +kernel
theorem dX9_learn_81 : decode cX9_learn 81 = .ok (.return_, 1) := by decide +kernel
def f_X9_learn (o : Nat) (a1 : Int32) (h : zHp) : Option (zHp) := (if a1 = (0 : Int32) then (f_X1_copyFrom (o + 12) 150 h).bind fun x2 => some x2 else (if a1 = (1 : Int32) then (f_X2_copyFrom (o + 19) 157 h).bind fun x4 => some x4 else (if a1 = (2 : Int32) then (f_X2_copyFrom (o + 21) 157 h).bind fun x6 => some x6 else (f_X2_copyFrom (o + 23) 157 h).bind fun x7 => some x7)))
set_option maxHeartbeats 4000000 in
set_option maxRecDepth 100000 in
theorem s_X9_learn (o : Nat) (ho : o ∈ xWhole) (a1 : Int32) (h : zHp) : Fn wX mX9_learn 2 rV [.ref o, .int a1, .ref 145] h (f_X9_learn o a1 h) := by
  refine Fn.of rfl (Nat.le_of_ble_eq_true rfl) ?_
  unfold f_X9_learn
  refine Sim.iload_n 1 dX9_learn_0 rfl ?_
  refine Sim.ite _ (fun q1 => ?_) (fun q1 => ?_)
  · refine Sim.tswIn 28 dX9_learn_1 q1 (by decide) (by decide) rfl rfl ?_
    refine Sim.aload_n 0 dX9_learn_28 rfl ?_
    refine Sim.getR (j := (o + 12)) fl_X9_32 dX9_learn_29 (xR_X9_2 _ ho) ?_
    refine Sim.aload_n 2 dX9_learn_32 rfl ?_
    refine Sim.getR (j := 150) fl_X9_65 dX9_learn_33 xR_145_10 ?_
    refine Sim.callV1U (d1 := 1) (s_X1_copyFrom (o + 12) (xC_X9_2 _ ho) 150 xL_X1_150 h) dX9_learn_36 ml_X9_59 mv_X1_copyFrom (xOC_X1 _ (xC_X9_2 _ ho)) (Nat.le_of_ble_eq_true rfl) (Nat.le_of_ble_eq_true rfl) (Nat.le_of_ble_eq_true rfl) (fun x2 => ?_)
    refine Sim.goto 81 dX9_learn_39 rfl ?_
    exact Sim.vret dX9_learn_81 rfl
  refine Sim.ite _ (fun q3 => ?_) (fun q3 => ?_)
  · refine Sim.tswIn 42 dX9_learn_1 q3 (by decide) (by decide) rfl rfl ?_
    refine Sim.aload_n 0 dX9_learn_42 rfl ?_
    refine Sim.getR (j := (o + 19)) fl_X9_36 dX9_learn_43 (xR_X9_3 _ ho) ?_
    refine Sim.aload_n 2 dX9_learn_46 rfl ?_
    refine Sim.getR (j := 157) fl_X9_68 dX9_learn_47 xR_145_11 ?_
    refine Sim.callV1U (d1 := 1) (s_X2_copyFrom (o + 19) (xC_X9_3 _ ho) 157 xL_X2_157 h) dX9_learn_50 ml_X9_56 mv_X2_copyFrom (xOC_X2 _ (xC_X9_3 _ ho)) (Nat.le_of_ble_eq_true rfl) (Nat.le_of_ble_eq_true rfl) (Nat.le_of_ble_eq_true rfl) (fun x4 => ?_)
    refine Sim.goto 81 dX9_learn_53 rfl ?_
    exact Sim.vret dX9_learn_81 rfl
  refine Sim.ite _ (fun q5 => ?_) (fun q5 => ?_)
  · refine Sim.tswIn 56 dX9_learn_1 q5 (by decide) (by decide) rfl rfl ?_
    refine Sim.aload_n 0 dX9_learn_56 rfl ?_
    refine Sim.getR (j := (o + 21)) fl_X9_39 dX9_learn_57 (xR_X9_4 _ ho) ?_
    refine Sim.aload_n 2 dX9_learn_60 rfl ?_
    refine Sim.getR (j := 157) fl_X9_68 dX9_learn_61 xR_145_11 ?_
    refine Sim.callV1U (d1 := 1) (s_X2_copyFrom (o + 21) (xC_X9_4 _ ho) 157 xL_X2_157 h) dX9_learn_64 ml_X9_56 mv_X2_copyFrom (xOC_X2 _ (xC_X9_4 _ ho)) (Nat.le_of_ble_eq_true rfl) (Nat.le_of_ble_eq_true rfl) (Nat.le_of_ble_eq_true rfl) (fun x6 => ?_)
    refine Sim.goto 81 dX9_learn_67 rfl ?_
    exact Sim.vret dX9_learn_81 rfl
  refine Sim.tswOut 70 dX9_learn_1 (by have aq1 : a1.toInt ≠ 0 := fun w => q1 (Int32.toInt_inj.mp w); have aq3 : a1.toInt ≠ 1 := fun w => q3 (Int32.toInt_inj.mp w); have aq5 : a1.toInt ≠ 2 := fun w => q5 (Int32.toInt_inj.mp w); omega) rfl ?_
  refine Sim.aload_n 0 dX9_learn_70 rfl ?_
  refine Sim.getR (j := (o + 23)) fl_X9_42 dX9_learn_71 (xR_X9_5 _ ho) ?_
  refine Sim.aload_n 2 dX9_learn_74 rfl ?_
  refine Sim.getR (j := 157) fl_X9_68 dX9_learn_75 xR_145_11 ?_
  refine Sim.callV1U (d1 := 1) (s_X2_copyFrom (o + 23) (xC_X9_5 _ ho) 157 xL_X2_157 h) dX9_learn_78 ml_X9_56 mv_X2_copyFrom (xOC_X2 _ (xC_X9_5 _ ho)) (Nat.le_of_ble_eq_true rfl) (Nat.le_of_ble_eq_true rfl) (Nat.le_of_ble_eq_true rfl) (fun x7 => ?_)
  exact Sim.vret dX9_learn_81 rfl
theorem mv_X9_learn : zMV mX9_learn 2 := ⟨⟨zTb_in 977 (by decide +kernel) rfl, zTb_in 138 (by decide +kernel) rfl, ⟨by decide +kernel, by decide +kernel⟩, by decide +kernel⟩, zTb_in 975 (by decide +kernel) rfl, zTb_in 976 (by decide +kernel) rfl⟩
-- ===== RockingPorch.state(I)I
abbrev mX10_state : zMt := (yX10_state, cX10_state, 3, some .int)
theorem fl_X10_12 : zF RX10 12 10 0 := ⟨RX10, TX10, 8, rfl, Nat.le_of_ble_eq_true rfl, zTb_in 513 (by decide +kernel) rfl, in_X10⟩
theorem fl_X10_26 : zF RX10 26 10 3 := ⟨RX10, TX10, 8, rfl, Nat.le_of_ble_eq_true rfl, zTb_in 516 (by decide +kernel) rfl, in_X10⟩
theorem fl_X10_68 : zF RX10 68 9 0 := ⟨RX9, TX9, 7, rfl, Nat.le_of_ble_eq_true rfl, zTb_in 361 (by decide +kernel) rfl, in_X9⟩
theorem fl_X10_71 : zF RX10 71 4 14 := ⟨RX4, TX4, 15, rfl, Nat.le_of_ble_eq_true rfl, zTb_in 218 (by decide +kernel) rfl, in_X4⟩
theorem fp_X10_71 : zFp RX10 71 4 14 .int := ⟨RX4, TX4, 15, tyX4, rfl, Nat.le_of_ble_eq_true rfl, zTb_in 218 (by decide +kernel) rfl, in_X4, tyX4_ok, nmX4, rfl, rfl⟩
theorem ml_X10_75 : Cond.methodLink RX10 75 yX3_forget ∈ zTb := zTb_in 542 (by decide +kernel) rfl
theorem dX10_state_0 : decode cX10_state 0 = .ok (.aload_n 0, 1) := by decide +kernel
theorem dX10_state_1 : decode cX10_state 1 = .ok (.getfield 12, 3) := by decide +kernel
theorem dX10_state_4 : decode cX10_state 4 = .ok (.getfield 68, 3) := by decide +kernel
theorem dX10_state_7 : decode cX10_state 7 = .ok (.getfield 71, 3) := by decide +kernel
theorem dX10_state_10 : decode cX10_state 10 = .ok (.istore_n 2, 1) := by decide +kernel
theorem dX10_state_11 : decode cX10_state 11 = .ok (.aload_n 0, 1) := by decide +kernel
theorem dX10_state_12 : decode cX10_state 12 = .ok (.getfield 12, 3) := by decide +kernel
theorem dX10_state_15 : decode cX10_state 15 = .ok (.getfield 68, 3) := by decide +kernel
theorem dX10_state_18 : decode cX10_state 18 = .ok (.iload_n 1, 1) := by decide +kernel
theorem dX10_state_19 : decode cX10_state 19 = .ok (.putfield 71, 3) := by decide +kernel
theorem dX10_state_22 : decode cX10_state 22 = .ok (.aload_n 0, 1) := by decide +kernel
theorem dX10_state_23 : decode cX10_state 23 = .ok (.getfield 26, 3) := by decide +kernel
theorem dX10_state_26 : decode cX10_state 26 = .ok (.invokevirtual 75, 3) := by decide +kernel
theorem dX10_state_29 : decode cX10_state 29 = .ok (.iload_n 2, 1) := by decide +kernel
theorem dX10_state_30 : decode cX10_state 30 = .ok (.ireturn, 1) := by decide +kernel
def f_X10_state  (a1 : Int32) (h : zHp) : Option (Int32 × zHp) := zlt (h 2 14) fun x1 => zlt (zst h 2 14 a1) fun h2 => (f_X3_forget h2).bind fun x3 => some (x1, x3)
set_option maxHeartbeats 4000000 in
set_option maxRecDepth 100000 in
theorem s_X10_state  (a1 : Int32) (h : zHp) : Fn wX mX10_state 1 rI [.ref 0, .int a1] h (f_X10_state a1 h) := by
  refine Fn.of rfl (Nat.le_of_ble_eq_true rfl) ?_
  unfold f_X10_state
  refine Sim.aload_n 0 dX10_state_0 rfl ?_
  refine Sim.getR (j := 1) fl_X10_12 dX10_state_1 xR_0_0 ?_
  refine Sim.getR (j := 2) fl_X10_68 dX10_state_4 (xR_X9_0 _ xL_X9_1) ?_
  refine Sim.getI fl_X10_71 dX10_state_7 (xI_X4_14 _ xL_X4_2) ?_
  refine Sim.lti (fun x1 => ?_)
  refine Sim.istore_n (L' := [(2, .int x1), (0, .ref 0), (1, .int a1)]) dX10_state_10 (Nat.le_of_ble_eq_true rfl) rfl ?_
  refine Sim.aload_n 1 dX10_state_11 rfl ?_
  refine Sim.getR (j := 1) fl_X10_12 dX10_state_12 xR_0_0 ?_
  refine Sim.getR (j := 2) fl_X10_68 dX10_state_15 (xR_X9_0 _ xL_X9_1) ?_
  refine Sim.iload_n 2 dX10_state_18 rfl ?_
  refine Sim.put fp_X10_71 dX10_state_19 (xI_X4_14 _ xL_X4_2) rfl rfl ?_
  refine Sim.lth (fun h2 => ?_)
  refine Sim.aload_n 1 dX10_state_22 rfl ?_
  refine Sim.getR (j := 79) fl_X10_26 dX10_state_23 xR_0_3 ?_
  refine Sim.callV0U (d1 := 0) (s_X3_forget h2) dX10_state_26 ml_X10_75 mv_X3_forget xO_X3 (Nat.le_of_ble_eq_true rfl) (Nat.le_of_ble_eq_true rfl) (Nat.le_of_ble_eq_true rfl) (fun x3 => ?_)
  refine Sim.iload_n 0 dX10_state_29 rfl ?_
  exact Sim.iret dX10_state_30 rfl
theorem mv_X10_state : zMV mX10_state 1 := ⟨⟨zTb_in 541 (by decide +kernel) rfl, zTb_in 137 (by decide +kernel) rfl, ⟨by decide +kernel, by decide +kernel⟩, by decide +kernel⟩, zTb_in 539 (by decide +kernel) rfl, zTb_in 540 (by decide +kernel) rfl⟩
-- ===== RockingPorch.within(II)Z
abbrev mX10_within : zMt := (yX10_within, cX10_within, 2, some .boolean)
theorem dX10_within_0 : decode cX10_within 0 = .ok (.iload_n 0, 1) := by decide +kernel
theorem dX10_within_1 : decode cX10_within 1 = .ok (.ifCond .lt 12, 3) := by decide +kernel
theorem dX10_within_4 : decode cX10_within 4 = .ok (.iload_n 0, 1) := by decide +kernel
theorem dX10_within_5 : decode cX10_within 5 = .ok (.iload_n 1, 1) := by decide +kernel
theorem dX10_within_6 : decode cX10_within 6 = .ok (.if_icmp .gt 7, 3) := by decide +kernel
theorem dX10_within_9 : decode cX10_within 9 = .ok (.iconst 1, 1) := by decide +kernel
theorem dX10_within_10 : decode cX10_within 10 = .ok (.goto 4, 3) := by decide +kernel
theorem dX10_within_13 : decode cX10_within 13 = .ok (.iconst 0, 1) := by decide +kernel
theorem dX10_within_14 : decode cX10_within 14 = .ok (.ireturn, 1) := by decide +kernel
def f_X10_within  (a1 : Int32) (a2 : Int32) (h : zHp) : Option (Int32 × zHp) := (if a1 < 0 then some ((0 : Int32), h) else (if a2 < a1 then some ((0 : Int32), h) else some ((1 : Int32), h)))
set_option maxHeartbeats 4000000 in
set_option maxRecDepth 100000 in
theorem s_X10_within  (a1 : Int32) (a2 : Int32) (h : zHp) : Fn wX mX10_within 0 rI [.int a1, .int a2] h (f_X10_within a1 a2 h) := by
  refine Fn.of rfl (Nat.le_of_ble_eq_true rfl) ?_
  unfold f_X10_within
  refine Sim.iload_n 0 dX10_within_0 rfl ?_
  refine Sim.if_lt 13 dX10_within_1 rfl ?_ ?_
  · refine Sim.iconst (v := (0 : Int32)) dX10_within_13 rfl ?_
    exact Sim.nret dX10_within_14 rfl rfl
  · refine Sim.iload_n 0 dX10_within_4 rfl ?_
    refine Sim.iload_n 1 dX10_within_5 rfl ?_
    refine Sim.icmp_gt 13 dX10_within_6 rfl ?_ ?_
    · refine Sim.iconst (v := (0 : Int32)) dX10_within_13 rfl ?_
      exact Sim.nret dX10_within_14 rfl rfl
    · refine Sim.iconst (v := (1 : Int32)) dX10_within_9 rfl ?_
      refine Sim.goto 14 dX10_within_10 rfl ?_
      exact Sim.nret dX10_within_14 rfl rfl
theorem mv_X10_within : zMS mX10_within 2 := ⟨⟨zTb_in 552 (by decide +kernel) rfl, zTb_in 137 (by decide +kernel) rfl, ⟨by decide +kernel, by decide +kernel⟩, by decide +kernel⟩, zTb_in 551 (by decide +kernel) rfl⟩
-- ===== RockingPorch.chair(I)I
abbrev mX10_chair : zMt := (yX10_chair, cX10_chair, 2, some .int)
theorem fl_X10_82 : zF RX10 82 4 9 := ⟨RX4, TX4, 15, rfl, Nat.le_of_ble_eq_true rfl, zTb_in 204 (by decide +kernel) rfl, in_X4⟩
theorem ml_X10_78 : Cond.methodLink RX10 78 yX10_within ∈ zTb := zTb_in 550 (by decide +kernel) rfl
theorem ml_X10_85 : Cond.methodLink RX10 85 yX4_addChair ∈ zTb := zTb_in 553 (by decide +kernel) rfl
theorem dX10_chair_0 : decode cX10_chair 0 = .ok (.iload_n 1, 1) := by decide +kernel
theorem dX10_chair_1 : decode cX10_chair 1 = .ok (.bipush 9, 2) := by decide +kernel
theorem dX10_chair_3 : decode cX10_chair 3 = .ok (.invokestatic 78, 3) := by decide +kernel
theorem dX10_chair_6 : decode cX10_chair 6 = .ok (.ifCond .eq 18, 3) := by decide +kernel
theorem dX10_chair_9 : decode cX10_chair 9 = .ok (.aload_n 0, 1) := by decide +kernel
theorem dX10_chair_10 : decode cX10_chair 10 = .ok (.getfield 12, 3) := by decide +kernel
theorem dX10_chair_13 : decode cX10_chair 13 = .ok (.getfield 68, 3) := by decide +kernel
theorem dX10_chair_16 : decode cX10_chair 16 = .ok (.getfield 82, 3) := by decide +kernel
theorem dX10_chair_19 : decode cX10_chair 19 = .ok (.bipush 10, 2) := by decide +kernel
theorem dX10_chair_21 : decode cX10_chair 21 = .ok (.if_icmp .lt 5, 3) := by decide +kernel
theorem dX10_chair_24 : decode cX10_chair 24 = .ok (.iconst (-1), 1) := by decide +kernel
theorem dX10_chair_25 : decode cX10_chair 25 = .ok (.ireturn, 1) := by decide +kernel
theorem dX10_chair_26 : decode cX10_chair 26 = .ok (.aload_n 0, 1) := by decide +kernel
theorem dX10_chair_27 : decode cX10_chair 27 = .ok (.getfield 26, 3) := by decide +kernel
theorem dX10_chair_30 : decode cX10_chair 30 = .ok (.invokevirtual 75, 3) := by decide +kernel
theorem dX10_chair_33 : decode cX10_chair 33 = .ok (.aload_n 0, 1) := by decide +kernel
theorem dX10_chair_34 : decode cX10_chair 34 = .ok (.getfield 12, 3) := by decide +kernel
theorem dX10_chair_37 : decode cX10_chair 37 = .ok (.getfield 68, 3) := by decide +kernel
theorem dX10_chair_40 : decode cX10_chair 40 = .ok (.iload_n 1, 1) := by decide +kernel
theorem dX10_chair_41 : decode cX10_chair 41 = .ok (.invokevirtual 85, 3) := by decide +kernel
theorem dX10_chair_44 : decode cX10_chair 44 = .ok (.ireturn, 1) := by decide +kernel
def f_X10_chair  (a1 : Int32) (h : zHp) : Option (Int32 × zHp) := (f_X10_within a1 (9 : Int32) h).bind fun x1 => (if x1.1 = 0 then some ((-1 : Int32), x1.2) else (if (x1.2 2 9) < (10 : Int32) then (f_X3_forget x1.2).bind fun x2 => (f_X4_addChair 2 a1 x2).bind fun x3 => some (x3.1, x3.2) else some ((-1 : Int32), x1.2)))
set_option maxHeartbeats 4000000 in
set_option maxRecDepth 100000 in
theorem s_X10_chair  (a1 : Int32) (h : zHp) : Fn wX mX10_chair 2 rI [.ref 0, .int a1] h (f_X10_chair a1 h) := by
  refine Fn.of rfl (Nat.le_of_ble_eq_true rfl) ?_
  unfold f_X10_chair
  refine Sim.iload_n 1 dX10_chair_0 rfl ?_
  refine Sim.bipush (v := (9 : Int32)) dX10_chair_1 rfl ?_
  refine Sim.callS2I (d1 := 0) (s_X10_within a1 (9 : Int32) h) dX10_chair_3 ml_X10_78 mv_X10_within (Nat.le_of_ble_eq_true rfl) (Nat.le_of_ble_eq_true rfl) (Nat.le_of_ble_eq_true rfl) (fun x1 => ?_)
  refine Sim.if_eq 24 dX10_chair_6 rfl ?_ ?_
  · refine Sim.iconst (v := (-1 : Int32)) dX10_chair_24 rfl ?_
    exact Sim.iret dX10_chair_25 rfl
  · refine Sim.aload_n 0 dX10_chair_9 rfl ?_
    refine Sim.getR (j := 1) fl_X10_12 dX10_chair_10 xR_0_0 ?_
    refine Sim.getR (j := 2) fl_X10_68 dX10_chair_13 (xR_X9_0 _ xL_X9_1) ?_
    refine Sim.getI fl_X10_82 dX10_chair_16 (xI_X4_9 _ xL_X4_2) ?_
    refine Sim.bipush (v := (10 : Int32)) dX10_chair_19 rfl ?_
    refine Sim.icmp_lt 26 dX10_chair_21 rfl ?_ ?_
    · refine Sim.aload_n 0 dX10_chair_26 rfl ?_
      refine Sim.getR (j := 79) fl_X10_26 dX10_chair_27 xR_0_3 ?_
      refine Sim.callV0U (d1 := 0) (s_X3_forget x1.2) dX10_chair_30 ml_X10_75 mv_X3_forget xO_X3 (Nat.le_of_ble_eq_true rfl) (Nat.le_of_ble_eq_true rfl) (Nat.le_of_ble_eq_true rfl) (fun x2 => ?_)
      refine Sim.aload_n 0 dX10_chair_33 rfl ?_
      refine Sim.getR (j := 1) fl_X10_12 dX10_chair_34 xR_0_0 ?_
      refine Sim.getR (j := 2) fl_X10_68 dX10_chair_37 (xR_X9_0 _ xL_X9_1) ?_
      refine Sim.iload_n 1 dX10_chair_40 rfl ?_
      refine Sim.callV1I (d1 := 1) (s_X4_addChair 2 xL_X4_2 a1 x2) dX10_chair_41 ml_X10_85 mv_X4_addChair (xOC_X4 _ xL_X4_2) (Nat.le_of_ble_eq_true rfl) (Nat.le_of_ble_eq_true rfl) (Nat.le_of_ble_eq_true rfl) (fun x3 => ?_)
      exact Sim.iret dX10_chair_44 rfl
    · refine Sim.iconst (v := (-1 : Int32)) dX10_chair_24 rfl ?_
      exact Sim.iret dX10_chair_25 rfl
theorem mv_X10_chair : zMV mX10_chair 1 := ⟨⟨zTb_in 549 (by decide +kernel) rfl, zTb_in 137 (by decide +kernel) rfl, ⟨by decide +kernel, by decide +kernel⟩, by decide +kernel⟩, zTb_in 547 (by decide +kernel) rfl, zTb_in 548 (by decide +kernel) rfl⟩
-- ===== RockingPorch.person(I)I
abbrev mX10_person : zMt := (yX10_person, cX10_person, 2, some .int)
theorem fl_X10_89 : zF RX10 89 4 10 := ⟨RX4, TX4, 15, rfl, Nat.le_of_ble_eq_true rfl, zTb_in 208 (by decide +kernel) rfl, in_X4⟩
theorem ml_X10_92 : Cond.methodLink RX10 92 yX4_addPerson ∈ zTb := zTb_in 565 (by decide +kernel) rfl
theorem dX10_person_0 : decode cX10_person 0 = .ok (.iload_n 1, 1) := by decide +kernel
theorem dX10_person_1 : decode cX10_person 1 = .ok (.bipush 9, 2) := by decide +kernel
theorem dX10_person_3 : decode cX10_person 3 = .ok (.invokestatic 78, 3) := by decide +kernel
theorem dX10_person_6 : decode cX10_person 6 = .ok (.ifCond .eq 18, 3) := by decide +kernel
theorem dX10_person_9 : decode cX10_person 9 = .ok (.aload_n 0, 1) := by decide +kernel
theorem dX10_person_10 : decode cX10_person 10 = .ok (.getfield 12, 3) := by decide +kernel
theorem dX10_person_13 : decode cX10_person 13 = .ok (.getfield 68, 3) := by decide +kernel
theorem dX10_person_16 : decode cX10_person 16 = .ok (.getfield 89, 3) := by decide +kernel
theorem dX10_person_19 : decode cX10_person 19 = .ok (.bipush 14, 2) := by decide +kernel
theorem dX10_person_21 : decode cX10_person 21 = .ok (.if_icmp .lt 5, 3) := by decide +kernel
theorem dX10_person_24 : decode cX10_person 24 = .ok (.iconst (-1), 1) := by decide +kernel
theorem dX10_person_25 : decode cX10_person 25 = .ok (.ireturn, 1) := by decide +kernel
theorem dX10_person_26 : decode cX10_person 26 = .ok (.aload_n 0, 1) := by decide +kernel
theorem dX10_person_27 : decode cX10_person 27 = .ok (.getfield 26, 3) := by decide +kernel
theorem dX10_person_30 : decode cX10_person 30 = .ok (.invokevirtual 75, 3) := by decide +kernel
theorem dX10_person_33 : decode cX10_person 33 = .ok (.aload_n 0, 1) := by decide +kernel
theorem dX10_person_34 : decode cX10_person 34 = .ok (.getfield 12, 3) := by decide +kernel
theorem dX10_person_37 : decode cX10_person 37 = .ok (.getfield 68, 3) := by decide +kernel
theorem dX10_person_40 : decode cX10_person 40 = .ok (.iload_n 1, 1) := by decide +kernel
theorem dX10_person_41 : decode cX10_person 41 = .ok (.invokevirtual 92, 3) := by decide +kernel
theorem dX10_person_44 : decode cX10_person 44 = .ok (.ireturn, 1) := by decide +kernel
def f_X10_person  (a1 : Int32) (h : zHp) : Option (Int32 × zHp) := (f_X10_within a1 (9 : Int32) h).bind fun x1 => (if x1.1 = 0 then some ((-1 : Int32), x1.2) else (if (x1.2 2 10) < (14 : Int32) then (f_X3_forget x1.2).bind fun x2 => (f_X4_addPerson 2 a1 x2).bind fun x3 => some (x3.1, x3.2) else some ((-1 : Int32), x1.2)))
set_option maxHeartbeats 4000000 in
set_option maxRecDepth 100000 in
theorem s_X10_person  (a1 : Int32) (h : zHp) : Fn wX mX10_person 1 rI [.ref 0, .int a1] h (f_X10_person a1 h) := by
  refine Fn.of rfl (Nat.le_of_ble_eq_true rfl) ?_
  unfold f_X10_person
  refine Sim.iload_n 1 dX10_person_0 rfl ?_
  refine Sim.bipush (v := (9 : Int32)) dX10_person_1 rfl ?_
  refine Sim.callS2I (d1 := 0) (s_X10_within a1 (9 : Int32) h) dX10_person_3 ml_X10_78 mv_X10_within (Nat.le_of_ble_eq_true rfl) (Nat.le_of_ble_eq_true rfl) (Nat.le_of_ble_eq_true rfl) (fun x1 => ?_)
  refine Sim.if_eq 24 dX10_person_6 rfl ?_ ?_
  · refine Sim.iconst (v := (-1 : Int32)) dX10_person_24 rfl ?_
    exact Sim.iret dX10_person_25 rfl
  · refine Sim.aload_n 0 dX10_person_9 rfl ?_
    refine Sim.getR (j := 1) fl_X10_12 dX10_person_10 xR_0_0 ?_
    refine Sim.getR (j := 2) fl_X10_68 dX10_person_13 (xR_X9_0 _ xL_X9_1) ?_
    refine Sim.getI fl_X10_89 dX10_person_16 (xI_X4_10 _ xL_X4_2) ?_
    refine Sim.bipush (v := (14 : Int32)) dX10_person_19 rfl ?_
    refine Sim.icmp_lt 26 dX10_person_21 rfl ?_ ?_
    · refine Sim.aload_n 0 dX10_person_26 rfl ?_
      refine Sim.getR (j := 79) fl_X10_26 dX10_person_27 xR_0_3 ?_
      refine Sim.callV0U (d1 := 0) (s_X3_forget x1.2) dX10_person_30 ml_X10_75 mv_X3_forget xO_X3 (Nat.le_of_ble_eq_true rfl) (Nat.le_of_ble_eq_true rfl) (Nat.le_of_ble_eq_true rfl) (fun x2 => ?_)
      refine Sim.aload_n 0 dX10_person_33 rfl ?_
      refine Sim.getR (j := 1) fl_X10_12 dX10_person_34 xR_0_0 ?_
      refine Sim.getR (j := 2) fl_X10_68 dX10_person_37 (xR_X9_0 _ xL_X9_1) ?_
      refine Sim.iload_n 1 dX10_person_40 rfl ?_
      refine Sim.callV1I (d1 := 0) (s_X4_addPerson 2 xL_X4_2 a1 x2) dX10_person_41 ml_X10_92 mv_X4_addPerson (xOC_X4 _ xL_X4_2) (Nat.le_of_ble_eq_true rfl) (Nat.le_of_ble_eq_true rfl) (Nat.le_of_ble_eq_true rfl) (fun x3 => ?_)
      exact Sim.iret dX10_person_44 rfl
    · refine Sim.iconst (v := (-1 : Int32)) dX10_person_24 rfl ?_
      exact Sim.iret dX10_person_25 rfl
theorem mv_X10_person : zMV mX10_person 1 := ⟨⟨zTb_in 564 (by decide +kernel) rfl, zTb_in 137 (by decide +kernel) rfl, ⟨by decide +kernel, by decide +kernel⟩, by decide +kernel⟩, zTb_in 562 (by decide +kernel) rfl, zTb_in 563 (by decide +kernel) rfl⟩
-- ===== RockingPorch.mayBeSet(III)Z
abbrev mX10_mayBeSet : zMt := (yX10_mayBeSet, cX10_mayBeSet, 4, some .boolean)
theorem ml_X10_116 : Cond.methodLink RX10 116 yX4_isChair ∈ zTb := zTb_in 577 (by decide +kernel) rfl
theorem ml_X10_120 : Cond.methodLink RX10 120 yX4_isPerson ∈ zTb := zTb_in 581 (by decide +kernel) rfl
theorem ml_X10_123 : Cond.methodLink RX10 123 yX4_rocks ∈ zTb := zTb_in 585 (by decide +kernel) rfl
theorem dX10_mayBeSet_0 : decode cX10_mayBeSet 0 = .ok (.iload_n 1, 1) := by decide +kernel
theorem dX10_mayBeSet_1 : decode cX10_mayBeSet 1 = .ok (.tableswitch 125 0 3 #[31, 60, 89, 118], 31) := by decide +kernel
theorem dX10_mayBeSet_32 : decode cX10_mayBeSet 32 = .ok (.aload_n 0, 1) := by decide +kernel
theorem dX10_mayBeSet_33 : decode cX10_mayBeSet 33 = .ok (.getfield 12, 3) := by decide +kernel
theorem dX10_mayBeSet_36 : decode cX10_mayBeSet 36 = .ok (.getfield 68, 3) := by decide +kernel
theorem dX10_mayBeSet_39 : decode cX10_mayBeSet 39 = .ok (.iload_n 2, 1) := by decide +kernel
theorem dX10_mayBeSet_40 : decode cX10_mayBeSet 40 = .ok (.invokevirtual 116, 3) := by decide +kernel
theorem dX10_mayBeSet_43 : decode cX10_mayBeSet 43 = .ok (.ifCond .eq 16, 3) := by decide +kernel
theorem dX10_mayBeSet_46 : decode cX10_mayBeSet 46 = .ok (.iload_n 3, 1) := by decide +kernel
theorem dX10_mayBeSet_47 : decode cX10_mayBeSet 47 = .ok (.bipush 9, 2) := by decide +kernel
theorem dX10_mayBeSet_49 : decode cX10_mayBeSet 49 = .ok (.invokestatic 78, 3) := by decide +kernel
theorem dX10_mayBeSet_52 : decode cX10_mayBeSet 52 = .ok (.ifCond .eq 7, 3) := by decide +kernel
theorem dX10_mayBeSet_55 : decode cX10_mayBeSet 55 = .ok (.iconst 1, 1) := by decide +kernel
theorem dX10_mayBeSet_56 : decode cX10_mayBeSet 56 = .ok (.goto 4, 3) := by decide +kernel
theorem dX10_mayBeSet_59 : decode cX10_mayBeSet 59 = .ok (.iconst 0, 1) := by decide +kernel
theorem dX10_mayBeSet_60 : decode cX10_mayBeSet 60 = .ok (.ireturn, 1) := by decide +kernel
theorem dX10_mayBeSet_61 : decode cX10_mayBeSet 61 = .ok (.aload_n 0, 1) := by decide +kernel
theorem dX10_mayBeSet_62 : decode cX10_mayBeSet 62 = .ok (.getfield 12, 3) := by decide +kernel
theorem dX10_mayBeSet_65 : decode cX10_mayBeSet 65 = .ok (.getfield 68, 3) := by decide +kernel
theorem dX10_mayBeSet_68 : decode cX10_mayBeSet 68 = .ok (.iload_n 2, 1) := by decide +kernel
theorem dX10_mayBeSet_69 : decode cX10_mayBeSet 69 = .ok (.invokevirtual 120, 3) := by decide +kernel
theorem dX10_mayBeSet_72 : decode cX10_mayBeSet 72 = .ok (.ifCond .eq 16, 3) := by decide +kernel
theorem dX10_mayBeSet_75 : decode cX10_mayBeSet 75 = .ok (.iload_n 3, 1) := by decide +kernel
theorem dX10_mayBeSet_76 : decode cX10_mayBeSet 76 = .ok (.bipush 9, 2) := by decide +kernel
theorem dX10_mayBeSet_78 : decode cX10_mayBeSet 78 = .ok (.invokestatic 78, 3) := by decide +kernel
theorem dX10_mayBeSet_81 : decode cX10_mayBeSet 81 = .ok (.ifCond .eq 7, 3) := by decide +kernel
theorem dX10_mayBeSet_84 : decode cX10_mayBeSet 84 = .ok (.iconst 1, 1) := by decide +kernel
theorem dX10_mayBeSet_85 : decode cX10_mayBeSet 85 = .ok (.goto 4, 3) := by decide +kernel
theorem dX10_mayBeSet_88 : decode cX10_mayBeSet 88 = .ok (.iconst 0, 1) := by decide +kernel
theorem dX10_mayBeSet_89 : decode cX10_mayBeSet 89 = .ok (.ireturn, 1) := by decide +kernel
theorem dX10_mayBeSet_90 : decode cX10_mayBeSet 90 = .ok (.aload_n 0, 1) := by decide +kernel
theorem dX10_mayBeSet_91 : decode cX10_mayBeSet 91 = .ok (.getfield 12, 3) := by decide +kernel
theorem dX10_mayBeSet_94 : decode cX10_mayBeSet 94 = .ok (.getfield 68, 3) := by decide +kernel
theorem dX10_mayBeSet_97 : decode cX10_mayBeSet 97 = .ok (.iload_n 2, 1) := by decide +kernel
theorem dX10_mayBeSet_98 : decode cX10_mayBeSet 98 = .ok (.invokevirtual 123, 3) := by decide +kernel
theorem dX10_mayBeSet_101 : decode cX10_mayBeSet 101 = .ok (.ifCond .eq 16, 3) := by decide +kernel
theorem dX10_mayBeSet_104 : decode cX10_mayBeSet 104 = .ok (.iload_n 3, 1) := by decide +kernel
theorem dX10_mayBeSet_105 : decode cX10_mayBeSet 105 = .ok (.bipush 99, 2) := by decide +kernel
theorem dX10_mayBeSet_107 : decode cX10_mayBeSet 107 = .ok (.invokestatic 78, 3) := by decide +kernel
theorem dX10_mayBeSet_110 : decode cX10_mayBeSet 110 = .ok (.ifCond .eq 7, 3) := by decide +kernel
theorem dX10_mayBeSet_113 : decode cX10_mayBeSet 113 = .ok (.iconst 1, 1) := by decide +kernel
theorem dX10_mayBeSet_114 : decode cX10_mayBeSet 114 = .ok (.goto 4, 3) := by decide +kernel
theorem dX10_mayBeSet_117 : decode cX10_mayBeSet 117 = .ok (.iconst 0, 1) := by decide +kernel
theorem dX10_mayBeSet_118 : decode cX10_mayBeSet 118 = .ok (.ireturn, 1) := by decide +kernel
theorem dX10_mayBeSet_119 : decode cX10_mayBeSet 119 = .ok (.iload_n 3, 1) := by decide +kernel
theorem dX10_mayBeSet_120 : decode cX10_mayBeSet 120 = .ok (.bipush 9, 2) := by decide +kernel
theorem dX10_mayBeSet_122 : decode cX10_mayBeSet 122 = .ok (.invokestatic 78, 3) := by decide +kernel
theorem dX10_mayBeSet_125 : decode cX10_mayBeSet 125 = .ok (.ireturn, 1) := by decide +kernel
theorem dX10_mayBeSet_126 : decode cX10_mayBeSet 126 = .ok (.iconst 0, 1) := by decide +kernel
theorem dX10_mayBeSet_127 : decode cX10_mayBeSet 127 = .ok (.ireturn, 1) := by decide +kernel
def f_X10_mayBeSet  (a1 : Int32) (a2 : Int32) (a3 : Int32) (h : zHp) : Option (Int32 × zHp) := (if a1 = (0 : Int32) then (f_X4_isChair 2 a2 h).bind fun x2 => (if x2.1 = 0 then some ((0 : Int32), x2.2) else (f_X10_within a3 (9 : Int32) x2.2).bind fun x3 => (if x3.1 = 0 then some ((0 : Int32), x3.2) else some ((1 : Int32), x3.2))) else (if a1 = (1 : Int32) then (f_X4_isPerson 2 a2 h).bind fun x5 => (if x5.1 = 0 then some ((0 : Int32), x5.2) else (f_X10_within a3 (9 : Int32) x5.2).bind fun x6 => (if x6.1 = 0 then some ((0 : Int32), x6.2) else some ((1 : Int32), x6.2))) else (if a1 = (2 : Int32) then (f_X4_rocks 2 a2 h).bind fun x8 => (if x8.1 = 0 then some ((0 : Int32), x8.2) else (f_X10_within a3 (99 : Int32) x8.2).bind fun x9 => (if x9.1 = 0 then some ((0 : Int32), x9.2) else some ((1 : Int32), x9.2))) else (if a1 = (3 : Int32) then (f_X10_within a3 (9 : Int32) h).bind fun x11 => zzb x11.1 (some (x11.1, x11.2)) else some ((0 : Int32), h)))))
set_option maxHeartbeats 4000000 in
set_option maxRecDepth 100000 in
theorem s_X10_mayBeSet  (a1 : Int32) (a2 : Int32) (a3 : Int32) (h : zHp) : Fn wX mX10_mayBeSet 2 rI [.ref 0, .int a1, .int a2, .int a3] h (f_X10_mayBeSet a1 a2 a3 h) := by
  refine Fn.of rfl (Nat.le_of_ble_eq_true rfl) ?_
  unfold f_X10_mayBeSet
  refine Sim.iload_n 1 dX10_mayBeSet_0 rfl ?_
  refine Sim.ite _ (fun q1 => ?_) (fun q1 => ?_)
  · refine Sim.tswIn 32 dX10_mayBeSet_1 q1 (by decide) (by decide) rfl rfl ?_
    refine Sim.aload_n 0 dX10_mayBeSet_32 rfl ?_
    refine Sim.getR (j := 1) fl_X10_12 dX10_mayBeSet_33 xR_0_0 ?_
    refine Sim.getR (j := 2) fl_X10_68 dX10_mayBeSet_36 (xR_X9_0 _ xL_X9_1) ?_
    refine Sim.iload_n 2 dX10_mayBeSet_39 rfl ?_
    refine Sim.callV1I (d1 := 0) (s_X4_isChair 2 xL_X4_2 a2 h) dX10_mayBeSet_40 ml_X10_116 mv_X4_isChair (xOC_X4 _ xL_X4_2) (Nat.le_of_ble_eq_true rfl) (Nat.le_of_ble_eq_true rfl) (Nat.le_of_ble_eq_true rfl) (fun x2 => ?_)
    refine Sim.if_eq 59 dX10_mayBeSet_43 rfl ?_ ?_
    · refine Sim.iconst (v := (0 : Int32)) dX10_mayBeSet_59 rfl ?_
      exact Sim.nret dX10_mayBeSet_60 rfl rfl
    · refine Sim.iload_n 3 dX10_mayBeSet_46 rfl ?_
      refine Sim.bipush (v := (9 : Int32)) dX10_mayBeSet_47 rfl ?_
      refine Sim.callS2I (d1 := 0) (s_X10_within a3 (9 : Int32) x2.2) dX10_mayBeSet_49 ml_X10_78 mv_X10_within (Nat.le_of_ble_eq_true rfl) (Nat.le_of_ble_eq_true rfl) (Nat.le_of_ble_eq_true rfl) (fun x3 => ?_)
      refine Sim.if_eq 59 dX10_mayBeSet_52 rfl ?_ ?_
      · refine Sim.iconst (v := (0 : Int32)) dX10_mayBeSet_59 rfl ?_
        exact Sim.nret dX10_mayBeSet_60 rfl rfl
      · refine Sim.iconst (v := (1 : Int32)) dX10_mayBeSet_55 rfl ?_
        refine Sim.goto 60 dX10_mayBeSet_56 rfl ?_
        exact Sim.nret dX10_mayBeSet_60 rfl rfl
  refine Sim.ite _ (fun q4 => ?_) (fun q4 => ?_)
  · refine Sim.tswIn 61 dX10_mayBeSet_1 q4 (by decide) (by decide) rfl rfl ?_
    refine Sim.aload_n 0 dX10_mayBeSet_61 rfl ?_
    refine Sim.getR (j := 1) fl_X10_12 dX10_mayBeSet_62 xR_0_0 ?_
    refine Sim.getR (j := 2) fl_X10_68 dX10_mayBeSet_65 (xR_X9_0 _ xL_X9_1) ?_
    refine Sim.iload_n 2 dX10_mayBeSet_68 rfl ?_
    refine Sim.callV1I (d1 := 0) (s_X4_isPerson 2 xL_X4_2 a2 h) dX10_mayBeSet_69 ml_X10_120 mv_X4_isPerson (xOC_X4 _ xL_X4_2) (Nat.le_of_ble_eq_true rfl) (Nat.le_of_ble_eq_true rfl) (Nat.le_of_ble_eq_true rfl) (fun x5 => ?_)
    refine Sim.if_eq 88 dX10_mayBeSet_72 rfl ?_ ?_
    · refine Sim.iconst (v := (0 : Int32)) dX10_mayBeSet_88 rfl ?_
      exact Sim.nret dX10_mayBeSet_89 rfl rfl
    · refine Sim.iload_n 3 dX10_mayBeSet_75 rfl ?_
      refine Sim.bipush (v := (9 : Int32)) dX10_mayBeSet_76 rfl ?_
      refine Sim.callS2I (d1 := 0) (s_X10_within a3 (9 : Int32) x5.2) dX10_mayBeSet_78 ml_X10_78 mv_X10_within (Nat.le_of_ble_eq_true rfl) (Nat.le_of_ble_eq_true rfl) (Nat.le_of_ble_eq_true rfl) (fun x6 => ?_)
      refine Sim.if_eq 88 dX10_mayBeSet_81 rfl ?_ ?_
      · refine Sim.iconst (v := (0 : Int32)) dX10_mayBeSet_88 rfl ?_
        exact Sim.nret dX10_mayBeSet_89 rfl rfl
      · refine Sim.iconst (v := (1 : Int32)) dX10_mayBeSet_84 rfl ?_
        refine Sim.goto 89 dX10_mayBeSet_85 rfl ?_
        exact Sim.nret dX10_mayBeSet_89 rfl rfl
  refine Sim.ite _ (fun q7 => ?_) (fun q7 => ?_)
  · refine Sim.tswIn 90 dX10_mayBeSet_1 q7 (by decide) (by decide) rfl rfl ?_
    refine Sim.aload_n 0 dX10_mayBeSet_90 rfl ?_
    refine Sim.getR (j := 1) fl_X10_12 dX10_mayBeSet_91 xR_0_0 ?_
    refine Sim.getR (j := 2) fl_X10_68 dX10_mayBeSet_94 (xR_X9_0 _ xL_X9_1) ?_
    refine Sim.iload_n 2 dX10_mayBeSet_97 rfl ?_
    refine Sim.callV1I (d1 := 1) (s_X4_rocks 2 xL_X4_2 a2 h) dX10_mayBeSet_98 ml_X10_123 mv_X4_rocks (xOC_X4 _ xL_X4_2) (Nat.le_of_ble_eq_true rfl) (Nat.le_of_ble_eq_true rfl) (Nat.le_of_ble_eq_true rfl) (fun x8 => ?_)
    refine Sim.if_eq 117 dX10_mayBeSet_101 rfl ?_ ?_
    · refine Sim.iconst (v := (0 : Int32)) dX10_mayBeSet_117 rfl ?_
      exact Sim.nret dX10_mayBeSet_118 rfl rfl
    · refine Sim.iload_n 3 dX10_mayBeSet_104 rfl ?_
      refine Sim.bipush (v := (99 : Int32)) dX10_mayBeSet_105 rfl ?_
      refine Sim.callS2I (d1 := 0) (s_X10_within a3 (99 : Int32) x8.2) dX10_mayBeSet_107 ml_X10_78 mv_X10_within (Nat.le_of_ble_eq_true rfl) (Nat.le_of_ble_eq_true rfl) (Nat.le_of_ble_eq_true rfl) (fun x9 => ?_)
      refine Sim.if_eq 117 dX10_mayBeSet_110 rfl ?_ ?_
      · refine Sim.iconst (v := (0 : Int32)) dX10_mayBeSet_117 rfl ?_
        exact Sim.nret dX10_mayBeSet_118 rfl rfl
      · refine Sim.iconst (v := (1 : Int32)) dX10_mayBeSet_113 rfl ?_
        refine Sim.goto 118 dX10_mayBeSet_114 rfl ?_
        exact Sim.nret dX10_mayBeSet_118 rfl rfl
  refine Sim.ite _ (fun q10 => ?_) (fun q10 => ?_)
  · refine Sim.tswIn 119 dX10_mayBeSet_1 q10 (by decide) (by decide) rfl rfl ?_
    refine Sim.iload_n 3 dX10_mayBeSet_119 rfl ?_
    refine Sim.bipush (v := (9 : Int32)) dX10_mayBeSet_120 rfl ?_
    refine Sim.callS2I (d1 := 0) (s_X10_within a3 (9 : Int32) h) dX10_mayBeSet_122 ml_X10_78 mv_X10_within (Nat.le_of_ble_eq_true rfl) (Nat.le_of_ble_eq_true rfl) (Nat.le_of_ble_eq_true rfl) (fun x11 => ?_)
    exact Sim.zret dX10_mayBeSet_125 rfl
  refine Sim.tswOut 126 dX10_mayBeSet_1 (by have aq1 : a1.toInt ≠ 0 := fun w => q1 (Int32.toInt_inj.mp w); have aq4 : a1.toInt ≠ 1 := fun w => q4 (Int32.toInt_inj.mp w); have aq7 : a1.toInt ≠ 2 := fun w => q7 (Int32.toInt_inj.mp w); have aq10 : a1.toInt ≠ 3 := fun w => q10 (Int32.toInt_inj.mp w); omega) rfl ?_
  refine Sim.iconst (v := (0 : Int32)) dX10_mayBeSet_126 rfl ?_
  exact Sim.nret dX10_mayBeSet_127 rfl rfl
theorem mv_X10_mayBeSet : zMV mX10_mayBeSet 3 := ⟨⟨zTb_in 576 (by decide +kernel) rfl, zTb_in 137 (by decide +kernel) rfl, ⟨by decide +kernel, by decide +kernel⟩, by decide +kernel⟩, zTb_in 575 (by decide +kernel) rfl, zTb_in 0 (by decide +kernel) rfl⟩
-- ===== RockingPorch.set(III)Z
abbrev mX10_set : zMt := (yX10_set, cX10_set, 5, some .boolean)
theorem fl_X10_103 : zF RX10 103 4 5 := ⟨RX4, TX4, 15, rfl, Nat.le_of_ble_eq_true rfl, zTb_in 193 (by decide +kernel) rfl, in_X4⟩
theorem fl_X10_106 : zF RX10 106 4 3 := ⟨RX4, TX4, 15, rfl, Nat.le_of_ble_eq_true rfl, zTb_in 186 (by decide +kernel) rfl, in_X4⟩
theorem fl_X10_99 : zF RX10 99 4 1 := ⟨RX4, TX4, 15, rfl, Nat.le_of_ble_eq_true rfl, zTb_in 181 (by decide +kernel) rfl, in_X4⟩
theorem fp_X10_113 : zFp RX10 113 4 11 .int := ⟨RX4, TX4, 15, tyX4, rfl, Nat.le_of_ble_eq_true rfl, zTb_in 211 (by decide +kernel) rfl, in_X4, tyX4_ok, nmX4, rfl, rfl⟩
theorem ml_X10_109 : Cond.methodLink RX10 109 yX4_rock ∈ zTb := zTb_in 590 (by decide +kernel) rfl
theorem ml_X10_95 : Cond.methodLink RX10 95 yX10_mayBeSet ∈ zTb := zTb_in 573 (by decide +kernel) rfl
theorem dX10_set_0 : decode cX10_set 0 = .ok (.aload_n 0, 1) := by decide +kernel
theorem dX10_set_1 : decode cX10_set 1 = .ok (.iload_n 1, 1) := by decide +kernel
theorem dX10_set_2 : decode cX10_set 2 = .ok (.iload_n 2, 1) := by decide +kernel
theorem dX10_set_3 : decode cX10_set 3 = .ok (.iload_n 3, 1) := by decide +kernel
theorem dX10_set_4 : decode cX10_set 4 = .ok (.invokevirtual 95, 3) := by decide +kernel
theorem dX10_set_7 : decode cX10_set 7 = .ok (.ifCond .ne 5, 3) := by decide +kernel
theorem dX10_set_10 : decode cX10_set 10 = .ok (.iconst 0, 1) := by decide +kernel
theorem dX10_set_11 : decode cX10_set 11 = .ok (.ireturn, 1) := by decide +kernel
theorem dX10_set_12 : decode cX10_set 12 = .ok (.aload_n 0, 1) := by decide +kernel
theorem dX10_set_13 : decode cX10_set 13 = .ok (.getfield 26, 3) := by decide +kernel
theorem dX10_set_16 : decode cX10_set 16 = .ok (.invokevirtual 75, 3) := by decide +kernel
theorem dX10_set_19 : decode cX10_set 19 = .ok (.aload_n 0, 1) := by decide +kernel
theorem dX10_set_20 : decode cX10_set 20 = .ok (.getfield 12, 3) := by decide +kernel
theorem dX10_set_23 : decode cX10_set 23 = .ok (.getfield 68, 3) := by decide +kernel
theorem dX10_set_26 : decode cX10_set 26 = .ok (.astore 4, 2) := by decide +kernel
theorem dX10_set_28 : decode cX10_set 28 = .ok (.iload_n 1, 1) := by decide +kernel
theorem dX10_set_29 : decode cX10_set 29 = .ok (.tableswitch 66 0 2 #[27, 38, 49], 27) := by decide +kernel
theorem dX10_set_56 : decode cX10_set 56 = .ok (.aload 4, 2) := by decide +kernel
theorem dX10_set_58 : decode cX10_set 58 = .ok (.getfield 99, 3) := by decide +kernel
theorem dX10_set_61 : decode cX10_set 61 = .ok (.iload_n 2, 1) := by decide +kernel
theorem dX10_set_62 : decode cX10_set 62 = .ok (.iload_n 3, 1) := by decide +kernel
theorem dX10_set_63 : decode cX10_set 63 = .ok (.iastore, 1) := by decide +kernel
theorem dX10_set_64 : decode cX10_set 64 = .ok (.goto 37, 3) := by decide +kernel
theorem dX10_set_67 : decode cX10_set 67 = .ok (.aload 4, 2) := by decide +kernel
theorem dX10_set_69 : decode cX10_set 69 = .ok (.getfield 103, 3) := by decide +kernel
theorem dX10_set_72 : decode cX10_set 72 = .ok (.iload_n 2, 1) := by decide +kernel
theorem dX10_set_73 : decode cX10_set 73 = .ok (.iload_n 3, 1) := by decide +kernel
theorem dX10_set_74 : decode cX10_set 74 = .ok (.iastore, 1) := by decide +kernel
theorem dX10_set_75 : decode cX10_set 75 = .ok (.goto 26, 3) := by decide +kernel
theorem dX10_set_78 : decode cX10_set 78 = .ok (.aload 4, 2) := by decide +kernel
theorem dX10_set_80 : decode cX10_set 80 = .ok (.iload_n 2, 1) := by decide +kernel
theorem dX10_set_81 : decode cX10_set 81 = .ok (.iload_n 3, 1) := by decide +kernel
theorem dX10_set_82 : decode cX10_set 82 = .ok (.aload 4, 2) := by decide +kernel
theorem dX10_set_84 : decode cX10_set 84 = .ok (.getfield 106, 3) := by decide +kernel
theorem dX10_set_87 : decode cX10_set 87 = .ok (.iload_n 2, 1) := by decide +kernel
theorem dX10_set_88 : decode cX10_set 88 = .ok (.iaload, 1) := by decide +kernel
theorem dX10_set_89 : decode cX10_set 89 = .ok (.invokevirtual 109, 3) := by decide +kernel
theorem dX10_set_92 : decode cX10_set 92 = .ok (.goto 9, 3) := by decide +kernel
theorem dX10_set_95 : decode cX10_set 95 = .ok (.aload 4, 2) := by decide +kernel
theorem dX10_set_97 : decode cX10_set 97 = .ok (.iload_n 3, 1) := by decide +kernel
theorem dX10_set_98 : decode cX10_set 98 = .ok (.putfield 113, 3) := by decide +kernel
theorem dX10_set_101 : decode cX10_set 101 = .ok (.iconst 1, 1) := by decide +kernel
theorem dX10_set_102 : decode cX10_set 102 = .ok (.ireturn, 1) := by decide +kernel
def f_X10_set  (a1 : Int32) (a2 : Int32) (a3 : Int32) (h : zHp) : Option (Int32 × zHp) := (f_X10_mayBeSet a1 a2 a3 h).bind fun x1 => (if x1.1 = 0 then some ((0 : Int32), x1.2) else (f_X3_forget x1.2).bind fun x2 => (if a1 = (0 : Int32) then zix a2 10 (zlt (zst x2 3 a2.toNatClampNeg a3) fun h4 => some ((1 : Int32), h4)) else (if a1 = (1 : Int32) then zix a2 14 (zlt (zst x2 7 a2.toNatClampNeg a3) fun h6 => some ((1 : Int32), h6)) else (if a1 = (2 : Int32) then zix a2 10 ((f_X4_rock 2 a2 a3 (x2 5 a2.toNatClampNeg) x2).bind fun x8 => some ((1 : Int32), x8)) else zlt (zst x2 2 11 a3) fun h9 => some ((1 : Int32), h9)))))
set_option maxHeartbeats 4000000 in
set_option maxRecDepth 100000 in
theorem s_X10_set  (a1 : Int32) (a2 : Int32) (a3 : Int32) (h : zHp) : Fn wX mX10_set 3 rI [.ref 0, .int a1, .int a2, .int a3] h (f_X10_set a1 a2 a3 h) := by
  refine Fn.of rfl (Nat.le_of_ble_eq_true rfl) ?_
  unfold f_X10_set
  refine Sim.aload_n 0 dX10_set_0 rfl ?_
  refine Sim.iload_n 1 dX10_set_1 rfl ?_
  refine Sim.iload_n 2 dX10_set_2 rfl ?_
  refine Sim.iload_n 3 dX10_set_3 rfl ?_
  refine Sim.callV3I (d1 := 2) (s_X10_mayBeSet a1 a2 a3 h) dX10_set_4 ml_X10_95 mv_X10_mayBeSet xO_X10 (Nat.le_of_ble_eq_true rfl) (Nat.le_of_ble_eq_true rfl) (Nat.le_of_ble_eq_true rfl) (fun x1 => ?_)
  refine Sim.if_ne 12 dX10_set_7 rfl ?_ ?_
  · refine Sim.iconst (v := (0 : Int32)) dX10_set_10 rfl ?_
    exact Sim.nret dX10_set_11 rfl rfl
  · refine Sim.aload_n 0 dX10_set_12 rfl ?_
    refine Sim.getR (j := 79) fl_X10_26 dX10_set_13 xR_0_3 ?_
    refine Sim.callV0U (d1 := 0) (s_X3_forget x1.2) dX10_set_16 ml_X10_75 mv_X3_forget xO_X3 (Nat.le_of_ble_eq_true rfl) (Nat.le_of_ble_eq_true rfl) (Nat.le_of_ble_eq_true rfl) (fun x2 => ?_)
    refine Sim.aload_n 0 dX10_set_19 rfl ?_
    refine Sim.getR (j := 1) fl_X10_12 dX10_set_20 xR_0_0 ?_
    refine Sim.getR (j := 2) fl_X10_68 dX10_set_23 (xR_X9_0 _ xL_X9_1) ?_
    refine Sim.astore (L' := [(4, .ref 2), (0, .ref 0), (1, .int a1), (2, .int a2), (3, .int a3)]) dX10_set_26 (Nat.le_of_ble_eq_true rfl) rfl ?_
    refine Sim.iload_n 2 dX10_set_28 rfl ?_
    refine Sim.ite _ (fun q3 => ?_) (fun q3 => ?_)
    · refine Sim.tswIn 56 dX10_set_29 q3 (by decide) (by decide) rfl rfl ?_
      refine Sim.aload 0 dX10_set_56 rfl ?_
      refine Sim.getR (j := 3) fl_X10_99 dX10_set_58 (xR_X4_1 _ xL_X4_2) ?_
      refine Sim.iload_n 3 dX10_set_61 rfl ?_
      refine Sim.iload_n 4 dX10_set_62 rfl ?_
      refine Sim.iast (n := 10) dX10_set_63 xA_3 ?_
      refine Sim.lth (fun h4 => ?_)
      refine Sim.goto 101 dX10_set_64 rfl ?_
      refine Sim.iconst (v := (1 : Int32)) dX10_set_101 rfl ?_
      exact Sim.nret dX10_set_102 rfl rfl
    refine Sim.ite _ (fun q5 => ?_) (fun q5 => ?_)
    · refine Sim.tswIn 67 dX10_set_29 q5 (by decide) (by decide) rfl rfl ?_
      refine Sim.aload 0 dX10_set_67 rfl ?_
      refine Sim.getR (j := 7) fl_X10_103 dX10_set_69 (xR_X4_5 _ xL_X4_2) ?_
      refine Sim.iload_n 3 dX10_set_72 rfl ?_
      refine Sim.iload_n 4 dX10_set_73 rfl ?_
      refine Sim.iast (n := 14) dX10_set_74 xA_7 ?_
      refine Sim.lth (fun h6 => ?_)
      refine Sim.goto 101 dX10_set_75 rfl ?_
      refine Sim.iconst (v := (1 : Int32)) dX10_set_101 rfl ?_
      exact Sim.nret dX10_set_102 rfl rfl
    refine Sim.ite _ (fun q7 => ?_) (fun q7 => ?_)
    · refine Sim.tswIn 78 dX10_set_29 q7 (by decide) (by decide) rfl rfl ?_
      refine Sim.aload 0 dX10_set_78 rfl ?_
      refine Sim.iload_n 3 dX10_set_80 rfl ?_
      refine Sim.iload_n 4 dX10_set_81 rfl ?_
      refine Sim.aload 0 dX10_set_82 rfl ?_
      refine Sim.getR (j := 5) fl_X10_106 dX10_set_84 (xR_X4_3 _ xL_X4_2) ?_
      refine Sim.iload_n 3 dX10_set_87 rfl ?_
      refine Sim.iald (n := 10) dX10_set_88 xA_5 ?_
      refine Sim.callV3U (d1 := 0) (s_X4_rock 2 xL_X4_2 a2 a3 (x2 5 a2.toNatClampNeg) x2) dX10_set_89 ml_X10_109 mv_X4_rock (xOC_X4 _ xL_X4_2) (Nat.le_of_ble_eq_true rfl) (Nat.le_of_ble_eq_true rfl) (Nat.le_of_ble_eq_true rfl) (fun x8 => ?_)
      refine Sim.goto 101 dX10_set_92 rfl ?_
      refine Sim.iconst (v := (1 : Int32)) dX10_set_101 rfl ?_
      exact Sim.nret dX10_set_102 rfl rfl
    refine Sim.tswOut 95 dX10_set_29 (by have aq3 : a1.toInt ≠ 0 := fun w => q3 (Int32.toInt_inj.mp w); have aq5 : a1.toInt ≠ 1 := fun w => q5 (Int32.toInt_inj.mp w); have aq7 : a1.toInt ≠ 2 := fun w => q7 (Int32.toInt_inj.mp w); omega) rfl ?_
    refine Sim.aload 0 dX10_set_95 rfl ?_
    refine Sim.iload_n 4 dX10_set_97 rfl ?_
    refine Sim.put fp_X10_113 dX10_set_98 (xI_X4_11 _ xL_X4_2) rfl rfl ?_
    refine Sim.lth (fun h9 => ?_)
    refine Sim.iconst (v := (1 : Int32)) dX10_set_101 rfl ?_
    exact Sim.nret dX10_set_102 rfl rfl
theorem mv_X10_set : zMV mX10_set 3 := ⟨⟨zTb_in 572 (by decide +kernel) rfl, zTb_in 137 (by decide +kernel) rfl, ⟨by decide +kernel, by decide +kernel⟩, by decide +kernel⟩, zTb_in 570 (by decide +kernel) rfl, zTb_in 571 (by decide +kernel) rfl⟩
-- ===== RockingPorch.mayBeDone(III)Z
abbrev mX10_mayBeDone : zMt := (yX10_mayBeDone, cX10_mayBeDone, 4, some .boolean)
theorem ml_X10_152 : Cond.methodLink RX10 152 yX4_is ∈ zTb := zTb_in 599 (by decide +kernel) rfl
theorem ml_X10_155 : Cond.methodLink RX10 155 yX4_isFree ∈ zTb := zTb_in 604 (by decide +kernel) rfl
theorem dX10_mayBeDone_0 : decode cX10_mayBeDone 0 = .ok (.iload_n 1, 1) := by decide +kernel
theorem dX10_mayBeDone_1 : decode cX10_mayBeDone 1 = .ok (.tableswitch 91 0 3 #[31, 66, 79, 79], 31) := by decide +kernel
theorem dX10_mayBeDone_32 : decode cX10_mayBeDone 32 = .ok (.aload_n 0, 1) := by decide +kernel
theorem dX10_mayBeDone_33 : decode cX10_mayBeDone 33 = .ok (.getfield 12, 3) := by decide +kernel
theorem dX10_mayBeDone_36 : decode cX10_mayBeDone 36 = .ok (.getfield 68, 3) := by decide +kernel
theorem dX10_mayBeDone_39 : decode cX10_mayBeDone 39 = .ok (.iload_n 2, 1) := by decide +kernel
theorem dX10_mayBeDone_40 : decode cX10_mayBeDone 40 = .ok (.iconst 1, 1) := by decide +kernel
theorem dX10_mayBeDone_41 : decode cX10_mayBeDone 41 = .ok (.invokevirtual 152, 3) := by decide +kernel
theorem dX10_mayBeDone_44 : decode cX10_mayBeDone 44 = .ok (.ifCond .eq 21, 3) := by decide +kernel
theorem dX10_mayBeDone_47 : decode cX10_mayBeDone 47 = .ok (.aload_n 0, 1) := by decide +kernel
theorem dX10_mayBeDone_48 : decode cX10_mayBeDone 48 = .ok (.getfield 12, 3) := by decide +kernel
theorem dX10_mayBeDone_51 : decode cX10_mayBeDone 51 = .ok (.getfield 68, 3) := by decide +kernel
theorem dX10_mayBeDone_54 : decode cX10_mayBeDone 54 = .ok (.iload_n 3, 1) := by decide +kernel
theorem dX10_mayBeDone_55 : decode cX10_mayBeDone 55 = .ok (.invokevirtual 155, 3) := by decide +kernel
theorem dX10_mayBeDone_58 : decode cX10_mayBeDone 58 = .ok (.ifCond .eq 7, 3) := by decide +kernel
theorem dX10_mayBeDone_61 : decode cX10_mayBeDone 61 = .ok (.iconst 1, 1) := by decide +kernel
theorem dX10_mayBeDone_62 : decode cX10_mayBeDone 62 = .ok (.goto 4, 3) := by decide +kernel
theorem dX10_mayBeDone_65 : decode cX10_mayBeDone 65 = .ok (.iconst 0, 1) := by decide +kernel
theorem dX10_mayBeDone_66 : decode cX10_mayBeDone 66 = .ok (.ireturn, 1) := by decide +kernel
theorem dX10_mayBeDone_67 : decode cX10_mayBeDone 67 = .ok (.aload_n 0, 1) := by decide +kernel
theorem dX10_mayBeDone_68 : decode cX10_mayBeDone 68 = .ok (.getfield 12, 3) := by decide +kernel
theorem dX10_mayBeDone_71 : decode cX10_mayBeDone 71 = .ok (.getfield 68, 3) := by decide +kernel
theorem dX10_mayBeDone_74 : decode cX10_mayBeDone 74 = .ok (.iload_n 2, 1) := by decide +kernel
theorem dX10_mayBeDone_75 : decode cX10_mayBeDone 75 = .ok (.iconst 2, 1) := by decide +kernel
theorem dX10_mayBeDone_76 : decode cX10_mayBeDone 76 = .ok (.invokevirtual 152, 3) := by decide +kernel
theorem dX10_mayBeDone_79 : decode cX10_mayBeDone 79 = .ok (.ireturn, 1) := by decide +kernel
theorem dX10_mayBeDone_80 : decode cX10_mayBeDone 80 = .ok (.aload_n 0, 1) := by decide +kernel
theorem dX10_mayBeDone_81 : decode cX10_mayBeDone 81 = .ok (.getfield 12, 3) := by decide +kernel
theorem dX10_mayBeDone_84 : decode cX10_mayBeDone 84 = .ok (.getfield 68, 3) := by decide +kernel
theorem dX10_mayBeDone_87 : decode cX10_mayBeDone 87 = .ok (.iload_n 2, 1) := by decide +kernel
theorem dX10_mayBeDone_88 : decode cX10_mayBeDone 88 = .ok (.invokevirtual 123, 3) := by decide +kernel
theorem dX10_mayBeDone_91 : decode cX10_mayBeDone 91 = .ok (.ireturn, 1) := by decide +kernel
theorem dX10_mayBeDone_92 : decode cX10_mayBeDone 92 = .ok (.iconst 0, 1) := by decide +kernel
theorem dX10_mayBeDone_93 : decode cX10_mayBeDone 93 = .ok (.ireturn, 1) := by decide +kernel
def f_X10_mayBeDone  (a1 : Int32) (a2 : Int32) (a3 : Int32) (h : zHp) : Option (Int32 × zHp) := (if a1 = (0 : Int32) then (f_X4_is 2 a2 (1 : Int32) h).bind fun x2 => (if x2.1 = 0 then some ((0 : Int32), x2.2) else (f_X4_isFree 2 a3 x2.2).bind fun x3 => (if x3.1 = 0 then some ((0 : Int32), x3.2) else some ((1 : Int32), x3.2))) else (if a1 = (1 : Int32) then (f_X4_is 2 a2 (2 : Int32) h).bind fun x5 => zzb x5.1 (some (x5.1, x5.2)) else (if a1 = (2 : Int32) then (f_X4_rocks 2 a2 h).bind fun x7 => zzb x7.1 (some (x7.1, x7.2)) else (if a1 = (3 : Int32) then (f_X4_rocks 2 a2 h).bind fun x9 => zzb x9.1 (some (x9.1, x9.2)) else some ((0 : Int32), h)))))
set_option maxHeartbeats 4000000 in
set_option maxRecDepth 100000 in
theorem s_X10_mayBeDone  (a1 : Int32) (a2 : Int32) (a3 : Int32) (h : zHp) : Fn wX mX10_mayBeDone 2 rI [.ref 0, .int a1, .int a2, .int a3] h (f_X10_mayBeDone a1 a2 a3 h) := by
  refine Fn.of rfl (Nat.le_of_ble_eq_true rfl) ?_
  unfold f_X10_mayBeDone
  refine Sim.iload_n 1 dX10_mayBeDone_0 rfl ?_
  refine Sim.ite _ (fun q1 => ?_) (fun q1 => ?_)
  · refine Sim.tswIn 32 dX10_mayBeDone_1 q1 (by decide) (by decide) rfl rfl ?_
    refine Sim.aload_n 0 dX10_mayBeDone_32 rfl ?_
    refine Sim.getR (j := 1) fl_X10_12 dX10_mayBeDone_33 xR_0_0 ?_
    refine Sim.getR (j := 2) fl_X10_68 dX10_mayBeDone_36 (xR_X9_0 _ xL_X9_1) ?_
    refine Sim.iload_n 2 dX10_mayBeDone_39 rfl ?_
    refine Sim.iconst (v := (1 : Int32)) dX10_mayBeDone_40 rfl ?_
    refine Sim.callV2I (d1 := 1) (s_X4_is 2 xL_X4_2 a2 (1 : Int32) h) dX10_mayBeDone_41 ml_X10_152 mv_X4_is (xOC_X4 _ xL_X4_2) (Nat.le_of_ble_eq_true rfl) (Nat.le_of_ble_eq_true rfl) (Nat.le_of_ble_eq_true rfl) (fun x2 => ?_)
    refine Sim.if_eq 65 dX10_mayBeDone_44 rfl ?_ ?_
    · refine Sim.iconst (v := (0 : Int32)) dX10_mayBeDone_65 rfl ?_
      exact Sim.nret dX10_mayBeDone_66 rfl rfl
    · refine Sim.aload_n 0 dX10_mayBeDone_47 rfl ?_
      refine Sim.getR (j := 1) fl_X10_12 dX10_mayBeDone_48 xR_0_0 ?_
      refine Sim.getR (j := 2) fl_X10_68 dX10_mayBeDone_51 (xR_X9_0 _ xL_X9_1) ?_
      refine Sim.iload_n 3 dX10_mayBeDone_54 rfl ?_
      refine Sim.callV1I (d1 := 1) (s_X4_isFree 2 xL_X4_2 a3 x2.2) dX10_mayBeDone_55 ml_X10_155 mv_X4_isFree (xOC_X4 _ xL_X4_2) (Nat.le_of_ble_eq_true rfl) (Nat.le_of_ble_eq_true rfl) (Nat.le_of_ble_eq_true rfl) (fun x3 => ?_)
      refine Sim.if_eq 65 dX10_mayBeDone_58 rfl ?_ ?_
      · refine Sim.iconst (v := (0 : Int32)) dX10_mayBeDone_65 rfl ?_
        exact Sim.nret dX10_mayBeDone_66 rfl rfl
      · refine Sim.iconst (v := (1 : Int32)) dX10_mayBeDone_61 rfl ?_
        refine Sim.goto 66 dX10_mayBeDone_62 rfl ?_
        exact Sim.nret dX10_mayBeDone_66 rfl rfl
  refine Sim.ite _ (fun q4 => ?_) (fun q4 => ?_)
  · refine Sim.tswIn 67 dX10_mayBeDone_1 q4 (by decide) (by decide) rfl rfl ?_
    refine Sim.aload_n 0 dX10_mayBeDone_67 rfl ?_
    refine Sim.getR (j := 1) fl_X10_12 dX10_mayBeDone_68 xR_0_0 ?_
    refine Sim.getR (j := 2) fl_X10_68 dX10_mayBeDone_71 (xR_X9_0 _ xL_X9_1) ?_
    refine Sim.iload_n 2 dX10_mayBeDone_74 rfl ?_
    refine Sim.iconst (v := (2 : Int32)) dX10_mayBeDone_75 rfl ?_
    refine Sim.callV2I (d1 := 1) (s_X4_is 2 xL_X4_2 a2 (2 : Int32) h) dX10_mayBeDone_76 ml_X10_152 mv_X4_is (xOC_X4 _ xL_X4_2) (Nat.le_of_ble_eq_true rfl) (Nat.le_of_ble_eq_true rfl) (Nat.le_of_ble_eq_true rfl) (fun x5 => ?_)
    exact Sim.zret dX10_mayBeDone_79 rfl
  refine Sim.ite _ (fun q6 => ?_) (fun q6 => ?_)
  · refine Sim.tswIn 80 dX10_mayBeDone_1 q6 (by decide) (by decide) rfl rfl ?_
    refine Sim.aload_n 0 dX10_mayBeDone_80 rfl ?_
    refine Sim.getR (j := 1) fl_X10_12 dX10_mayBeDone_81 xR_0_0 ?_
    refine Sim.getR (j := 2) fl_X10_68 dX10_mayBeDone_84 (xR_X9_0 _ xL_X9_1) ?_
    refine Sim.iload_n 2 dX10_mayBeDone_87 rfl ?_
    refine Sim.callV1I (d1 := 1) (s_X4_rocks 2 xL_X4_2 a2 h) dX10_mayBeDone_88 ml_X10_123 mv_X4_rocks (xOC_X4 _ xL_X4_2) (Nat.le_of_ble_eq_true rfl) (Nat.le_of_ble_eq_true rfl) (Nat.le_of_ble_eq_true rfl) (fun x7 => ?_)
    exact Sim.zret dX10_mayBeDone_91 rfl
  refine Sim.ite _ (fun q8 => ?_) (fun q8 => ?_)
  · refine Sim.tswIn 80 dX10_mayBeDone_1 q8 (by decide) (by decide) rfl rfl ?_
    refine Sim.aload_n 0 dX10_mayBeDone_80 rfl ?_
    refine Sim.getR (j := 1) fl_X10_12 dX10_mayBeDone_81 xR_0_0 ?_
    refine Sim.getR (j := 2) fl_X10_68 dX10_mayBeDone_84 (xR_X9_0 _ xL_X9_1) ?_
    refine Sim.iload_n 2 dX10_mayBeDone_87 rfl ?_
    refine Sim.callV1I (d1 := 1) (s_X4_rocks 2 xL_X4_2 a2 h) dX10_mayBeDone_88 ml_X10_123 mv_X4_rocks (xOC_X4 _ xL_X4_2) (Nat.le_of_ble_eq_true rfl) (Nat.le_of_ble_eq_true rfl) (Nat.le_of_ble_eq_true rfl) (fun x9 => ?_)
    exact Sim.zret dX10_mayBeDone_91 rfl
  refine Sim.tswOut 92 dX10_mayBeDone_1 (by have aq1 : a1.toInt ≠ 0 := fun w => q1 (Int32.toInt_inj.mp w); have aq4 : a1.toInt ≠ 1 := fun w => q4 (Int32.toInt_inj.mp w); have aq6 : a1.toInt ≠ 2 := fun w => q6 (Int32.toInt_inj.mp w); have aq8 : a1.toInt ≠ 3 := fun w => q8 (Int32.toInt_inj.mp w); omega) rfl ?_
  refine Sim.iconst (v := (0 : Int32)) dX10_mayBeDone_92 rfl ?_
  exact Sim.nret dX10_mayBeDone_93 rfl rfl
theorem mv_X10_mayBeDone : zMV mX10_mayBeDone 3 := ⟨⟨zTb_in 598 (by decide +kernel) rfl, zTb_in 137 (by decide +kernel) rfl, ⟨by decide +kernel, by decide +kernel⟩, by decide +kernel⟩, zTb_in 597 (by decide +kernel) rfl, zTb_in 1 (by decide +kernel) rfl⟩
-- ===== RockingPorch.act(III)Z
abbrev mX10_act : zMt := (yX10_act, cX10_act, 5, some .boolean)
theorem fl_X10_129 : zF RX10 129 9 1 := ⟨RX9, TX9, 7, rfl, Nat.le_of_ble_eq_true rfl, zTb_in 364 (by decide +kernel) rfl, in_X9⟩
theorem fl_X10_133 : zF RX10 133 2 2 := ⟨RX2, TX2, 3, rfl, Nat.le_of_ble_eq_true rfl, zTb_in 262 (by decide +kernel) rfl, in_X2⟩
theorem fl_X10_51 : zF RX10 51 10 6 := ⟨RX10, TX10, 8, rfl, Nat.le_of_ble_eq_true rfl, zTb_in 519 (by decide +kernel) rfl, in_X10⟩
theorem ml_X10_126 : Cond.methodLink RX10 126 yX10_mayBeDone ∈ zTb := zTb_in 595 (by decide +kernel) rfl
theorem ml_X10_138 : Cond.methodLink RX10 138 yX3_keep ∈ zTb := zTb_in 608 (by decide +kernel) rfl
theorem ml_X10_142 : Cond.methodLink RX10 142 yX0_sitDown ∈ zTb := zTb_in 622 (by decide +kernel) rfl
theorem ml_X10_146 : Cond.methodLink RX10 146 yX0_getUp ∈ zTb := zTb_in 636 (by decide +kernel) rfl
theorem ml_X10_149 : Cond.methodLink RX10 149 yX0_letCat ∈ zTb := zTb_in 690 (by decide +kernel) rfl
theorem dX10_act_0 : decode cX10_act 0 = .ok (.aload_n 0, 1) := by decide +kernel
theorem dX10_act_1 : decode cX10_act 1 = .ok (.iload_n 1, 1) := by decide +kernel
theorem dX10_act_2 : decode cX10_act 2 = .ok (.iload_n 2, 1) := by decide +kernel
theorem dX10_act_3 : decode cX10_act 3 = .ok (.iload_n 3, 1) := by decide +kernel
theorem dX10_act_4 : decode cX10_act 4 = .ok (.invokevirtual 126, 3) := by decide +kernel
theorem dX10_act_7 : decode cX10_act 7 = .ok (.ifCond .ne 5, 3) := by decide +kernel
theorem dX10_act_10 : decode cX10_act 10 = .ok (.iconst 0, 1) := by decide +kernel
theorem dX10_act_11 : decode cX10_act 11 = .ok (.ireturn, 1) := by decide +kernel
theorem dX10_act_12 : decode cX10_act 12 = .ok (.aload_n 0, 1) := by decide +kernel
theorem dX10_act_13 : decode cX10_act 13 = .ok (.getfield 12, 3) := by decide +kernel
theorem dX10_act_16 : decode cX10_act 16 = .ok (.getfield 68, 3) := by decide +kernel
theorem dX10_act_19 : decode cX10_act 19 = .ok (.astore 4, 2) := by decide +kernel
theorem dX10_act_21 : decode cX10_act 21 = .ok (.aload_n 0, 1) := by decide +kernel
theorem dX10_act_22 : decode cX10_act 22 = .ok (.getfield 26, 3) := by decide +kernel
theorem dX10_act_25 : decode cX10_act 25 = .ok (.aload 4, 2) := by decide +kernel
theorem dX10_act_27 : decode cX10_act 27 = .ok (.aload_n 0, 1) := by decide +kernel
theorem dX10_act_28 : decode cX10_act 28 = .ok (.getfield 12, 3) := by decide +kernel
theorem dX10_act_31 : decode cX10_act 31 = .ok (.getfield 129, 3) := by decide +kernel
theorem dX10_act_34 : decode cX10_act 34 = .ok (.getfield 133, 3) := by decide +kernel
theorem dX10_act_37 : decode cX10_act 37 = .ok (.invokevirtual 138, 3) := by decide +kernel
theorem dX10_act_40 : decode cX10_act 40 = .ok (.iload_n 1, 1) := by decide +kernel
theorem dX10_act_41 : decode cX10_act 41 = .ok (.tableswitch 68 0 2 #[27, 42, 55], 27) := by decide +kernel
theorem dX10_act_68 : decode cX10_act 68 = .ok (.aload_n 0, 1) := by decide +kernel
theorem dX10_act_69 : decode cX10_act 69 = .ok (.getfield 51, 3) := by decide +kernel
theorem dX10_act_72 : decode cX10_act 72 = .ok (.aload 4, 2) := by decide +kernel
theorem dX10_act_74 : decode cX10_act 74 = .ok (.iload_n 2, 1) := by decide +kernel
theorem dX10_act_75 : decode cX10_act 75 = .ok (.iload_n 3, 1) := by decide +kernel
theorem dX10_act_76 : decode cX10_act 76 = .ok (.invokevirtual 142, 3) := by decide +kernel
theorem dX10_act_79 : decode cX10_act 79 = .ok (.pop, 1) := by decide +kernel
theorem dX10_act_80 : decode cX10_act 80 = .ok (.goto 37, 3) := by decide +kernel
theorem dX10_act_83 : decode cX10_act 83 = .ok (.aload_n 0, 1) := by decide +kernel
theorem dX10_act_84 : decode cX10_act 84 = .ok (.getfield 51, 3) := by decide +kernel
theorem dX10_act_87 : decode cX10_act 87 = .ok (.aload 4, 2) := by decide +kernel
theorem dX10_act_89 : decode cX10_act 89 = .ok (.iload_n 2, 1) := by decide +kernel
theorem dX10_act_90 : decode cX10_act 90 = .ok (.invokevirtual 146, 3) := by decide +kernel
theorem dX10_act_93 : decode cX10_act 93 = .ok (.goto 24, 3) := by decide +kernel
theorem dX10_act_96 : decode cX10_act 96 = .ok (.aload_n 0, 1) := by decide +kernel
theorem dX10_act_97 : decode cX10_act 97 = .ok (.getfield 51, 3) := by decide +kernel
theorem dX10_act_100 : decode cX10_act 100 = .ok (.aload 4, 2) := by decide +kernel
theorem dX10_act_102 : decode cX10_act 102 = .ok (.iload_n 2, 1) := by decide +kernel
theorem dX10_act_103 : decode cX10_act 103 = .ok (.invokevirtual 149, 3) := by decide +kernel
theorem dX10_act_106 : decode cX10_act 106 = .ok (.goto 11, 3) := by decide +kernel
theorem dX10_act_109 : decode cX10_act 109 = .ok (.aload 4, 2) := by decide +kernel
theorem dX10_act_111 : decode cX10_act 111 = .ok (.iload_n 2, 1) := by decide +kernel
theorem dX10_act_112 : decode cX10_act 112 = .ok (.iconst 0, 1) := by decide +kernel
theorem dX10_act_113 : decode cX10_act 113 = .ok (.iconst (-1), 1) := by decide +kernel
theorem dX10_act_114 : decode cX10_act 114 = .ok (.invokevirtual 109, 3) := by decide +kernel
theorem dX10_act_117 : decode cX10_act 117 = .ok (.iconst 1, 1) := by decide +kernel
theorem dX10_act_118 : decode cX10_act 118 = .ok (.ireturn, 1) := by decide +kernel
def f_X10_act  (a1 : Int32) (a2 : Int32) (a3 : Int32) (h : zHp) : Option (Int32 × zHp) := (f_X10_mayBeDone a1 a2 a3 h).bind fun x1 => (if x1.1 = 0 then some ((0 : Int32), x1.2) else (f_X3_keep 2 (x1.2 11 2) x1.2).bind fun x2 => (if a1 = (0 : Int32) then (f_X0_sitDown 2 a2 a3 x2).bind fun x4 => some ((1 : Int32), x4.2) else (if a1 = (1 : Int32) then (f_X0_getUp 2 a2 x2).bind fun x6 => some ((1 : Int32), x6) else (if a1 = (2 : Int32) then (f_X0_letCat 2 a2 x2).bind fun x8 => some ((1 : Int32), x8) else (f_X4_rock 2 a2 (0 : Int32) (-1 : Int32) x2).bind fun x9 => some ((1 : Int32), x9)))))
set_option maxHeartbeats 4000000 in
set_option maxRecDepth 100000 in
theorem s_X10_act  (a1 : Int32) (a2 : Int32) (a3 : Int32) (h : zHp) : Fn wX mX10_act 5 rI [.ref 0, .int a1, .int a2, .int a3] h (f_X10_act a1 a2 a3 h) := by
  refine Fn.of rfl (Nat.le_of_ble_eq_true rfl) ?_
  unfold f_X10_act
  refine Sim.aload_n 0 dX10_act_0 rfl ?_
  refine Sim.iload_n 1 dX10_act_1 rfl ?_
  refine Sim.iload_n 2 dX10_act_2 rfl ?_
  refine Sim.iload_n 3 dX10_act_3 rfl ?_
  refine Sim.callV3I (d1 := 2) (s_X10_mayBeDone a1 a2 a3 h) dX10_act_4 ml_X10_126 mv_X10_mayBeDone xO_X10 (Nat.le_of_ble_eq_true rfl) (Nat.le_of_ble_eq_true rfl) (Nat.le_of_ble_eq_true rfl) (fun x1 => ?_)
  refine Sim.if_ne 12 dX10_act_7 rfl ?_ ?_
  · refine Sim.iconst (v := (0 : Int32)) dX10_act_10 rfl ?_
    exact Sim.nret dX10_act_11 rfl rfl
  · refine Sim.aload_n 0 dX10_act_12 rfl ?_
    refine Sim.getR (j := 1) fl_X10_12 dX10_act_13 xR_0_0 ?_
    refine Sim.getR (j := 2) fl_X10_68 dX10_act_16 (xR_X9_0 _ xL_X9_1) ?_
    refine Sim.astore (L' := [(4, .ref 2), (0, .ref 0), (1, .int a1), (2, .int a2), (3, .int a3)]) dX10_act_19 (Nat.le_of_ble_eq_true rfl) rfl ?_
    refine Sim.aload_n 1 dX10_act_21 rfl ?_
    refine Sim.getR (j := 79) fl_X10_26 dX10_act_22 xR_0_3 ?_
    refine Sim.aload 0 dX10_act_25 rfl ?_
    refine Sim.aload_n 1 dX10_act_27 rfl ?_
    refine Sim.getR (j := 1) fl_X10_12 dX10_act_28 xR_0_0 ?_
    refine Sim.getR (j := 11) fl_X10_129 dX10_act_31 (xR_X9_1 _ xL_X9_1) ?_
    refine Sim.getI fl_X10_133 dX10_act_34 (xI_X2_2 _ xL_X2_11) ?_
    refine Sim.callV2U (d1 := 2) (s_X3_keep 2 xL_X4_2 (x1.2 11 2) x1.2) dX10_act_37 ml_X10_138 mv_X3_keep xO_X3 (Nat.le_of_ble_eq_true rfl) (Nat.le_of_ble_eq_true rfl) (Nat.le_of_ble_eq_true rfl) (fun x2 => ?_)
    refine Sim.iload_n 2 dX10_act_40 rfl ?_
    refine Sim.ite _ (fun q3 => ?_) (fun q3 => ?_)
    · refine Sim.tswIn 68 dX10_act_41 q3 (by decide) (by decide) rfl rfl ?_
      refine Sim.aload_n 1 dX10_act_68 rfl ?_
      refine Sim.getR (j := 159) fl_X10_51 dX10_act_69 xR_0_6 ?_
      refine Sim.aload 0 dX10_act_72 rfl ?_
      refine Sim.iload_n 3 dX10_act_74 rfl ?_
      refine Sim.iload_n 4 dX10_act_75 rfl ?_
      refine Sim.callV3I (d1 := 2) (s_X0_sitDown 2 xL_X4_2 a2 a3 x2) dX10_act_76 ml_X10_142 mv_X0_sitDown xO_X0 (Nat.le_of_ble_eq_true rfl) (Nat.le_of_ble_eq_true rfl) (Nat.le_of_ble_eq_true rfl) (fun x4 => ?_)
      refine Sim.pop dX10_act_79 rfl ?_
      refine Sim.goto 117 dX10_act_80 rfl ?_
      refine Sim.iconst (v := (1 : Int32)) dX10_act_117 rfl ?_
      exact Sim.nret dX10_act_118 rfl rfl
    refine Sim.ite _ (fun q5 => ?_) (fun q5 => ?_)
    · refine Sim.tswIn 83 dX10_act_41 q5 (by decide) (by decide) rfl rfl ?_
      refine Sim.aload_n 1 dX10_act_83 rfl ?_
      refine Sim.getR (j := 159) fl_X10_51 dX10_act_84 xR_0_6 ?_
      refine Sim.aload 0 dX10_act_87 rfl ?_
      refine Sim.iload_n 3 dX10_act_89 rfl ?_
      refine Sim.callV2U (d1 := 4) (s_X0_getUp 2 xL_X4_2 a2 x2) dX10_act_90 ml_X10_146 mv_X0_getUp xO_X0 (Nat.le_of_ble_eq_true rfl) (Nat.le_of_ble_eq_true rfl) (Nat.le_of_ble_eq_true rfl) (fun x6 => ?_)
      refine Sim.goto 117 dX10_act_93 rfl ?_
      refine Sim.iconst (v := (1 : Int32)) dX10_act_117 rfl ?_
      exact Sim.nret dX10_act_118 rfl rfl
    refine Sim.ite _ (fun q7 => ?_) (fun q7 => ?_)
    · refine Sim.tswIn 96 dX10_act_41 q7 (by decide) (by decide) rfl rfl ?_
      refine Sim.aload_n 1 dX10_act_96 rfl ?_
      refine Sim.getR (j := 159) fl_X10_51 dX10_act_97 xR_0_6 ?_
      refine Sim.aload 0 dX10_act_100 rfl ?_
      refine Sim.iload_n 3 dX10_act_102 rfl ?_
      refine Sim.callV2U (d1 := 4) (s_X0_letCat 2 xL_X4_2 a2 x2) dX10_act_103 ml_X10_149 mv_X0_letCat xO_X0 (Nat.le_of_ble_eq_true rfl) (Nat.le_of_ble_eq_true rfl) (Nat.le_of_ble_eq_true rfl) (fun x8 => ?_)
      refine Sim.goto 117 dX10_act_106 rfl ?_
      refine Sim.iconst (v := (1 : Int32)) dX10_act_117 rfl ?_
      exact Sim.nret dX10_act_118 rfl rfl
    refine Sim.tswOut 109 dX10_act_41 (by have aq3 : a1.toInt ≠ 0 := fun w => q3 (Int32.toInt_inj.mp w); have aq5 : a1.toInt ≠ 1 := fun w => q5 (Int32.toInt_inj.mp w); have aq7 : a1.toInt ≠ 2 := fun w => q7 (Int32.toInt_inj.mp w); omega) rfl ?_
    refine Sim.aload 0 dX10_act_109 rfl ?_
    refine Sim.iload_n 3 dX10_act_111 rfl ?_
    refine Sim.iconst (v := (0 : Int32)) dX10_act_112 rfl ?_
    refine Sim.iconst (v := (-1 : Int32)) dX10_act_113 rfl ?_
    refine Sim.callV3U (d1 := 0) (s_X4_rock 2 xL_X4_2 a2 (0 : Int32) (-1 : Int32) x2) dX10_act_114 ml_X10_109 mv_X4_rock (xOC_X4 _ xL_X4_2) (Nat.le_of_ble_eq_true rfl) (Nat.le_of_ble_eq_true rfl) (Nat.le_of_ble_eq_true rfl) (fun x9 => ?_)
    refine Sim.iconst (v := (1 : Int32)) dX10_act_117 rfl ?_
    exact Sim.nret dX10_act_118 rfl rfl
theorem mv_X10_act : zMV mX10_act 3 := ⟨⟨zTb_in 594 (by decide +kernel) rfl, zTb_in 137 (by decide +kernel) rfl, ⟨by decide +kernel, by decide +kernel⟩, by decide +kernel⟩, zTb_in 592 (by decide +kernel) rfl, zTb_in 593 (by decide +kernel) rfl⟩
-- ===== RockingPorch.minutes(I)I
abbrev mX10_minutes : zMt := (yX10_minutes, cX10_minutes, 4, some .int)
theorem fl_X10_158 : zF RX10 158 4 13 := ⟨RX4, TX4, 15, rfl, Nat.le_of_ble_eq_true rfl, zTb_in 216 (by decide +kernel) rfl, in_X4⟩
theorem ml_X10_161 : Cond.methodLink RX10 161 yX0_passMinute ∈ zTb := zTb_in 705 (by decide +kernel) rfl
theorem dX10_minutes_0 : decode cX10_minutes 0 = .ok (.iload_n 1, 1) := by decide +kernel
theorem dX10_minutes_1 : decode cX10_minutes 1 = .ok (.iconst 1, 1) := by decide +kernel
theorem dX10_minutes_2 : decode cX10_minutes 2 = .ok (.if_icmp .lt 27, 3) := by decide +kernel
theorem dX10_minutes_5 : decode cX10_minutes 5 = .ok (.iload_n 1, 1) := by decide +kernel
theorem dX10_minutes_6 : decode cX10_minutes 6 = .ok (.bipush 60, 2) := by decide +kernel
theorem dX10_minutes_8 : decode cX10_minutes 8 = .ok (.if_icmp .gt 21, 3) := by decide +kernel
theorem dX10_minutes_11 : decode cX10_minutes 11 = .ok (.aload_n 0, 1) := by decide +kernel
theorem dX10_minutes_12 : decode cX10_minutes 12 = .ok (.getfield 12, 3) := by decide +kernel
theorem dX10_minutes_15 : decode cX10_minutes 15 = .ok (.getfield 68, 3) := by decide +kernel
theorem dX10_minutes_18 : decode cX10_minutes 18 = .ok (.getfield 158, 3) := by decide +kernel
theorem dX10_minutes_21 : decode cX10_minutes 21 = .ok (.iload_n 1, 1) := by decide +kernel
theorem dX10_minutes_22 : decode cX10_minutes 22 = .ok (.iadd, 1) := by decide +kernel
theorem dX10_minutes_23 : decode cX10_minutes 23 = .ok (.sipush 9999, 3) := by decide +kernel
theorem dX10_minutes_26 : decode cX10_minutes 26 = .ok (.if_icmp .le 5, 3) := by decide +kernel
theorem dX10_minutes_29 : decode cX10_minutes 29 = .ok (.iconst (-1), 1) := by decide +kernel
theorem dX10_minutes_30 : decode cX10_minutes 30 = .ok (.ireturn, 1) := by decide +kernel
theorem dX10_minutes_31 : decode cX10_minutes 31 = .ok (.iconst 0, 1) := by decide +kernel
theorem dX10_minutes_32 : decode cX10_minutes 32 = .ok (.istore_n 2, 1) := by decide +kernel
theorem dX10_minutes_33 : decode cX10_minutes 33 = .ok (.iconst 0, 1) := by decide +kernel
theorem dX10_minutes_34 : decode cX10_minutes 34 = .ok (.istore_n 3, 1) := by decide +kernel
theorem dX10_minutes_35 : decode cX10_minutes 35 = .ok (.iload_n 3, 1) := by decide +kernel
theorem dX10_minutes_36 : decode cX10_minutes 36 = .ok (.iload_n 1, 1) := by decide +kernel
theorem dX10_minutes_37 : decode cX10_minutes 37 = .ok (.if_icmp .ge 50, 3) := by decide +kernel
theorem dX10_minutes_40 : decode cX10_minutes 40 = .ok (.aload_n 0, 1) := by decide +kernel
theorem dX10_minutes_41 : decode cX10_minutes 41 = .ok (.getfield 26, 3) := by decide +kernel
theorem dX10_minutes_44 : decode cX10_minutes 44 = .ok (.aload_n 0, 1) := by decide +kernel
theorem dX10_minutes_45 : decode cX10_minutes 45 = .ok (.getfield 12, 3) := by decide +kernel
theorem dX10_minutes_48 : decode cX10_minutes 48 = .ok (.getfield 68, 3) := by decide +kernel
theorem dX10_minutes_51 : decode cX10_minutes 51 = .ok (.aload_n 0, 1) := by decide +kernel
theorem dX10_minutes_52 : decode cX10_minutes 52 = .ok (.getfield 12, 3) := by decide +kernel
theorem dX10_minutes_55 : decode cX10_minutes 55 = .ok (.getfield 129, 3) := by decide +kernel
theorem dX10_minutes_58 : decode cX10_minutes 58 = .ok (.getfield 133, 3) := by decide +kernel
theorem dX10_minutes_61 : decode cX10_minutes 61 = .ok (.invokevirtual 138, 3) := by decide +kernel
theorem dX10_minutes_64 : decode cX10_minutes 64 = .ok (.iload_n 2, 1) := by decide +kernel
theorem dX10_minutes_65 : decode cX10_minutes 65 = .ok (.aload_n 0, 1) := by decide +kernel
theorem dX10_minutes_66 : decode cX10_minutes 66 = .ok (.getfield 51, 3) := by decide +kernel
theorem dX10_minutes_69 : decode cX10_minutes 69 = .ok (.aload_n 0, 1) := by decide +kernel
theorem dX10_minutes_70 : decode cX10_minutes 70 = .ok (.getfield 12, 3) := by decide +kernel
theorem dX10_minutes_73 : decode cX10_minutes 73 = .ok (.getfield 68, 3) := by decide +kernel
theorem dX10_minutes_76 : decode cX10_minutes 76 = .ok (.invokevirtual 161, 3) := by decide +kernel
theorem dX10_minutes_79 : decode cX10_minutes 79 = .ok (.iadd, 1) := by decide +kernel
theorem dX10_minutes_80 : decode cX10_minutes 80 = .ok (.istore_n 2, 1) := by decide +kernel
theorem dX10_minutes_81 : decode cX10_minutes 81 = .ok (.iinc 3 1, 3) := by decide +kernel
theorem dX10_minutes_84 : decode cX10_minutes 84 = .ok (.goto (-49), 3) := by decide +kernel
theorem dX10_minutes_87 : decode cX10_minutes 87 = .ok (.iload_n 2, 1) := by decide +kernel
theorem dX10_minutes_88 : decode cX10_minutes 88 = .ok (.ireturn, 1) := by decide +kernel
def f_X10_minutes_35  (k35 : Int32 × Int32 × Int32 × zHp → Option (Int32 × zHp)) (v1 : Int32) (v2 : Int32) (v3 : Int32) (h : zHp) : Option (Int32 × zHp) := (if v3 < v1 then (f_X3_keep 2 (h 11 2) h).bind fun x1 => (f_X0_passMinute 2 x1).bind fun x2 => zlt (v2 + x2.1) fun x3 => k35 (v1, x3, (v3 + (1 : Int32)), x2.2) else some (v2, h))
set_option maxHeartbeats 4000000 in
set_option maxRecDepth 100000 in
theorem f_X10_minutes_35_s  (k35 : Int32 × Int32 × Int32 × zHp → Option (Int32 × zHp)) (H35 : ∀ v : Int32 × Int32 × Int32 × zHp, Sim wX mX10_minutes 7 rI 35 [(0, .ref 0), (1, .int v.1), (2, .int v.2.1), (3, .int v.2.2.1)] [] v.2.2.2 (k35 v)) (v1 : Int32) (v2 : Int32) (v3 : Int32) (h : zHp) : Sim wX mX10_minutes 7 rI 35 [(0, .ref 0), (1, .int v1), (2, .int v2), (3, .int v3)] [] h (f_X10_minutes_35 k35 v1 v2 v3 h) := by
  unfold f_X10_minutes_35
  refine Sim.iload_n 3 dX10_minutes_35 rfl ?_
  refine Sim.iload_n 1 dX10_minutes_36 rfl ?_
  refine Sim.icmp_ge 87 dX10_minutes_37 rfl ?_ ?_
  · refine Sim.aload_n 0 dX10_minutes_40 rfl ?_
    refine Sim.getR (j := 79) fl_X10_26 dX10_minutes_41 xR_0_3 ?_
    refine Sim.aload_n 0 dX10_minutes_44 rfl ?_
    refine Sim.getR (j := 1) fl_X10_12 dX10_minutes_45 xR_0_0 ?_
    refine Sim.getR (j := 2) fl_X10_68 dX10_minutes_48 (xR_X9_0 _ xL_X9_1) ?_
    refine Sim.aload_n 0 dX10_minutes_51 rfl ?_
    refine Sim.getR (j := 1) fl_X10_12 dX10_minutes_52 xR_0_0 ?_
    refine Sim.getR (j := 11) fl_X10_129 dX10_minutes_55 (xR_X9_1 _ xL_X9_1) ?_
    refine Sim.getI fl_X10_133 dX10_minutes_58 (xI_X2_2 _ xL_X2_11) ?_
    refine Sim.callV2U (d1 := 2) (s_X3_keep 2 xL_X4_2 (h 11 2) h) dX10_minutes_61 ml_X10_138 mv_X3_keep xO_X3 (Nat.le_of_ble_eq_true rfl) (Nat.le_of_ble_eq_true rfl) (Nat.le_of_ble_eq_true rfl) (fun x1 => ?_)
    refine Sim.iload_n 2 dX10_minutes_64 rfl ?_
    refine Sim.aload_n 0 dX10_minutes_65 rfl ?_
    refine Sim.getR (j := 159) fl_X10_51 dX10_minutes_66 xR_0_6 ?_
    refine Sim.aload_n 0 dX10_minutes_69 rfl ?_
    refine Sim.getR (j := 1) fl_X10_12 dX10_minutes_70 xR_0_0 ?_
    refine Sim.getR (j := 2) fl_X10_68 dX10_minutes_73 (xR_X9_0 _ xL_X9_1) ?_
    refine Sim.callV1I (d1 := 6) (s_X0_passMinute 2 xL_X4_2 x1) dX10_minutes_76 ml_X10_161 mv_X0_passMinute xO_X0 (Nat.le_of_ble_eq_true rfl) (Nat.le_of_ble_eq_true rfl) (Nat.le_of_ble_eq_true rfl) (fun x2 => ?_)
    refine Sim.iadd dX10_minutes_79 ?_
    refine Sim.lti (fun x3 => ?_)
    refine Sim.istore_n (L' := [(2, .int x3), (0, .ref 0), (1, .int v1), (3, .int v3)]) dX10_minutes_80 (Nat.le_of_ble_eq_true rfl) rfl ?_
    refine Sim.iinc (L' := [(3, .int (v3 + (1 : Int32))), (2, .int x3), (0, .ref 0), (1, .int v1)]) 3 dX10_minutes_81 rfl rfl (Nat.le_of_ble_eq_true rfl) rfl ?_
    refine Sim.goto 35 dX10_minutes_84 rfl ?_
    refine Sim.locs [2, 3, 1, 0] rfl ?_
    exact H35 (v1, x3, (v3 + (1 : Int32)), x2.2)
  · refine Sim.iload_n 2 dX10_minutes_87 rfl ?_
    exact Sim.iret dX10_minutes_88 rfl
def f_X10_minutes_35_lp   (n : Nat) (v : Int32 × Int32 × Int32 × zHp) : Option (Int32 × zHp) := zlp (fun k35 v => f_X10_minutes_35 k35 v.1 v.2.1 v.2.2.1 v.2.2.2) n v
theorem f_X10_minutes_35_ls  (n : Nat) (v : Int32 × Int32 × Int32 × zHp) : Sim wX mX10_minutes 7 rI 35 [(0, .ref 0), (1, .int v.1), (2, .int v.2.1), (3, .int v.2.2.1)] [] v.2.2.2 (f_X10_minutes_35_lp n v) :=
  Sim.lp (V := Int32 × Int32 × Int32 × zHp) (Lf := fun v => [(0, .ref 0), (1, .int v.1), (2, .int v.2.1), (3, .int v.2.2.1)]) (sf := fun v => []) (hf := fun v => v.2.2.2) (fun k35 H35 v => f_X10_minutes_35_s k35 H35 v.1 v.2.1 v.2.2.1 v.2.2.2) n v
def f_X10_minutes  (a1 : Int32) (h : zHp) : Option (Int32 × zHp) := (if a1 < (1 : Int32) then some ((-1 : Int32), h) else (if (60 : Int32) < a1 then some ((-1 : Int32), h) else (if (9999 : Int32) < ((h 2 13) + a1) then some ((-1 : Int32), h) else f_X10_minutes_35_lp  zN (a1, (0 : Int32), (0 : Int32), h))))
set_option maxHeartbeats 4000000 in
set_option maxRecDepth 100000 in
theorem s_X10_minutes  (a1 : Int32) (h : zHp) : Fn wX mX10_minutes 7 rI [.ref 0, .int a1] h (f_X10_minutes a1 h) := by
  refine Fn.of rfl (Nat.le_of_ble_eq_true rfl) ?_
  unfold f_X10_minutes
  refine Sim.iload_n 1 dX10_minutes_0 rfl ?_
  refine Sim.iconst (v := (1 : Int32)) dX10_minutes_1 rfl ?_
  refine Sim.icmp_lt 29 dX10_minutes_2 rfl ?_ ?_
  · refine Sim.iconst (v := (-1 : Int32)) dX10_minutes_29 rfl ?_
    exact Sim.iret dX10_minutes_30 rfl
  · refine Sim.iload_n 1 dX10_minutes_5 rfl ?_
    refine Sim.bipush (v := (60 : Int32)) dX10_minutes_6 rfl ?_
    refine Sim.icmp_gt 29 dX10_minutes_8 rfl ?_ ?_
    · refine Sim.iconst (v := (-1 : Int32)) dX10_minutes_29 rfl ?_
      exact Sim.iret dX10_minutes_30 rfl
    · refine Sim.aload_n 0 dX10_minutes_11 rfl ?_
      refine Sim.getR (j := 1) fl_X10_12 dX10_minutes_12 xR_0_0 ?_
      refine Sim.getR (j := 2) fl_X10_68 dX10_minutes_15 (xR_X9_0 _ xL_X9_1) ?_
      refine Sim.getI fl_X10_158 dX10_minutes_18 (xI_X4_13 _ xL_X4_2) ?_
      refine Sim.iload_n 1 dX10_minutes_21 rfl ?_
      refine Sim.iadd dX10_minutes_22 ?_
      refine Sim.sipush (v := (9999 : Int32)) dX10_minutes_23 rfl ?_
      refine Sim.icmp_le 31 dX10_minutes_26 rfl ?_ ?_
      · refine Sim.iconst (v := (-1 : Int32)) dX10_minutes_29 rfl ?_
        exact Sim.iret dX10_minutes_30 rfl
      · refine Sim.iconst (v := (0 : Int32)) dX10_minutes_31 rfl ?_
        refine Sim.istore_n (L' := [(2, .int (0 : Int32)), (0, .ref 0), (1, .int a1)]) dX10_minutes_32 (Nat.le_of_ble_eq_true rfl) rfl ?_
        refine Sim.iconst (v := (0 : Int32)) dX10_minutes_33 rfl ?_
        refine Sim.istore_n (L' := [(3, .int (0 : Int32)), (2, .int (0 : Int32)), (0, .ref 0), (1, .int a1)]) dX10_minutes_34 (Nat.le_of_ble_eq_true rfl) rfl ?_
        refine Sim.locs [2, 3, 1, 0] rfl ?_
        exact f_X10_minutes_35_ls  zN (a1, (0 : Int32), (0 : Int32), h)
theorem mv_X10_minutes : zMV mX10_minutes 1 := ⟨⟨zTb_in 704 (by decide +kernel) rfl, zTb_in 137 (by decide +kernel) rfl, ⟨by decide +kernel, by decide +kernel⟩, by decide +kernel⟩, zTb_in 702 (by decide +kernel) rfl, zTb_in 703 (by decide +kernel) rfl⟩
-- ===== RockingPorch.feed(IIIII)I
abbrev mX10_feed : zMt := (yX10_feed, cX10_feed, 6, some .int)
theorem fl_X10_165 : zF RX10 165 6 1 := ⟨RX6, TX6, 14, rfl, Nat.le_of_ble_eq_true rfl, zTb_in 431 (by decide +kernel) rfl, in_X6⟩
theorem fl_X10_42 : zF RX10 42 10 5 := ⟨RX10, TX10, 8, rfl, Nat.le_of_ble_eq_true rfl, zTb_in 518 (by decide +kernel) rfl, in_X10⟩
theorem ml_X10_168 : Cond.methodLink RX10 168 yX6_hear ∈ zTb := zTb_in 752 (by decide +kernel) rfl
theorem dX10_feed_0 : decode cX10_feed 0 = .ok (.aload_n 0, 1) := by decide +kernel
theorem dX10_feed_1 : decode cX10_feed 1 = .ok (.getfield 42, 3) := by decide +kernel
theorem dX10_feed_4 : decode cX10_feed 4 = .ok (.getfield 165, 3) := by decide +kernel
theorem dX10_feed_7 : decode cX10_feed 7 = .ok (.bipush 20, 2) := by decide +kernel
theorem dX10_feed_9 : decode cX10_feed 9 = .ok (.iadd, 1) := by decide +kernel
theorem dX10_feed_10 : decode cX10_feed 10 = .ok (.sipush 400, 3) := by decide +kernel
theorem dX10_feed_13 : decode cX10_feed 13 = .ok (.if_icmp .le 5, 3) := by decide +kernel
theorem dX10_feed_16 : decode cX10_feed 16 = .ok (.iconst (-1), 1) := by decide +kernel
theorem dX10_feed_17 : decode cX10_feed 17 = .ok (.ireturn, 1) := by decide +kernel
theorem dX10_feed_18 : decode cX10_feed 18 = .ok (.aload_n 0, 1) := by decide +kernel
theorem dX10_feed_19 : decode cX10_feed 19 = .ok (.getfield 42, 3) := by decide +kernel
theorem dX10_feed_22 : decode cX10_feed 22 = .ok (.iload_n 1, 1) := by decide +kernel
theorem dX10_feed_23 : decode cX10_feed 23 = .ok (.invokevirtual 168, 3) := by decide +kernel
theorem dX10_feed_26 : decode cX10_feed 26 = .ok (.aload_n 0, 1) := by decide +kernel
theorem dX10_feed_27 : decode cX10_feed 27 = .ok (.getfield 42, 3) := by decide +kernel
theorem dX10_feed_30 : decode cX10_feed 30 = .ok (.iload_n 2, 1) := by decide +kernel
theorem dX10_feed_31 : decode cX10_feed 31 = .ok (.invokevirtual 168, 3) := by decide +kernel
theorem dX10_feed_34 : decode cX10_feed 34 = .ok (.aload_n 0, 1) := by decide +kernel
theorem dX10_feed_35 : decode cX10_feed 35 = .ok (.getfield 42, 3) := by decide +kernel
theorem dX10_feed_38 : decode cX10_feed 38 = .ok (.iload_n 3, 1) := by decide +kernel
theorem dX10_feed_39 : decode cX10_feed 39 = .ok (.invokevirtual 168, 3) := by decide +kernel
theorem dX10_feed_42 : decode cX10_feed 42 = .ok (.aload_n 0, 1) := by decide +kernel
theorem dX10_feed_43 : decode cX10_feed 43 = .ok (.getfield 42, 3) := by decide +kernel
theorem dX10_feed_46 : decode cX10_feed 46 = .ok (.iload 4, 2) := by decide +kernel
theorem dX10_feed_48 : decode cX10_feed 48 = .ok (.invokevirtual 168, 3) := by decide +kernel
theorem dX10_feed_51 : decode cX10_feed 51 = .ok (.aload_n 0, 1) := by decide +kernel
theorem dX10_feed_52 : decode cX10_feed 52 = .ok (.getfield 42, 3) := by decide +kernel
theorem dX10_feed_55 : decode cX10_feed 55 = .ok (.iload 5, 2) := by decide +kernel
theorem dX10_feed_57 : decode cX10_feed 57 = .ok (.invokevirtual 168, 3) := by decide +kernel
theorem dX10_feed_60 : decode cX10_feed 60 = .ok (.aload_n 0, 1) := by decide +kernel
theorem dX10_feed_61 : decode cX10_feed 61 = .ok (.getfield 42, 3) := by decide +kernel
theorem dX10_feed_64 : decode cX10_feed 64 = .ok (.getfield 165, 3) := by decide +kernel
theorem dX10_feed_67 : decode cX10_feed 67 = .ok (.ireturn, 1) := by decide +kernel
def f_X10_feed  (a1 : Int32) (a2 : Int32) (a3 : Int32) (a4 : Int32) (a5 : Int32) (h : zHp) : Option (Int32 × zHp) := (if (400 : Int32) < ((h 145 1) + (20 : Int32)) then some ((-1 : Int32), h) else (f_X6_hear a1 h).bind fun x1 => (f_X6_hear a2 x1).bind fun x2 => (f_X6_hear a3 x2).bind fun x3 => (f_X6_hear a4 x3).bind fun x4 => (f_X6_hear a5 x4).bind fun x5 => some ((x5 145 1), x5))
set_option maxHeartbeats 4000000 in
set_option maxRecDepth 100000 in
theorem s_X10_feed  (a1 : Int32) (a2 : Int32) (a3 : Int32) (a4 : Int32) (a5 : Int32) (h : zHp) : Fn wX mX10_feed 1 rI [.ref 0, .int a1, .int a2, .int a3, .int a4, .int a5] h (f_X10_feed a1 a2 a3 a4 a5 h) := by
  refine Fn.of rfl (Nat.le_of_ble_eq_true rfl) ?_
  unfold f_X10_feed
  refine Sim.aload_n 0 dX10_feed_0 rfl ?_
  refine Sim.getR (j := 145) fl_X10_42 dX10_feed_1 xR_0_5 ?_
  refine Sim.getI fl_X10_165 dX10_feed_4 xI_145_1 ?_
  refine Sim.bipush (v := (20 : Int32)) dX10_feed_7 rfl ?_
  refine Sim.iadd dX10_feed_9 ?_
  refine Sim.sipush (v := (400 : Int32)) dX10_feed_10 rfl ?_
  refine Sim.icmp_le 18 dX10_feed_13 rfl ?_ ?_
  · refine Sim.iconst (v := (-1 : Int32)) dX10_feed_16 rfl ?_
    exact Sim.iret dX10_feed_17 rfl
  · refine Sim.aload_n 0 dX10_feed_18 rfl ?_
    refine Sim.getR (j := 145) fl_X10_42 dX10_feed_19 xR_0_5 ?_
    refine Sim.iload_n 1 dX10_feed_22 rfl ?_
    refine Sim.callV1U (d1 := 0) (s_X6_hear a1 h) dX10_feed_23 ml_X10_168 mv_X6_hear xO_X6 (Nat.le_of_ble_eq_true rfl) (Nat.le_of_ble_eq_true rfl) (Nat.le_of_ble_eq_true rfl) (fun x1 => ?_)
    refine Sim.aload_n 0 dX10_feed_26 rfl ?_
    refine Sim.getR (j := 145) fl_X10_42 dX10_feed_27 xR_0_5 ?_
    refine Sim.iload_n 2 dX10_feed_30 rfl ?_
    refine Sim.callV1U (d1 := 0) (s_X6_hear a2 x1) dX10_feed_31 ml_X10_168 mv_X6_hear xO_X6 (Nat.le_of_ble_eq_true rfl) (Nat.le_of_ble_eq_true rfl) (Nat.le_of_ble_eq_true rfl) (fun x2 => ?_)
    refine Sim.aload_n 0 dX10_feed_34 rfl ?_
    refine Sim.getR (j := 145) fl_X10_42 dX10_feed_35 xR_0_5 ?_
    refine Sim.iload_n 3 dX10_feed_38 rfl ?_
    refine Sim.callV1U (d1 := 0) (s_X6_hear a3 x2) dX10_feed_39 ml_X10_168 mv_X6_hear xO_X6 (Nat.le_of_ble_eq_true rfl) (Nat.le_of_ble_eq_true rfl) (Nat.le_of_ble_eq_true rfl) (fun x3 => ?_)
    refine Sim.aload_n 0 dX10_feed_42 rfl ?_
    refine Sim.getR (j := 145) fl_X10_42 dX10_feed_43 xR_0_5 ?_
    refine Sim.iload 4 dX10_feed_46 rfl ?_
    refine Sim.callV1U (d1 := 0) (s_X6_hear a4 x3) dX10_feed_48 ml_X10_168 mv_X6_hear xO_X6 (Nat.le_of_ble_eq_true rfl) (Nat.le_of_ble_eq_true rfl) (Nat.le_of_ble_eq_true rfl) (fun x4 => ?_)
    refine Sim.aload_n 0 dX10_feed_51 rfl ?_
    refine Sim.getR (j := 145) fl_X10_42 dX10_feed_52 xR_0_5 ?_
    refine Sim.iload 5 dX10_feed_55 rfl ?_
    refine Sim.callV1U (d1 := 0) (s_X6_hear a5 x4) dX10_feed_57 ml_X10_168 mv_X6_hear xO_X6 (Nat.le_of_ble_eq_true rfl) (Nat.le_of_ble_eq_true rfl) (Nat.le_of_ble_eq_true rfl) (fun x5 => ?_)
    refine Sim.aload_n 0 dX10_feed_60 rfl ?_
    refine Sim.getR (j := 145) fl_X10_42 dX10_feed_61 xR_0_5 ?_
    refine Sim.getI fl_X10_165 dX10_feed_64 xI_145_1 ?_
    exact Sim.iret dX10_feed_67 rfl
theorem mv_X10_feed : zMV mX10_feed 5 := ⟨⟨zTb_in 751 (by decide +kernel) rfl, zTb_in 137 (by decide +kernel) rfl, ⟨by decide +kernel, by decide +kernel⟩, by decide +kernel⟩, zTb_in 749 (by decide +kernel) rfl, zTb_in 750 (by decide +kernel) rfl⟩
