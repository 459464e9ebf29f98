-- ===== RockingPorch$Puzzles.winningSlide()I
abbrev mX5_winningSlide : zMt := (yX5_winningSlide, cX5_winningSlide, 6, some .int)
theorem ml_X5_116 : Cond.methodLink RX5 116 yX5_sortCoins ∈ zTb := zTb_in 1240 (by decide +kernel) rfl
theorem ml_X5_123 : Cond.methodLink RX5 123 yX5_isLost ∈ zTb := zTb_in 1248 (by decide +kernel) rfl
theorem dX5_winningSlide_0 : decode cX5_winningSlide 0 = .ok (.aload_n 0, 1) := by decide +kernel
theorem dX5_winningSlide_1 : decode cX5_winningSlide 1 = .ok (.getfield 24, 3) := by decide +kernel
theorem dX5_winningSlide_4 : decode cX5_winningSlide 4 = .ok (.getfield 113, 3) := by decide +kernel
theorem dX5_winningSlide_7 : decode cX5_winningSlide 7 = .ok (.getfield 34, 3) := by decide +kernel
theorem dX5_winningSlide_10 : decode cX5_winningSlide 10 = .ok (.istore_n 1, 1) := by decide +kernel
theorem dX5_winningSlide_11 : decode cX5_winningSlide 11 = .ok (.aload_n 0, 1) := by decide +kernel
theorem dX5_winningSlide_12 : decode cX5_winningSlide 12 = .ok (.iload_n 1, 1) := by decide +kernel
theorem dX5_winningSlide_13 : decode cX5_winningSlide 13 = .ok (.invokevirtual 116, 3) := by decide +kernel
theorem dX5_winningSlide_16 : decode cX5_winningSlide 16 = .ok (.iconst 0, 1) := by decide +kernel
theorem dX5_winningSlide_17 : decode cX5_winningSlide 17 = .ok (.istore_n 2, 1) := by decide +kernel
theorem dX5_winningSlide_18 : decode cX5_winningSlide 18 = .ok (.iload_n 2, 1) := by decide +kernel
theorem dX5_winningSlide_19 : decode cX5_winningSlide 19 = .ok (.iload_n 1, 1) := by decide +kernel
theorem dX5_winningSlide_20 : decode cX5_winningSlide 20 = .ok (.if_icmp .ge 78, 3) := by decide +kernel
theorem dX5_winningSlide_23 : decode cX5_winningSlide 23 = .ok (.iload_n 2, 1) := by decide +kernel
theorem dX5_winningSlide_24 : decode cX5_winningSlide 24 = .ok (.bipush 10, 2) := by decide +kernel
theorem dX5_winningSlide_26 : decode cX5_winningSlide 26 = .ok (.if_icmp .ge 72, 3) := by decide +kernel
theorem dX5_winningSlide_29 : decode cX5_winningSlide 29 = .ok (.aload_n 0, 1) := by decide +kernel
theorem dX5_winningSlide_30 : decode cX5_winningSlide 30 = .ok (.getfield 9, 3) := by decide +kernel
theorem dX5_winningSlide_33 : decode cX5_winningSlide 33 = .ok (.iload_n 2, 1) := by decide +kernel
theorem dX5_winningSlide_34 : decode cX5_winningSlide 34 = .ok (.iaload, 1) := by decide +kernel
theorem dX5_winningSlide_35 : decode cX5_winningSlide 35 = .ok (.istore_n 3, 1) := by decide +kernel
theorem dX5_winningSlide_36 : decode cX5_winningSlide 36 = .ok (.aload_n 0, 1) := by decide +kernel
theorem dX5_winningSlide_37 : decode cX5_winningSlide 37 = .ok (.iload_n 2, 1) := by decide +kernel
theorem dX5_winningSlide_38 : decode cX5_winningSlide 38 = .ok (.invokevirtual 120, 3) := by decide +kernel
theorem dX5_winningSlide_41 : decode cX5_winningSlide 41 = .ok (.istore 4, 2) := by decide +kernel
theorem dX5_winningSlide_43 : decode cX5_winningSlide 43 = .ok (.iconst 1, 1) := by decide +kernel
theorem dX5_winningSlide_44 : decode cX5_winningSlide 44 = .ok (.istore 5, 2) := by decide +kernel
theorem dX5_winningSlide_46 : decode cX5_winningSlide 46 = .ok (.iload 5, 2) := by decide +kernel
theorem dX5_winningSlide_48 : decode cX5_winningSlide 48 = .ok (.iload 4, 2) := by decide +kernel
theorem dX5_winningSlide_50 : decode cX5_winningSlide 50 = .ok (.if_icmp .gt 35, 3) := by decide +kernel
theorem dX5_winningSlide_53 : decode cX5_winningSlide 53 = .ok (.aload_n 0, 1) := by decide +kernel
theorem dX5_winningSlide_54 : decode cX5_winningSlide 54 = .ok (.getfield 9, 3) := by decide +kernel
theorem dX5_winningSlide_57 : decode cX5_winningSlide 57 = .ok (.iload_n 2, 1) := by decide +kernel
theorem dX5_winningSlide_58 : decode cX5_winningSlide 58 = .ok (.iload_n 3, 1) := by decide +kernel
theorem dX5_winningSlide_59 : decode cX5_winningSlide 59 = .ok (.iload 5, 2) := by decide +kernel
theorem dX5_winningSlide_61 : decode cX5_winningSlide 61 = .ok (.isub, 1) := by decide +kernel
theorem dX5_winningSlide_62 : decode cX5_winningSlide 62 = .ok (.iastore, 1) := by decide +kernel
theorem dX5_winningSlide_63 : decode cX5_winningSlide 63 = .ok (.aload_n 0, 1) := by decide +kernel
theorem dX5_winningSlide_64 : decode cX5_winningSlide 64 = .ok (.iload_n 1, 1) := by decide +kernel
theorem dX5_winningSlide_65 : decode cX5_winningSlide 65 = .ok (.invokevirtual 123, 3) := by decide +kernel
theorem dX5_winningSlide_68 : decode cX5_winningSlide 68 = .ok (.ifCond .eq 11, 3) := by decide +kernel
theorem dX5_winningSlide_71 : decode cX5_winningSlide 71 = .ok (.iload_n 3, 1) := by decide +kernel
theorem dX5_winningSlide_72 : decode cX5_winningSlide 72 = .ok (.bipush 100, 2) := by decide +kernel
theorem dX5_winningSlide_74 : decode cX5_winningSlide 74 = .ok (.imul, 1) := by decide +kernel
theorem dX5_winningSlide_75 : decode cX5_winningSlide 75 = .ok (.iload 5, 2) := by decide +kernel
theorem dX5_winningSlide_77 : decode cX5_winningSlide 77 = .ok (.iadd, 1) := by decide +kernel
theorem dX5_winningSlide_78 : decode cX5_winningSlide 78 = .ok (.ireturn, 1) := by decide +kernel
theorem dX5_winningSlide_79 : decode cX5_winningSlide 79 = .ok (.iinc 5 1, 3) := by decide +kernel
theorem dX5_winningSlide_82 : decode cX5_winningSlide 82 = .ok (.goto (-36), 3) := by decide +kernel
theorem dX5_winningSlide_85 : decode cX5_winningSlide 85 = .ok (.aload_n 0, 1) := by decide +kernel
theorem dX5_winningSlide_86 : decode cX5_winningSlide 86 = .ok (.getfield 9, 3) := by decide +kernel
theorem dX5_winningSlide_89 : decode cX5_winningSlide 89 = .ok (.iload_n 2, 1) := by decide +kernel
theorem dX5_winningSlide_90 : decode cX5_winningSlide 90 = .ok (.iload_n 3, 1) := by decide +kernel
theorem dX5_winningSlide_91 : decode cX5_winningSlide 91 = .ok (.iastore, 1) := by decide +kernel
theorem dX5_winningSlide_92 : decode cX5_winningSlide 92 = .ok (.iinc 2 1, 3) := by decide +kernel
theorem dX5_winningSlide_95 : decode cX5_winningSlide 95 = .ok (.goto (-77), 3) := by decide +kernel
theorem dX5_winningSlide_98 : decode cX5_winningSlide 98 = .ok (.iconst (-1), 1) := by decide +kernel
theorem dX5_winningSlide_99 : decode cX5_winningSlide 99 = .ok (.ireturn, 1) := by decide +kernel
def f_X5_winningSlide_46  (k18 : Int32 × Int32 × zHp → Option (Int32 × zHp)) (k46 : Int32 × Int32 × Int32 × Int32 × Int32 × zHp → Option (Int32 × zHp)) (v1 : Int32) (v2 : Int32) (v3 : Int32) (v4 : Int32) (v5 : Int32) (h : zHp) : Option (Int32 × zHp) := (if v4 < v5 then zix v2 10 (zlt (zst h 162 v2.toNatClampNeg v3) fun h1 => k18 (v1, (v2 + (1 : Int32)), h1)) else zix v2 10 (zlt (zst h 162 v2.toNatClampNeg (v3 - v5)) fun h2 => (f_X5_isLost v1 h2).bind fun x3 => (if x3.1 = 0 then k46 (v1, v2, v3, v4, (v5 + (1 : Int32)), x3.2) else some (((v3 * (100 : Int32)) + v5), x3.2))))
set_option maxHeartbeats 4000000 in
set_option maxRecDepth 100000 in
theorem f_X5_winningSlide_46_s  (k18 : Int32 × Int32 × zHp → Option (Int32 × zHp)) (H18 : ∀ v : Int32 × Int32 × zHp, Sim wX mX5_winningSlide 2 rI 18 [(0, .ref 161), (1, .int v.1), (2, .int v.2.1)] [] v.2.2 (k18 v)) (k46 : Int32 × Int32 × Int32 × Int32 × Int32 × zHp → Option (Int32 × zHp)) (H46 : ∀ v : Int32 × Int32 × Int32 × Int32 × Int32 × zHp, Sim wX mX5_winningSlide 2 rI 46 [(0, .ref 161), (1, .int v.1), (2, .int v.2.1), (3, .int v.2.2.1), (4, .int v.2.2.2.1), (5, .int v.2.2.2.2.1)] [] v.2.2.2.2.2 (k46 v)) (v1 : Int32) (v2 : Int32) (v3 : Int32) (v4 : Int32) (v5 : Int32) (h : zHp) : Sim wX mX5_winningSlide 2 rI 46 [(0, .ref 161), (1, .int v1), (2, .int v2), (3, .int v3), (4, .int v4), (5, .int v5)] [] h (f_X5_winningSlide_46 k18 k46 v1 v2 v3 v4 v5 h) := by
  unfold f_X5_winningSlide_46
  refine Sim.iload 5 dX5_winningSlide_46 rfl ?_
  refine Sim.iload 4 dX5_winningSlide_48 rfl ?_
  refine Sim.icmp_gt 85 dX5_winningSlide_50 rfl ?_ ?_
  · refine Sim.aload_n 0 dX5_winningSlide_85 rfl ?_
    refine Sim.getR (j := 162) fl_X5_9 dX5_winningSlide_86 xR_161_1 ?_
    refine Sim.iload_n 2 dX5_winningSlide_89 rfl ?_
    refine Sim.iload_n 3 dX5_winningSlide_90 rfl ?_
    refine Sim.iast (n := 10) dX5_winningSlide_91 xA_162 ?_
    refine Sim.lth (fun h1 => ?_)
    refine Sim.iinc (L' := [(2, .int (v2 + (1 : Int32))), (0, .ref 161), (1, .int v1), (3, .int v3), (4, .int v4), (5, .int v5)]) 2 dX5_winningSlide_92 rfl rfl (Nat.le_of_ble_eq_true rfl) rfl ?_
    refine Sim.goto 18 dX5_winningSlide_95 rfl ?_
    refine Sim.locs [1, 2, 0] rfl ?_
    exact H18 (v1, (v2 + (1 : Int32)), h1)
  · refine Sim.aload_n 0 dX5_winningSlide_53 rfl ?_
    refine Sim.getR (j := 162) fl_X5_9 dX5_winningSlide_54 xR_161_1 ?_
    refine Sim.iload_n 2 dX5_winningSlide_57 rfl ?_
    refine Sim.iload_n 3 dX5_winningSlide_58 rfl ?_
    refine Sim.iload 5 dX5_winningSlide_59 rfl ?_
    refine Sim.isub dX5_winningSlide_61 ?_
    refine Sim.iast (n := 10) dX5_winningSlide_62 xA_162 ?_
    refine Sim.lth (fun h2 => ?_)
    refine Sim.aload_n 0 dX5_winningSlide_63 rfl ?_
    refine Sim.iload_n 1 dX5_winningSlide_64 rfl ?_
    refine Sim.callV1I (d1 := 1) (s_X5_isLost v1 h2) dX5_winningSlide_65 ml_X5_123 mv_X5_isLost xO_X5 (Nat.le_of_ble_eq_true rfl) (Nat.le_of_ble_eq_true rfl) (Nat.le_of_ble_eq_true rfl) (fun x3 => ?_)
    refine Sim.if_eq 79 dX5_winningSlide_68 rfl ?_ ?_
    · refine Sim.iinc (L' := [(5, .int (v5 + (1 : Int32))), (0, .ref 161), (1, .int v1), (2, .int v2), (3, .int v3), (4, .int v4)]) 5 dX5_winningSlide_79 rfl rfl (Nat.le_of_ble_eq_true rfl) rfl ?_
      refine Sim.goto 46 dX5_winningSlide_82 rfl ?_
      refine Sim.locs [1, 2, 3, 4, 5, 0] rfl ?_
      exact H46 (v1, v2, v3, v4, (v5 + (1 : Int32)), x3.2)
    · refine Sim.iload_n 3 dX5_winningSlide_71 rfl ?_
      refine Sim.bipush (v := (100 : Int32)) dX5_winningSlide_72 rfl ?_
      refine Sim.imul dX5_winningSlide_74 ?_
      refine Sim.iload 5 dX5_winningSlide_75 rfl ?_
      refine Sim.iadd dX5_winningSlide_77 ?_
      exact Sim.iret dX5_winningSlide_78 rfl
def f_X5_winningSlide_46_lp  (k18 : Int32 × Int32 × zHp → Option (Int32 × zHp)) (n : Nat) (v : Int32 × Int32 × Int32 × Int32 × Int32 × zHp) : Option (Int32 × zHp) := zlp (fun k46 v => f_X5_winningSlide_46 k18 k46 v.1 v.2.1 v.2.2.1 v.2.2.2.1 v.2.2.2.2.1 v.2.2.2.2.2) n v
theorem f_X5_winningSlide_46_ls  (k18 : Int32 × Int32 × zHp → Option (Int32 × zHp)) (H18 : ∀ v : Int32 × Int32 × zHp, Sim wX mX5_winningSlide 2 rI 18 [(0, .ref 161), (1, .int v.1), (2, .int v.2.1)] [] v.2.2 (k18 v)) (n : Nat) (v : Int32 × Int32 × Int32 × Int32 × Int32 × zHp) : Sim wX mX5_winningSlide 2 rI 46 [(0, .ref 161), (1, .int v.1), (2, .int v.2.1), (3, .int v.2.2.1), (4, .int v.2.2.2.1), (5, .int v.2.2.2.2.1)] [] v.2.2.2.2.2 (f_X5_winningSlide_46_lp k18 n v) :=
  Sim.lp (V := Int32 × Int32 × Int32 × Int32 × Int32 × zHp) (Lf := fun v => [(0, .ref 161), (1, .int v.1), (2, .int v.2.1), (3, .int v.2.2.1), (4, .int v.2.2.2.1), (5, .int v.2.2.2.2.1)]) (sf := fun v => []) (hf := fun v => v.2.2.2.2.2) (fun k46 H46 v => f_X5_winningSlide_46_s k18 H18 k46 H46 v.1 v.2.1 v.2.2.1 v.2.2.2.1 v.2.2.2.2.1 v.2.2.2.2.2) n v
def f_X5_winningSlide_18  (k18 : Int32 × Int32 × zHp → Option (Int32 × zHp)) (v1 : Int32) (v2 : Int32) (h : zHp) : Option (Int32 × zHp) := (if v2 < v1 then (if v2 < (10 : Int32) then zix v2 10 (zlt (h 162 v2.toNatClampNeg) fun x1 => (f_X5_roomBelow v2 h).bind fun x2 => f_X5_winningSlide_46_lp k18 zN (v1, v2, x1, x2.1, (1 : Int32), x2.2)) else some ((-1 : Int32), h)) else some ((-1 : Int32), h))
set_option maxHeartbeats 4000000 in
set_option maxRecDepth 100000 in
theorem f_X5_winningSlide_18_s  (k18 : Int32 × Int32 × zHp → Option (Int32 × zHp)) (H18 : ∀ v : Int32 × Int32 × zHp, Sim wX mX5_winningSlide 2 rI 18 [(0, .ref 161), (1, .int v.1), (2, .int v.2.1)] [] v.2.2 (k18 v)) (v1 : Int32) (v2 : Int32) (h : zHp) : Sim wX mX5_winningSlide 2 rI 18 [(0, .ref 161), (1, .int v1), (2, .int v2)] [] h (f_X5_winningSlide_18 k18 v1 v2 h) := by
  unfold f_X5_winningSlide_18
  refine Sim.iload_n 2 dX5_winningSlide_18 rfl ?_
  refine Sim.iload_n 1 dX5_winningSlide_19 rfl ?_
  refine Sim.icmp_ge 98 dX5_winningSlide_20 rfl ?_ ?_
  · refine Sim.iload_n 2 dX5_winningSlide_23 rfl ?_
    refine Sim.bipush (v := (10 : Int32)) dX5_winningSlide_24 rfl ?_
    refine Sim.icmp_ge 98 dX5_winningSlide_26 rfl ?_ ?_
    · refine Sim.aload_n 0 dX5_winningSlide_29 rfl ?_
      refine Sim.getR (j := 162) fl_X5_9 dX5_winningSlide_30 xR_161_1 ?_
      refine Sim.iload_n 2 dX5_winningSlide_33 rfl ?_
      refine Sim.iald (n := 10) dX5_winningSlide_34 xA_162 ?_
      refine Sim.lti (fun x1 => ?_)
      refine Sim.istore_n (L' := [(3, .int x1), (0, .ref 161), (1, .int v1), (2, .int v2)]) dX5_winningSlide_35 (Nat.le_of_ble_eq_true rfl) rfl ?_
      refine Sim.aload_n 1 dX5_winningSlide_36 rfl ?_
      refine Sim.iload_n 3 dX5_winningSlide_37 rfl ?_
      refine Sim.callV1I (d1 := 0) (s_X5_roomBelow v2 h) dX5_winningSlide_38 ml_X5_120 mv_X5_roomBelow xO_X5 (Nat.le_of_ble_eq_true rfl) (Nat.le_of_ble_eq_true rfl) (Nat.le_of_ble_eq_true rfl) (fun x2 => ?_)
      refine Sim.istore (L' := [(4, .int x2.1), (3, .int x1), (0, .ref 161), (1, .int v1), (2, .int v2)]) dX5_winningSlide_41 (Nat.le_of_ble_eq_true rfl) rfl ?_
      refine Sim.iconst (v := (1 : Int32)) dX5_winningSlide_43 rfl ?_
      refine Sim.istore (L' := [(5, .int (1 : Int32)), (4, .int x2.1), (3, .int x1), (0, .ref 161), (1, .int v1), (2, .int v2)]) dX5_winningSlide_44 (Nat.le_of_ble_eq_true rfl) rfl ?_
      refine Sim.locs [3, 4, 5, 2, 1, 0] rfl ?_
      exact f_X5_winningSlide_46_ls k18 H18 zN (v1, v2, x1, x2.1, (1 : Int32), x2.2)
    · refine Sim.iconst (v := (-1 : Int32)) dX5_winningSlide_98 rfl ?_
      exact Sim.iret dX5_winningSlide_99 rfl
  · refine Sim.iconst (v := (-1 : Int32)) dX5_winningSlide_98 rfl ?_
    exact Sim.iret dX5_winningSlide_99 rfl
def f_X5_winningSlide_18_lp   (n : Nat) (v : Int32 × Int32 × zHp) : Option (Int32 × zHp) := zlp (fun k18 v => f_X5_winningSlide_18 k18 v.1 v.2.1 v.2.2) n v
theorem f_X5_winningSlide_18_ls  (n : Nat) (v : Int32 × Int32 × zHp) : Sim wX mX5_winningSlide 2 rI 18 [(0, .ref 161), (1, .int v.1), (2, .int v.2.1)] [] v.2.2 (f_X5_winningSlide_18_lp n v) :=
  Sim.lp (V := Int32 × Int32 × zHp) (Lf := fun v => [(0, .ref 161), (1, .int v.1), (2, .int v.2.1)]) (sf := fun v => []) (hf := fun v => v.2.2) (fun k18 H18 v => f_X5_winningSlide_18_s k18 H18 v.1 v.2.1 v.2.2) n v
def f_X5_winningSlide   (h : zHp) : Option (Int32 × zHp) := zlt (h 37 1) fun x1 => (f_X5_sortCoins x1 h).bind fun x2 => f_X5_winningSlide_18_lp  zN (x1, (0 : Int32), x2)
set_option maxHeartbeats 4000000 in
set_option maxRecDepth 100000 in
theorem s_X5_winningSlide   (h : zHp) : Fn wX mX5_winningSlide 2 rI [.ref 161] h (f_X5_winningSlide  h) := by
  refine Fn.of rfl (Nat.le_of_ble_eq_true rfl) ?_
  unfold f_X5_winningSlide
  refine Sim.aload_n 0 dX5_winningSlide_0 rfl ?_
  refine Sim.getR (j := 26) fl_X5_24 dX5_winningSlide_1 xR_161_0 ?_
  refine Sim.getR (j := 37) fl_X5_113 dX5_winningSlide_4 (xR_X8_5 _ xL_X8_26) ?_
  refine Sim.getI fl_X5_34 dX5_winningSlide_7 (xI_X7_1 _ xL_X7_37) ?_
  refine Sim.lti (fun x1 => ?_)
  refine Sim.istore_n (L' := [(1, .int x1), (0, .ref 161)]) dX5_winningSlide_10 (Nat.le_of_ble_eq_true rfl) rfl ?_
  refine Sim.aload_n 1 dX5_winningSlide_11 rfl ?_
  refine Sim.iload_n 0 dX5_winningSlide_12 rfl ?_
  refine Sim.callV1U (d1 := 1) (s_X5_sortCoins x1 h) dX5_winningSlide_13 ml_X5_116 mv_X5_sortCoins xO_X5 (Nat.le_of_ble_eq_true rfl) (Nat.le_of_ble_eq_true rfl) (Nat.le_of_ble_eq_true rfl) (fun x2 => ?_)
  refine Sim.iconst (v := (0 : Int32)) dX5_winningSlide_16 rfl ?_
  refine Sim.istore_n (L' := [(2, .int (0 : Int32)), (1, .int x1), (0, .ref 161)]) dX5_winningSlide_17 (Nat.le_of_ble_eq_true rfl) rfl ?_
  refine Sim.locs [2, 1, 0] rfl ?_
  exact f_X5_winningSlide_18_ls  zN (x1, (0 : Int32), x2)
theorem mv_X5_winningSlide : zMV mX5_winningSlide 0 := ⟨⟨zTb_in 1239 (by decide +kernel) rfl, zTb_in 147 (by decide +kernel) rfl, ⟨by decide +kernel, by decide +kernel⟩, by decide +kernel⟩, zTb_in 1237 (by decide +kernel) rfl, zTb_in 1238 (by decide +kernel) rfl⟩
-- ===== RockingPorch$Reader.hear(I)V
abbrev mX6_hear : zMt := (yX6_hear, cX6_hear, 3, none)
theorem fl_X6_15 : zF RX6 15 6 1 := ⟨RX6, TX6, 14, rfl, Nat.le_of_ble_eq_true rfl, zTb_in 430 (by decide +kernel) rfl, in_X6⟩
theorem fl_X6_9 : zF RX6 9 6 0 := ⟨RX6, TX6, 14, rfl, Nat.le_of_ble_eq_true rfl, zTb_in 429 (by decide +kernel) rfl, in_X6⟩
theorem fp_X6_15 : zFp RX6 15 6 1 .int := ⟨RX6, TX6, 14, tyX6, rfl, Nat.le_of_ble_eq_true rfl, zTb_in 430 (by decide +kernel) rfl, in_X6, tyX6_ok, nmX6, rfl, rfl⟩
theorem dX6_hear_0 : decode cX6_hear 0 = .ok (.bipush 24, 2) := by decide +kernel
theorem dX6_hear_2 : decode cX6_hear 2 = .ok (.istore_n 2, 1) := by decide +kernel
theorem dX6_hear_3 : decode cX6_hear 3 = .ok (.iload_n 2, 1) := by decide +kernel
theorem dX6_hear_4 : decode cX6_hear 4 = .ok (.ifCond .lt 46, 3) := by decide +kernel
theorem dX6_hear_7 : decode cX6_hear 7 = .ok (.aload_n 0, 1) := by decide +kernel
theorem dX6_hear_8 : decode cX6_hear 8 = .ok (.getfield 15, 3) := by decide +kernel
theorem dX6_hear_11 : decode cX6_hear 11 = .ok (.sipush 400, 3) := by decide +kernel
theorem dX6_hear_14 : decode cX6_hear 14 = .ok (.if_icmp .ge 30, 3) := by decide +kernel
theorem dX6_hear_17 : decode cX6_hear 17 = .ok (.aload_n 0, 1) := by decide +kernel
theorem dX6_hear_18 : decode cX6_hear 18 = .ok (.getfield 9, 3) := by decide +kernel
theorem dX6_hear_21 : decode cX6_hear 21 = .ok (.aload_n 0, 1) := by decide +kernel
theorem dX6_hear_22 : decode cX6_hear 22 = .ok (.getfield 15, 3) := by decide +kernel
theorem dX6_hear_25 : decode cX6_hear 25 = .ok (.iload_n 1, 1) := by decide +kernel
theorem dX6_hear_26 : decode cX6_hear 26 = .ok (.iload_n 2, 1) := by decide +kernel
theorem dX6_hear_27 : decode cX6_hear 27 = .ok (.iushr, 1) := by decide +kernel
theorem dX6_hear_28 : decode cX6_hear 28 = .ok (.sipush 255, 3) := by decide +kernel
theorem dX6_hear_31 : decode cX6_hear 31 = .ok (.iand, 1) := by decide +kernel
theorem dX6_hear_32 : decode cX6_hear 32 = .ok (.i2c, 1) := by decide +kernel
theorem dX6_hear_33 : decode cX6_hear 33 = .ok (.castore, 1) := by decide +kernel
theorem dX6_hear_34 : decode cX6_hear 34 = .ok (.aload_n 0, 1) := by decide +kernel
theorem dX6_hear_35 : decode cX6_hear 35 = .ok (.dup, 1) := by decide +kernel
theorem dX6_hear_36 : decode cX6_hear 36 = .ok (.getfield 15, 3) := by decide +kernel
theorem dX6_hear_39 : decode cX6_hear 39 = .ok (.iconst 1, 1) := by decide +kernel
theorem dX6_hear_40 : decode cX6_hear 40 = .ok (.iadd, 1) := by decide +kernel
theorem dX6_hear_41 : decode cX6_hear 41 = .ok (.putfield 15, 3) := by decide +kernel
theorem dX6_hear_44 : decode cX6_hear 44 = .ok (.iinc 2 (-8), 3) := by decide +kernel
theorem dX6_hear_47 : decode cX6_hear 47 = .ok (.goto (-44), 3) := by decide +kernel
theorem dX6_hear_50 : decode cX6_hear 50 = .ok (.return_, 1) := by decide +kernel
def f_X6_hear_3  (k3 : Int32 × Int32 × zHp → Option (zHp)) (v1 : Int32) (v2 : Int32) (h : zHp) : Option (zHp) := (if v2 < 0 then some h else (if (h 145 1) < (400 : Int32) then zix (h 145 1) 400 (zlt (zst h 146 (h 145 1).toNatClampNeg (vp_nar .char (((((v1.toUInt32 >>> (v2.toUInt32 &&& Int32.toUInt32 31)).toInt32) &&& (255 : Int32)).toUInt32 % 65536).toInt32))) fun h1 => zlt (zst h1 145 1 ((h1 145 1) + (1 : Int32))) fun h2 => k3 (v1, (v2 + (-8 : Int32)), h2)) else k3 (v1, (v2 + (-8 : Int32)), h)))
set_option maxHeartbeats 4000000 in
set_option maxRecDepth 100000 in
theorem f_X6_hear_3_s  (k3 : Int32 × Int32 × zHp → Option (zHp)) (H3 : ∀ v : Int32 × Int32 × zHp, Sim wX mX6_hear 0 rV 3 [(0, .ref 145), (1, .int v.1), (2, .int v.2.1)] [] v.2.2 (k3 v)) (v1 : Int32) (v2 : Int32) (h : zHp) : Sim wX mX6_hear 0 rV 3 [(0, .ref 145), (1, .int v1), (2, .int v2)] [] h (f_X6_hear_3 k3 v1 v2 h) := by
  unfold f_X6_hear_3
  refine Sim.iload_n 2 dX6_hear_3 rfl ?_
  refine Sim.if_lt 50 dX6_hear_4 rfl ?_ ?_
  · exact Sim.vret dX6_hear_50 rfl
  · refine Sim.aload_n 0 dX6_hear_7 rfl ?_
    refine Sim.getI fl_X6_15 dX6_hear_8 xI_145_1 ?_
    refine Sim.sipush (v := (400 : Int32)) dX6_hear_11 rfl ?_
    refine Sim.icmp_ge 44 dX6_hear_14 rfl ?_ ?_
    · refine Sim.aload_n 0 dX6_hear_17 rfl ?_
      refine Sim.getR (j := 146) fl_X6_9 dX6_hear_18 xR_145_0 ?_
      refine Sim.aload_n 0 dX6_hear_21 rfl ?_
      refine Sim.getI fl_X6_15 dX6_hear_22 xI_145_1 ?_
      refine Sim.iload_n 1 dX6_hear_25 rfl ?_
      refine Sim.iload_n 2 dX6_hear_26 rfl ?_
      refine Sim.iushr dX6_hear_27 ?_
      refine Sim.sipush (v := (255 : Int32)) dX6_hear_28 rfl ?_
      refine Sim.iand dX6_hear_31 ?_
      refine Sim.i2c dX6_hear_32 ?_
      refine Sim.cast (n := 400) dX6_hear_33 xA_146 ?_
      refine Sim.lth (fun h1 => ?_)
      refine Sim.aload_n 0 dX6_hear_34 rfl ?_
      refine Sim.dup dX6_hear_35 rfl ?_
      refine Sim.getI fl_X6_15 dX6_hear_36 xI_145_1 ?_
      refine Sim.iconst (v := (1 : Int32)) dX6_hear_39 rfl ?_
      refine Sim.iadd dX6_hear_40 ?_
      refine Sim.put fp_X6_15 dX6_hear_41 xI_145_1 rfl rfl ?_
      refine Sim.lth (fun h2 => ?_)
      refine Sim.iinc (L' := [(2, .int (v2 + (-8 : Int32))), (0, .ref 145), (1, .int v1)]) 2 dX6_hear_44 rfl (congrArg (fun q : Int32 => v2 + q) (show Int32.ofInt (-8) = (-8 : Int32) by decide)) (Nat.le_of_ble_eq_true rfl) rfl ?_
      refine Sim.goto 3 dX6_hear_47 rfl ?_
      refine Sim.locs [1, 2, 0] rfl ?_
      exact H3 (v1, (v2 + (-8 : Int32)), h2)
    · refine Sim.iinc (L' := [(2, .int (v2 + (-8 : Int32))), (0, .ref 145), (1, .int v1)]) 2 dX6_hear_44 rfl (congrArg (fun q : Int32 => v2 + q) (show Int32.ofInt (-8) = (-8 : Int32) by decide)) (Nat.le_of_ble_eq_true rfl) rfl ?_
      refine Sim.goto 3 dX6_hear_47 rfl ?_
      refine Sim.locs [1, 2, 0] rfl ?_
      exact H3 (v1, (v2 + (-8 : Int32)), h)
def f_X6_hear_3_lp   (n : Nat) (v : Int32 × Int32 × zHp) : Option (zHp) := zlp (fun k3 v => f_X6_hear_3 k3 v.1 v.2.1 v.2.2) n v
theorem f_X6_hear_3_ls  (n : Nat) (v : Int32 × Int32 × zHp) : Sim wX mX6_hear 0 rV 3 [(0, .ref 145), (1, .int v.1), (2, .int v.2.1)] [] v.2.2 (f_X6_hear_3_lp n v) :=
  Sim.lp (V := Int32 × Int32 × zHp) (Lf := fun v => [(0, .ref 145), (1, .int v.1), (2, .int v.2.1)]) (sf := fun v => []) (hf := fun v => v.2.2) (fun k3 H3 v => f_X6_hear_3_s k3 H3 v.1 v.2.1 v.2.2) n v
def f_X6_hear  (a1 : Int32) (h : zHp) : Option (zHp) := f_X6_hear_3_lp  zN (a1, (24 : Int32), h)
set_option maxHeartbeats 4000000 in
set_option maxRecDepth 100000 in
theorem s_X6_hear  (a1 : Int32) (h : zHp) : Fn wX mX6_hear 0 rV [.ref 145, .int a1] h (f_X6_hear a1 h) := by
  refine Fn.of rfl (Nat.le_of_ble_eq_true rfl) ?_
  unfold f_X6_hear
  refine Sim.bipush (v := (24 : Int32)) dX6_hear_0 rfl ?_
  refine Sim.istore_n (L' := [(2, .int (24 : Int32)), (0, .ref 145), (1, .int a1)]) dX6_hear_2 (Nat.le_of_ble_eq_true rfl) rfl ?_
  refine Sim.locs [1, 2, 0] rfl ?_
  exact f_X6_hear_3_ls  zN (a1, (24 : Int32), h)
theorem mv_X6_hear : zMV mX6_hear 1 := ⟨⟨zTb_in 755 (by decide +kernel) rfl, zTb_in 145 (by decide +kernel) rfl, ⟨by decide +kernel, by decide +kernel⟩, by decide +kernel⟩, zTb_in 753 (by decide +kernel) rfl, zTb_in 754 (by decide +kernel) rfl⟩
-- ===== RockingPorch$Reader.sortOf(C)I
abbrev mX6_sortOf : zMt := (yX6_sortOf, cX6_sortOf, 1, some .int)
theorem dX6_sortOf_0 : decode cX6_sortOf 0 = .ok (.iload_n 0, 1) := by decide +kernel
theorem dX6_sortOf_1 : decode cX6_sortOf 1 = .ok (.bipush 32, 2) := by decide +kernel
theorem dX6_sortOf_3 : decode cX6_sortOf 3 = .ok (.if_icmp .eq 9, 3) := by decide +kernel
theorem dX6_sortOf_6 : decode cX6_sortOf 6 = .ok (.iload_n 0, 1) := by decide +kernel
theorem dX6_sortOf_7 : decode cX6_sortOf 7 = .ok (.bipush 10, 2) := by decide +kernel
theorem dX6_sortOf_9 : decode cX6_sortOf 9 = .ok (.if_icmp .ne 5, 3) := by decide +kernel
theorem dX6_sortOf_12 : decode cX6_sortOf 12 = .ok (.iconst 0, 1) := by decide +kernel
theorem dX6_sortOf_13 : decode cX6_sortOf 13 = .ok (.ireturn, 1) := by decide +kernel
theorem dX6_sortOf_14 : decode cX6_sortOf 14 = .ok (.iload_n 0, 1) := by decide +kernel
theorem dX6_sortOf_15 : decode cX6_sortOf 15 = .ok (.bipush 97, 2) := by decide +kernel
theorem dX6_sortOf_17 : decode cX6_sortOf 17 = .ok (.if_icmp .lt 9, 3) := by decide +kernel
theorem dX6_sortOf_20 : decode cX6_sortOf 20 = .ok (.iload_n 0, 1) := by decide +kernel
theorem dX6_sortOf_21 : decode cX6_sortOf 21 = .ok (.bipush 122, 2) := by decide +kernel
theorem dX6_sortOf_23 : decode cX6_sortOf 23 = .ok (.if_icmp .le 15, 3) := by decide +kernel
theorem dX6_sortOf_26 : decode cX6_sortOf 26 = .ok (.iload_n 0, 1) := by decide +kernel
theorem dX6_sortOf_27 : decode cX6_sortOf 27 = .ok (.bipush 65, 2) := by decide +kernel
theorem dX6_sortOf_29 : decode cX6_sortOf 29 = .ok (.if_icmp .lt 11, 3) := by decide +kernel
theorem dX6_sortOf_32 : decode cX6_sortOf 32 = .ok (.iload_n 0, 1) := by decide +kernel
theorem dX6_sortOf_33 : decode cX6_sortOf 33 = .ok (.bipush 90, 2) := by decide +kernel
theorem dX6_sortOf_35 : decode cX6_sortOf 35 = .ok (.if_icmp .gt 5, 3) := by decide +kernel
theorem dX6_sortOf_38 : decode cX6_sortOf 38 = .ok (.iconst 1, 1) := by decide +kernel
theorem dX6_sortOf_39 : decode cX6_sortOf 39 = .ok (.ireturn, 1) := by decide +kernel
theorem dX6_sortOf_40 : decode cX6_sortOf 40 = .ok (.iload_n 0, 1) := by decide +kernel
theorem dX6_sortOf_41 : decode cX6_sortOf 41 = .ok (.bipush 48, 2) := by decide +kernel
theorem dX6_sortOf_43 : decode cX6_sortOf 43 = .ok (.if_icmp .lt 13, 3) := by decide +kernel
theorem dX6_sortOf_46 : decode cX6_sortOf 46 = .ok (.iload_n 0, 1) := by decide +kernel
theorem dX6_sortOf_47 : decode cX6_sortOf 47 = .ok (.bipush 57, 2) := by decide +kernel
theorem dX6_sortOf_49 : decode cX6_sortOf 49 = .ok (.if_icmp .gt 7, 3) := by decide +kernel
theorem dX6_sortOf_52 : decode cX6_sortOf 52 = .ok (.iconst 2, 1) := by decide +kernel
theorem dX6_sortOf_53 : decode cX6_sortOf 53 = .ok (.goto 4, 3) := by decide +kernel
theorem dX6_sortOf_56 : decode cX6_sortOf 56 = .ok (.iconst 3, 1) := by decide +kernel
theorem dX6_sortOf_57 : decode cX6_sortOf 57 = .ok (.ireturn, 1) := by decide +kernel
def f_X6_sortOf_40   (v0 : Int32) (h : zHp) : Option (Int32 × zHp) := (if v0 < (48 : Int32) then some ((3 : Int32), h) else (if (57 : Int32) < v0 then some ((3 : Int32), h) else some ((2 : Int32), h)))
set_option maxHeartbeats 4000000 in
set_option maxRecDepth 100000 in
theorem f_X6_sortOf_40_s  (v0 : Int32) (h : zHp) : Sim wX mX6_sortOf 0 rI 40 [(0, .int v0)] [] h (f_X6_sortOf_40 v0 h) := by
  unfold f_X6_sortOf_40
  refine Sim.iload_n 0 dX6_sortOf_40 rfl ?_
  refine Sim.bipush (v := (48 : Int32)) dX6_sortOf_41 rfl ?_
  refine Sim.icmp_lt 56 dX6_sortOf_43 rfl ?_ ?_
  · refine Sim.iconst (v := (3 : Int32)) dX6_sortOf_56 rfl ?_
    exact Sim.iret dX6_sortOf_57 rfl
  · refine Sim.iload_n 0 dX6_sortOf_46 rfl ?_
    refine Sim.bipush (v := (57 : Int32)) dX6_sortOf_47 rfl ?_
    refine Sim.icmp_gt 56 dX6_sortOf_49 rfl ?_ ?_
    · refine Sim.iconst (v := (3 : Int32)) dX6_sortOf_56 rfl ?_
      exact Sim.iret dX6_sortOf_57 rfl
    · refine Sim.iconst (v := (2 : Int32)) dX6_sortOf_52 rfl ?_
      refine Sim.goto 57 dX6_sortOf_53 rfl ?_
      exact Sim.iret dX6_sortOf_57 rfl
def f_X6_sortOf_26   (v0 : Int32) (h : zHp) : Option (Int32 × zHp) := (if v0 < (65 : Int32) then f_X6_sortOf_40 v0 h else (if (90 : Int32) < v0 then f_X6_sortOf_40 v0 h else some ((1 : Int32), h)))
set_option maxHeartbeats 4000000 in
set_option maxRecDepth 100000 in
theorem f_X6_sortOf_26_s  (v0 : Int32) (h : zHp) : Sim wX mX6_sortOf 0 rI 26 [(0, .int v0)] [] h (f_X6_sortOf_26 v0 h) := by
  unfold f_X6_sortOf_26
  refine Sim.iload_n 0 dX6_sortOf_26 rfl ?_
  refine Sim.bipush (v := (65 : Int32)) dX6_sortOf_27 rfl ?_
  refine Sim.icmp_lt 40 dX6_sortOf_29 rfl ?_ ?_
  · exact f_X6_sortOf_40_s v0 h
  · refine Sim.iload_n 0 dX6_sortOf_32 rfl ?_
    refine Sim.bipush (v := (90 : Int32)) dX6_sortOf_33 rfl ?_
    refine Sim.icmp_gt 40 dX6_sortOf_35 rfl ?_ ?_
    · exact f_X6_sortOf_40_s v0 h
    · refine Sim.iconst (v := (1 : Int32)) dX6_sortOf_38 rfl ?_
      exact Sim.iret dX6_sortOf_39 rfl
def f_X6_sortOf  (a1 : Int32) (h : zHp) : Option (Int32 × zHp) := (if a1 = (32 : Int32) then some ((0 : Int32), h) else (if a1 = (10 : Int32) then some ((0 : Int32), h) else (if a1 < (97 : Int32) then f_X6_sortOf_26 a1 h else (if (122 : Int32) < a1 then f_X6_sortOf_26 a1 h else some ((1 : Int32), h)))))
set_option maxHeartbeats 4000000 in
set_option maxRecDepth 100000 in
theorem s_X6_sortOf  (a1 : Int32) (h : zHp) : Fn wX mX6_sortOf 0 rI [.int a1] h (f_X6_sortOf a1 h) := by
  refine Fn.of rfl (Nat.le_of_ble_eq_true rfl) ?_
  unfold f_X6_sortOf
  refine Sim.iload_n 0 dX6_sortOf_0 rfl ?_
  refine Sim.bipush (v := (32 : Int32)) dX6_sortOf_1 rfl ?_
  refine Sim.icmp_eq 12 dX6_sortOf_3 rfl ?_ ?_
  · refine Sim.iconst (v := (0 : Int32)) dX6_sortOf_12 rfl ?_
    exact Sim.iret dX6_sortOf_13 rfl
  · refine Sim.iload_n 0 dX6_sortOf_6 rfl ?_
    refine Sim.bipush (v := (10 : Int32)) dX6_sortOf_7 rfl ?_
    refine Sim.icmp_ne 14 dX6_sortOf_9 rfl ?_ ?_
    · refine Sim.iconst (v := (0 : Int32)) dX6_sortOf_12 rfl ?_
      exact Sim.iret dX6_sortOf_13 rfl
    · refine Sim.iload_n 0 dX6_sortOf_14 rfl ?_
      refine Sim.bipush (v := (97 : Int32)) dX6_sortOf_15 rfl ?_
      refine Sim.icmp_lt 26 dX6_sortOf_17 rfl ?_ ?_
      · exact f_X6_sortOf_26_s a1 h
      · refine Sim.iload_n 0 dX6_sortOf_20 rfl ?_
        refine Sim.bipush (v := (122 : Int32)) dX6_sortOf_21 rfl ?_
        refine Sim.icmp_le 38 dX6_sortOf_23 rfl ?_ ?_
        · exact f_X6_sortOf_26_s a1 h
        · refine Sim.iconst (v := (1 : Int32)) dX6_sortOf_38 rfl ?_
          exact Sim.iret dX6_sortOf_39 rfl
theorem mv_X6_sortOf : zMS mX6_sortOf 1 := ⟨⟨zTb_in 778 (by decide +kernel) rfl, zTb_in 145 (by decide +kernel) rfl, ⟨by decide +kernel, by decide +kernel⟩, by decide +kernel⟩, zTb_in 777 (by decide +kernel) rfl⟩
-- ===== RockingPorch$Reader.put(III)V
abbrev mX6_put : zMt := (yX6_put, cX6_put, 4, none)
theorem fl_X6_19 : zF RX6 19 6 2 := ⟨RX6, TX6, 14, rfl, Nat.le_of_ble_eq_true rfl, zTb_in 432 (by decide +kernel) rfl, in_X6⟩
theorem fl_X6_23 : zF RX6 23 6 3 := ⟨RX6, TX6, 14, rfl, Nat.le_of_ble_eq_true rfl, zTb_in 433 (by decide +kernel) rfl, in_X6⟩
theorem fl_X6_26 : zF RX6 26 6 4 := ⟨RX6, TX6, 14, rfl, Nat.le_of_ble_eq_true rfl, zTb_in 434 (by decide +kernel) rfl, in_X6⟩
theorem fl_X6_29 : zF RX6 29 6 5 := ⟨RX6, TX6, 14, rfl, Nat.le_of_ble_eq_true rfl, zTb_in 435 (by decide +kernel) rfl, in_X6⟩
theorem fp_X6_29 : zFp RX6 29 6 5 .int := ⟨RX6, TX6, 14, tyX6, rfl, Nat.le_of_ble_eq_true rfl, zTb_in 435 (by decide +kernel) rfl, in_X6, tyX6_ok, nmX6, rfl, rfl⟩
theorem dX6_put_0 : decode cX6_put 0 = .ok (.aload_n 0, 1) := by decide +kernel
theorem dX6_put_1 : decode cX6_put 1 = .ok (.getfield 29, 3) := by decide +kernel
theorem dX6_put_4 : decode cX6_put 4 = .ok (.sipush 400, 3) := by decide +kernel
theorem dX6_put_7 : decode cX6_put 7 = .ok (.if_icmp .gt 43, 3) := by decide +kernel
theorem dX6_put_10 : decode cX6_put 10 = .ok (.aload_n 0, 1) := by decide +kernel
theorem dX6_put_11 : decode cX6_put 11 = .ok (.getfield 19, 3) := by decide +kernel
theorem dX6_put_14 : decode cX6_put 14 = .ok (.aload_n 0, 1) := by decide +kernel
theorem dX6_put_15 : decode cX6_put 15 = .ok (.getfield 29, 3) := by decide +kernel
theorem dX6_put_18 : decode cX6_put 18 = .ok (.iload_n 1, 1) := by decide +kernel
theorem dX6_put_19 : decode cX6_put 19 = .ok (.iastore, 1) := by decide +kernel
theorem dX6_put_20 : decode cX6_put 20 = .ok (.aload_n 0, 1) := by decide +kernel
theorem dX6_put_21 : decode cX6_put 21 = .ok (.getfield 23, 3) := by decide +kernel
theorem dX6_put_24 : decode cX6_put 24 = .ok (.aload_n 0, 1) := by decide +kernel
theorem dX6_put_25 : decode cX6_put 25 = .ok (.getfield 29, 3) := by decide +kernel
theorem dX6_put_28 : decode cX6_put 28 = .ok (.iload_n 2, 1) := by decide +kernel
theorem dX6_put_29 : decode cX6_put 29 = .ok (.iastore, 1) := by decide +kernel
theorem dX6_put_30 : decode cX6_put 30 = .ok (.aload_n 0, 1) := by decide +kernel
theorem dX6_put_31 : decode cX6_put 31 = .ok (.getfield 26, 3) := by decide +kernel
theorem dX6_put_34 : decode cX6_put 34 = .ok (.aload_n 0, 1) := by decide +kernel
theorem dX6_put_35 : decode cX6_put 35 = .ok (.getfield 29, 3) := by decide +kernel
theorem dX6_put_38 : decode cX6_put 38 = .ok (.iload_n 3, 1) := by decide +kernel
theorem dX6_put_39 : decode cX6_put 39 = .ok (.iastore, 1) := by decide +kernel
theorem dX6_put_40 : decode cX6_put 40 = .ok (.aload_n 0, 1) := by decide +kernel
theorem dX6_put_41 : decode cX6_put 41 = .ok (.dup, 1) := by decide +kernel
theorem dX6_put_42 : decode cX6_put 42 = .ok (.getfield 29, 3) := by decide +kernel
theorem dX6_put_45 : decode cX6_put 45 = .ok (.iconst 1, 1) := by decide +kernel
theorem dX6_put_46 : decode cX6_put 46 = .ok (.iadd, 1) := by decide +kernel
theorem dX6_put_47 : decode cX6_put 47 = .ok (.putfield 29, 3) := by decide +kernel
theorem dX6_put_50 : decode cX6_put 50 = .ok (.return_, 1) := by decide +kernel
def f_X6_put  (a1 : Int32) (a2 : Int32) (a3 : Int32) (h : zHp) : Option (zHp) := (if (400 : Int32) < (h 145 5) then some h else zix (h 145 5) 401 (zlt (zst h 147 (h 145 5).toNatClampNeg a1) fun h1 => zix (h1 145 5) 401 (zlt (zst h1 148 (h1 145 5).toNatClampNeg a2) fun h2 => zix (h2 145 5) 401 (zlt (zst h2 149 (h2 145 5).toNatClampNeg a3) fun h3 => zlt (zst h3 145 5 ((h3 145 5) + (1 : Int32))) fun h4 => some h4))))
set_option maxHeartbeats 4000000 in
set_option maxRecDepth 100000 in
theorem s_X6_put  (a1 : Int32) (a2 : Int32) (a3 : Int32) (h : zHp) : Fn wX mX6_put 0 rV [.ref 145, .int a1, .int a2, .int a3] h (f_X6_put a1 a2 a3 h) := by
  refine Fn.of rfl (Nat.le_of_ble_eq_true rfl) ?_
  unfold f_X6_put
  refine Sim.aload_n 0 dX6_put_0 rfl ?_
  refine Sim.getI fl_X6_29 dX6_put_1 xI_145_5 ?_
  refine Sim.sipush (v := (400 : Int32)) dX6_put_4 rfl ?_
  refine Sim.icmp_gt 50 dX6_put_7 rfl ?_ ?_
  · exact Sim.vret dX6_put_50 rfl
  · refine Sim.aload_n 0 dX6_put_10 rfl ?_
    refine Sim.getR (j := 147) fl_X6_19 dX6_put_11 xR_145_2 ?_
    refine Sim.aload_n 0 dX6_put_14 rfl ?_
    refine Sim.getI fl_X6_29 dX6_put_15 xI_145_5 ?_
    refine Sim.iload_n 1 dX6_put_18 rfl ?_
    refine Sim.iast (n := 401) dX6_put_19 xA_147 ?_
    refine Sim.lth (fun h1 => ?_)
    refine Sim.aload_n 0 dX6_put_20 rfl ?_
    refine Sim.getR (j := 148) fl_X6_23 dX6_put_21 xR_145_3 ?_
    refine Sim.aload_n 0 dX6_put_24 rfl ?_
    refine Sim.getI fl_X6_29 dX6_put_25 xI_145_5 ?_
    refine Sim.iload_n 2 dX6_put_28 rfl ?_
    refine Sim.iast (n := 401) dX6_put_29 xA_148 ?_
    refine Sim.lth (fun h2 => ?_)
    refine Sim.aload_n 0 dX6_put_30 rfl ?_
    refine Sim.getR (j := 149) fl_X6_26 dX6_put_31 xR_145_4 ?_
    refine Sim.aload_n 0 dX6_put_34 rfl ?_
    refine Sim.getI fl_X6_29 dX6_put_35 xI_145_5 ?_
    refine Sim.iload_n 3 dX6_put_38 rfl ?_
    refine Sim.iast (n := 401) dX6_put_39 xA_149 ?_
    refine Sim.lth (fun h3 => ?_)
    refine Sim.aload_n 0 dX6_put_40 rfl ?_
    refine Sim.dup dX6_put_41 rfl ?_
    refine Sim.getI fl_X6_29 dX6_put_42 xI_145_5 ?_
    refine Sim.iconst (v := (1 : Int32)) dX6_put_45 rfl ?_
    refine Sim.iadd dX6_put_46 ?_
    refine Sim.put fp_X6_29 dX6_put_47 xI_145_5 rfl rfl ?_
    refine Sim.lth (fun h4 => ?_)
    exact Sim.vret dX6_put_50 rfl
theorem mv_X6_put : zMV mX6_put 3 := ⟨⟨zTb_in 869 (by decide +kernel) rfl, zTb_in 145 (by decide +kernel) rfl, ⟨by decide +kernel, by decide +kernel⟩, by decide +kernel⟩, zTb_in 868 (by decide +kernel) rfl, zTb_in 13 (by decide +kernel) rfl⟩
-- ===== RockingPorch$Reader.wordOf(II)I
abbrev mX6_wordOf : zMt := (yX6_wordOf, cX6_wordOf, 8, some .int)
theorem ml_X6_122 : Cond.methodLink RX6 122 yJ0_length_8abf5 ∈ zTb := zTb_in 875 (by decide +kernel) rfl
theorem ml_X6_126 : Cond.methodLink RX6 126 yJ0_charAt_5068e ∈ zTb := zTb_in 876 (by decide +kernel) rfl
theorem dX6_wordOf_0 : decode cX6_wordOf 0 = .ok (.iconst 0, 1) := by decide +kernel
theorem dX6_wordOf_1 : decode cX6_wordOf 1 = .ok (.istore_n 3, 1) := by decide +kernel
theorem dX6_wordOf_2 : decode cX6_wordOf 2 = .ok (.iload_n 1, 1) := by decide +kernel
theorem dX6_wordOf_3 : decode cX6_wordOf 3 = .ok (.istore 4, 2) := by decide +kernel
theorem dX6_wordOf_5 : decode cX6_wordOf 5 = .ok (.iconst 1, 1) := by decide +kernel
theorem dX6_wordOf_6 : decode cX6_wordOf 6 = .ok (.istore 5, 2) := by decide +kernel
theorem dX6_wordOf_8 : decode cX6_wordOf 8 = .ok (.iconst 0, 1) := by decide +kernel
theorem dX6_wordOf_9 : decode cX6_wordOf 9 = .ok (.istore 6, 2) := by decide +kernel
theorem dX6_wordOf_11 : decode cX6_wordOf 11 = .ok (.iload 6, 2) := by decide +kernel
theorem dX6_wordOf_13 : decode cX6_wordOf 13 = .ok (.ldc 120, 2) := by decide +kernel
theorem dX6_wordOf_15 : decode cX6_wordOf 15 = .ok (.invokevirtual 122, 3) := by decide +kernel
theorem dX6_wordOf_18 : decode cX6_wordOf 18 = .ok (.if_icmp .gt 98, 3) := by decide +kernel
theorem dX6_wordOf_21 : decode cX6_wordOf 21 = .ok (.iload 6, 2) := by decide +kernel
theorem dX6_wordOf_23 : decode cX6_wordOf 23 = .ok (.ldc 120, 2) := by decide +kernel
theorem dX6_wordOf_25 : decode cX6_wordOf 25 = .ok (.invokevirtual 122, 3) := by decide +kernel
theorem dX6_wordOf_28 : decode cX6_wordOf 28 = .ok (.if_icmp .ge 13, 3) := by decide +kernel
theorem dX6_wordOf_31 : decode cX6_wordOf 31 = .ok (.ldc 120, 2) := by decide +kernel
theorem dX6_wordOf_33 : decode cX6_wordOf 33 = .ok (.iload 6, 2) := by decide +kernel
theorem dX6_wordOf_35 : decode cX6_wordOf 35 = .ok (.invokevirtual 126, 3) := by decide +kernel
theorem dX6_wordOf_38 : decode cX6_wordOf 38 = .ok (.goto 5, 3) := by decide +kernel
theorem dX6_wordOf_41 : decode cX6_wordOf 41 = .ok (.bipush 32, 2) := by decide +kernel
theorem dX6_wordOf_43 : decode cX6_wordOf 43 = .ok (.istore 7, 2) := by decide +kernel
theorem dX6_wordOf_45 : decode cX6_wordOf 45 = .ok (.iload 7, 2) := by decide +kernel
theorem dX6_wordOf_47 : decode cX6_wordOf 47 = .ok (.bipush 32, 2) := by decide +kernel
theorem dX6_wordOf_49 : decode cX6_wordOf 49 = .ok (.if_icmp .eq 39, 3) := by decide +kernel
theorem dX6_wordOf_52 : decode cX6_wordOf 52 = .ok (.iload 5, 2) := by decide +kernel
theorem dX6_wordOf_54 : decode cX6_wordOf 54 = .ok (.ifCond .eq 25, 3) := by decide +kernel
theorem dX6_wordOf_57 : decode cX6_wordOf 57 = .ok (.iload 4, 2) := by decide +kernel
theorem dX6_wordOf_59 : decode cX6_wordOf 59 = .ok (.iload_n 2, 1) := by decide +kernel
theorem dX6_wordOf_60 : decode cX6_wordOf 60 = .ok (.if_icmp .ge 19, 3) := by decide +kernel
theorem dX6_wordOf_63 : decode cX6_wordOf 63 = .ok (.aload_n 0, 1) := by decide +kernel
theorem dX6_wordOf_64 : decode cX6_wordOf 64 = .ok (.getfield 9, 3) := by decide +kernel
theorem dX6_wordOf_67 : decode cX6_wordOf 67 = .ok (.iload 4, 2) := by decide +kernel
theorem dX6_wordOf_69 : decode cX6_wordOf 69 = .ok (.caload, 1) := by decide +kernel
theorem dX6_wordOf_70 : decode cX6_wordOf 70 = .ok (.iload 7, 2) := by decide +kernel
theorem dX6_wordOf_72 : decode cX6_wordOf 72 = .ok (.if_icmp .ne 7, 3) := by decide +kernel
theorem dX6_wordOf_75 : decode cX6_wordOf 75 = .ok (.iconst 1, 1) := by decide +kernel
theorem dX6_wordOf_76 : decode cX6_wordOf 76 = .ok (.goto 4, 3) := by decide +kernel
theorem dX6_wordOf_79 : decode cX6_wordOf 79 = .ok (.iconst 0, 1) := by decide +kernel
theorem dX6_wordOf_80 : decode cX6_wordOf 80 = .ok (.istore 5, 2) := by decide +kernel
theorem dX6_wordOf_82 : decode cX6_wordOf 82 = .ok (.iinc 4 1, 3) := by decide +kernel
theorem dX6_wordOf_85 : decode cX6_wordOf 85 = .ok (.goto 25, 3) := by decide +kernel
theorem dX6_wordOf_88 : decode cX6_wordOf 88 = .ok (.iload 5, 2) := by decide +kernel
theorem dX6_wordOf_90 : decode cX6_wordOf 90 = .ok (.ifCond .eq 11, 3) := by decide +kernel
theorem dX6_wordOf_93 : decode cX6_wordOf 93 = .ok (.iload 4, 2) := by decide +kernel
theorem dX6_wordOf_95 : decode cX6_wordOf 95 = .ok (.iload_n 2, 1) := by decide +kernel
theorem dX6_wordOf_96 : decode cX6_wordOf 96 = .ok (.if_icmp .ne 5, 3) := by decide +kernel
theorem dX6_wordOf_99 : decode cX6_wordOf 99 = .ok (.iload_n 3, 1) := by decide +kernel
theorem dX6_wordOf_100 : decode cX6_wordOf 100 = .ok (.ireturn, 1) := by decide +kernel
theorem dX6_wordOf_101 : decode cX6_wordOf 101 = .ok (.iinc 3 1, 3) := by decide +kernel
theorem dX6_wordOf_104 : decode cX6_wordOf 104 = .ok (.iload_n 1, 1) := by decide +kernel
theorem dX6_wordOf_105 : decode cX6_wordOf 105 = .ok (.istore 4, 2) := by decide +kernel
theorem dX6_wordOf_107 : decode cX6_wordOf 107 = .ok (.iconst 1, 1) := by decide +kernel
theorem dX6_wordOf_108 : decode cX6_wordOf 108 = .ok (.istore 5, 2) := by decide +kernel
theorem dX6_wordOf_110 : decode cX6_wordOf 110 = .ok (.iinc 6 1, 3) := by decide +kernel
theorem dX6_wordOf_113 : decode cX6_wordOf 113 = .ok (.goto (-102), 3) := by decide +kernel
theorem dX6_wordOf_116 : decode cX6_wordOf 116 = .ok (.bipush 35, 2) := by decide +kernel
theorem dX6_wordOf_118 : decode cX6_wordOf 118 = .ok (.ireturn, 1) := by decide +kernel
def f_X6_wordOf_101  (k11 : Int32 × Int32 × Int32 × Int32 × Int32 × Int32 × zHp → Option (Int32 × zHp)) (v1 : Int32) (v2 : Int32) (v3 : Int32) (v6 : Int32) (h : zHp) : Option (Int32 × zHp) := k11 (v1, v2, (v3 + (1 : Int32)), v1, (1 : Int32), (v6 + (1 : Int32)), h)
set_option maxHeartbeats 4000000 in
set_option maxRecDepth 100000 in
theorem f_X6_wordOf_101_s  (k11 : Int32 × Int32 × Int32 × Int32 × Int32 × Int32 × zHp → Option (Int32 × zHp)) (H11 : ∀ v : Int32 × Int32 × Int32 × Int32 × Int32 × Int32 × zHp, Sim wX mX6_wordOf 4 rI 11 [(0, .ref 145), (1, .int v.1), (2, .int v.2.1), (3, .int v.2.2.1), (4, .int v.2.2.2.1), (5, .int v.2.2.2.2.1), (6, .int v.2.2.2.2.2.1)] [] v.2.2.2.2.2.2 (k11 v)) (v1 : Int32) (v2 : Int32) (v3 : Int32) (v6 : Int32) (h : zHp) : Sim wX mX6_wordOf 4 rI 101 [(0, .ref 145), (1, .int v1), (2, .int v2), (3, .int v3), (6, .int v6)] [] h (f_X6_wordOf_101 k11 v1 v2 v3 v6 h) := by
  unfold f_X6_wordOf_101
  refine Sim.iinc (L' := [(3, .int (v3 + (1 : Int32))), (0, .ref 145), (1, .int v1), (2, .int v2), (6, .int v6)]) 3 dX6_wordOf_101 rfl rfl (Nat.le_of_ble_eq_true rfl) rfl ?_
  refine Sim.iload_n 2 dX6_wordOf_104 rfl ?_
  refine Sim.istore (L' := [(4, .int v1), (3, .int (v3 + (1 : Int32))), (0, .ref 145), (1, .int v1), (2, .int v2), (6, .int v6)]) dX6_wordOf_105 (Nat.le_of_ble_eq_true rfl) rfl ?_
  refine Sim.iconst (v := (1 : Int32)) dX6_wordOf_107 rfl ?_
  refine Sim.istore (L' := [(5, .int (1 : Int32)), (4, .int v1), (3, .int (v3 + (1 : Int32))), (0, .ref 145), (1, .int v1), (2, .int v2), (6, .int v6)]) dX6_wordOf_108 (Nat.le_of_ble_eq_true rfl) rfl ?_
  refine Sim.iinc (L' := [(6, .int (v6 + (1 : Int32))), (5, .int (1 : Int32)), (4, .int v1), (3, .int (v3 + (1 : Int32))), (0, .ref 145), (1, .int v1), (2, .int v2)]) 6 dX6_wordOf_110 rfl rfl (Nat.le_of_ble_eq_true rfl) rfl ?_
  refine Sim.goto 11 dX6_wordOf_113 rfl ?_
  refine Sim.locs [4, 5, 6, 3, 2, 1, 0] rfl ?_
  exact H11 (v1, v2, (v3 + (1 : Int32)), v1, (1 : Int32), (v6 + (1 : Int32)), h)
def f_X6_wordOf_80  (k11 : Int32 × Int32 × Int32 × Int32 × Int32 × Int32 × zHp → Option (Int32 × zHp)) (v1 : Int32) (v2 : Int32) (v3 : Int32) (v4 : Int32) (v6 : Int32) (s0 : Int32) (h : zHp) : Option (Int32 × zHp) := k11 (v1, v2, v3, (v4 + (1 : Int32)), s0, (v6 + (1 : Int32)), h)
set_option maxHeartbeats 4000000 in
set_option maxRecDepth 100000 in
theorem f_X6_wordOf_80_s  (k11 : Int32 × Int32 × Int32 × Int32 × Int32 × Int32 × zHp → Option (Int32 × zHp)) (H11 : ∀ v : Int32 × Int32 × Int32 × Int32 × Int32 × Int32 × zHp, Sim wX mX6_wordOf 4 rI 11 [(0, .ref 145), (1, .int v.1), (2, .int v.2.1), (3, .int v.2.2.1), (4, .int v.2.2.2.1), (5, .int v.2.2.2.2.1), (6, .int v.2.2.2.2.2.1)] [] v.2.2.2.2.2.2 (k11 v)) (v1 : Int32) (v2 : Int32) (v3 : Int32) (v4 : Int32) (v6 : Int32) (s0 : Int32) (h : zHp) : Sim wX mX6_wordOf 4 rI 80 [(0, .ref 145), (1, .int v1), (2, .int v2), (3, .int v3), (4, .int v4), (6, .int v6)] [.int s0] h (f_X6_wordOf_80 k11 v1 v2 v3 v4 v6 s0 h) := by
  unfold f_X6_wordOf_80
  refine Sim.istore (L' := [(5, .int s0), (0, .ref 145), (1, .int v1), (2, .int v2), (3, .int v3), (4, .int v4), (6, .int v6)]) dX6_wordOf_80 (Nat.le_of_ble_eq_true rfl) rfl ?_
  refine Sim.iinc (L' := [(4, .int (v4 + (1 : Int32))), (5, .int s0), (0, .ref 145), (1, .int v1), (2, .int v2), (3, .int v3), (6, .int v6)]) 5 dX6_wordOf_82 rfl rfl (Nat.le_of_ble_eq_true rfl) rfl ?_
  refine Sim.goto 110 dX6_wordOf_85 rfl ?_
  refine Sim.iinc (L' := [(6, .int (v6 + (1 : Int32))), (4, .int (v4 + (1 : Int32))), (5, .int s0), (0, .ref 145), (1, .int v1), (2, .int v2), (3, .int v3)]) 6 dX6_wordOf_110 rfl rfl (Nat.le_of_ble_eq_true rfl) rfl ?_
  refine Sim.goto 11 dX6_wordOf_113 rfl ?_
  refine Sim.locs [3, 4, 5, 6, 1, 2, 0] rfl ?_
  exact H11 (v1, v2, v3, (v4 + (1 : Int32)), s0, (v6 + (1 : Int32)), h)
def f_X6_wordOf_43  (k11 : Int32 × Int32 × Int32 × Int32 × Int32 × Int32 × zHp → Option (Int32 × zHp)) (v1 : Int32) (v2 : Int32) (v3 : Int32) (v4 : Int32) (v5 : Int32) (v6 : Int32) (s0 : Int32) (h : zHp) : Option (Int32 × zHp) := (if s0 = (32 : Int32) then (if v5 = 0 then f_X6_wordOf_101 k11 v1 v2 v3 v6 h else (if v4 = v2 then some (v3, h) else f_X6_wordOf_101 k11 v1 v2 v3 v6 h)) else (if v5 = 0 then f_X6_wordOf_80 k11 v1 v2 v3 v4 v6 (0 : Int32) h else (if v4 < v2 then zix v4 400 ((if (h 146 v4.toNatClampNeg) = s0 then f_X6_wordOf_80 k11 v1 v2 v3 v4 v6 (1 : Int32) h else f_X6_wordOf_80 k11 v1 v2 v3 v4 v6 (0 : Int32) h)) else f_X6_wordOf_80 k11 v1 v2 v3 v4 v6 (0 : Int32) h)))
set_option maxHeartbeats 4000000 in
set_option maxRecDepth 100000 in
theorem f_X6_wordOf_43_s  (k11 : Int32 × Int32 × Int32 × Int32 × Int32 × Int32 × zHp → Option (Int32 × zHp)) (H11 : ∀ v : Int32 × Int32 × Int32 × Int32 × Int32 × Int32 × zHp, Sim wX mX6_wordOf 4 rI 11 [(0, .ref 145), (1, .int v.1), (2, .int v.2.1), (3, .int v.2.2.1), (4, .int v.2.2.2.1), (5, .int v.2.2.2.2.1), (6, .int v.2.2.2.2.2.1)] [] v.2.2.2.2.2.2 (k11 v)) (v1 : Int32) (v2 : Int32) (v3 : Int32) (v4 : Int32) (v5 : Int32) (v6 : Int32) (s0 : Int32) (h : zHp) : Sim wX mX6_wordOf 4 rI 43 [(0, .ref 145), (1, .int v1), (2, .int v2), (3, .int v3), (4, .int v4), (5, .int v5), (6, .int v6)] [.int s0] h (f_X6_wordOf_43 k11 v1 v2 v3 v4 v5 v6 s0 h) := by
  unfold f_X6_wordOf_43
  refine Sim.istore (L' := [(7, .int s0), (0, .ref 145), (1, .int v1), (2, .int v2), (3, .int v3), (4, .int v4), (5, .int v5), (6, .int v6)]) dX6_wordOf_43 (Nat.le_of_ble_eq_true rfl) rfl ?_
  refine Sim.iload 0 dX6_wordOf_45 rfl ?_
  refine Sim.bipush (v := (32 : Int32)) dX6_wordOf_47 rfl ?_
  refine Sim.icmp_eq 88 dX6_wordOf_49 rfl ?_ ?_
  · refine Sim.iload 6 dX6_wordOf_88 rfl ?_
    refine Sim.if_eq 101 dX6_wordOf_90 rfl ?_ ?_
    · refine Sim.locs [1, 2, 3, 4, 7] rfl ?_
      exact f_X6_wordOf_101_s k11 H11 v1 v2 v3 v6 h
    · refine Sim.iload 5 dX6_wordOf_93 rfl ?_
      refine Sim.iload_n 3 dX6_wordOf_95 rfl ?_
      refine Sim.icmp_ne 101 dX6_wordOf_96 rfl ?_ ?_
      · refine Sim.iload_n 4 dX6_wordOf_99 rfl ?_
        exact Sim.iret dX6_wordOf_100 rfl
      · refine Sim.locs [1, 2, 3, 4, 7] rfl ?_
        exact f_X6_wordOf_101_s k11 H11 v1 v2 v3 v6 h
  · refine Sim.iload 6 dX6_wordOf_52 rfl ?_
    refine Sim.if_eq 79 dX6_wordOf_54 rfl ?_ ?_
    · refine Sim.iconst (v := (0 : Int32)) dX6_wordOf_79 rfl ?_
      refine Sim.locs [1, 2, 3, 4, 5, 7] rfl ?_
      exact f_X6_wordOf_80_s k11 H11 v1 v2 v3 v4 v6 (0 : Int32) h
    · refine Sim.iload 5 dX6_wordOf_57 rfl ?_
      refine Sim.iload_n 3 dX6_wordOf_59 rfl ?_
      refine Sim.icmp_ge 79 dX6_wordOf_60 rfl ?_ ?_
      · refine Sim.aload_n 1 dX6_wordOf_63 rfl ?_
        refine Sim.getR (j := 146) fl_X6_9 dX6_wordOf_64 xR_145_0 ?_
        refine Sim.iload 5 dX6_wordOf_67 rfl ?_
        refine Sim.cald (n := 400) dX6_wordOf_69 xA_146 ?_
        refine Sim.iload 0 dX6_wordOf_70 rfl ?_
        refine Sim.icmp_ne 79 dX6_wordOf_72 rfl ?_ ?_
        · refine Sim.iconst (v := (1 : Int32)) dX6_wordOf_75 rfl ?_
          refine Sim.goto 80 dX6_wordOf_76 rfl ?_
          refine Sim.locs [1, 2, 3, 4, 5, 7] rfl ?_
          exact f_X6_wordOf_80_s k11 H11 v1 v2 v3 v4 v6 (1 : Int32) h
        · refine Sim.iconst (v := (0 : Int32)) dX6_wordOf_79 rfl ?_
          refine Sim.locs [1, 2, 3, 4, 5, 7] rfl ?_
          exact f_X6_wordOf_80_s k11 H11 v1 v2 v3 v4 v6 (0 : Int32) h
      · refine Sim.iconst (v := (0 : Int32)) dX6_wordOf_79 rfl ?_
        refine Sim.locs [1, 2, 3, 4, 5, 7] rfl ?_
        exact f_X6_wordOf_80_s k11 H11 v1 v2 v3 v4 v6 (0 : Int32) h
def f_X6_wordOf_11  (k11 : Int32 × Int32 × Int32 × Int32 × Int32 × Int32 × zHp → Option (Int32 × zHp)) (v1 : Int32) (v2 : Int32) (v3 : Int32) (v4 : Int32) (v5 : Int32) (v6 : Int32) (h : zHp) : Option (Int32 × zHp) := (f_J0_length_8abf5 1 h).bind fun x1 => (if x1.1 < v6 then some ((35 : Int32), x1.2) else (f_J0_length_8abf5 1 x1.2).bind fun x2 => (if v6 < x2.1 then (f_J0_charAt_5068e 1 v6 x2.2).bind fun x3 => f_X6_wordOf_43 k11 v1 v2 v3 v4 v5 v6 x3.1 x3.2 else f_X6_wordOf_43 k11 v1 v2 v3 v4 v5 v6 (32 : Int32) x2.2))
set_option maxHeartbeats 4000000 in
set_option maxRecDepth 100000 in
theorem f_X6_wordOf_11_s  (k11 : Int32 × Int32 × Int32 × Int32 × Int32 × Int32 × zHp → Option (Int32 × zHp)) (H11 : ∀ v : Int32 × Int32 × Int32 × Int32 × Int32 × Int32 × zHp, Sim wX mX6_wordOf 4 rI 11 [(0, .ref 145), (1, .int v.1), (2, .int v.2.1), (3, .int v.2.2.1), (4, .int v.2.2.2.1), (5, .int v.2.2.2.2.1), (6, .int v.2.2.2.2.2.1)] [] v.2.2.2.2.2.2 (k11 v)) (v1 : Int32) (v2 : Int32) (v3 : Int32) (v4 : Int32) (v5 : Int32) (v6 : Int32) (h : zHp) : Sim wX mX6_wordOf 4 rI 11 [(0, .ref 145), (1, .int v1), (2, .int v2), (3, .int v3), (4, .int v4), (5, .int v5), (6, .int v6)] [] h (f_X6_wordOf_11 k11 v1 v2 v3 v4 v5 v6 h) := by
  unfold f_X6_wordOf_11
  refine Sim.iload 6 dX6_wordOf_11 rfl ?_
  refine Sim.ldcS1001 rfl dX6_wordOf_13 ?_
  refine Sim.callT0I (i := 1) (d1 := 1) (s_J0_length_8abf5 1 (Nat.le_of_ble_eq_true rfl) h) dX6_wordOf_15 ml_X6_122 mv_J0_length_8abf5 (Nat.le_of_ble_eq_true rfl) rfl (Nat.le_of_ble_eq_true rfl) (Nat.le_of_ble_eq_true rfl) (Nat.le_of_ble_eq_true rfl) (fun x1 => ?_)
  refine Sim.icmp_gt 116 dX6_wordOf_18 rfl ?_ ?_
  · refine Sim.bipush (v := (35 : Int32)) dX6_wordOf_116 rfl ?_
    exact Sim.iret dX6_wordOf_118 rfl
  · refine Sim.iload 6 dX6_wordOf_21 rfl ?_
    refine Sim.ldcS1001 rfl dX6_wordOf_23 ?_
    refine Sim.callT0I (i := 1) (d1 := 1) (s_J0_length_8abf5 1 (Nat.le_of_ble_eq_true rfl) x1.2) dX6_wordOf_25 ml_X6_122 mv_J0_length_8abf5 (Nat.le_of_ble_eq_true rfl) rfl (Nat.le_of_ble_eq_true rfl) (Nat.le_of_ble_eq_true rfl) (Nat.le_of_ble_eq_true rfl) (fun x2 => ?_)
    refine Sim.icmp_ge 41 dX6_wordOf_28 rfl ?_ ?_
    · refine Sim.ldcS1001 rfl dX6_wordOf_31 ?_
      refine Sim.iload 6 dX6_wordOf_33 rfl ?_
      refine Sim.callT1I (i := 1) (d1 := 3) (s_J0_charAt_5068e 1 (Nat.le_of_ble_eq_true rfl) v6 x2.2) dX6_wordOf_35 ml_X6_126 mv_J0_charAt_5068e (Nat.le_of_ble_eq_true rfl) rfl (Nat.le_of_ble_eq_true rfl) (Nat.le_of_ble_eq_true rfl) (Nat.le_of_ble_eq_true rfl) (fun x3 => ?_)
      refine Sim.goto 43 dX6_wordOf_38 rfl ?_
      exact f_X6_wordOf_43_s k11 H11 v1 v2 v3 v4 v5 v6 x3.1 x3.2
    · refine Sim.bipush (v := (32 : Int32)) dX6_wordOf_41 rfl ?_
      exact f_X6_wordOf_43_s k11 H11 v1 v2 v3 v4 v5 v6 (32 : Int32) x2.2
def f_X6_wordOf_11_lp   (n : Nat) (v : Int32 × Int32 × Int32 × Int32 × Int32 × Int32 × zHp) : Option (Int32 × zHp) := zlp (fun k11 v => f_X6_wordOf_11 k11 v.1 v.2.1 v.2.2.1 v.2.2.2.1 v.2.2.2.2.1 v.2.2.2.2.2.1 v.2.2.2.2.2.2) n v
theorem f_X6_wordOf_11_ls  (n : Nat) (v : Int32 × Int32 × Int32 × Int32 × Int32 × Int32 × zHp) : Sim wX mX6_wordOf 4 rI 11 [(0, .ref 145), (1, .int v.1), (2, .int v.2.1), (3, .int v.2.2.1), (4, .int v.2.2.2.1), (5, .int v.2.2.2.2.1), (6, .int v.2.2.2.2.2.1)] [] v.2.2.2.2.2.2 (f_X6_wordOf_11_lp n v) :=
  Sim.lp (V := Int32 × Int32 × Int32 × Int32 × Int32 × Int32 × zHp) (Lf := fun v => [(0, .ref 145), (1, .int v.1), (2, .int v.2.1), (3, .int v.2.2.1), (4, .int v.2.2.2.1), (5, .int v.2.2.2.2.1), (6, .int v.2.2.2.2.2.1)]) (sf := fun v => []) (hf := fun v => v.2.2.2.2.2.2) (fun k11 H11 v => f_X6_wordOf_11_s k11 H11 v.1 v.2.1 v.2.2.1 v.2.2.2.1 v.2.2.2.2.1 v.2.2.2.2.2.1 v.2.2.2.2.2.2) n v
def f_X6_wordOf  (a1 : Int32) (a2 : Int32) (h : zHp) : Option (Int32 × zHp) := f_X6_wordOf_11_lp  zN (a1, a2, (0 : Int32), a1, (1 : Int32), (0 : Int32), h)
set_option maxHeartbeats 4000000 in
set_option maxRecDepth 100000 in
theorem s_X6_wordOf  (a1 : Int32) (a2 : Int32) (h : zHp) : Fn wX mX6_wordOf 4 rI [.ref 145, .int a1, .int a2] h (f_X6_wordOf a1 a2 h) := by
  refine Fn.of rfl (Nat.le_of_ble_eq_true rfl) ?_
  unfold f_X6_wordOf
  refine Sim.iconst (v := (0 : Int32)) dX6_wordOf_0 rfl ?_
  refine Sim.istore_n (L' := [(3, .int (0 : Int32)), (0, .ref 145), (1, .int a1), (2, .int a2)]) dX6_wordOf_1 (Nat.le_of_ble_eq_true rfl) rfl ?_
  refine Sim.iload_n 2 dX6_wordOf_2 rfl ?_
  refine Sim.istore (L' := [(4, .int a1), (3, .int (0 : Int32)), (0, .ref 145), (1, .int a1), (2, .int a2)]) dX6_wordOf_3 (Nat.le_of_ble_eq_true rfl) rfl ?_
  refine Sim.iconst (v := (1 : Int32)) dX6_wordOf_5 rfl ?_
  refine Sim.istore (L' := [(5, .int (1 : Int32)), (4, .int a1), (3, .int (0 : Int32)), (0, .ref 145), (1, .int a1), (2, .int a2)]) dX6_wordOf_6 (Nat.le_of_ble_eq_true rfl) rfl ?_
  refine Sim.iconst (v := (0 : Int32)) dX6_wordOf_8 rfl ?_
  refine Sim.istore (L' := [(6, .int (0 : Int32)), (5, .int (1 : Int32)), (4, .int a1), (3, .int (0 : Int32)), (0, .ref 145), (1, .int a1), (2, .int a2)]) dX6_wordOf_9 (Nat.le_of_ble_eq_true rfl) rfl ?_
  refine Sim.locs [4, 5, 6, 3, 2, 1, 0] rfl ?_
  exact f_X6_wordOf_11_ls  zN (a1, a2, (0 : Int32), a1, (1 : Int32), (0 : Int32), h)
theorem mv_X6_wordOf : zMV mX6_wordOf 2 := ⟨⟨zTb_in 873 (by decide +kernel) rfl, zTb_in 145 (by decide +kernel) rfl, ⟨by decide +kernel, by decide +kernel⟩, by decide +kernel⟩, zTb_in 872 (by decide +kernel) rfl, zTb_in 14 (by decide +kernel) rfl⟩
-- ===== RockingPorch$Reader.digits(II)I
abbrev mX6_digits : zMt := (yX6_digits, cX6_digits, 5, some .int)
theorem dX6_digits_0 : decode cX6_digits 0 = .ok (.iconst 0, 1) := by decide +kernel
theorem dX6_digits_1 : decode cX6_digits 1 = .ok (.istore_n 3, 1) := by decide +kernel
theorem dX6_digits_2 : decode cX6_digits 2 = .ok (.iload_n 1, 1) := by decide +kernel
theorem dX6_digits_3 : decode cX6_digits 3 = .ok (.istore 4, 2) := by decide +kernel
theorem dX6_digits_5 : decode cX6_digits 5 = .ok (.iload 4, 2) := by decide +kernel
theorem dX6_digits_7 : decode cX6_digits 7 = .ok (.iload_n 2, 1) := by decide +kernel
theorem dX6_digits_8 : decode cX6_digits 8 = .ok (.if_icmp .ge 33, 3) := by decide +kernel
theorem dX6_digits_11 : decode cX6_digits 11 = .ok (.iload 4, 2) := by decide +kernel
theorem dX6_digits_13 : decode cX6_digits 13 = .ok (.sipush 400, 3) := by decide +kernel
theorem dX6_digits_16 : decode cX6_digits 16 = .ok (.if_icmp .ge 25, 3) := by decide +kernel
theorem dX6_digits_19 : decode cX6_digits 19 = .ok (.bipush 10, 2) := by decide +kernel
theorem dX6_digits_21 : decode cX6_digits 21 = .ok (.iload_n 3, 1) := by decide +kernel
theorem dX6_digits_22 : decode cX6_digits 22 = .ok (.imul, 1) := by decide +kernel
theorem dX6_digits_23 : decode cX6_digits 23 = .ok (.aload_n 0, 1) := by decide +kernel
theorem dX6_digits_24 : decode cX6_digits 24 = .ok (.getfield 9, 3) := by decide +kernel
theorem dX6_digits_27 : decode cX6_digits 27 = .ok (.iload 4, 2) := by decide +kernel
theorem dX6_digits_29 : decode cX6_digits 29 = .ok (.caload, 1) := by decide +kernel
theorem dX6_digits_30 : decode cX6_digits 30 = .ok (.iadd, 1) := by decide +kernel
theorem dX6_digits_31 : decode cX6_digits 31 = .ok (.bipush 48, 2) := by decide +kernel
theorem dX6_digits_33 : decode cX6_digits 33 = .ok (.isub, 1) := by decide +kernel
theorem dX6_digits_34 : decode cX6_digits 34 = .ok (.istore_n 3, 1) := by decide +kernel
theorem dX6_digits_35 : decode cX6_digits 35 = .ok (.iinc 4 1, 3) := by decide +kernel
theorem dX6_digits_38 : decode cX6_digits 38 = .ok (.goto (-33), 3) := by decide +kernel
theorem dX6_digits_41 : decode cX6_digits 41 = .ok (.iload_n 3, 1) := by decide +kernel
theorem dX6_digits_42 : decode cX6_digits 42 = .ok (.ireturn, 1) := by decide +kernel
def f_X6_digits_5  (k5 : Int32 × Int32 × Int32 × zHp → Option (Int32 × zHp)) (v2 : Int32) (v3 : Int32) (v4 : Int32) (h : zHp) : Option (Int32 × zHp) := (if v4 < v2 then (if v4 < (400 : Int32) then zix v4 400 (zlt ((((10 : Int32) * v3) + (h 146 v4.toNatClampNeg)) - (48 : Int32)) fun x1 => k5 (v2, x1, (v4 + (1 : Int32)), h)) else some (v3, h)) else some (v3, h))
set_option maxHeartbeats 4000000 in
set_option maxRecDepth 100000 in
theorem f_X6_digits_5_s  (k5 : Int32 × Int32 × Int32 × zHp → Option (Int32 × zHp)) (H5 : ∀ v : Int32 × Int32 × Int32 × zHp, Sim wX mX6_digits 0 rI 5 [(0, .ref 145), (2, .int v.1), (3, .int v.2.1), (4, .int v.2.2.1)] [] v.2.2.2 (k5 v)) (v2 : Int32) (v3 : Int32) (v4 : Int32) (h : zHp) : Sim wX mX6_digits 0 rI 5 [(0, .ref 145), (2, .int v2), (3, .int v3), (4, .int v4)] [] h (f_X6_digits_5 k5 v2 v3 v4 h) := by
  unfold f_X6_digits_5
  refine Sim.iload 3 dX6_digits_5 rfl ?_
  refine Sim.iload_n 1 dX6_digits_7 rfl ?_
  refine Sim.icmp_ge 41 dX6_digits_8 rfl ?_ ?_
  · refine Sim.iload 3 dX6_digits_11 rfl ?_
    refine Sim.sipush (v := (400 : Int32)) dX6_digits_13 rfl ?_
    refine Sim.icmp_ge 41 dX6_digits_16 rfl ?_ ?_
    · refine Sim.bipush (v := (10 : Int32)) dX6_digits_19 rfl ?_
      refine Sim.iload_n 2 dX6_digits_21 rfl ?_
      refine Sim.imul dX6_digits_22 ?_
      refine Sim.aload_n 0 dX6_digits_23 rfl ?_
      refine Sim.getR (j := 146) fl_X6_9 dX6_digits_24 xR_145_0 ?_
      refine Sim.iload 3 dX6_digits_27 rfl ?_
      refine Sim.cald (n := 400) dX6_digits_29 xA_146 ?_
      refine Sim.iadd dX6_digits_30 ?_
      refine Sim.bipush (v := (48 : Int32)) dX6_digits_31 rfl ?_
      refine Sim.isub dX6_digits_33 ?_
      refine Sim.lti (fun x1 => ?_)
      refine Sim.istore_n (L' := [(3, .int x1), (0, .ref 145), (2, .int v2), (4, .int v4)]) dX6_digits_34 (Nat.le_of_ble_eq_true rfl) rfl ?_
      refine Sim.iinc (L' := [(4, .int (v4 + (1 : Int32))), (3, .int x1), (0, .ref 145), (2, .int v2)]) 3 dX6_digits_35 rfl rfl (Nat.le_of_ble_eq_true rfl) rfl ?_
      refine Sim.goto 5 dX6_digits_38 rfl ?_
      refine Sim.locs [2, 3, 1, 0] rfl ?_
      exact H5 (v2, x1, (v4 + (1 : Int32)), h)
    · refine Sim.iload_n 2 dX6_digits_41 rfl ?_
      exact Sim.iret dX6_digits_42 rfl
  · refine Sim.iload_n 2 dX6_digits_41 rfl ?_
    exact Sim.iret dX6_digits_42 rfl
def f_X6_digits_5_lp   (n : Nat) (v : Int32 × Int32 × Int32 × zHp) : Option (Int32 × zHp) := zlp (fun k5 v => f_X6_digits_5 k5 v.1 v.2.1 v.2.2.1 v.2.2.2) n v
theorem f_X6_digits_5_ls  (n : Nat) (v : Int32 × Int32 × Int32 × zHp) : Sim wX mX6_digits 0 rI 5 [(0, .ref 145), (2, .int v.1), (3, .int v.2.1), (4, .int v.2.2.1)] [] v.2.2.2 (f_X6_digits_5_lp n v) :=
  Sim.lp (V := Int32 × Int32 × Int32 × zHp) (Lf := fun v => [(0, .ref 145), (2, .int v.1), (3, .int v.2.1), (4, .int v.2.2.1)]) (sf := fun v => []) (hf := fun v => v.2.2.2) (fun k5 H5 v => f_X6_digits_5_s k5 H5 v.1 v.2.1 v.2.2.1 v.2.2.2) n v
def f_X6_digits  (a1 : Int32) (a2 : Int32) (h : zHp) : Option (Int32 × zHp) := f_X6_digits_5_lp  zN (a2, (0 : Int32), a1, h)
set_option maxHeartbeats 4000000 in
set_option maxRecDepth 100000 in
theorem s_X6_digits  (a1 : Int32) (a2 : Int32) (h : zHp) : Fn wX mX6_digits 0 rI [.ref 145, .int a1, .int a2] h (f_X6_digits a1 a2 h) := by
  refine Fn.of rfl (Nat.le_of_ble_eq_true rfl) ?_
  unfold f_X6_digits
  refine Sim.iconst (v := (0 : Int32)) dX6_digits_0 rfl ?_
  refine Sim.istore_n (L' := [(3, .int (0 : Int32)), (0, .ref 145), (1, .int a1), (2, .int a2)]) dX6_digits_1 (Nat.le_of_ble_eq_true rfl) rfl ?_
  refine Sim.iload_n 2 dX6_digits_2 rfl ?_
  refine Sim.istore (L' := [(4, .int a1), (3, .int (0 : Int32)), (0, .ref 145), (1, .int a1), (2, .int a2)]) dX6_digits_3 (Nat.le_of_ble_eq_true rfl) rfl ?_
  refine Sim.locs [2, 4, 1, 0] rfl ?_
  exact f_X6_digits_5_ls  zN (a2, (0 : Int32), a1, h)
theorem mv_X6_digits : zMV mX6_digits 2 := ⟨⟨zTb_in 900 (by decide +kernel) rfl, zTb_in 145 (by decide +kernel) rfl, ⟨by decide +kernel, by decide +kernel⟩, by decide +kernel⟩, zTb_in 899 (by decide +kernel) rfl, zTb_in 15 (by decide +kernel) rfl⟩
-- ===== RockingPorch$Reader.token(II)V
abbrev mX6_token : zMt := (yX6_token, cX6_token, 5, none)
theorem ml_X6_102 : Cond.methodLink RX6 102 yJ0_indexOf_0f7a4 ∈ zTb := zTb_in 784 (by decide +kernel) rfl
theorem ml_X6_108 : Cond.methodLink RX6 108 yX6_wordOf ∈ zTb := zTb_in 870 (by decide +kernel) rfl
theorem ml_X6_112 : Cond.methodLink RX6 112 Lib.Math.min.name ∈ zTb := zTb_in 896 (by decide +kernel) rfl
theorem ml_X6_117 : Cond.methodLink RX6 117 yX6_digits ∈ zTb := zTb_in 897 (by decide +kernel) rfl
theorem ml_X6_88 : Cond.methodLink RX6 88 yX6_sortOf ∈ zTb := zTb_in 776 (by decide +kernel) rfl
theorem ml_X6_96 : Cond.methodLink RX6 96 yX6_put ∈ zTb := zTb_in 866 (by decide +kernel) rfl
theorem dX6_token_0 : decode cX6_token 0 = .ok (.iload_n 1, 1) := by decide +kernel
theorem dX6_token_1 : decode cX6_token 1 = .ok (.iconst 1, 1) := by decide +kernel
theorem dX6_token_2 : decode cX6_token 2 = .ok (.iadd, 1) := by decide +kernel
theorem dX6_token_3 : decode cX6_token 3 = .ok (.istore_n 3, 1) := by decide +kernel
theorem dX6_token_4 : decode cX6_token 4 = .ok (.iload_n 2, 1) := by decide +kernel
theorem dX6_token_5 : decode cX6_token 5 = .ok (.iconst 3, 1) := by decide +kernel
theorem dX6_token_6 : decode cX6_token 6 = .ok (.if_icmp .ne 38, 3) := by decide +kernel
theorem dX6_token_9 : decode cX6_token 9 = .ok (.ldc 100, 2) := by decide +kernel
theorem dX6_token_11 : decode cX6_token 11 = .ok (.aload_n 0, 1) := by decide +kernel
theorem dX6_token_12 : decode cX6_token 12 = .ok (.getfield 9, 3) := by decide +kernel
theorem dX6_token_15 : decode cX6_token 15 = .ok (.iload_n 1, 1) := by decide +kernel
theorem dX6_token_16 : decode cX6_token 16 = .ok (.caload, 1) := by decide +kernel
theorem dX6_token_17 : decode cX6_token 17 = .ok (.invokevirtual 102, 3) := by decide +kernel
theorem dX6_token_20 : decode cX6_token 20 = .ok (.istore 4, 2) := by decide +kernel
theorem dX6_token_22 : decode cX6_token 22 = .ok (.aload_n 0, 1) := by decide +kernel
theorem dX6_token_23 : decode cX6_token 23 = .ok (.iload 4, 2) := by decide +kernel
theorem dX6_token_25 : decode cX6_token 25 = .ok (.ifCond .lt 11, 3) := by decide +kernel
theorem dX6_token_28 : decode cX6_token 28 = .ok (.bipush 24, 2) := by decide +kernel
theorem dX6_token_30 : decode cX6_token 30 = .ok (.iload 4, 2) := by decide +kernel
theorem dX6_token_32 : decode cX6_token 32 = .ok (.iadd, 1) := by decide +kernel
theorem dX6_token_33 : decode cX6_token 33 = .ok (.goto 5, 3) := by decide +kernel
theorem dX6_token_36 : decode cX6_token 36 = .ok (.bipush 35, 2) := by decide +kernel
theorem dX6_token_38 : decode cX6_token 38 = .ok (.iconst 0, 1) := by decide +kernel
theorem dX6_token_39 : decode cX6_token 39 = .ok (.iload_n 1, 1) := by decide +kernel
theorem dX6_token_40 : decode cX6_token 40 = .ok (.invokevirtual 96, 3) := by decide +kernel
theorem dX6_token_43 : decode cX6_token 43 = .ok (.return_, 1) := by decide +kernel
theorem dX6_token_44 : decode cX6_token 44 = .ok (.iload_n 3, 1) := by decide +kernel
theorem dX6_token_45 : decode cX6_token 45 = .ok (.aload_n 0, 1) := by decide +kernel
theorem dX6_token_46 : decode cX6_token 46 = .ok (.getfield 15, 3) := by decide +kernel
theorem dX6_token_49 : decode cX6_token 49 = .ok (.if_icmp .ge 29, 3) := by decide +kernel
theorem dX6_token_52 : decode cX6_token 52 = .ok (.iload_n 3, 1) := by decide +kernel
theorem dX6_token_53 : decode cX6_token 53 = .ok (.sipush 400, 3) := by decide +kernel
theorem dX6_token_56 : decode cX6_token 56 = .ok (.if_icmp .ge 22, 3) := by decide +kernel
theorem dX6_token_59 : decode cX6_token 59 = .ok (.aload_n 0, 1) := by decide +kernel
theorem dX6_token_60 : decode cX6_token 60 = .ok (.getfield 9, 3) := by decide +kernel
theorem dX6_token_63 : decode cX6_token 63 = .ok (.iload_n 3, 1) := by decide +kernel
theorem dX6_token_64 : decode cX6_token 64 = .ok (.caload, 1) := by decide +kernel
theorem dX6_token_65 : decode cX6_token 65 = .ok (.invokestatic 88, 3) := by decide +kernel
theorem dX6_token_68 : decode cX6_token 68 = .ok (.iload_n 2, 1) := by decide +kernel
theorem dX6_token_69 : decode cX6_token 69 = .ok (.if_icmp .ne 9, 3) := by decide +kernel
theorem dX6_token_72 : decode cX6_token 72 = .ok (.iinc 3 1, 3) := by decide +kernel
theorem dX6_token_75 : decode cX6_token 75 = .ok (.goto (-31), 3) := by decide +kernel
theorem dX6_token_78 : decode cX6_token 78 = .ok (.iload_n 2, 1) := by decide +kernel
theorem dX6_token_79 : decode cX6_token 79 = .ok (.iconst 1, 1) := by decide +kernel
theorem dX6_token_80 : decode cX6_token 80 = .ok (.if_icmp .ne 18, 3) := by decide +kernel
theorem dX6_token_83 : decode cX6_token 83 = .ok (.aload_n 0, 1) := by decide +kernel
theorem dX6_token_84 : decode cX6_token 84 = .ok (.aload_n 0, 1) := by decide +kernel
theorem dX6_token_85 : decode cX6_token 85 = .ok (.iload_n 1, 1) := by decide +kernel
theorem dX6_token_86 : decode cX6_token 86 = .ok (.iload_n 3, 1) := by decide +kernel
theorem dX6_token_87 : decode cX6_token 87 = .ok (.invokevirtual 108, 3) := by decide +kernel
theorem dX6_token_90 : decode cX6_token 90 = .ok (.iconst 0, 1) := by decide +kernel
theorem dX6_token_91 : decode cX6_token 91 = .ok (.iload_n 1, 1) := by decide +kernel
theorem dX6_token_92 : decode cX6_token 92 = .ok (.invokevirtual 96, 3) := by decide +kernel
theorem dX6_token_95 : decode cX6_token 95 = .ok (.goto 34, 3) := by decide +kernel
theorem dX6_token_98 : decode cX6_token 98 = .ok (.aload_n 0, 1) := by decide +kernel
theorem dX6_token_99 : decode cX6_token 99 = .ok (.iload_n 3, 1) := by decide +kernel
theorem dX6_token_100 : decode cX6_token 100 = .ok (.iload_n 1, 1) := by decide +kernel
theorem dX6_token_101 : decode cX6_token 101 = .ok (.isub, 1) := by decide +kernel
theorem dX6_token_102 : decode cX6_token 102 = .ok (.iconst 4, 1) := by decide +kernel
theorem dX6_token_103 : decode cX6_token 103 = .ok (.if_icmp .gt 8, 3) := by decide +kernel
theorem dX6_token_106 : decode cX6_token 106 = .ok (.bipush 34, 2) := by decide +kernel
theorem dX6_token_108 : decode cX6_token 108 = .ok (.goto 5, 3) := by decide +kernel
theorem dX6_token_111 : decode cX6_token 111 = .ok (.bipush 35, 2) := by decide +kernel
theorem dX6_token_113 : decode cX6_token 113 = .ok (.aload_n 0, 1) := by decide +kernel
theorem dX6_token_114 : decode cX6_token 114 = .ok (.iload_n 1, 1) := by decide +kernel
theorem dX6_token_115 : decode cX6_token 115 = .ok (.iload_n 3, 1) := by decide +kernel
theorem dX6_token_116 : decode cX6_token 116 = .ok (.iload_n 1, 1) := by decide +kernel
theorem dX6_token_117 : decode cX6_token 117 = .ok (.iconst 4, 1) := by decide +kernel
theorem dX6_token_118 : decode cX6_token 118 = .ok (.iadd, 1) := by decide +kernel
theorem dX6_token_119 : decode cX6_token 119 = .ok (.invokestatic 112, 3) := by decide +kernel
theorem dX6_token_122 : decode cX6_token 122 = .ok (.invokevirtual 117, 3) := by decide +kernel
theorem dX6_token_125 : decode cX6_token 125 = .ok (.iload_n 1, 1) := by decide +kernel
theorem dX6_token_126 : decode cX6_token 126 = .ok (.invokevirtual 96, 3) := by decide +kernel
theorem dX6_token_129 : decode cX6_token 129 = .ok (.return_, 1) := by decide +kernel
def f_X6_token_113   (v1 : Int32) (v3 : Int32) (s0 : Int32) (h : zHp) : Option (zHp) := (f_X6_digits v1 (if (v1 + (4 : Int32)) < v3 then (v1 + (4 : Int32)) else v3) h).bind fun x1 => (f_X6_put s0 x1.1 v1 x1.2).bind fun x2 => some x2
set_option maxHeartbeats 4000000 in
set_option maxRecDepth 100000 in
theorem f_X6_token_113_s  (v1 : Int32) (v3 : Int32) (s0 : Int32) (h : zHp) : Sim wX mX6_token 5 rV 113 [(0, .ref 145), (1, .int v1), (3, .int v3)] [.int s0, .ref 145] h (f_X6_token_113 v1 v3 s0 h) := by
  unfold f_X6_token_113
  refine Sim.aload_n 0 dX6_token_113 rfl ?_
  refine Sim.iload_n 1 dX6_token_114 rfl ?_
  refine Sim.iload_n 2 dX6_token_115 rfl ?_
  refine Sim.iload_n 1 dX6_token_116 rfl ?_
  refine Sim.iconst (v := (4 : Int32)) dX6_token_117 rfl ?_
  refine Sim.iadd dX6_token_118 ?_
  refine Sim.mmin dX6_token_119 ml_X6_112 ms_min ms_Math mc_min (Nat.le_of_ble_eq_true rfl) (Nat.le_of_ble_eq_true rfl) ?_
  refine Sim.callV2I (d1 := 0) (s_X6_digits v1 (if (v1 + (4 : Int32)) < v3 then (v1 + (4 : Int32)) else v3) h) dX6_token_122 ml_X6_117 mv_X6_digits xO_X6 (Nat.le_of_ble_eq_true rfl) (Nat.le_of_ble_eq_true rfl) (Nat.le_of_ble_eq_true rfl) (fun x1 => ?_)
  refine Sim.iload_n 1 dX6_token_125 rfl ?_
  refine Sim.callV3U (d1 := 0) (s_X6_put s0 x1.1 v1 x1.2) dX6_token_126 ml_X6_96 mv_X6_put xO_X6 (Nat.le_of_ble_eq_true rfl) (Nat.le_of_ble_eq_true rfl) (Nat.le_of_ble_eq_true rfl) (fun x2 => ?_)
  exact Sim.vret dX6_token_129 rfl
def f_X6_token_78   (v1 : Int32) (v2 : Int32) (v3 : Int32) (h : zHp) : Option (zHp) := (if v2 = (1 : Int32) then (f_X6_wordOf v1 v3 h).bind fun x1 => (f_X6_put x1.1 (0 : Int32) v1 x1.2).bind fun x2 => some x2 else (if (4 : Int32) < (v3 - v1) then f_X6_token_113 v1 v3 (35 : Int32) h else f_X6_token_113 v1 v3 (34 : Int32) h))
set_option maxHeartbeats 4000000 in
set_option maxRecDepth 100000 in
theorem f_X6_token_78_s  (v1 : Int32) (v2 : Int32) (v3 : Int32) (h : zHp) : Sim wX mX6_token 5 rV 78 [(0, .ref 145), (1, .int v1), (2, .int v2), (3, .int v3)] [] h (f_X6_token_78 v1 v2 v3 h) := by
  unfold f_X6_token_78
  refine Sim.iload_n 2 dX6_token_78 rfl ?_
  refine Sim.iconst (v := (1 : Int32)) dX6_token_79 rfl ?_
  refine Sim.icmp_ne 98 dX6_token_80 rfl ?_ ?_
  · refine Sim.aload_n 0 dX6_token_83 rfl ?_
    refine Sim.aload_n 0 dX6_token_84 rfl ?_
    refine Sim.iload_n 1 dX6_token_85 rfl ?_
    refine Sim.iload_n 3 dX6_token_86 rfl ?_
    refine Sim.callV2I (d1 := 4) (s_X6_wordOf v1 v3 h) dX6_token_87 ml_X6_108 mv_X6_wordOf xO_X6 (Nat.le_of_ble_eq_true rfl) (Nat.le_of_ble_eq_true rfl) (Nat.le_of_ble_eq_true rfl) (fun x1 => ?_)
    refine Sim.iconst (v := (0 : Int32)) dX6_token_90 rfl ?_
    refine Sim.iload_n 1 dX6_token_91 rfl ?_
    refine Sim.callV3U (d1 := 0) (s_X6_put x1.1 (0 : Int32) v1 x1.2) dX6_token_92 ml_X6_96 mv_X6_put xO_X6 (Nat.le_of_ble_eq_true rfl) (Nat.le_of_ble_eq_true rfl) (Nat.le_of_ble_eq_true rfl) (fun x2 => ?_)
    refine Sim.goto 129 dX6_token_95 rfl ?_
    exact Sim.vret dX6_token_129 rfl
  · refine Sim.aload_n 0 dX6_token_98 rfl ?_
    refine Sim.iload_n 3 dX6_token_99 rfl ?_
    refine Sim.iload_n 1 dX6_token_100 rfl ?_
    refine Sim.isub dX6_token_101 ?_
    refine Sim.iconst (v := (4 : Int32)) dX6_token_102 rfl ?_
    refine Sim.icmp_gt 111 dX6_token_103 rfl ?_ ?_
    · refine Sim.bipush (v := (35 : Int32)) dX6_token_111 rfl ?_
      refine Sim.locs [0, 1, 3] rfl ?_
      exact f_X6_token_113_s v1 v3 (35 : Int32) h
    · refine Sim.bipush (v := (34 : Int32)) dX6_token_106 rfl ?_
      refine Sim.goto 113 dX6_token_108 rfl ?_
      refine Sim.locs [0, 1, 3] rfl ?_
      exact f_X6_token_113_s v1 v3 (34 : Int32) h
def f_X6_token_44  (k44 : Int32 × Int32 × Int32 × zHp → Option (zHp)) (v1 : Int32) (v2 : Int32) (v3 : Int32) (h : zHp) : Option (zHp) := (if v3 < (h 145 1) then (if v3 < (400 : Int32) then zix v3 400 ((f_X6_sortOf (h 146 v3.toNatClampNeg) h).bind fun x1 => (if x1.1 = v2 then k44 (v1, v2, (v3 + (1 : Int32)), x1.2) else f_X6_token_78 v1 v2 v3 x1.2)) else f_X6_token_78 v1 v2 v3 h) else f_X6_token_78 v1 v2 v3 h)
set_option maxHeartbeats 4000000 in
set_option maxRecDepth 100000 in
theorem f_X6_token_44_s  (k44 : Int32 × Int32 × Int32 × zHp → Option (zHp)) (H44 : ∀ v : Int32 × Int32 × Int32 × zHp, Sim wX mX6_token 5 rV 44 [(0, .ref 145), (1, .int v.1), (2, .int v.2.1), (3, .int v.2.2.1)] [] v.2.2.2 (k44 v)) (v1 : Int32) (v2 : Int32) (v3 : Int32) (h : zHp) : Sim wX mX6_token 5 rV 44 [(0, .ref 145), (1, .int v1), (2, .int v2), (3, .int v3)] [] h (f_X6_token_44 k44 v1 v2 v3 h) := by
  unfold f_X6_token_44
  refine Sim.iload_n 3 dX6_token_44 rfl ?_
  refine Sim.aload_n 0 dX6_token_45 rfl ?_
  refine Sim.getI fl_X6_15 dX6_token_46 xI_145_1 ?_
  refine Sim.icmp_ge 78 dX6_token_49 rfl ?_ ?_
  · refine Sim.iload_n 3 dX6_token_52 rfl ?_
    refine Sim.sipush (v := (400 : Int32)) dX6_token_53 rfl ?_
    refine Sim.icmp_ge 78 dX6_token_56 rfl ?_ ?_
    · refine Sim.aload_n 0 dX6_token_59 rfl ?_
      refine Sim.getR (j := 146) fl_X6_9 dX6_token_60 xR_145_0 ?_
      refine Sim.iload_n 3 dX6_token_63 rfl ?_
      refine Sim.cald (n := 400) dX6_token_64 xA_146 ?_
      refine Sim.callS1I (d1 := 0) (s_X6_sortOf (h 146 v3.toNatClampNeg) h) dX6_token_65 ml_X6_88 mv_X6_sortOf (Nat.le_of_ble_eq_true rfl) (Nat.le_of_ble_eq_true rfl) (Nat.le_of_ble_eq_true rfl) (fun x1 => ?_)
      refine Sim.iload_n 2 dX6_token_68 rfl ?_
      refine Sim.icmp_ne 78 dX6_token_69 rfl ?_ ?_
      · refine Sim.iinc (L' := [(3, .int (v3 + (1 : Int32))), (0, .ref 145), (1, .int v1), (2, .int v2)]) 3 dX6_token_72 rfl rfl (Nat.le_of_ble_eq_true rfl) rfl ?_
        refine Sim.goto 44 dX6_token_75 rfl ?_
        refine Sim.locs [1, 2, 3, 0] rfl ?_
        exact H44 (v1, v2, (v3 + (1 : Int32)), x1.2)
      · exact f_X6_token_78_s v1 v2 v3 x1.2
    · exact f_X6_token_78_s v1 v2 v3 h
  · exact f_X6_token_78_s v1 v2 v3 h
def f_X6_token_44_lp   (n : Nat) (v : Int32 × Int32 × Int32 × zHp) : Option (zHp) := zlp (fun k44 v => f_X6_token_44 k44 v.1 v.2.1 v.2.2.1 v.2.2.2) n v
theorem f_X6_token_44_ls  (n : Nat) (v : Int32 × Int32 × Int32 × zHp) : Sim wX mX6_token 5 rV 44 [(0, .ref 145), (1, .int v.1), (2, .int v.2.1), (3, .int v.2.2.1)] [] v.2.2.2 (f_X6_token_44_lp n v) :=
  Sim.lp (V := Int32 × Int32 × Int32 × zHp) (Lf := fun v => [(0, .ref 145), (1, .int v.1), (2, .int v.2.1), (3, .int v.2.2.1)]) (sf := fun v => []) (hf := fun v => v.2.2.2) (fun k44 H44 v => f_X6_token_44_s k44 H44 v.1 v.2.1 v.2.2.1 v.2.2.2) n v
def f_X6_token  (a1 : Int32) (a2 : Int32) (h : zHp) : Option (zHp) := zlt (a1 + (1 : Int32)) fun x1 => (if a2 = (3 : Int32) then zix a1 400 ((f_J0_indexOf_0f7a4 0 (h 146 a1.toNatClampNeg) h).bind fun x2 => (if x2.1 < 0 then (f_X6_put (35 : Int32) (0 : Int32) a1 x2.2).bind fun x3 => some x3 else (f_X6_put ((24 : Int32) + x2.1) (0 : Int32) a1 x2.2).bind fun x4 => some x4)) else f_X6_token_44_lp  zN (a1, a2, x1, h))
set_option maxHeartbeats 4000000 in
set_option maxRecDepth 100000 in
theorem s_X6_token  (a1 : Int32) (a2 : Int32) (h : zHp) : Fn wX mX6_token 5 rV [.ref 145, .int a1, .int a2] h (f_X6_token a1 a2 h) := by
  refine Fn.of rfl (Nat.le_of_ble_eq_true rfl) ?_
  unfold f_X6_token
  refine Sim.iload_n 1 dX6_token_0 rfl ?_
  refine Sim.iconst (v := (1 : Int32)) dX6_token_1 rfl ?_
  refine Sim.iadd dX6_token_2 ?_
  refine Sim.lti (fun x1 => ?_)
  refine Sim.istore_n (L' := [(3, .int x1), (0, .ref 145), (1, .int a1), (2, .int a2)]) dX6_token_3 (Nat.le_of_ble_eq_true rfl) rfl ?_
  refine Sim.iload_n 3 dX6_token_4 rfl ?_
  refine Sim.iconst (v := (3 : Int32)) dX6_token_5 rfl ?_
  refine Sim.icmp_ne 44 dX6_token_6 rfl ?_ ?_
  · refine Sim.ldcS1000 rfl dX6_token_9 ?_
    refine Sim.aload_n 1 dX6_token_11 rfl ?_
    refine Sim.getR (j := 146) fl_X6_9 dX6_token_12 xR_145_0 ?_
    refine Sim.iload_n 2 dX6_token_15 rfl ?_
    refine Sim.cald (n := 400) dX6_token_16 xA_146 ?_
    refine Sim.callT1I (i := 0) (d1 := 3) (s_J0_indexOf_0f7a4 0 (Nat.le_of_ble_eq_true rfl) (h 146 a1.toNatClampNeg) h) dX6_token_17 ml_X6_102 mv_J0_indexOf_0f7a4 (Nat.le_of_ble_eq_true rfl) rfl (Nat.le_of_ble_eq_true rfl) (Nat.le_of_ble_eq_true rfl) (Nat.le_of_ble_eq_true rfl) (fun x2 => ?_)
    refine Sim.istore (L' := [(4, .int x2.1), (3, .int x1), (0, .ref 145), (1, .int a1), (2, .int a2)]) dX6_token_20 (Nat.le_of_ble_eq_true rfl) rfl ?_
    refine Sim.aload_n 2 dX6_token_22 rfl ?_
    refine Sim.iload 0 dX6_token_23 rfl ?_
    refine Sim.if_lt 36 dX6_token_25 rfl ?_ ?_
    · refine Sim.bipush (v := (35 : Int32)) dX6_token_36 rfl ?_
      refine Sim.iconst (v := (0 : Int32)) dX6_token_38 rfl ?_
      refine Sim.iload_n 3 dX6_token_39 rfl ?_
      refine Sim.callV3U (d1 := 0) (s_X6_put (35 : Int32) (0 : Int32) a1 x2.2) dX6_token_40 ml_X6_96 mv_X6_put xO_X6 (Nat.le_of_ble_eq_true rfl) (Nat.le_of_ble_eq_true rfl) (Nat.le_of_ble_eq_true rfl) (fun x3 => ?_)
      exact Sim.vret dX6_token_43 rfl
    · refine Sim.bipush (v := (24 : Int32)) dX6_token_28 rfl ?_
      refine Sim.iload 0 dX6_token_30 rfl ?_
      refine Sim.iadd dX6_token_32 ?_
      refine Sim.goto 38 dX6_token_33 rfl ?_
      refine Sim.iconst (v := (0 : Int32)) dX6_token_38 rfl ?_
      refine Sim.iload_n 3 dX6_token_39 rfl ?_
      refine Sim.callV3U (d1 := 0) (s_X6_put ((24 : Int32) + x2.1) (0 : Int32) a1 x2.2) dX6_token_40 ml_X6_96 mv_X6_put xO_X6 (Nat.le_of_ble_eq_true rfl) (Nat.le_of_ble_eq_true rfl) (Nat.le_of_ble_eq_true rfl) (fun x4 => ?_)
      exact Sim.vret dX6_token_43 rfl
  · refine Sim.locs [1, 2, 3, 0] rfl ?_
    exact f_X6_token_44_ls  zN (a1, a2, x1, h)
theorem mv_X6_token : zMV mX6_token 2 := ⟨⟨zTb_in 782 (by decide +kernel) rfl, zTb_in 145 (by decide +kernel) rfl, ⟨by decide +kernel, by decide +kernel⟩, by decide +kernel⟩, zTb_in 781 (by decide +kernel) rfl, zTb_in 12 (by decide +kernel) rfl⟩
-- ===== RockingPorch$Reader.split()V
abbrev mX6_split : zMt := (yX6_split, cX6_split, 4, none)
theorem fp_X6_32 : zFp RX6 32 6 6 .int := ⟨RX6, TX6, 14, tyX6, rfl, Nat.le_of_ble_eq_true rfl, zTb_in 436 (by decide +kernel) rfl, in_X6, tyX6_ok, nmX6, rfl, rfl⟩
theorem fp_X6_35 : zFp RX6 35 6 7 .int := ⟨RX6, TX6, 14, tyX6, rfl, Nat.le_of_ble_eq_true rfl, zTb_in 437 (by decide +kernel) rfl, in_X6, tyX6_ok, nmX6, rfl, rfl⟩
theorem ml_X6_92 : Cond.methodLink RX6 92 yX6_token ∈ zTb := zTb_in 779 (by decide +kernel) rfl
theorem dX6_split_0 : decode cX6_split 0 = .ok (.aload_n 0, 1) := by decide +kernel
theorem dX6_split_1 : decode cX6_split 1 = .ok (.iconst 0, 1) := by decide +kernel
theorem dX6_split_2 : decode cX6_split 2 = .ok (.putfield 29, 3) := by decide +kernel
theorem dX6_split_5 : decode cX6_split 5 = .ok (.iconst 0, 1) := by decide +kernel
theorem dX6_split_6 : decode cX6_split 6 = .ok (.istore_n 1, 1) := by decide +kernel
theorem dX6_split_7 : decode cX6_split 7 = .ok (.iload_n 1, 1) := by decide +kernel
theorem dX6_split_8 : decode cX6_split 8 = .ok (.aload_n 0, 1) := by decide +kernel
theorem dX6_split_9 : decode cX6_split 9 = .ok (.getfield 15, 3) := by decide +kernel
theorem dX6_split_12 : decode cX6_split 12 = .ok (.if_icmp .ge 75, 3) := by decide +kernel
theorem dX6_split_15 : decode cX6_split 15 = .ok (.iload_n 1, 1) := by decide +kernel
theorem dX6_split_16 : decode cX6_split 16 = .ok (.sipush 400, 3) := by decide +kernel
theorem dX6_split_19 : decode cX6_split 19 = .ok (.if_icmp .ge 68, 3) := by decide +kernel
theorem dX6_split_22 : decode cX6_split 22 = .ok (.aload_n 0, 1) := by decide +kernel
theorem dX6_split_23 : decode cX6_split 23 = .ok (.getfield 9, 3) := by decide +kernel
theorem dX6_split_26 : decode cX6_split 26 = .ok (.iload_n 1, 1) := by decide +kernel
theorem dX6_split_27 : decode cX6_split 27 = .ok (.caload, 1) := by decide +kernel
theorem dX6_split_28 : decode cX6_split 28 = .ok (.invokestatic 88, 3) := by decide +kernel
theorem dX6_split_31 : decode cX6_split 31 = .ok (.istore_n 2, 1) := by decide +kernel
theorem dX6_split_32 : decode cX6_split 32 = .ok (.iload_n 1, 1) := by decide +kernel
theorem dX6_split_33 : decode cX6_split 33 = .ok (.ifCond .le 32, 3) := by decide +kernel
theorem dX6_split_36 : decode cX6_split 36 = .ok (.iload_n 2, 1) := by decide +kernel
theorem dX6_split_37 : decode cX6_split 37 = .ok (.iconst 1, 1) := by decide +kernel
theorem dX6_split_38 : decode cX6_split 38 = .ok (.if_icmp .eq 8, 3) := by decide +kernel
theorem dX6_split_41 : decode cX6_split 41 = .ok (.iload_n 2, 1) := by decide +kernel
theorem dX6_split_42 : decode cX6_split 42 = .ok (.iconst 2, 1) := by decide +kernel
theorem dX6_split_43 : decode cX6_split 43 = .ok (.if_icmp .ne 22, 3) := by decide +kernel
theorem dX6_split_46 : decode cX6_split 46 = .ok (.iload_n 2, 1) := by decide +kernel
theorem dX6_split_47 : decode cX6_split 47 = .ok (.aload_n 0, 1) := by decide +kernel
theorem dX6_split_48 : decode cX6_split 48 = .ok (.getfield 9, 3) := by decide +kernel
theorem dX6_split_51 : decode cX6_split 51 = .ok (.iload_n 1, 1) := by decide +kernel
theorem dX6_split_52 : decode cX6_split 52 = .ok (.iconst 1, 1) := by decide +kernel
theorem dX6_split_53 : decode cX6_split 53 = .ok (.isub, 1) := by decide +kernel
theorem dX6_split_54 : decode cX6_split 54 = .ok (.caload, 1) := by decide +kernel
theorem dX6_split_55 : decode cX6_split 55 = .ok (.invokestatic 88, 3) := by decide +kernel
theorem dX6_split_58 : decode cX6_split 58 = .ok (.if_icmp .ne 7, 3) := by decide +kernel
theorem dX6_split_61 : decode cX6_split 61 = .ok (.iconst 1, 1) := by decide +kernel
theorem dX6_split_62 : decode cX6_split 62 = .ok (.goto 4, 3) := by decide +kernel
theorem dX6_split_65 : decode cX6_split 65 = .ok (.iconst 0, 1) := by decide +kernel
theorem dX6_split_66 : decode cX6_split 66 = .ok (.istore_n 3, 1) := by decide +kernel
theorem dX6_split_67 : decode cX6_split 67 = .ok (.iload_n 2, 1) := by decide +kernel
theorem dX6_split_68 : decode cX6_split 68 = .ok (.ifCond .eq 13, 3) := by decide +kernel
theorem dX6_split_71 : decode cX6_split 71 = .ok (.iload_n 3, 1) := by decide +kernel
theorem dX6_split_72 : decode cX6_split 72 = .ok (.ifCond .ne 9, 3) := by decide +kernel
theorem dX6_split_75 : decode cX6_split 75 = .ok (.aload_n 0, 1) := by decide +kernel
theorem dX6_split_76 : decode cX6_split 76 = .ok (.iload_n 1, 1) := by decide +kernel
theorem dX6_split_77 : decode cX6_split 77 = .ok (.iload_n 2, 1) := by decide +kernel
theorem dX6_split_78 : decode cX6_split 78 = .ok (.invokevirtual 92, 3) := by decide +kernel
theorem dX6_split_81 : decode cX6_split 81 = .ok (.iinc 1 1, 3) := by decide +kernel
theorem dX6_split_84 : decode cX6_split 84 = .ok (.goto (-77), 3) := by decide +kernel
theorem dX6_split_87 : decode cX6_split 87 = .ok (.aload_n 0, 1) := by decide +kernel
theorem dX6_split_88 : decode cX6_split 88 = .ok (.bipush 36, 2) := by decide +kernel
theorem dX6_split_90 : decode cX6_split 90 = .ok (.iconst 0, 1) := by decide +kernel
theorem dX6_split_91 : decode cX6_split 91 = .ok (.aload_n 0, 1) := by decide +kernel
theorem dX6_split_92 : decode cX6_split 92 = .ok (.getfield 15, 3) := by decide +kernel
theorem dX6_split_95 : decode cX6_split 95 = .ok (.invokevirtual 96, 3) := by decide +kernel
theorem dX6_split_98 : decode cX6_split 98 = .ok (.aload_n 0, 1) := by decide +kernel
theorem dX6_split_99 : decode cX6_split 99 = .ok (.iconst 0, 1) := by decide +kernel
theorem dX6_split_100 : decode cX6_split 100 = .ok (.putfield 32, 3) := by decide +kernel
theorem dX6_split_103 : decode cX6_split 103 = .ok (.aload_n 0, 1) := by decide +kernel
theorem dX6_split_104 : decode cX6_split 104 = .ok (.aload_n 0, 1) := by decide +kernel
theorem dX6_split_105 : decode cX6_split 105 = .ok (.getfield 19, 3) := by decide +kernel
theorem dX6_split_108 : decode cX6_split 108 = .ok (.iconst 0, 1) := by decide +kernel
theorem dX6_split_109 : decode cX6_split 109 = .ok (.iaload, 1) := by decide +kernel
theorem dX6_split_110 : decode cX6_split 110 = .ok (.putfield 35, 3) := by decide +kernel
theorem dX6_split_113 : decode cX6_split 113 = .ok (.return_, 1) := by decide +kernel
def f_X6_split_87    (h : zHp) : Option (zHp) := (f_X6_put (36 : Int32) (0 : Int32) (h 145 1) h).bind fun x1 => zlt (zst x1 145 6 (0 : Int32)) fun h2 => zix (0 : Int32) 401 (zlt (zst h2 145 7 (h2 147 (0 : Int32).toNatClampNeg)) fun h3 => some h3)
set_option maxHeartbeats 4000000 in
set_option maxRecDepth 100000 in
theorem f_X6_split_87_s   (h : zHp) : Sim wX mX6_split 6 rV 87 [(0, .ref 145)] [] h (f_X6_split_87 h) := by
  unfold f_X6_split_87
  refine Sim.aload_n 0 dX6_split_87 rfl ?_
  refine Sim.bipush (v := (36 : Int32)) dX6_split_88 rfl ?_
  refine Sim.iconst (v := (0 : Int32)) dX6_split_90 rfl ?_
  refine Sim.aload_n 0 dX6_split_91 rfl ?_
  refine Sim.getI fl_X6_15 dX6_split_92 xI_145_1 ?_
  refine Sim.callV3U (d1 := 0) (s_X6_put (36 : Int32) (0 : Int32) (h 145 1) h) dX6_split_95 ml_X6_96 mv_X6_put xO_X6 (Nat.le_of_ble_eq_true rfl) (Nat.le_of_ble_eq_true rfl) (Nat.le_of_ble_eq_true rfl) (fun x1 => ?_)
  refine Sim.aload_n 0 dX6_split_98 rfl ?_
  refine Sim.iconst (v := (0 : Int32)) dX6_split_99 rfl ?_
  refine Sim.put fp_X6_32 dX6_split_100 xI_145_6 rfl rfl ?_
  refine Sim.lth (fun h2 => ?_)
  refine Sim.aload_n 0 dX6_split_103 rfl ?_
  refine Sim.aload_n 0 dX6_split_104 rfl ?_
  refine Sim.getR (j := 147) fl_X6_19 dX6_split_105 xR_145_2 ?_
  refine Sim.iconst (v := (0 : Int32)) dX6_split_108 rfl ?_
  refine Sim.iald (n := 401) dX6_split_109 xA_147 ?_
  refine Sim.put fp_X6_35 dX6_split_110 xI_145_7 rfl rfl ?_
  refine Sim.lth (fun h3 => ?_)
  exact Sim.vret dX6_split_113 rfl
def f_X6_split_66  (k7 : Int32 × zHp → Option (zHp)) (v1 : Int32) (v2 : Int32) (s0 : Int32) (h : zHp) : Option (zHp) := (if v2 = 0 then k7 ((v1 + (1 : Int32)), h) else (if s0 = 0 then (f_X6_token v1 v2 h).bind fun x1 => k7 ((v1 + (1 : Int32)), x1) else k7 ((v1 + (1 : Int32)), h)))
set_option maxHeartbeats 4000000 in
set_option maxRecDepth 100000 in
theorem f_X6_split_66_s  (k7 : Int32 × zHp → Option (zHp)) (H7 : ∀ v : Int32 × zHp, Sim wX mX6_split 6 rV 7 [(0, .ref 145), (1, .int v.1)] [] v.2 (k7 v)) (v1 : Int32) (v2 : Int32) (s0 : Int32) (h : zHp) : Sim wX mX6_split 6 rV 66 [(0, .ref 145), (1, .int v1), (2, .int v2)] [.int s0] h (f_X6_split_66 k7 v1 v2 s0 h) := by
  unfold f_X6_split_66
  refine Sim.istore_n (L' := [(3, .int s0), (0, .ref 145), (1, .int v1), (2, .int v2)]) dX6_split_66 (Nat.le_of_ble_eq_true rfl) rfl ?_
  refine Sim.iload_n 3 dX6_split_67 rfl ?_
  refine Sim.if_eq 81 dX6_split_68 rfl ?_ ?_
  · refine Sim.iinc (L' := [(1, .int (v1 + (1 : Int32))), (3, .int s0), (0, .ref 145), (2, .int v2)]) 2 dX6_split_81 rfl rfl (Nat.le_of_ble_eq_true rfl) rfl ?_
    refine Sim.goto 7 dX6_split_84 rfl ?_
    refine Sim.locs [2, 0] rfl ?_
    exact H7 ((v1 + (1 : Int32)), h)
  · refine Sim.iload_n 0 dX6_split_71 rfl ?_
    refine Sim.if_ne 81 dX6_split_72 rfl ?_ ?_
    · refine Sim.aload_n 1 dX6_split_75 rfl ?_
      refine Sim.iload_n 2 dX6_split_76 rfl ?_
      refine Sim.iload_n 3 dX6_split_77 rfl ?_
      refine Sim.callV2U (d1 := 5) (s_X6_token v1 v2 h) dX6_split_78 ml_X6_92 mv_X6_token xO_X6 (Nat.le_of_ble_eq_true rfl) (Nat.le_of_ble_eq_true rfl) (Nat.le_of_ble_eq_true rfl) (fun x1 => ?_)
      refine Sim.iinc (L' := [(1, .int (v1 + (1 : Int32))), (3, .int s0), (0, .ref 145), (2, .int v2)]) 2 dX6_split_81 rfl rfl (Nat.le_of_ble_eq_true rfl) rfl ?_
      refine Sim.goto 7 dX6_split_84 rfl ?_
      refine Sim.locs [2, 0] rfl ?_
      exact H7 ((v1 + (1 : Int32)), x1)
    · refine Sim.iinc (L' := [(1, .int (v1 + (1 : Int32))), (3, .int s0), (0, .ref 145), (2, .int v2)]) 2 dX6_split_81 rfl rfl (Nat.le_of_ble_eq_true rfl) rfl ?_
      refine Sim.goto 7 dX6_split_84 rfl ?_
      refine Sim.locs [2, 0] rfl ?_
      exact H7 ((v1 + (1 : Int32)), h)
def f_X6_split_46  (k7 : Int32 × zHp → Option (zHp)) (v1 : Int32) (v2 : Int32) (h : zHp) : Option (zHp) := zix (v1 - (1 : Int32)) 400 ((f_X6_sortOf (h 146 (v1 - (1 : Int32)).toNatClampNeg) h).bind fun x1 => (if v2 = x1.1 then f_X6_split_66 k7 v1 v2 (1 : Int32) x1.2 else f_X6_split_66 k7 v1 v2 (0 : Int32) x1.2))
set_option maxHeartbeats 4000000 in
set_option maxRecDepth 100000 in
theorem f_X6_split_46_s  (k7 : Int32 × zHp → Option (zHp)) (H7 : ∀ v : Int32 × zHp, Sim wX mX6_split 6 rV 7 [(0, .ref 145), (1, .int v.1)] [] v.2 (k7 v)) (v1 : Int32) (v2 : Int32) (h : zHp) : Sim wX mX6_split 6 rV 46 [(0, .ref 145), (1, .int v1), (2, .int v2)] [] h (f_X6_split_46 k7 v1 v2 h) := by
  unfold f_X6_split_46
  refine Sim.iload_n 2 dX6_split_46 rfl ?_
  refine Sim.aload_n 0 dX6_split_47 rfl ?_
  refine Sim.getR (j := 146) fl_X6_9 dX6_split_48 xR_145_0 ?_
  refine Sim.iload_n 1 dX6_split_51 rfl ?_
  refine Sim.iconst (v := (1 : Int32)) dX6_split_52 rfl ?_
  refine Sim.isub dX6_split_53 ?_
  refine Sim.cald (n := 400) dX6_split_54 xA_146 ?_
  refine Sim.callS1I (d1 := 0) (s_X6_sortOf (h 146 (v1 - (1 : Int32)).toNatClampNeg) h) dX6_split_55 ml_X6_88 mv_X6_sortOf (Nat.le_of_ble_eq_true rfl) (Nat.le_of_ble_eq_true rfl) (Nat.le_of_ble_eq_true rfl) (fun x1 => ?_)
  refine Sim.icmp_ne 65 dX6_split_58 rfl ?_ ?_
  · refine Sim.iconst (v := (1 : Int32)) dX6_split_61 rfl ?_
    refine Sim.goto 66 dX6_split_62 rfl ?_
    exact f_X6_split_66_s k7 H7 v1 v2 (1 : Int32) x1.2
  · refine Sim.iconst (v := (0 : Int32)) dX6_split_65 rfl ?_
    exact f_X6_split_66_s k7 H7 v1 v2 (0 : Int32) x1.2
def f_X6_split_7  (k7 : Int32 × zHp → Option (zHp)) (v1 : Int32) (h : zHp) : Option (zHp) := (if v1 < (h 145 1) then (if v1 < (400 : Int32) then zix v1 400 ((f_X6_sortOf (h 146 v1.toNatClampNeg) h).bind fun x1 => (if 0 < v1 then (if x1.1 = (1 : Int32) then f_X6_split_46 k7 v1 x1.1 x1.2 else (if x1.1 = (2 : Int32) then f_X6_split_46 k7 v1 x1.1 x1.2 else f_X6_split_66 k7 v1 x1.1 (0 : Int32) x1.2)) else f_X6_split_66 k7 v1 x1.1 (0 : Int32) x1.2)) else f_X6_split_87 h) else f_X6_split_87 h)
set_option maxHeartbeats 4000000 in
set_option maxRecDepth 100000 in
theorem f_X6_split_7_s  (k7 : Int32 × zHp → Option (zHp)) (H7 : ∀ v : Int32 × zHp, Sim wX mX6_split 6 rV 7 [(0, .ref 145), (1, .int v.1)] [] v.2 (k7 v)) (v1 : Int32) (h : zHp) : Sim wX mX6_split 6 rV 7 [(0, .ref 145), (1, .int v1)] [] h (f_X6_split_7 k7 v1 h) := by
  unfold f_X6_split_7
  refine Sim.iload_n 1 dX6_split_7 rfl ?_
  refine Sim.aload_n 0 dX6_split_8 rfl ?_
  refine Sim.getI fl_X6_15 dX6_split_9 xI_145_1 ?_
  refine Sim.icmp_ge 87 dX6_split_12 rfl ?_ ?_
  · refine Sim.iload_n 1 dX6_split_15 rfl ?_
    refine Sim.sipush (v := (400 : Int32)) dX6_split_16 rfl ?_
    refine Sim.icmp_ge 87 dX6_split_19 rfl ?_ ?_
    · refine Sim.aload_n 0 dX6_split_22 rfl ?_
      refine Sim.getR (j := 146) fl_X6_9 dX6_split_23 xR_145_0 ?_
      refine Sim.iload_n 1 dX6_split_26 rfl ?_
      refine Sim.cald (n := 400) dX6_split_27 xA_146 ?_
      refine Sim.callS1I (d1 := 0) (s_X6_sortOf (h 146 v1.toNatClampNeg) h) dX6_split_28 ml_X6_88 mv_X6_sortOf (Nat.le_of_ble_eq_true rfl) (Nat.le_of_ble_eq_true rfl) (Nat.le_of_ble_eq_true rfl) (fun x1 => ?_)
      refine Sim.istore_n (L' := [(2, .int x1.1), (0, .ref 145), (1, .int v1)]) dX6_split_31 (Nat.le_of_ble_eq_true rfl) rfl ?_
      refine Sim.iload_n 2 dX6_split_32 rfl ?_
      refine Sim.if_le 65 dX6_split_33 rfl ?_ ?_
      · refine Sim.iload_n 0 dX6_split_36 rfl ?_
        refine Sim.iconst (v := (1 : Int32)) dX6_split_37 rfl ?_
        refine Sim.icmp_eq 46 dX6_split_38 rfl ?_ ?_
        · refine Sim.locs [1, 2, 0] rfl ?_
          exact f_X6_split_46_s k7 H7 v1 x1.1 x1.2
        · refine Sim.iload_n 0 dX6_split_41 rfl ?_
          refine Sim.iconst (v := (2 : Int32)) dX6_split_42 rfl ?_
          refine Sim.icmp_ne 65 dX6_split_43 rfl ?_ ?_
          · refine Sim.locs [1, 2, 0] rfl ?_
            exact f_X6_split_46_s k7 H7 v1 x1.1 x1.2
          · refine Sim.iconst (v := (0 : Int32)) dX6_split_65 rfl ?_
            refine Sim.locs [1, 2, 0] rfl ?_
            exact f_X6_split_66_s k7 H7 v1 x1.1 (0 : Int32) x1.2
      · refine Sim.iconst (v := (0 : Int32)) dX6_split_65 rfl ?_
        refine Sim.locs [1, 2, 0] rfl ?_
        exact f_X6_split_66_s k7 H7 v1 x1.1 (0 : Int32) x1.2
    · refine Sim.locs [0] rfl ?_
      exact f_X6_split_87_s h
  · refine Sim.locs [0] rfl ?_
    exact f_X6_split_87_s h
def f_X6_split_7_lp   (n : Nat) (v : Int32 × zHp) : Option (zHp) := zlp (fun k7 v => f_X6_split_7 k7 v.1 v.2) n v
theorem f_X6_split_7_ls  (n : Nat) (v : Int32 × zHp) : Sim wX mX6_split 6 rV 7 [(0, .ref 145), (1, .int v.1)] [] v.2 (f_X6_split_7_lp n v) :=
  Sim.lp (V := Int32 × zHp) (Lf := fun v => [(0, .ref 145), (1, .int v.1)]) (sf := fun v => []) (hf := fun v => v.2) (fun k7 H7 v => f_X6_split_7_s k7 H7 v.1 v.2) n v
def f_X6_split   (h : zHp) : Option (zHp) := zlt (zst h 145 5 (0 : Int32)) fun h1 => f_X6_split_7_lp  zN ((0 : Int32), h1)
set_option maxHeartbeats 4000000 in
set_option maxRecDepth 100000 in
theorem s_X6_split   (h : zHp) : Fn wX mX6_split 6 rV [.ref 145] h (f_X6_split  h) := by
  refine Fn.of rfl (Nat.le_of_ble_eq_true rfl) ?_
  unfold f_X6_split
  refine Sim.aload_n 0 dX6_split_0 rfl ?_
  refine Sim.iconst (v := (0 : Int32)) dX6_split_1 rfl ?_
  refine Sim.put fp_X6_29 dX6_split_2 xI_145_5 rfl rfl ?_
  refine Sim.lth (fun h1 => ?_)
  refine Sim.iconst (v := (0 : Int32)) dX6_split_5 rfl ?_
  refine Sim.istore_n (L' := [(1, .int (0 : Int32)), (0, .ref 145)]) dX6_split_6 (Nat.le_of_ble_eq_true rfl) rfl ?_
  refine Sim.locs [1, 0] rfl ?_
  exact f_X6_split_7_ls  zN ((0 : Int32), h1)
theorem mv_X6_split : zMV mX6_split 0 := ⟨⟨zTb_in 775 (by decide +kernel) rfl, zTb_in 145 (by decide +kernel) rfl, ⟨by decide +kernel, by decide +kernel⟩, by decide +kernel⟩, zTb_in 774 (by decide +kernel) rfl, zTb_in 11 (by decide +kernel) rfl⟩
-- ===== RockingPorch$Reader.fail(I)V
abbrev mX6_fail : zMt := (yX6_fail, cX6_fail, 2, none)
theorem fl_X6_32 : zF RX6 32 6 6 := ⟨RX6, TX6, 14, rfl, Nat.le_of_ble_eq_true rfl, zTb_in 436 (by decide +kernel) rfl, in_X6⟩
theorem fl_X6_60 : zF RX6 60 6 12 := ⟨RX6, TX6, 14, rfl, Nat.le_of_ble_eq_true rfl, zTb_in 444 (by decide +kernel) rfl, in_X6⟩
theorem fp_X6_60 : zFp RX6 60 6 12 .int := ⟨RX6, TX6, 14, tyX6, rfl, Nat.le_of_ble_eq_true rfl, zTb_in 444 (by decide +kernel) rfl, in_X6, tyX6_ok, nmX6, rfl, rfl⟩
theorem fp_X6_63 : zFp RX6 63 6 13 .int := ⟨RX6, TX6, 14, tyX6, rfl, Nat.le_of_ble_eq_true rfl, zTb_in 446 (by decide +kernel) rfl, in_X6, tyX6_ok, nmX6, rfl, rfl⟩
theorem dX6_fail_0 : decode cX6_fail 0 = .ok (.aload_n 0, 1) := by decide +kernel
theorem dX6_fail_1 : decode cX6_fail 1 = .ok (.getfield 60, 3) := by decide +kernel
theorem dX6_fail_4 : decode cX6_fail 4 = .ok (.ifCond .ne 21, 3) := by decide +kernel
theorem dX6_fail_7 : decode cX6_fail 7 = .ok (.aload_n 0, 1) := by decide +kernel
theorem dX6_fail_8 : decode cX6_fail 8 = .ok (.iload_n 1, 1) := by decide +kernel
theorem dX6_fail_9 : decode cX6_fail 9 = .ok (.putfield 60, 3) := by decide +kernel
theorem dX6_fail_12 : decode cX6_fail 12 = .ok (.aload_n 0, 1) := by decide +kernel
theorem dX6_fail_13 : decode cX6_fail 13 = .ok (.aload_n 0, 1) := by decide +kernel
theorem dX6_fail_14 : decode cX6_fail 14 = .ok (.getfield 26, 3) := by decide +kernel
theorem dX6_fail_17 : decode cX6_fail 17 = .ok (.aload_n 0, 1) := by decide +kernel
theorem dX6_fail_18 : decode cX6_fail 18 = .ok (.getfield 32, 3) := by decide +kernel
theorem dX6_fail_21 : decode cX6_fail 21 = .ok (.iaload, 1) := by decide +kernel
theorem dX6_fail_22 : decode cX6_fail 22 = .ok (.putfield 63, 3) := by decide +kernel
theorem dX6_fail_25 : decode cX6_fail 25 = .ok (.return_, 1) := by decide +kernel
def f_X6_fail  (a1 : Int32) (h : zHp) : Option (zHp) := (if (h 145 12) = 0 then zlt (zst h 145 12 a1) fun h1 => zix (h1 145 6) 401 (zlt (zst h1 145 13 (h1 149 (h1 145 6).toNatClampNeg)) fun h2 => some h2) else some h)
set_option maxHeartbeats 4000000 in
set_option maxRecDepth 100000 in
theorem s_X6_fail  (a1 : Int32) (h : zHp) : Fn wX mX6_fail 0 rV [.ref 145, .int a1] h (f_X6_fail a1 h) := by
  refine Fn.of rfl (Nat.le_of_ble_eq_true rfl) ?_
  unfold f_X6_fail
  refine Sim.aload_n 0 dX6_fail_0 rfl ?_
  refine Sim.getI fl_X6_60 dX6_fail_1 xI_145_12 ?_
  refine Sim.if_ne 25 dX6_fail_4 rfl ?_ ?_
  · refine Sim.aload_n 0 dX6_fail_7 rfl ?_
    refine Sim.iload_n 1 dX6_fail_8 rfl ?_
    refine Sim.put fp_X6_60 dX6_fail_9 xI_145_12 rfl rfl ?_
    refine Sim.lth (fun h1 => ?_)
    refine Sim.aload_n 0 dX6_fail_12 rfl ?_
    refine Sim.aload_n 0 dX6_fail_13 rfl ?_
    refine Sim.getR (j := 149) fl_X6_26 dX6_fail_14 xR_145_4 ?_
    refine Sim.aload_n 0 dX6_fail_17 rfl ?_
    refine Sim.getI fl_X6_32 dX6_fail_18 xI_145_6 ?_
    refine Sim.iald (n := 401) dX6_fail_21 xA_149 ?_
    refine Sim.put fp_X6_63 dX6_fail_22 xI_145_13 rfl rfl ?_
    refine Sim.lth (fun h2 => ?_)
    exact Sim.vret dX6_fail_25 rfl
  · exact Sim.vret dX6_fail_25 rfl
theorem mv_X6_fail : zMV mX6_fail 1 := ⟨⟨zTb_in 908 (by decide +kernel) rfl, zTb_in 145 (by decide +kernel) rfl, ⟨by decide +kernel, by decide +kernel⟩, by decide +kernel⟩, zTb_in 907 (by decide +kernel) rfl, zTb_in 17 (by decide +kernel) rfl⟩
-- ===== RockingPorch$Reader.advance()V
abbrev mX6_advance : zMt := (yX6_advance, cX6_advance, 1, none)
theorem dX6_advance_0 : decode cX6_advance 0 = .ok (.aload_n 0, 1) := by decide +kernel
theorem dX6_advance_1 : decode cX6_advance 1 = .ok (.getfield 32, 3) := by decide +kernel
theorem dX6_advance_4 : decode cX6_advance 4 = .ok (.iconst 1, 1) := by decide +kernel
theorem dX6_advance_5 : decode cX6_advance 5 = .ok (.iadd, 1) := by decide +kernel
theorem dX6_advance_6 : decode cX6_advance 6 = .ok (.aload_n 0, 1) := by decide +kernel
theorem dX6_advance_7 : decode cX6_advance 7 = .ok (.getfield 29, 3) := by decide +kernel
theorem dX6_advance_10 : decode cX6_advance 10 = .ok (.if_icmp .ge 26, 3) := by decide +kernel
theorem dX6_advance_13 : decode cX6_advance 13 = .ok (.aload_n 0, 1) := by decide +kernel
theorem dX6_advance_14 : decode cX6_advance 14 = .ok (.dup, 1) := by decide +kernel
theorem dX6_advance_15 : decode cX6_advance 15 = .ok (.getfield 32, 3) := by decide +kernel
theorem dX6_advance_18 : decode cX6_advance 18 = .ok (.iconst 1, 1) := by decide +kernel
theorem dX6_advance_19 : decode cX6_advance 19 = .ok (.iadd, 1) := by decide +kernel
theorem dX6_advance_20 : decode cX6_advance 20 = .ok (.putfield 32, 3) := by decide +kernel
theorem dX6_advance_23 : decode cX6_advance 23 = .ok (.aload_n 0, 1) := by decide +kernel
theorem dX6_advance_24 : decode cX6_advance 24 = .ok (.aload_n 0, 1) := by decide +kernel
theorem dX6_advance_25 : decode cX6_advance 25 = .ok (.getfield 19, 3) := by decide +kernel
theorem dX6_advance_28 : decode cX6_advance 28 = .ok (.aload_n 0, 1) := by decide +kernel
theorem dX6_advance_29 : decode cX6_advance 29 = .ok (.getfield 32, 3) := by decide +kernel
theorem dX6_advance_32 : decode cX6_advance 32 = .ok (.iaload, 1) := by decide +kernel
theorem dX6_advance_33 : decode cX6_advance 33 = .ok (.putfield 35, 3) := by decide +kernel
theorem dX6_advance_36 : decode cX6_advance 36 = .ok (.return_, 1) := by decide +kernel
def f_X6_advance   (h : zHp) : Option (zHp) := (if ((h 145 6) + (1 : Int32)) < (h 145 5) then zlt (zst h 145 6 ((h 145 6) + (1 : Int32))) fun h1 => zix (h1 145 6) 401 (zlt (zst h1 145 7 (h1 147 (h1 145 6).toNatClampNeg)) fun h2 => some h2) else some h)
set_option maxHeartbeats 4000000 in
set_option maxRecDepth 100000 in
theorem s_X6_advance   (h : zHp) : Fn wX mX6_advance 0 rV [.ref 145] h (f_X6_advance  h) := by
  refine Fn.of rfl (Nat.le_of_ble_eq_true rfl) ?_
  unfold f_X6_advance
  refine Sim.aload_n 0 dX6_advance_0 rfl ?_
  refine Sim.getI fl_X6_32 dX6_advance_1 xI_145_6 ?_
  refine Sim.iconst (v := (1 : Int32)) dX6_advance_4 rfl ?_
  refine Sim.iadd dX6_advance_5 ?_
  refine Sim.aload_n 0 dX6_advance_6 rfl ?_
  refine Sim.getI fl_X6_29 dX6_advance_7 xI_145_5 ?_
  refine Sim.icmp_ge 36 dX6_advance_10 rfl ?_ ?_
  · refine Sim.aload_n 0 dX6_advance_13 rfl ?_
    refine Sim.dup dX6_advance_14 rfl ?_
    refine Sim.getI fl_X6_32 dX6_advance_15 xI_145_6 ?_
    refine Sim.iconst (v := (1 : Int32)) dX6_advance_18 rfl ?_
    refine Sim.iadd dX6_advance_19 ?_
    refine Sim.put fp_X6_32 dX6_advance_20 xI_145_6 rfl rfl ?_
    refine Sim.lth (fun h1 => ?_)
    refine Sim.aload_n 0 dX6_advance_23 rfl ?_
    refine Sim.aload_n 0 dX6_advance_24 rfl ?_
    refine Sim.getR (j := 147) fl_X6_19 dX6_advance_25 xR_145_2 ?_
    refine Sim.aload_n 0 dX6_advance_28 rfl ?_
    refine Sim.getI fl_X6_32 dX6_advance_29 xI_145_6 ?_
    refine Sim.iald (n := 401) dX6_advance_32 xA_147 ?_
    refine Sim.put fp_X6_35 dX6_advance_33 xI_145_7 rfl rfl ?_
    refine Sim.lth (fun h2 => ?_)
    exact Sim.vret dX6_advance_36 rfl
  · exact Sim.vret dX6_advance_36 rfl
theorem mv_X6_advance : zMV mX6_advance 0 := ⟨⟨zTb_in 916 (by decide +kernel) rfl, zTb_in 145 (by decide +kernel) rfl, ⟨by decide +kernel, by decide +kernel⟩, by decide +kernel⟩, zTb_in 915 (by decide +kernel) rfl, zTb_in 18 (by decide +kernel) rfl⟩
-- ===== RockingPorch$Reader.expectNumber(II)I
abbrev mX6_expectNumber : zMt := (yX6_expectNumber, cX6_expectNumber, 4, some .int)
theorem fl_X6_35 : zF RX6 35 6 7 := ⟨RX6, TX6, 14, rfl, Nat.le_of_ble_eq_true rfl, zTb_in 437 (by decide +kernel) rfl, in_X6⟩
theorem ml_X6_130 : Cond.methodLink RX6 130 yX6_advance ∈ zTb := zTb_in 913 (by decide +kernel) rfl
theorem ml_X6_133 : Cond.methodLink RX6 133 yX6_fail ∈ zTb := zTb_in 905 (by decide +kernel) rfl
theorem dX6_expectNumber_0 : decode cX6_expectNumber 0 = .ok (.aload_n 0, 1) := by decide +kernel
theorem dX6_expectNumber_1 : decode cX6_expectNumber 1 = .ok (.getfield 60, 3) := by decide +kernel
theorem dX6_expectNumber_4 : decode cX6_expectNumber 4 = .ok (.ifCond .eq 5, 3) := by decide +kernel
theorem dX6_expectNumber_7 : decode cX6_expectNumber 7 = .ok (.iconst 0, 1) := by decide +kernel
theorem dX6_expectNumber_8 : decode cX6_expectNumber 8 = .ok (.ireturn, 1) := by decide +kernel
theorem dX6_expectNumber_9 : decode cX6_expectNumber 9 = .ok (.aload_n 0, 1) := by decide +kernel
theorem dX6_expectNumber_10 : decode cX6_expectNumber 10 = .ok (.getfield 23, 3) := by decide +kernel
theorem dX6_expectNumber_13 : decode cX6_expectNumber 13 = .ok (.aload_n 0, 1) := by decide +kernel
theorem dX6_expectNumber_14 : decode cX6_expectNumber 14 = .ok (.getfield 32, 3) := by decide +kernel
theorem dX6_expectNumber_17 : decode cX6_expectNumber 17 = .ok (.iaload, 1) := by decide +kernel
theorem dX6_expectNumber_18 : decode cX6_expectNumber 18 = .ok (.istore_n 3, 1) := by decide +kernel
theorem dX6_expectNumber_19 : decode cX6_expectNumber 19 = .ok (.aload_n 0, 1) := by decide +kernel
theorem dX6_expectNumber_20 : decode cX6_expectNumber 20 = .ok (.getfield 35, 3) := by decide +kernel
theorem dX6_expectNumber_23 : decode cX6_expectNumber 23 = .ok (.bipush 34, 2) := by decide +kernel
theorem dX6_expectNumber_25 : decode cX6_expectNumber 25 = .ok (.if_icmp .eq 11, 3) := by decide +kernel
theorem dX6_expectNumber_28 : decode cX6_expectNumber 28 = .ok (.aload_n 0, 1) := by decide +kernel
theorem dX6_expectNumber_29 : decode cX6_expectNumber 29 = .ok (.iconst 1, 1) := by decide +kernel
theorem dX6_expectNumber_30 : decode cX6_expectNumber 30 = .ok (.invokevirtual 133, 3) := by decide +kernel
theorem dX6_expectNumber_33 : decode cX6_expectNumber 33 = .ok (.goto 25, 3) := by decide +kernel
theorem dX6_expectNumber_36 : decode cX6_expectNumber 36 = .ok (.iload_n 3, 1) := by decide +kernel
theorem dX6_expectNumber_37 : decode cX6_expectNumber 37 = .ok (.iload_n 1, 1) := by decide +kernel
theorem dX6_expectNumber_38 : decode cX6_expectNumber 38 = .ok (.if_icmp .gt 8, 3) := by decide +kernel
theorem dX6_expectNumber_41 : decode cX6_expectNumber 41 = .ok (.iload_n 3, 1) := by decide +kernel
theorem dX6_expectNumber_42 : decode cX6_expectNumber 42 = .ok (.iload_n 2, 1) := by decide +kernel
theorem dX6_expectNumber_43 : decode cX6_expectNumber 43 = .ok (.if_icmp .ne 11, 3) := by decide +kernel
theorem dX6_expectNumber_46 : decode cX6_expectNumber 46 = .ok (.aload_n 0, 1) := by decide +kernel
theorem dX6_expectNumber_47 : decode cX6_expectNumber 47 = .ok (.iconst 2, 1) := by decide +kernel
theorem dX6_expectNumber_48 : decode cX6_expectNumber 48 = .ok (.invokevirtual 133, 3) := by decide +kernel
theorem dX6_expectNumber_51 : decode cX6_expectNumber 51 = .ok (.goto 7, 3) := by decide +kernel
theorem dX6_expectNumber_54 : decode cX6_expectNumber 54 = .ok (.aload_n 0, 1) := by decide +kernel
theorem dX6_expectNumber_55 : decode cX6_expectNumber 55 = .ok (.invokevirtual 130, 3) := by decide +kernel
theorem dX6_expectNumber_58 : decode cX6_expectNumber 58 = .ok (.iload_n 3, 1) := by decide +kernel
theorem dX6_expectNumber_59 : decode cX6_expectNumber 59 = .ok (.ireturn, 1) := by decide +kernel
def f_X6_expectNumber_46   (v3 : Int32) (h : zHp) : Option (Int32 × zHp) := (f_X6_fail (2 : Int32) h).bind fun x1 => some (v3, x1)
set_option maxHeartbeats 4000000 in
set_option maxRecDepth 100000 in
theorem f_X6_expectNumber_46_s  (v3 : Int32) (h : zHp) : Sim wX mX6_expectNumber 1 rI 46 [(0, .ref 145), (3, .int v3)] [] h (f_X6_expectNumber_46 v3 h) := by
  unfold f_X6_expectNumber_46
  refine Sim.aload_n 0 dX6_expectNumber_46 rfl ?_
  refine Sim.iconst (v := (2 : Int32)) dX6_expectNumber_47 rfl ?_
  refine Sim.callV1U (d1 := 0) (s_X6_fail (2 : Int32) h) dX6_expectNumber_48 ml_X6_133 mv_X6_fail xO_X6 (Nat.le_of_ble_eq_true rfl) (Nat.le_of_ble_eq_true rfl) (Nat.le_of_ble_eq_true rfl) (fun x1 => ?_)
  refine Sim.goto 58 dX6_expectNumber_51 rfl ?_
  refine Sim.iload_n 1 dX6_expectNumber_58 rfl ?_
  exact Sim.iret dX6_expectNumber_59 rfl
def f_X6_expectNumber  (a1 : Int32) (a2 : Int32) (h : zHp) : Option (Int32 × zHp) := (if (h 145 12) = 0 then zix (h 145 6) 401 (zlt (h 148 (h 145 6).toNatClampNeg) fun x1 => (if (h 145 7) = (34 : Int32) then (if a1 < x1 then f_X6_expectNumber_46 x1 h else (if x1 = a2 then f_X6_expectNumber_46 x1 h else (f_X6_advance h).bind fun x2 => some (x1, x2))) else (f_X6_fail (1 : Int32) h).bind fun x3 => some (x1, x3))) else some ((0 : Int32), h))
set_option maxHeartbeats 4000000 in
set_option maxRecDepth 100000 in
theorem s_X6_expectNumber  (a1 : Int32) (a2 : Int32) (h : zHp) : Fn wX mX6_expectNumber 1 rI [.ref 145, .int a1, .int a2] h (f_X6_expectNumber a1 a2 h) := by
  refine Fn.of rfl (Nat.le_of_ble_eq_true rfl) ?_
  unfold f_X6_expectNumber
  refine Sim.aload_n 0 dX6_expectNumber_0 rfl ?_
  refine Sim.getI fl_X6_60 dX6_expectNumber_1 xI_145_12 ?_
  refine Sim.if_eq 9 dX6_expectNumber_4 rfl ?_ ?_
  · refine Sim.aload_n 0 dX6_expectNumber_9 rfl ?_
    refine Sim.getR (j := 148) fl_X6_23 dX6_expectNumber_10 xR_145_3 ?_
    refine Sim.aload_n 0 dX6_expectNumber_13 rfl ?_
    refine Sim.getI fl_X6_32 dX6_expectNumber_14 xI_145_6 ?_
    refine Sim.iald (n := 401) dX6_expectNumber_17 xA_148 ?_
    refine Sim.lti (fun x1 => ?_)
    refine Sim.istore_n (L' := [(3, .int x1), (0, .ref 145), (1, .int a1), (2, .int a2)]) dX6_expectNumber_18 (Nat.le_of_ble_eq_true rfl) rfl ?_
    refine Sim.aload_n 1 dX6_expectNumber_19 rfl ?_
    refine Sim.getI fl_X6_35 dX6_expectNumber_20 xI_145_7 ?_
    refine Sim.bipush (v := (34 : Int32)) dX6_expectNumber_23 rfl ?_
    refine Sim.icmp_eq 36 dX6_expectNumber_25 rfl ?_ ?_
    · refine Sim.iload_n 0 dX6_expectNumber_36 rfl ?_
      refine Sim.iload_n 2 dX6_expectNumber_37 rfl ?_
      refine Sim.icmp_gt 46 dX6_expectNumber_38 rfl ?_ ?_
      · refine Sim.locs [1, 0] rfl ?_
        exact f_X6_expectNumber_46_s x1 h
      · refine Sim.iload_n 0 dX6_expectNumber_41 rfl ?_
        refine Sim.iload_n 3 dX6_expectNumber_42 rfl ?_
        refine Sim.icmp_ne 54 dX6_expectNumber_43 rfl ?_ ?_
        · refine Sim.locs [1, 0] rfl ?_
          exact f_X6_expectNumber_46_s x1 h
        · refine Sim.aload_n 1 dX6_expectNumber_54 rfl ?_
          refine Sim.callV0U (d1 := 0) (s_X6_advance h) dX6_expectNumber_55 ml_X6_130 mv_X6_advance xO_X6 (Nat.le_of_ble_eq_true rfl) (Nat.le_of_ble_eq_true rfl) (Nat.le_of_ble_eq_true rfl) (fun x2 => ?_)
          refine Sim.iload_n 0 dX6_expectNumber_58 rfl ?_
          exact Sim.iret dX6_expectNumber_59 rfl
    · refine Sim.aload_n 1 dX6_expectNumber_28 rfl ?_
      refine Sim.iconst (v := (1 : Int32)) dX6_expectNumber_29 rfl ?_
      refine Sim.callV1U (d1 := 0) (s_X6_fail (1 : Int32) h) dX6_expectNumber_30 ml_X6_133 mv_X6_fail xO_X6 (Nat.le_of_ble_eq_true rfl) (Nat.le_of_ble_eq_true rfl) (Nat.le_of_ble_eq_true rfl) (fun x3 => ?_)
      refine Sim.goto 58 dX6_expectNumber_33 rfl ?_
      refine Sim.iload_n 0 dX6_expectNumber_58 rfl ?_
      exact Sim.iret dX6_expectNumber_59 rfl
  · refine Sim.iconst (v := (0 : Int32)) dX6_expectNumber_7 rfl ?_
    exact Sim.iret dX6_expectNumber_8 rfl
theorem mv_X6_expectNumber : zMV mX6_expectNumber 2 := ⟨⟨zTb_in 924 (by decide +kernel) rfl, zTb_in 145 (by decide +kernel) rfl, ⟨by decide +kernel, by decide +kernel⟩, by decide +kernel⟩, zTb_in 923 (by decide +kernel) rfl, zTb_in 20 (by decide +kernel) rfl⟩
-- ===== RockingPorch$Reader.expectUnit()I
abbrev mX6_expectUnit : zMt := (yX6_expectUnit, cX6_expectUnit, 2, some .int)
theorem dX6_expectUnit_0 : decode cX6_expectUnit 0 = .ok (.aload_n 0, 1) := by decide +kernel
theorem dX6_expectUnit_1 : decode cX6_expectUnit 1 = .ok (.getfield 35, 3) := by decide +kernel
theorem dX6_expectUnit_4 : decode cX6_expectUnit 4 = .ok (.bipush 34, 2) := by decide +kernel
theorem dX6_expectUnit_6 : decode cX6_expectUnit 6 = .ok (.if_icmp .ne 15, 3) := by decide +kernel
theorem dX6_expectUnit_9 : decode cX6_expectUnit 9 = .ok (.aload_n 0, 1) := by decide +kernel
theorem dX6_expectUnit_10 : decode cX6_expectUnit 10 = .ok (.getfield 23, 3) := by decide +kernel
theorem dX6_expectUnit_13 : decode cX6_expectUnit 13 = .ok (.aload_n 0, 1) := by decide +kernel
theorem dX6_expectUnit_14 : decode cX6_expectUnit 14 = .ok (.getfield 32, 3) := by decide +kernel
theorem dX6_expectUnit_17 : decode cX6_expectUnit 17 = .ok (.iaload, 1) := by decide +kernel
theorem dX6_expectUnit_18 : decode cX6_expectUnit 18 = .ok (.goto 9, 3) := by decide +kernel
theorem dX6_expectUnit_21 : decode cX6_expectUnit 21 = .ok (.aload_n 0, 1) := by decide +kernel
theorem dX6_expectUnit_22 : decode cX6_expectUnit 22 = .ok (.getfield 35, 3) := by decide +kernel
theorem dX6_expectUnit_25 : decode cX6_expectUnit 25 = .ok (.iconst (-1), 1) := by decide +kernel
theorem dX6_expectUnit_26 : decode cX6_expectUnit 26 = .ok (.ixor, 1) := by decide +kernel
theorem dX6_expectUnit_27 : decode cX6_expectUnit 27 = .ok (.istore_n 1, 1) := by decide +kernel
theorem dX6_expectUnit_28 : decode cX6_expectUnit 28 = .ok (.aload_n 0, 1) := by decide +kernel
theorem dX6_expectUnit_29 : decode cX6_expectUnit 29 = .ok (.getfield 35, 3) := by decide +kernel
theorem dX6_expectUnit_32 : decode cX6_expectUnit 32 = .ok (.bipush 34, 2) := by decide +kernel
theorem dX6_expectUnit_34 : decode cX6_expectUnit 34 = .ok (.if_icmp .eq 20, 3) := by decide +kernel
theorem dX6_expectUnit_37 : decode cX6_expectUnit 37 = .ok (.aload_n 0, 1) := by decide +kernel
theorem dX6_expectUnit_38 : decode cX6_expectUnit 38 = .ok (.getfield 35, 3) := by decide +kernel
theorem dX6_expectUnit_41 : decode cX6_expectUnit 41 = .ok (.iconst 3, 1) := by decide +kernel
theorem dX6_expectUnit_42 : decode cX6_expectUnit 42 = .ok (.if_icmp .lt 19, 3) := by decide +kernel
theorem dX6_expectUnit_45 : decode cX6_expectUnit 45 = .ok (.aload_n 0, 1) := by decide +kernel
theorem dX6_expectUnit_46 : decode cX6_expectUnit 46 = .ok (.getfield 35, 3) := by decide +kernel
theorem dX6_expectUnit_49 : decode cX6_expectUnit 49 = .ok (.bipush 11, 2) := by decide +kernel
theorem dX6_expectUnit_51 : decode cX6_expectUnit 51 = .ok (.if_icmp .gt 10, 3) := by decide +kernel
theorem dX6_expectUnit_54 : decode cX6_expectUnit 54 = .ok (.aload_n 0, 1) := by decide +kernel
theorem dX6_expectUnit_55 : decode cX6_expectUnit 55 = .ok (.invokevirtual 130, 3) := by decide +kernel
theorem dX6_expectUnit_58 : decode cX6_expectUnit 58 = .ok (.goto 8, 3) := by decide +kernel
theorem dX6_expectUnit_61 : decode cX6_expectUnit 61 = .ok (.aload_n 0, 1) := by decide +kernel
theorem dX6_expectUnit_62 : decode cX6_expectUnit 62 = .ok (.iconst 1, 1) := by decide +kernel
theorem dX6_expectUnit_63 : decode cX6_expectUnit 63 = .ok (.invokevirtual 133, 3) := by decide +kernel
theorem dX6_expectUnit_66 : decode cX6_expectUnit 66 = .ok (.iload_n 1, 1) := by decide +kernel
theorem dX6_expectUnit_67 : decode cX6_expectUnit 67 = .ok (.ireturn, 1) := by decide +kernel
def f_X6_expectUnit_27   (s0 : Int32) (h : zHp) : Option (Int32 × zHp) := (if (h 145 7) = (34 : Int32) then (f_X6_advance h).bind fun x1 => some (s0, x1) else (if (h 145 7) < (3 : Int32) then (f_X6_fail (1 : Int32) h).bind fun x2 => some (s0, x2) else (if (11 : Int32) < (h 145 7) then (f_X6_fail (1 : Int32) h).bind fun x3 => some (s0, x3) else (f_X6_advance h).bind fun x4 => some (s0, x4))))
set_option maxHeartbeats 4000000 in
set_option maxRecDepth 100000 in
theorem f_X6_expectUnit_27_s  (s0 : Int32) (h : zHp) : Sim wX mX6_expectUnit 1 rI 27 [(0, .ref 145)] [.int s0] h (f_X6_expectUnit_27 s0 h) := by
  unfold f_X6_expectUnit_27
  refine Sim.istore_n (L' := [(1, .int s0), (0, .ref 145)]) dX6_expectUnit_27 (Nat.le_of_ble_eq_true rfl) rfl ?_
  refine Sim.aload_n 1 dX6_expectUnit_28 rfl ?_
  refine Sim.getI fl_X6_35 dX6_expectUnit_29 xI_145_7 ?_
  refine Sim.bipush (v := (34 : Int32)) dX6_expectUnit_32 rfl ?_
  refine Sim.icmp_eq 54 dX6_expectUnit_34 rfl ?_ ?_
  · refine Sim.aload_n 1 dX6_expectUnit_54 rfl ?_
    refine Sim.callV0U (d1 := 0) (s_X6_advance h) dX6_expectUnit_55 ml_X6_130 mv_X6_advance xO_X6 (Nat.le_of_ble_eq_true rfl) (Nat.le_of_ble_eq_true rfl) (Nat.le_of_ble_eq_true rfl) (fun x1 => ?_)
    refine Sim.goto 66 dX6_expectUnit_58 rfl ?_
    refine Sim.iload_n 0 dX6_expectUnit_66 rfl ?_
    exact Sim.iret dX6_expectUnit_67 rfl
  · refine Sim.aload_n 1 dX6_expectUnit_37 rfl ?_
    refine Sim.getI fl_X6_35 dX6_expectUnit_38 xI_145_7 ?_
    refine Sim.iconst (v := (3 : Int32)) dX6_expectUnit_41 rfl ?_
    refine Sim.icmp_lt 61 dX6_expectUnit_42 rfl ?_ ?_
    · refine Sim.aload_n 1 dX6_expectUnit_61 rfl ?_
      refine Sim.iconst (v := (1 : Int32)) dX6_expectUnit_62 rfl ?_
      refine Sim.callV1U (d1 := 0) (s_X6_fail (1 : Int32) h) dX6_expectUnit_63 ml_X6_133 mv_X6_fail xO_X6 (Nat.le_of_ble_eq_true rfl) (Nat.le_of_ble_eq_true rfl) (Nat.le_of_ble_eq_true rfl) (fun x2 => ?_)
      refine Sim.iload_n 0 dX6_expectUnit_66 rfl ?_
      exact Sim.iret dX6_expectUnit_67 rfl
    · refine Sim.aload_n 1 dX6_expectUnit_45 rfl ?_
      refine Sim.getI fl_X6_35 dX6_expectUnit_46 xI_145_7 ?_
      refine Sim.bipush (v := (11 : Int32)) dX6_expectUnit_49 rfl ?_
      refine Sim.icmp_gt 61 dX6_expectUnit_51 rfl ?_ ?_
      · refine Sim.aload_n 1 dX6_expectUnit_61 rfl ?_
        refine Sim.iconst (v := (1 : Int32)) dX6_expectUnit_62 rfl ?_
        refine Sim.callV1U (d1 := 0) (s_X6_fail (1 : Int32) h) dX6_expectUnit_63 ml_X6_133 mv_X6_fail xO_X6 (Nat.le_of_ble_eq_true rfl) (Nat.le_of_ble_eq_true rfl) (Nat.le_of_ble_eq_true rfl) (fun x3 => ?_)
        refine Sim.iload_n 0 dX6_expectUnit_66 rfl ?_
        exact Sim.iret dX6_expectUnit_67 rfl
      · refine Sim.aload_n 1 dX6_expectUnit_54 rfl ?_
        refine Sim.callV0U (d1 := 0) (s_X6_advance h) dX6_expectUnit_55 ml_X6_130 mv_X6_advance xO_X6 (Nat.le_of_ble_eq_true rfl) (Nat.le_of_ble_eq_true rfl) (Nat.le_of_ble_eq_true rfl) (fun x4 => ?_)
        refine Sim.goto 66 dX6_expectUnit_58 rfl ?_
        refine Sim.iload_n 0 dX6_expectUnit_66 rfl ?_
        exact Sim.iret dX6_expectUnit_67 rfl
def f_X6_expectUnit   (h : zHp) : Option (Int32 × zHp) := (if (h 145 7) = (34 : Int32) then zix (h 145 6) 401 (f_X6_expectUnit_27 (h 148 (h 145 6).toNatClampNeg) h) else f_X6_expectUnit_27 ((h 145 7) ^^^ (-1 : Int32)) h)
set_option maxHeartbeats 4000000 in
set_option maxRecDepth 100000 in
theorem s_X6_expectUnit   (h : zHp) : Fn wX mX6_expectUnit 1 rI [.ref 145] h (f_X6_expectUnit  h) := by
  refine Fn.of rfl (Nat.le_of_ble_eq_true rfl) ?_
  unfold f_X6_expectUnit
  refine Sim.aload_n 0 dX6_expectUnit_0 rfl ?_
  refine Sim.getI fl_X6_35 dX6_expectUnit_1 xI_145_7 ?_
  refine Sim.bipush (v := (34 : Int32)) dX6_expectUnit_4 rfl ?_
  refine Sim.icmp_ne 21 dX6_expectUnit_6 rfl ?_ ?_
  · refine Sim.aload_n 0 dX6_expectUnit_9 rfl ?_
    refine Sim.getR (j := 148) fl_X6_23 dX6_expectUnit_10 xR_145_3 ?_
    refine Sim.aload_n 0 dX6_expectUnit_13 rfl ?_
    refine Sim.getI fl_X6_32 dX6_expectUnit_14 xI_145_6 ?_
    refine Sim.iald (n := 401) dX6_expectUnit_17 xA_148 ?_
    refine Sim.goto 27 dX6_expectUnit_18 rfl ?_
    exact f_X6_expectUnit_27_s (h 148 (h 145 6).toNatClampNeg) h
  · refine Sim.aload_n 0 dX6_expectUnit_21 rfl ?_
    refine Sim.getI fl_X6_35 dX6_expectUnit_22 xI_145_7 ?_
    refine Sim.iconst (v := (-1 : Int32)) dX6_expectUnit_25 rfl ?_
    refine Sim.ixor dX6_expectUnit_26 ?_
    exact f_X6_expectUnit_27_s ((h 145 7) ^^^ (-1 : Int32)) h
theorem mv_X6_expectUnit : zMV mX6_expectUnit 0 := ⟨⟨zTb_in 928 (by decide +kernel) rfl, zTb_in 145 (by decide +kernel) rfl, ⟨by decide +kernel, by decide +kernel⟩, by decide +kernel⟩, zTb_in 927 (by decide +kernel) rfl, zTb_in 21 (by decide +kernel) rfl⟩
