-- ===== RockingPorch$Puzzles.firstFit(I)I
abbrev mX5_firstFit : zMt := (yX5_firstFit, cX5_firstFit, 6, some .int)
theorem fl_X5_86 : zF RX5 86 8 3 := ⟨RX8, TX8, 7, rfl, Nat.le_of_ble_eq_true rfl, zTb_in 334 (by decide +kernel) rfl, in_X8⟩
theorem dX5_firstFit_0 : decode cX5_firstFit 0 = .ok (.iconst 0, 1) := by decide +kernel
theorem dX5_firstFit_1 : decode cX5_firstFit 1 = .ok (.istore_n 2, 1) := by decide +kernel
theorem dX5_firstFit_2 : decode cX5_firstFit 2 = .ok (.iconst 0, 1) := by decide +kernel
theorem dX5_firstFit_3 : decode cX5_firstFit 3 = .ok (.istore_n 3, 1) := by decide +kernel
theorem dX5_firstFit_4 : decode cX5_firstFit 4 = .ok (.iload_n 3, 1) := by decide +kernel
theorem dX5_firstFit_5 : decode cX5_firstFit 5 = .ok (.aload_n 0, 1) := by decide +kernel
theorem dX5_firstFit_6 : decode cX5_firstFit 6 = .ok (.getfield 24, 3) := by decide +kernel
theorem dX5_firstFit_9 : decode cX5_firstFit 9 = .ok (.getfield 86, 3) := by decide +kernel
theorem dX5_firstFit_12 : decode cX5_firstFit 12 = .ok (.getfield 34, 3) := by decide +kernel
theorem dX5_firstFit_15 : decode cX5_firstFit 15 = .ok (.if_icmp .ge 92, 3) := by decide +kernel
theorem dX5_firstFit_18 : decode cX5_firstFit 18 = .ok (.aload_n 0, 1) := by decide +kernel
theorem dX5_firstFit_19 : decode cX5_firstFit 19 = .ok (.getfield 24, 3) := by decide +kernel
theorem dX5_firstFit_22 : decode cX5_firstFit 22 = .ok (.getfield 86, 3) := by decide +kernel
theorem dX5_firstFit_25 : decode cX5_firstFit 25 = .ok (.iload_n 3, 1) := by decide +kernel
theorem dX5_firstFit_26 : decode cX5_firstFit 26 = .ok (.invokevirtual 40, 3) := by decide +kernel
theorem dX5_firstFit_29 : decode cX5_firstFit 29 = .ok (.istore 4, 2) := by decide +kernel
theorem dX5_firstFit_31 : decode cX5_firstFit 31 = .ok (.iconst 0, 1) := by decide +kernel
theorem dX5_firstFit_32 : decode cX5_firstFit 32 = .ok (.istore 5, 2) := by decide +kernel
theorem dX5_firstFit_34 : decode cX5_firstFit 34 = .ok (.iload 5, 2) := by decide +kernel
theorem dX5_firstFit_36 : decode cX5_firstFit 36 = .ok (.iload_n 2, 1) := by decide +kernel
theorem dX5_firstFit_37 : decode cX5_firstFit 37 = .ok (.if_icmp .ge 23, 3) := by decide +kernel
theorem dX5_firstFit_40 : decode cX5_firstFit 40 = .ok (.aload_n 0, 1) := by decide +kernel
theorem dX5_firstFit_41 : decode cX5_firstFit 41 = .ok (.getfield 9, 3) := by decide +kernel
theorem dX5_firstFit_44 : decode cX5_firstFit 44 = .ok (.iload 5, 2) := by decide +kernel
theorem dX5_firstFit_46 : decode cX5_firstFit 46 = .ok (.iaload, 1) := by decide +kernel
theorem dX5_firstFit_47 : decode cX5_firstFit 47 = .ok (.iload 4, 2) := by decide +kernel
theorem dX5_firstFit_49 : decode cX5_firstFit 49 = .ok (.iadd, 1) := by decide +kernel
theorem dX5_firstFit_50 : decode cX5_firstFit 50 = .ok (.iload_n 1, 1) := by decide +kernel
theorem dX5_firstFit_51 : decode cX5_firstFit 51 = .ok (.if_icmp .le 9, 3) := by decide +kernel
theorem dX5_firstFit_54 : decode cX5_firstFit 54 = .ok (.iinc 5 1, 3) := by decide +kernel
theorem dX5_firstFit_57 : decode cX5_firstFit 57 = .ok (.goto (-23), 3) := by decide +kernel
theorem dX5_firstFit_60 : decode cX5_firstFit 60 = .ok (.iload 5, 2) := by decide +kernel
theorem dX5_firstFit_62 : decode cX5_firstFit 62 = .ok (.iload_n 2, 1) := by decide +kernel
theorem dX5_firstFit_63 : decode cX5_firstFit 63 = .ok (.if_icmp .ne 19, 3) := by decide +kernel
theorem dX5_firstFit_66 : decode cX5_firstFit 66 = .ok (.iload_n 2, 1) := by decide +kernel
theorem dX5_firstFit_67 : decode cX5_firstFit 67 = .ok (.bipush 10, 2) := by decide +kernel
theorem dX5_firstFit_69 : decode cX5_firstFit 69 = .ok (.if_icmp .ge 13, 3) := by decide +kernel
theorem dX5_firstFit_72 : decode cX5_firstFit 72 = .ok (.aload_n 0, 1) := by decide +kernel
theorem dX5_firstFit_73 : decode cX5_firstFit 73 = .ok (.getfield 9, 3) := by decide +kernel
theorem dX5_firstFit_76 : decode cX5_firstFit 76 = .ok (.iload_n 2, 1) := by decide +kernel
theorem dX5_firstFit_77 : decode cX5_firstFit 77 = .ok (.iconst 0, 1) := by decide +kernel
theorem dX5_firstFit_78 : decode cX5_firstFit 78 = .ok (.iastore, 1) := by decide +kernel
theorem dX5_firstFit_79 : decode cX5_firstFit 79 = .ok (.iinc 2 1, 3) := by decide +kernel
theorem dX5_firstFit_82 : decode cX5_firstFit 82 = .ok (.iload 5, 2) := by decide +kernel
theorem dX5_firstFit_84 : decode cX5_firstFit 84 = .ok (.bipush 10, 2) := by decide +kernel
theorem dX5_firstFit_86 : decode cX5_firstFit 86 = .ok (.if_icmp .ge 15, 3) := by decide +kernel
theorem dX5_firstFit_89 : decode cX5_firstFit 89 = .ok (.aload_n 0, 1) := by decide +kernel
theorem dX5_firstFit_90 : decode cX5_firstFit 90 = .ok (.getfield 9, 3) := by decide +kernel
theorem dX5_firstFit_93 : decode cX5_firstFit 93 = .ok (.iload 5, 2) := by decide +kernel
theorem dX5_firstFit_95 : decode cX5_firstFit 95 = .ok (.dup2, 1) := by decide +kernel
theorem dX5_firstFit_96 : decode cX5_firstFit 96 = .ok (.iaload, 1) := by decide +kernel
theorem dX5_firstFit_97 : decode cX5_firstFit 97 = .ok (.iload 4, 2) := by decide +kernel
theorem dX5_firstFit_99 : decode cX5_firstFit 99 = .ok (.iadd, 1) := by decide +kernel
theorem dX5_firstFit_100 : decode cX5_firstFit 100 = .ok (.iastore, 1) := by decide +kernel
theorem dX5_firstFit_101 : decode cX5_firstFit 101 = .ok (.iinc 3 1, 3) := by decide +kernel
theorem dX5_firstFit_104 : decode cX5_firstFit 104 = .ok (.goto (-100), 3) := by decide +kernel
theorem dX5_firstFit_107 : decode cX5_firstFit 107 = .ok (.iload_n 2, 1) := by decide +kernel
theorem dX5_firstFit_108 : decode cX5_firstFit 108 = .ok (.ireturn, 1) := by decide +kernel
def f_X5_firstFit_82  (k4 : Int32 × Int32 × Int32 × zHp → Option (Int32 × zHp)) (v1 : Int32) (v2 : Int32) (v3 : Int32) (v4 : Int32) (v5 : Int32) (h : zHp) : Option (Int32 × zHp) := (if v5 < (10 : Int32) then zix v5 10 (zix v5 10 (zlt (zst h 162 v5.toNatClampNeg ((h 162 v5.toNatClampNeg) + v4)) fun h1 => k4 (v1, v2, (v3 + (1 : Int32)), h1))) else k4 (v1, v2, (v3 + (1 : Int32)), h))
set_option maxHeartbeats 4000000 in
set_option maxRecDepth 100000 in
theorem f_X5_firstFit_82_s  (k4 : Int32 × Int32 × Int32 × zHp → Option (Int32 × zHp)) (H4 : ∀ v : Int32 × Int32 × Int32 × zHp, Sim wX mX5_firstFit 1 rI 4 [(0, .ref 161), (1, .int v.1), (2, .int v.2.1), (3, .int v.2.2.1)] [] v.2.2.2 (k4 v)) (v1 : Int32) (v2 : Int32) (v3 : Int32) (v4 : Int32) (v5 : Int32) (h : zHp) : Sim wX mX5_firstFit 1 rI 82 [(0, .ref 161), (1, .int v1), (2, .int v2), (3, .int v3), (4, .int v4), (5, .int v5)] [] h (f_X5_firstFit_82 k4 v1 v2 v3 v4 v5 h) := by
  unfold f_X5_firstFit_82
  refine Sim.iload 5 dX5_firstFit_82 rfl ?_
  refine Sim.bipush (v := (10 : Int32)) dX5_firstFit_84 rfl ?_
  refine Sim.icmp_ge 101 dX5_firstFit_86 rfl ?_ ?_
  · refine Sim.aload_n 0 dX5_firstFit_89 rfl ?_
    refine Sim.getR (j := 162) fl_X5_9 dX5_firstFit_90 xR_161_1 ?_
    refine Sim.iload 5 dX5_firstFit_93 rfl ?_
    refine Sim.dup2 dX5_firstFit_95 rfl rfl ?_
    refine Sim.iald (n := 10) dX5_firstFit_96 xA_162 ?_
    refine Sim.iload 4 dX5_firstFit_97 rfl ?_
    refine Sim.iadd dX5_firstFit_99 ?_
    refine Sim.iast (n := 10) dX5_firstFit_100 xA_162 ?_
    refine Sim.lth (fun h1 => ?_)
    refine Sim.iinc (L' := [(3, .int (v3 + (1 : Int32))), (0, .ref 161), (1, .int v1), (2, .int v2), (4, .int v4), (5, .int v5)]) 3 dX5_firstFit_101 rfl rfl (Nat.le_of_ble_eq_true rfl) rfl ?_
    refine Sim.goto 4 dX5_firstFit_104 rfl ?_
    refine Sim.locs [1, 2, 3, 0] rfl ?_
    exact H4 (v1, v2, (v3 + (1 : Int32)), h1)
  · refine Sim.iinc (L' := [(3, .int (v3 + (1 : Int32))), (0, .ref 161), (1, .int v1), (2, .int v2), (4, .int v4), (5, .int v5)]) 3 dX5_firstFit_101 rfl rfl (Nat.le_of_ble_eq_true rfl) rfl ?_
    refine Sim.goto 4 dX5_firstFit_104 rfl ?_
    refine Sim.locs [1, 2, 3, 0] rfl ?_
    exact H4 (v1, v2, (v3 + (1 : Int32)), h)
def f_X5_firstFit_60  (k4 : Int32 × Int32 × Int32 × zHp → Option (Int32 × zHp)) (v1 : Int32) (v2 : Int32) (v3 : Int32) (v4 : Int32) (v5 : Int32) (h : zHp) : Option (Int32 × zHp) := (if v5 = v2 then (if v2 < (10 : Int32) then zix v2 10 (zlt (zst h 162 v2.toNatClampNeg (0 : Int32)) fun h1 => f_X5_firstFit_82 k4 v1 (v2 + (1 : Int32)) v3 v4 v5 h1) else f_X5_firstFit_82 k4 v1 v2 v3 v4 v5 h) else f_X5_firstFit_82 k4 v1 v2 v3 v4 v5 h)
set_option maxHeartbeats 4000000 in
set_option maxRecDepth 100000 in
theorem f_X5_firstFit_60_s  (k4 : Int32 × Int32 × Int32 × zHp → Option (Int32 × zHp)) (H4 : ∀ v : Int32 × Int32 × Int32 × zHp, Sim wX mX5_firstFit 1 rI 4 [(0, .ref 161), (1, .int v.1), (2, .int v.2.1), (3, .int v.2.2.1)] [] v.2.2.2 (k4 v)) (v1 : Int32) (v2 : Int32) (v3 : Int32) (v4 : Int32) (v5 : Int32) (h : zHp) : Sim wX mX5_firstFit 1 rI 60 [(0, .ref 161), (1, .int v1), (2, .int v2), (3, .int v3), (4, .int v4), (5, .int v5)] [] h (f_X5_firstFit_60 k4 v1 v2 v3 v4 v5 h) := by
  unfold f_X5_firstFit_60
  refine Sim.iload 5 dX5_firstFit_60 rfl ?_
  refine Sim.iload_n 2 dX5_firstFit_62 rfl ?_
  refine Sim.icmp_ne 82 dX5_firstFit_63 rfl ?_ ?_
  · refine Sim.iload_n 2 dX5_firstFit_66 rfl ?_
    refine Sim.bipush (v := (10 : Int32)) dX5_firstFit_67 rfl ?_
    refine Sim.icmp_ge 82 dX5_firstFit_69 rfl ?_ ?_
    · refine Sim.aload_n 0 dX5_firstFit_72 rfl ?_
      refine Sim.getR (j := 162) fl_X5_9 dX5_firstFit_73 xR_161_1 ?_
      refine Sim.iload_n 2 dX5_firstFit_76 rfl ?_
      refine Sim.iconst (v := (0 : Int32)) dX5_firstFit_77 rfl ?_
      refine Sim.iast (n := 10) dX5_firstFit_78 xA_162 ?_
      refine Sim.lth (fun h1 => ?_)
      refine Sim.iinc (L' := [(2, .int (v2 + (1 : Int32))), (0, .ref 161), (1, .int v1), (3, .int v3), (4, .int v4), (5, .int v5)]) 2 dX5_firstFit_79 rfl rfl (Nat.le_of_ble_eq_true rfl) rfl ?_
      refine Sim.locs [1, 2, 0, 3, 4, 5] rfl ?_
      exact f_X5_firstFit_82_s k4 H4 v1 (v2 + (1 : Int32)) v3 v4 v5 h1
    · exact f_X5_firstFit_82_s k4 H4 v1 v2 v3 v4 v5 h
  · exact f_X5_firstFit_82_s k4 H4 v1 v2 v3 v4 v5 h
def f_X5_firstFit_34  (k4 : Int32 × Int32 × Int32 × zHp → Option (Int32 × zHp)) (k34 : Int32 × Int32 × Int32 × Int32 × Int32 × zHp → Option (Int32 × zHp)) (v1 : Int32) (v2 : Int32) (v3 : Int32) (v4 : Int32) (v5 : Int32) (h : zHp) : Option (Int32 × zHp) := (if v5 < v2 then zix v5 10 ((if v1 < ((h 162 v5.toNatClampNeg) + v4) then k34 (v1, v2, v3, v4, (v5 + (1 : Int32)), h) else f_X5_firstFit_60 k4 v1 v2 v3 v4 v5 h)) else f_X5_firstFit_60 k4 v1 v2 v3 v4 v5 h)
set_option maxHeartbeats 4000000 in
set_option maxRecDepth 100000 in
theorem f_X5_firstFit_34_s  (k4 : Int32 × Int32 × Int32 × zHp → Option (Int32 × zHp)) (H4 : ∀ v : Int32 × Int32 × Int32 × zHp, Sim wX mX5_firstFit 1 rI 4 [(0, .ref 161), (1, .int v.1), (2, .int v.2.1), (3, .int v.2.2.1)] [] v.2.2.2 (k4 v)) (k34 : Int32 × Int32 × Int32 × Int32 × Int32 × zHp → Option (Int32 × zHp)) (H34 : ∀ v : Int32 × Int32 × Int32 × Int32 × Int32 × zHp, Sim wX mX5_firstFit 1 rI 34 [(0, .ref 161), (1, .int v.1), (2, .int v.2.1), (3, .int v.2.2.1), (4, .int v.2.2.2.1), (5, .int v.2.2.2.2.1)] [] v.2.2.2.2.2 (k34 v)) (v1 : Int32) (v2 : Int32) (v3 : Int32) (v4 : Int32) (v5 : Int32) (h : zHp) : Sim wX mX5_firstFit 1 rI 34 [(0, .ref 161), (1, .int v1), (2, .int v2), (3, .int v3), (4, .int v4), (5, .int v5)] [] h (f_X5_firstFit_34 k4 k34 v1 v2 v3 v4 v5 h) := by
  unfold f_X5_firstFit_34
  refine Sim.iload 5 dX5_firstFit_34 rfl ?_
  refine Sim.iload_n 2 dX5_firstFit_36 rfl ?_
  refine Sim.icmp_ge 60 dX5_firstFit_37 rfl ?_ ?_
  · refine Sim.aload_n 0 dX5_firstFit_40 rfl ?_
    refine Sim.getR (j := 162) fl_X5_9 dX5_firstFit_41 xR_161_1 ?_
    refine Sim.iload 5 dX5_firstFit_44 rfl ?_
    refine Sim.iald (n := 10) dX5_firstFit_46 xA_162 ?_
    refine Sim.iload 4 dX5_firstFit_47 rfl ?_
    refine Sim.iadd dX5_firstFit_49 ?_
    refine Sim.iload_n 1 dX5_firstFit_50 rfl ?_
    refine Sim.icmp_le 60 dX5_firstFit_51 rfl ?_ ?_
    · refine Sim.iinc (L' := [(5, .int (v5 + (1 : Int32))), (0, .ref 161), (1, .int v1), (2, .int v2), (3, .int v3), (4, .int v4)]) 5 dX5_firstFit_54 rfl rfl (Nat.le_of_ble_eq_true rfl) rfl ?_
      refine Sim.goto 34 dX5_firstFit_57 rfl ?_
      refine Sim.locs [1, 2, 3, 4, 5, 0] rfl ?_
      exact H34 (v1, v2, v3, v4, (v5 + (1 : Int32)), h)
    · exact f_X5_firstFit_60_s k4 H4 v1 v2 v3 v4 v5 h
  · exact f_X5_firstFit_60_s k4 H4 v1 v2 v3 v4 v5 h
def f_X5_firstFit_34_lp  (k4 : Int32 × Int32 × Int32 × zHp → Option (Int32 × zHp)) (n : Nat) (v : Int32 × Int32 × Int32 × Int32 × Int32 × zHp) : Option (Int32 × zHp) := zlp (fun k34 v => f_X5_firstFit_34 k4 k34 v.1 v.2.1 v.2.2.1 v.2.2.2.1 v.2.2.2.2.1 v.2.2.2.2.2) n v
theorem f_X5_firstFit_34_ls  (k4 : Int32 × Int32 × Int32 × zHp → Option (Int32 × zHp)) (H4 : ∀ v : Int32 × Int32 × Int32 × zHp, Sim wX mX5_firstFit 1 rI 4 [(0, .ref 161), (1, .int v.1), (2, .int v.2.1), (3, .int v.2.2.1)] [] v.2.2.2 (k4 v)) (n : Nat) (v : Int32 × Int32 × Int32 × Int32 × Int32 × zHp) : Sim wX mX5_firstFit 1 rI 34 [(0, .ref 161), (1, .int v.1), (2, .int v.2.1), (3, .int v.2.2.1), (4, .int v.2.2.2.1), (5, .int v.2.2.2.2.1)] [] v.2.2.2.2.2 (f_X5_firstFit_34_lp k4 n v) :=
  Sim.lp (V := Int32 × Int32 × Int32 × Int32 × Int32 × zHp) (Lf := fun v => [(0, .ref 161), (1, .int v.1), (2, .int v.2.1), (3, .int v.2.2.1), (4, .int v.2.2.2.1), (5, .int v.2.2.2.2.1)]) (sf := fun v => []) (hf := fun v => v.2.2.2.2.2) (fun k34 H34 v => f_X5_firstFit_34_s k4 H4 k34 H34 v.1 v.2.1 v.2.2.1 v.2.2.2.1 v.2.2.2.2.1 v.2.2.2.2.2) n v
def f_X5_firstFit_4  (k4 : Int32 × Int32 × Int32 × zHp → Option (Int32 × zHp)) (v1 : Int32) (v2 : Int32) (v3 : Int32) (h : zHp) : Option (Int32 × zHp) := (if v3 < (h 33 1) then (f_X7_get 33 v3 h).bind fun x1 => f_X5_firstFit_34_lp k4 zN (v1, v2, v3, x1.1, (0 : Int32), x1.2) else some (v2, h))
set_option maxHeartbeats 4000000 in
set_option maxRecDepth 100000 in
theorem f_X5_firstFit_4_s  (k4 : Int32 × Int32 × Int32 × zHp → Option (Int32 × zHp)) (H4 : ∀ v : Int32 × Int32 × Int32 × zHp, Sim wX mX5_firstFit 1 rI 4 [(0, .ref 161), (1, .int v.1), (2, .int v.2.1), (3, .int v.2.2.1)] [] v.2.2.2 (k4 v)) (v1 : Int32) (v2 : Int32) (v3 : Int32) (h : zHp) : Sim wX mX5_firstFit 1 rI 4 [(0, .ref 161), (1, .int v1), (2, .int v2), (3, .int v3)] [] h (f_X5_firstFit_4 k4 v1 v2 v3 h) := by
  unfold f_X5_firstFit_4
  refine Sim.iload_n 3 dX5_firstFit_4 rfl ?_
  refine Sim.aload_n 0 dX5_firstFit_5 rfl ?_
  refine Sim.getR (j := 26) fl_X5_24 dX5_firstFit_6 xR_161_0 ?_
  refine Sim.getR (j := 33) fl_X5_86 dX5_firstFit_9 (xR_X8_3 _ xL_X8_26) ?_
  refine Sim.getI fl_X5_34 dX5_firstFit_12 (xI_X7_1 _ xL_X7_33) ?_
  refine Sim.icmp_ge 107 dX5_firstFit_15 rfl ?_ ?_
  · refine Sim.aload_n 0 dX5_firstFit_18 rfl ?_
    refine Sim.getR (j := 26) fl_X5_24 dX5_firstFit_19 xR_161_0 ?_
    refine Sim.getR (j := 33) fl_X5_86 dX5_firstFit_22 (xR_X8_3 _ xL_X8_26) ?_
    refine Sim.iload_n 3 dX5_firstFit_25 rfl ?_
    refine Sim.callV1I (d1 := 0) (s_X7_get 33 xL_X7_33 v3 h) dX5_firstFit_26 ml_X5_40 mv_X7_get (xOC_X7 _ xL_X7_33) (Nat.le_of_ble_eq_true rfl) (Nat.le_of_ble_eq_true rfl) (Nat.le_of_ble_eq_true rfl) (fun x1 => ?_)
    refine Sim.istore (L' := [(4, .int x1.1), (0, .ref 161), (1, .int v1), (2, .int v2), (3, .int v3)]) dX5_firstFit_29 (Nat.le_of_ble_eq_true rfl) rfl ?_
    refine Sim.iconst (v := (0 : Int32)) dX5_firstFit_31 rfl ?_
    refine Sim.istore (L' := [(5, .int (0 : Int32)), (4, .int x1.1), (0, .ref 161), (1, .int v1), (2, .int v2), (3, .int v3)]) dX5_firstFit_32 (Nat.le_of_ble_eq_true rfl) rfl ?_
    refine Sim.locs [2, 3, 4, 5, 1, 0] rfl ?_
    exact f_X5_firstFit_34_ls k4 H4 zN (v1, v2, v3, x1.1, (0 : Int32), x1.2)
  · refine Sim.iload_n 2 dX5_firstFit_107 rfl ?_
    exact Sim.iret dX5_firstFit_108 rfl
def f_X5_firstFit_4_lp   (n : Nat) (v : Int32 × Int32 × Int32 × zHp) : Option (Int32 × zHp) := zlp (fun k4 v => f_X5_firstFit_4 k4 v.1 v.2.1 v.2.2.1 v.2.2.2) n v
theorem f_X5_firstFit_4_ls  (n : Nat) (v : Int32 × Int32 × Int32 × zHp) : Sim wX mX5_firstFit 1 rI 4 [(0, .ref 161), (1, .int v.1), (2, .int v.2.1), (3, .int v.2.2.1)] [] v.2.2.2 (f_X5_firstFit_4_lp n v) :=
  Sim.lp (V := Int32 × Int32 × Int32 × zHp) (Lf := fun v => [(0, .ref 161), (1, .int v.1), (2, .int v.2.1), (3, .int v.2.2.1)]) (sf := fun v => []) (hf := fun v => v.2.2.2) (fun k4 H4 v => f_X5_firstFit_4_s k4 H4 v.1 v.2.1 v.2.2.1 v.2.2.2) n v
def f_X5_firstFit  (a1 : Int32) (h : zHp) : Option (Int32 × zHp) := f_X5_firstFit_4_lp  zN (a1, (0 : Int32), (0 : Int32), h)
set_option maxHeartbeats 4000000 in
set_option maxRecDepth 100000 in
theorem s_X5_firstFit  (a1 : Int32) (h : zHp) : Fn wX mX5_firstFit 1 rI [.ref 161, .int a1] h (f_X5_firstFit a1 h) := by
  refine Fn.of rfl (Nat.le_of_ble_eq_true rfl) ?_
  unfold f_X5_firstFit
  refine Sim.iconst (v := (0 : Int32)) dX5_firstFit_0 rfl ?_
  refine Sim.istore_n (L' := [(2, .int (0 : Int32)), (0, .ref 161), (1, .int a1)]) dX5_firstFit_1 (Nat.le_of_ble_eq_true rfl) rfl ?_
  refine Sim.iconst (v := (0 : Int32)) dX5_firstFit_2 rfl ?_
  refine Sim.istore_n (L' := [(3, .int (0 : Int32)), (2, .int (0 : Int32)), (0, .ref 161), (1, .int a1)]) dX5_firstFit_3 (Nat.le_of_ble_eq_true rfl) rfl ?_
  refine Sim.locs [2, 3, 1, 0] rfl ?_
  exact f_X5_firstFit_4_ls  zN (a1, (0 : Int32), (0 : Int32), h)
theorem mv_X5_firstFit : zMV mX5_firstFit 1 := ⟨⟨zTb_in 1167 (by decide +kernel) rfl, zTb_in 147 (by decide +kernel) rfl, ⟨by decide +kernel, by decide +kernel⟩, by decide +kernel⟩, zTb_in 1165 (by decide +kernel) rfl, zTb_in 1166 (by decide +kernel) rfl⟩
-- ===== RockingPorch$Puzzles.packed(III)I
abbrev mX5_packed : zMt := (yX5_packed, cX5_packed, 4, some .int)
theorem dX5_packed_0 : decode cX5_packed 0 = .ok (.iload_n 0, 1) := by decide +kernel
theorem dX5_packed_1 : decode cX5_packed 1 = .ok (.bipush 100, 2) := by decide +kernel
theorem dX5_packed_3 : decode cX5_packed 3 = .ok (.if_icmp .lt 17, 3) := by decide +kernel
theorem dX5_packed_6 : decode cX5_packed 6 = .ok (.iload_n 0, 1) := by decide +kernel
theorem dX5_packed_7 : decode cX5_packed 7 = .ok (.bipush 100, 2) := by decide +kernel
theorem dX5_packed_9 : decode cX5_packed 9 = .ok (.irem, 1) := by decide +kernel
theorem dX5_packed_10 : decode cX5_packed 10 = .ok (.iload_n 1, 1) := by decide +kernel
theorem dX5_packed_11 : decode cX5_packed 11 = .ok (.iadd, 1) := by decide +kernel
theorem dX5_packed_12 : decode cX5_packed 12 = .ok (.iload_n 2, 1) := by decide +kernel
theorem dX5_packed_13 : decode cX5_packed 13 = .ok (.if_icmp .gt 7, 3) := by decide +kernel
theorem dX5_packed_16 : decode cX5_packed 16 = .ok (.iconst 1, 1) := by decide +kernel
theorem dX5_packed_17 : decode cX5_packed 17 = .ok (.goto 4, 3) := by decide +kernel
theorem dX5_packed_20 : decode cX5_packed 20 = .ok (.iconst 0, 1) := by decide +kernel
theorem dX5_packed_21 : decode cX5_packed 21 = .ok (.istore_n 3, 1) := by decide +kernel
theorem dX5_packed_22 : decode cX5_packed 22 = .ok (.iload_n 3, 1) := by decide +kernel
theorem dX5_packed_23 : decode cX5_packed 23 = .ok (.ifCond .eq 9, 3) := by decide +kernel
theorem dX5_packed_26 : decode cX5_packed 26 = .ok (.iload_n 0, 1) := by decide +kernel
theorem dX5_packed_27 : decode cX5_packed 27 = .ok (.iload_n 1, 1) := by decide +kernel
theorem dX5_packed_28 : decode cX5_packed 28 = .ok (.iadd, 1) := by decide +kernel
theorem dX5_packed_29 : decode cX5_packed 29 = .ok (.goto 14, 3) := by decide +kernel
theorem dX5_packed_32 : decode cX5_packed 32 = .ok (.iload_n 0, 1) := by decide +kernel
theorem dX5_packed_33 : decode cX5_packed 33 = .ok (.bipush 100, 2) := by decide +kernel
theorem dX5_packed_35 : decode cX5_packed 35 = .ok (.idiv, 1) := by decide +kernel
theorem dX5_packed_36 : decode cX5_packed 36 = .ok (.iconst 1, 1) := by decide +kernel
theorem dX5_packed_37 : decode cX5_packed 37 = .ok (.iadd, 1) := by decide +kernel
theorem dX5_packed_38 : decode cX5_packed 38 = .ok (.bipush 100, 2) := by decide +kernel
theorem dX5_packed_40 : decode cX5_packed 40 = .ok (.imul, 1) := by decide +kernel
theorem dX5_packed_41 : decode cX5_packed 41 = .ok (.iload_n 1, 1) := by decide +kernel
theorem dX5_packed_42 : decode cX5_packed 42 = .ok (.iadd, 1) := by decide +kernel
theorem dX5_packed_43 : decode cX5_packed 43 = .ok (.ireturn, 1) := by decide +kernel
def f_X5_packed_21   (v0 : Int32) (v1 : Int32) (s0 : Int32) (h : zHp) : Option (Int32 × zHp) := (if s0 = 0 then some (((((v0 / (100 : Int32)) + (1 : Int32)) * (100 : Int32)) + v1), h) else some ((v0 + v1), h))
set_option maxHeartbeats 4000000 in
set_option maxRecDepth 100000 in
theorem f_X5_packed_21_s  (v0 : Int32) (v1 : Int32) (s0 : Int32) (h : zHp) : Sim wX mX5_packed 0 rI 21 [(0, .int v0), (1, .int v1)] [.int s0] h (f_X5_packed_21 v0 v1 s0 h) := by
  unfold f_X5_packed_21
  refine Sim.istore_n (L' := [(3, .int s0), (0, .int v0), (1, .int v1)]) dX5_packed_21 (Nat.le_of_ble_eq_true rfl) rfl ?_
  refine Sim.iload_n 0 dX5_packed_22 rfl ?_
  refine Sim.if_eq 32 dX5_packed_23 rfl ?_ ?_
  · refine Sim.iload_n 1 dX5_packed_32 rfl ?_
    refine Sim.bipush (v := (100 : Int32)) dX5_packed_33 rfl ?_
    refine Sim.idivL dX5_packed_35 (by decide) ?_
    refine Sim.iconst (v := (1 : Int32)) dX5_packed_36 rfl ?_
    refine Sim.iadd dX5_packed_37 ?_
    refine Sim.bipush (v := (100 : Int32)) dX5_packed_38 rfl ?_
    refine Sim.imul dX5_packed_40 ?_
    refine Sim.iload_n 2 dX5_packed_41 rfl ?_
    refine Sim.iadd dX5_packed_42 ?_
    exact Sim.iret dX5_packed_43 rfl
  · refine Sim.iload_n 1 dX5_packed_26 rfl ?_
    refine Sim.iload_n 2 dX5_packed_27 rfl ?_
    refine Sim.iadd dX5_packed_28 ?_
    refine Sim.goto 43 dX5_packed_29 rfl ?_
    exact Sim.iret dX5_packed_43 rfl
def f_X5_packed  (a1 : Int32) (a2 : Int32) (a3 : Int32) (h : zHp) : Option (Int32 × zHp) := (if a1 < (100 : Int32) then f_X5_packed_21 a1 a2 (0 : Int32) h else (if a3 < ((a1 - a1 / (100 : Int32) * (100 : Int32)) + a2) then f_X5_packed_21 a1 a2 (0 : Int32) h else f_X5_packed_21 a1 a2 (1 : Int32) h))
set_option maxHeartbeats 4000000 in
set_option maxRecDepth 100000 in
theorem s_X5_packed  (a1 : Int32) (a2 : Int32) (a3 : Int32) (h : zHp) : Fn wX mX5_packed 0 rI [.int a1, .int a2, .int a3] h (f_X5_packed a1 a2 a3 h) := by
  refine Fn.of rfl (Nat.le_of_ble_eq_true rfl) ?_
  unfold f_X5_packed
  refine Sim.iload_n 0 dX5_packed_0 rfl ?_
  refine Sim.bipush (v := (100 : Int32)) dX5_packed_1 rfl ?_
  refine Sim.icmp_lt 20 dX5_packed_3 rfl ?_ ?_
  · refine Sim.iconst (v := (0 : Int32)) dX5_packed_20 rfl ?_
    refine Sim.locs [0, 1] rfl ?_
    exact f_X5_packed_21_s a1 a2 (0 : Int32) h
  · refine Sim.iload_n 0 dX5_packed_6 rfl ?_
    refine Sim.bipush (v := (100 : Int32)) dX5_packed_7 rfl ?_
    refine Sim.iremL dX5_packed_9 (by decide) ?_
    refine Sim.iload_n 1 dX5_packed_10 rfl ?_
    refine Sim.iadd dX5_packed_11 ?_
    refine Sim.iload_n 2 dX5_packed_12 rfl ?_
    refine Sim.icmp_gt 20 dX5_packed_13 rfl ?_ ?_
    · refine Sim.iconst (v := (0 : Int32)) dX5_packed_20 rfl ?_
      refine Sim.locs [0, 1] rfl ?_
      exact f_X5_packed_21_s a1 a2 (0 : Int32) h
    · refine Sim.iconst (v := (1 : Int32)) dX5_packed_16 rfl ?_
      refine Sim.goto 21 dX5_packed_17 rfl ?_
      refine Sim.locs [0, 1] rfl ?_
      exact f_X5_packed_21_s a1 a2 (1 : Int32) h
theorem mv_X5_packed : zMS mX5_packed 3 := ⟨⟨zTb_in 1174 (by decide +kernel) rfl, zTb_in 147 (by decide +kernel) rfl, ⟨by decide +kernel, by decide +kernel⟩, by decide +kernel⟩, zTb_in 1173 (by decide +kernel) rfl⟩
-- ===== RockingPorch$Puzzles.fewestTrunks(I)I
abbrev mX5_fewestTrunks : zMt := (yX5_fewestTrunks, cX5_fewestTrunks, 6, some .int)
theorem fl_X5_21 : zF RX5 21 5 4 := ⟨RX5, TX5, 5, rfl, Nat.le_of_ble_eq_true rfl, zTb_in 501 (by decide +kernel) rfl, in_X5⟩
theorem ml_X5_89 : Cond.methodLink RX5 89 yX5_packed ∈ zTb := zTb_in 1172 (by decide +kernel) rfl
theorem dX5_fewestTrunks_0 : decode cX5_fewestTrunks 0 = .ok (.iconst 1, 1) := by decide +kernel
theorem dX5_fewestTrunks_1 : decode cX5_fewestTrunks 1 = .ok (.aload_n 0, 1) := by decide +kernel
theorem dX5_fewestTrunks_2 : decode cX5_fewestTrunks 2 = .ok (.getfield 24, 3) := by decide +kernel
theorem dX5_fewestTrunks_5 : decode cX5_fewestTrunks 5 = .ok (.getfield 86, 3) := by decide +kernel
theorem dX5_fewestTrunks_8 : decode cX5_fewestTrunks 8 = .ok (.getfield 34, 3) := by decide +kernel
theorem dX5_fewestTrunks_11 : decode cX5_fewestTrunks 11 = .ok (.ishl, 1) := by decide +kernel
theorem dX5_fewestTrunks_12 : decode cX5_fewestTrunks 12 = .ok (.iconst 1, 1) := by decide +kernel
theorem dX5_fewestTrunks_13 : decode cX5_fewestTrunks 13 = .ok (.isub, 1) := by decide +kernel
theorem dX5_fewestTrunks_14 : decode cX5_fewestTrunks 14 = .ok (.istore_n 2, 1) := by decide +kernel
theorem dX5_fewestTrunks_15 : decode cX5_fewestTrunks 15 = .ok (.aload_n 0, 1) := by decide +kernel
theorem dX5_fewestTrunks_16 : decode cX5_fewestTrunks 16 = .ok (.getfield 21, 3) := by decide +kernel
theorem dX5_fewestTrunks_19 : decode cX5_fewestTrunks 19 = .ok (.iconst 0, 1) := by decide +kernel
theorem dX5_fewestTrunks_20 : decode cX5_fewestTrunks 20 = .ok (.iconst 0, 1) := by decide +kernel
theorem dX5_fewestTrunks_21 : decode cX5_fewestTrunks 21 = .ok (.iastore, 1) := by decide +kernel
theorem dX5_fewestTrunks_22 : decode cX5_fewestTrunks 22 = .ok (.iconst 1, 1) := by decide +kernel
theorem dX5_fewestTrunks_23 : decode cX5_fewestTrunks 23 = .ok (.istore_n 3, 1) := by decide +kernel
theorem dX5_fewestTrunks_24 : decode cX5_fewestTrunks 24 = .ok (.iload_n 3, 1) := by decide +kernel
theorem dX5_fewestTrunks_25 : decode cX5_fewestTrunks 25 = .ok (.iload_n 2, 1) := by decide +kernel
theorem dX5_fewestTrunks_26 : decode cX5_fewestTrunks 26 = .ok (.if_icmp .gt 106, 3) := by decide +kernel
theorem dX5_fewestTrunks_29 : decode cX5_fewestTrunks 29 = .ok (.iload_n 3, 1) := by decide +kernel
theorem dX5_fewestTrunks_30 : decode cX5_fewestTrunks 30 = .ok (.aload_n 0, 1) := by decide +kernel
theorem dX5_fewestTrunks_31 : decode cX5_fewestTrunks 31 = .ok (.getfield 21, 3) := by decide +kernel
theorem dX5_fewestTrunks_34 : decode cX5_fewestTrunks 34 = .ok (.arraylength, 1) := by decide +kernel
theorem dX5_fewestTrunks_35 : decode cX5_fewestTrunks 35 = .ok (.if_icmp .ge 97, 3) := by decide +kernel
theorem dX5_fewestTrunks_38 : decode cX5_fewestTrunks 38 = .ok (.aload_n 0, 1) := by decide +kernel
theorem dX5_fewestTrunks_39 : decode cX5_fewestTrunks 39 = .ok (.getfield 21, 3) := by decide +kernel
theorem dX5_fewestTrunks_42 : decode cX5_fewestTrunks 42 = .ok (.iload_n 3, 1) := by decide +kernel
theorem dX5_fewestTrunks_43 : decode cX5_fewestTrunks 43 = .ok (.sipush 1000, 3) := by decide +kernel
theorem dX5_fewestTrunks_46 : decode cX5_fewestTrunks 46 = .ok (.iastore, 1) := by decide +kernel
theorem dX5_fewestTrunks_47 : decode cX5_fewestTrunks 47 = .ok (.iconst 0, 1) := by decide +kernel
theorem dX5_fewestTrunks_48 : decode cX5_fewestTrunks 48 = .ok (.istore 4, 2) := by decide +kernel
theorem dX5_fewestTrunks_50 : decode cX5_fewestTrunks 50 = .ok (.iload 4, 2) := by decide +kernel
theorem dX5_fewestTrunks_52 : decode cX5_fewestTrunks 52 = .ok (.aload_n 0, 1) := by decide +kernel
theorem dX5_fewestTrunks_53 : decode cX5_fewestTrunks 53 = .ok (.getfield 24, 3) := by decide +kernel
theorem dX5_fewestTrunks_56 : decode cX5_fewestTrunks 56 = .ok (.getfield 86, 3) := by decide +kernel
theorem dX5_fewestTrunks_59 : decode cX5_fewestTrunks 59 = .ok (.getfield 34, 3) := by decide +kernel
theorem dX5_fewestTrunks_62 : decode cX5_fewestTrunks 62 = .ok (.if_icmp .ge 64, 3) := by decide +kernel
theorem dX5_fewestTrunks_65 : decode cX5_fewestTrunks 65 = .ok (.iload_n 3, 1) := by decide +kernel
theorem dX5_fewestTrunks_66 : decode cX5_fewestTrunks 66 = .ok (.iconst 1, 1) := by decide +kernel
theorem dX5_fewestTrunks_67 : decode cX5_fewestTrunks 67 = .ok (.iload 4, 2) := by decide +kernel
theorem dX5_fewestTrunks_69 : decode cX5_fewestTrunks 69 = .ok (.ishl, 1) := by decide +kernel
theorem dX5_fewestTrunks_70 : decode cX5_fewestTrunks 70 = .ok (.iand, 1) := by decide +kernel
theorem dX5_fewestTrunks_71 : decode cX5_fewestTrunks 71 = .ok (.ifCond .eq 49, 3) := by decide +kernel
theorem dX5_fewestTrunks_74 : decode cX5_fewestTrunks 74 = .ok (.aload_n 0, 1) := by decide +kernel
theorem dX5_fewestTrunks_75 : decode cX5_fewestTrunks 75 = .ok (.getfield 21, 3) := by decide +kernel
theorem dX5_fewestTrunks_78 : decode cX5_fewestTrunks 78 = .ok (.iload_n 3, 1) := by decide +kernel
theorem dX5_fewestTrunks_79 : decode cX5_fewestTrunks 79 = .ok (.iconst 1, 1) := by decide +kernel
theorem dX5_fewestTrunks_80 : decode cX5_fewestTrunks 80 = .ok (.iload 4, 2) := by decide +kernel
theorem dX5_fewestTrunks_82 : decode cX5_fewestTrunks 82 = .ok (.ishl, 1) := by decide +kernel
theorem dX5_fewestTrunks_83 : decode cX5_fewestTrunks 83 = .ok (.ixor, 1) := by decide +kernel
theorem dX5_fewestTrunks_84 : decode cX5_fewestTrunks 84 = .ok (.iaload, 1) := by decide +kernel
theorem dX5_fewestTrunks_85 : decode cX5_fewestTrunks 85 = .ok (.aload_n 0, 1) := by decide +kernel
theorem dX5_fewestTrunks_86 : decode cX5_fewestTrunks 86 = .ok (.getfield 24, 3) := by decide +kernel
theorem dX5_fewestTrunks_89 : decode cX5_fewestTrunks 89 = .ok (.getfield 86, 3) := by decide +kernel
theorem dX5_fewestTrunks_92 : decode cX5_fewestTrunks 92 = .ok (.iload 4, 2) := by decide +kernel
theorem dX5_fewestTrunks_94 : decode cX5_fewestTrunks 94 = .ok (.invokevirtual 40, 3) := by decide +kernel
theorem dX5_fewestTrunks_97 : decode cX5_fewestTrunks 97 = .ok (.iload_n 1, 1) := by decide +kernel
theorem dX5_fewestTrunks_98 : decode cX5_fewestTrunks 98 = .ok (.invokestatic 89, 3) := by decide +kernel
theorem dX5_fewestTrunks_101 : decode cX5_fewestTrunks 101 = .ok (.istore 5, 2) := by decide +kernel
theorem dX5_fewestTrunks_103 : decode cX5_fewestTrunks 103 = .ok (.aload_n 0, 1) := by decide +kernel
theorem dX5_fewestTrunks_104 : decode cX5_fewestTrunks 104 = .ok (.getfield 21, 3) := by decide +kernel
theorem dX5_fewestTrunks_107 : decode cX5_fewestTrunks 107 = .ok (.iload_n 3, 1) := by decide +kernel
theorem dX5_fewestTrunks_108 : decode cX5_fewestTrunks 108 = .ok (.aload_n 0, 1) := by decide +kernel
theorem dX5_fewestTrunks_109 : decode cX5_fewestTrunks 109 = .ok (.getfield 21, 3) := by decide +kernel
theorem dX5_fewestTrunks_112 : decode cX5_fewestTrunks 112 = .ok (.iload_n 3, 1) := by decide +kernel
theorem dX5_fewestTrunks_113 : decode cX5_fewestTrunks 113 = .ok (.iaload, 1) := by decide +kernel
theorem dX5_fewestTrunks_114 : decode cX5_fewestTrunks 114 = .ok (.iload 5, 2) := by decide +kernel
theorem dX5_fewestTrunks_116 : decode cX5_fewestTrunks 116 = .ok (.invokestatic 71, 3) := by decide +kernel
theorem dX5_fewestTrunks_119 : decode cX5_fewestTrunks 119 = .ok (.iastore, 1) := by decide +kernel
theorem dX5_fewestTrunks_120 : decode cX5_fewestTrunks 120 = .ok (.iinc 4 1, 3) := by decide +kernel
theorem dX5_fewestTrunks_123 : decode cX5_fewestTrunks 123 = .ok (.goto (-73), 3) := by decide +kernel
theorem dX5_fewestTrunks_126 : decode cX5_fewestTrunks 126 = .ok (.iinc 3 1, 3) := by decide +kernel
theorem dX5_fewestTrunks_129 : decode cX5_fewestTrunks 129 = .ok (.goto (-105), 3) := by decide +kernel
theorem dX5_fewestTrunks_132 : decode cX5_fewestTrunks 132 = .ok (.iload_n 2, 1) := by decide +kernel
theorem dX5_fewestTrunks_133 : decode cX5_fewestTrunks 133 = .ok (.aload_n 0, 1) := by decide +kernel
theorem dX5_fewestTrunks_134 : decode cX5_fewestTrunks 134 = .ok (.getfield 21, 3) := by decide +kernel
theorem dX5_fewestTrunks_137 : decode cX5_fewestTrunks 137 = .ok (.arraylength, 1) := by decide +kernel
theorem dX5_fewestTrunks_138 : decode cX5_fewestTrunks 138 = .ok (.if_icmp .ge 15, 3) := by decide +kernel
theorem dX5_fewestTrunks_141 : decode cX5_fewestTrunks 141 = .ok (.aload_n 0, 1) := by decide +kernel
theorem dX5_fewestTrunks_142 : decode cX5_fewestTrunks 142 = .ok (.getfield 21, 3) := by decide +kernel
theorem dX5_fewestTrunks_145 : decode cX5_fewestTrunks 145 = .ok (.iload_n 2, 1) := by decide +kernel
theorem dX5_fewestTrunks_146 : decode cX5_fewestTrunks 146 = .ok (.iaload, 1) := by decide +kernel
theorem dX5_fewestTrunks_147 : decode cX5_fewestTrunks 147 = .ok (.bipush 100, 2) := by decide +kernel
theorem dX5_fewestTrunks_149 : decode cX5_fewestTrunks 149 = .ok (.idiv, 1) := by decide +kernel
theorem dX5_fewestTrunks_150 : decode cX5_fewestTrunks 150 = .ok (.goto 4, 3) := by decide +kernel
theorem dX5_fewestTrunks_153 : decode cX5_fewestTrunks 153 = .ok (.iconst (-1), 1) := by decide +kernel
theorem dX5_fewestTrunks_154 : decode cX5_fewestTrunks 154 = .ok (.ireturn, 1) := by decide +kernel
def f_X5_fewestTrunks_132   (v2 : Int32) (h : zHp) : Option (Int32 × zHp) := (if v2 < (Int32.ofNat 512) then zix v2 512 (some (((h 165 v2.toNatClampNeg) / (100 : Int32)), h)) else some ((-1 : Int32), h))
set_option maxHeartbeats 4000000 in
set_option maxRecDepth 100000 in
theorem f_X5_fewestTrunks_132_s  (v2 : Int32) (h : zHp) : Sim wX mX5_fewestTrunks 1 rI 132 [(0, .ref 161), (2, .int v2)] [] h (f_X5_fewestTrunks_132 v2 h) := by
  unfold f_X5_fewestTrunks_132
  refine Sim.iload_n 1 dX5_fewestTrunks_132 rfl ?_
  refine Sim.aload_n 0 dX5_fewestTrunks_133 rfl ?_
  refine Sim.getR (j := 165) fl_X5_21 dX5_fewestTrunks_134 xR_161_4 ?_
  refine Sim.alen (n := 512) dX5_fewestTrunks_137 xA_165 ?_
  refine Sim.icmp_ge 153 dX5_fewestTrunks_138 rfl ?_ ?_
  · refine Sim.aload_n 0 dX5_fewestTrunks_141 rfl ?_
    refine Sim.getR (j := 165) fl_X5_21 dX5_fewestTrunks_142 xR_161_4 ?_
    refine Sim.iload_n 1 dX5_fewestTrunks_145 rfl ?_
    refine Sim.iald (n := 512) dX5_fewestTrunks_146 xA_165 ?_
    refine Sim.bipush (v := (100 : Int32)) dX5_fewestTrunks_147 rfl ?_
    refine Sim.idivL dX5_fewestTrunks_149 (by decide) ?_
    refine Sim.goto 154 dX5_fewestTrunks_150 rfl ?_
    exact Sim.iret dX5_fewestTrunks_154 rfl
  · refine Sim.iconst (v := (-1 : Int32)) dX5_fewestTrunks_153 rfl ?_
    exact Sim.iret dX5_fewestTrunks_154 rfl
def f_X5_fewestTrunks_50  (k24 : Int32 × Int32 × Int32 × zHp → Option (Int32 × zHp)) (k50 : Int32 × Int32 × Int32 × Int32 × zHp → Option (Int32 × zHp)) (v1 : Int32) (v2 : Int32) (v3 : Int32) (v4 : Int32) (h : zHp) : Option (Int32 × zHp) := (if v4 < (h 33 1) then (if (v3 &&& ((1 : Int32) <<< (v4 &&& 31))) = 0 then k50 (v1, v2, v3, (v4 + (1 : Int32)), h) else zix (v3 ^^^ ((1 : Int32) <<< (v4 &&& 31))) 512 ((f_X7_get 33 v4 h).bind fun x1 => (f_X5_packed (h 165 (v3 ^^^ ((1 : Int32) <<< (v4 &&& 31))).toNatClampNeg) x1.1 v1 x1.2).bind fun x2 => zix v3 512 (zix v3 512 (zlt (zst x2.2 165 v3.toNatClampNeg (if x2.1 < (x2.2 165 v3.toNatClampNeg) then x2.1 else (x2.2 165 v3.toNatClampNeg))) fun h3 => k50 (v1, v2, v3, (v4 + (1 : Int32)), h3))))) else k24 (v1, v2, (v3 + (1 : Int32)), h))
set_option maxHeartbeats 4000000 in
set_option maxRecDepth 100000 in
theorem f_X5_fewestTrunks_50_s  (k24 : Int32 × Int32 × Int32 × zHp → Option (Int32 × zHp)) (H24 : ∀ v : Int32 × Int32 × Int32 × zHp, Sim wX mX5_fewestTrunks 1 rI 24 [(0, .ref 161), (1, .int v.1), (2, .int v.2.1), (3, .int v.2.2.1)] [] v.2.2.2 (k24 v)) (k50 : Int32 × Int32 × Int32 × Int32 × zHp → Option (Int32 × zHp)) (H50 : ∀ v : Int32 × Int32 × Int32 × Int32 × zHp, Sim wX mX5_fewestTrunks 1 rI 50 [(0, .ref 161), (1, .int v.1), (2, .int v.2.1), (3, .int v.2.2.1), (4, .int v.2.2.2.1)] [] v.2.2.2.2 (k50 v)) (v1 : Int32) (v2 : Int32) (v3 : Int32) (v4 : Int32) (h : zHp) : Sim wX mX5_fewestTrunks 1 rI 50 [(0, .ref 161), (1, .int v1), (2, .int v2), (3, .int v3), (4, .int v4)] [] h (f_X5_fewestTrunks_50 k24 k50 v1 v2 v3 v4 h) := by
  unfold f_X5_fewestTrunks_50
  refine Sim.iload 4 dX5_fewestTrunks_50 rfl ?_
  refine Sim.aload_n 0 dX5_fewestTrunks_52 rfl ?_
  refine Sim.getR (j := 26) fl_X5_24 dX5_fewestTrunks_53 xR_161_0 ?_
  refine Sim.getR (j := 33) fl_X5_86 dX5_fewestTrunks_56 (xR_X8_3 _ xL_X8_26) ?_
  refine Sim.getI fl_X5_34 dX5_fewestTrunks_59 (xI_X7_1 _ xL_X7_33) ?_
  refine Sim.icmp_ge 126 dX5_fewestTrunks_62 rfl ?_ ?_
  · refine Sim.iload_n 3 dX5_fewestTrunks_65 rfl ?_
    refine Sim.iconst (v := (1 : Int32)) dX5_fewestTrunks_66 rfl ?_
    refine Sim.iload 4 dX5_fewestTrunks_67 rfl ?_
    refine Sim.ishl dX5_fewestTrunks_69 ?_
    refine Sim.iand dX5_fewestTrunks_70 ?_
    refine Sim.if_eq 120 dX5_fewestTrunks_71 rfl ?_ ?_
    · refine Sim.iinc (L' := [(4, .int (v4 + (1 : Int32))), (0, .ref 161), (1, .int v1), (2, .int v2), (3, .int v3)]) 4 dX5_fewestTrunks_120 rfl rfl (Nat.le_of_ble_eq_true rfl) rfl ?_
      refine Sim.goto 50 dX5_fewestTrunks_123 rfl ?_
      refine Sim.locs [1, 2, 3, 4, 0] rfl ?_
      exact H50 (v1, v2, v3, (v4 + (1 : Int32)), h)
    · refine Sim.aload_n 0 dX5_fewestTrunks_74 rfl ?_
      refine Sim.getR (j := 165) fl_X5_21 dX5_fewestTrunks_75 xR_161_4 ?_
      refine Sim.iload_n 3 dX5_fewestTrunks_78 rfl ?_
      refine Sim.iconst (v := (1 : Int32)) dX5_fewestTrunks_79 rfl ?_
      refine Sim.iload 4 dX5_fewestTrunks_80 rfl ?_
      refine Sim.ishl dX5_fewestTrunks_82 ?_
      refine Sim.ixor dX5_fewestTrunks_83 ?_
      refine Sim.iald (n := 512) dX5_fewestTrunks_84 xA_165 ?_
      refine Sim.aload_n 0 dX5_fewestTrunks_85 rfl ?_
      refine Sim.getR (j := 26) fl_X5_24 dX5_fewestTrunks_86 xR_161_0 ?_
      refine Sim.getR (j := 33) fl_X5_86 dX5_fewestTrunks_89 (xR_X8_3 _ xL_X8_26) ?_
      refine Sim.iload 4 dX5_fewestTrunks_92 rfl ?_
      refine Sim.callV1I (d1 := 0) (s_X7_get 33 xL_X7_33 v4 h) dX5_fewestTrunks_94 ml_X5_40 mv_X7_get (xOC_X7 _ xL_X7_33) (Nat.le_of_ble_eq_true rfl) (Nat.le_of_ble_eq_true rfl) (Nat.le_of_ble_eq_true rfl) (fun x1 => ?_)
      refine Sim.iload_n 1 dX5_fewestTrunks_97 rfl ?_
      refine Sim.callS3I (d1 := 0) (s_X5_packed (h 165 (v3 ^^^ ((1 : Int32) <<< (v4 &&& 31))).toNatClampNeg) x1.1 v1 x1.2) dX5_fewestTrunks_98 ml_X5_89 mv_X5_packed (Nat.le_of_ble_eq_true rfl) (Nat.le_of_ble_eq_true rfl) (Nat.le_of_ble_eq_true rfl) (fun x2 => ?_)
      refine Sim.istore (L' := [(5, .int x2.1), (0, .ref 161), (1, .int v1), (2, .int v2), (3, .int v3), (4, .int v4)]) dX5_fewestTrunks_101 (Nat.le_of_ble_eq_true rfl) rfl ?_
      refine Sim.aload_n 1 dX5_fewestTrunks_103 rfl ?_
      refine Sim.getR (j := 165) fl_X5_21 dX5_fewestTrunks_104 xR_161_4 ?_
      refine Sim.iload_n 4 dX5_fewestTrunks_107 rfl ?_
      refine Sim.aload_n 1 dX5_fewestTrunks_108 rfl ?_
      refine Sim.getR (j := 165) fl_X5_21 dX5_fewestTrunks_109 xR_161_4 ?_
      refine Sim.iload_n 4 dX5_fewestTrunks_112 rfl ?_
      refine Sim.iald (n := 512) dX5_fewestTrunks_113 xA_165 ?_
      refine Sim.iload 0 dX5_fewestTrunks_114 rfl ?_
      refine Sim.mmin dX5_fewestTrunks_116 ml_X5_71 ms_min ms_Math mc_min (Nat.le_of_ble_eq_true rfl) (Nat.le_of_ble_eq_true rfl) ?_
      refine Sim.iast (n := 512) dX5_fewestTrunks_119 xA_165 ?_
      refine Sim.lth (fun h3 => ?_)
      refine Sim.iinc (L' := [(4, .int (v4 + (1 : Int32))), (5, .int x2.1), (0, .ref 161), (1, .int v1), (2, .int v2), (3, .int v3)]) 5 dX5_fewestTrunks_120 rfl rfl (Nat.le_of_ble_eq_true rfl) rfl ?_
      refine Sim.goto 50 dX5_fewestTrunks_123 rfl ?_
      refine Sim.locs [2, 3, 4, 5, 0] rfl ?_
      exact H50 (v1, v2, v3, (v4 + (1 : Int32)), h3)
  · refine Sim.iinc (L' := [(3, .int (v3 + (1 : Int32))), (0, .ref 161), (1, .int v1), (2, .int v2), (4, .int v4)]) 3 dX5_fewestTrunks_126 rfl rfl (Nat.le_of_ble_eq_true rfl) rfl ?_
    refine Sim.goto 24 dX5_fewestTrunks_129 rfl ?_
    refine Sim.locs [1, 2, 3, 0] rfl ?_
    exact H24 (v1, v2, (v3 + (1 : Int32)), h)
def f_X5_fewestTrunks_50_lp  (k24 : Int32 × Int32 × Int32 × zHp → Option (Int32 × zHp)) (n : Nat) (v : Int32 × Int32 × Int32 × Int32 × zHp) : Option (Int32 × zHp) := zlp (fun k50 v => f_X5_fewestTrunks_50 k24 k50 v.1 v.2.1 v.2.2.1 v.2.2.2.1 v.2.2.2.2) n v
theorem f_X5_fewestTrunks_50_ls  (k24 : Int32 × Int32 × Int32 × zHp → Option (Int32 × zHp)) (H24 : ∀ v : Int32 × Int32 × Int32 × zHp, Sim wX mX5_fewestTrunks 1 rI 24 [(0, .ref 161), (1, .int v.1), (2, .int v.2.1), (3, .int v.2.2.1)] [] v.2.2.2 (k24 v)) (n : Nat) (v : Int32 × Int32 × Int32 × Int32 × zHp) : Sim wX mX5_fewestTrunks 1 rI 50 [(0, .ref 161), (1, .int v.1), (2, .int v.2.1), (3, .int v.2.2.1), (4, .int v.2.2.2.1)] [] v.2.2.2.2 (f_X5_fewestTrunks_50_lp k24 n v) :=
  Sim.lp (V := Int32 × Int32 × Int32 × Int32 × zHp) (Lf := fun v => [(0, .ref 161), (1, .int v.1), (2, .int v.2.1), (3, .int v.2.2.1), (4, .int v.2.2.2.1)]) (sf := fun v => []) (hf := fun v => v.2.2.2.2) (fun k50 H50 v => f_X5_fewestTrunks_50_s k24 H24 k50 H50 v.1 v.2.1 v.2.2.1 v.2.2.2.1 v.2.2.2.2) n v
def f_X5_fewestTrunks_24  (k24 : Int32 × Int32 × Int32 × zHp → Option (Int32 × zHp)) (v1 : Int32) (v2 : Int32) (v3 : Int32) (h : zHp) : Option (Int32 × zHp) := (if v2 < v3 then f_X5_fewestTrunks_132 v2 h else (if v3 < (Int32.ofNat 512) then zix v3 512 (zlt (zst h 165 v3.toNatClampNeg (1000 : Int32)) fun h1 => f_X5_fewestTrunks_50_lp k24 zN (v1, v2, v3, (0 : Int32), h1)) else f_X5_fewestTrunks_132 v2 h))
set_option maxHeartbeats 4000000 in
set_option maxRecDepth 100000 in
theorem f_X5_fewestTrunks_24_s  (k24 : Int32 × Int32 × Int32 × zHp → Option (Int32 × zHp)) (H24 : ∀ v : Int32 × Int32 × Int32 × zHp, Sim wX mX5_fewestTrunks 1 rI 24 [(0, .ref 161), (1, .int v.1), (2, .int v.2.1), (3, .int v.2.2.1)] [] v.2.2.2 (k24 v)) (v1 : Int32) (v2 : Int32) (v3 : Int32) (h : zHp) : Sim wX mX5_fewestTrunks 1 rI 24 [(0, .ref 161), (1, .int v1), (2, .int v2), (3, .int v3)] [] h (f_X5_fewestTrunks_24 k24 v1 v2 v3 h) := by
  unfold f_X5_fewestTrunks_24
  refine Sim.iload_n 3 dX5_fewestTrunks_24 rfl ?_
  refine Sim.iload_n 2 dX5_fewestTrunks_25 rfl ?_
  refine Sim.icmp_gt 132 dX5_fewestTrunks_26 rfl ?_ ?_
  · refine Sim.locs [0, 2] rfl ?_
    exact f_X5_fewestTrunks_132_s v2 h
  · refine Sim.iload_n 3 dX5_fewestTrunks_29 rfl ?_
    refine Sim.aload_n 0 dX5_fewestTrunks_30 rfl ?_
    refine Sim.getR (j := 165) fl_X5_21 dX5_fewestTrunks_31 xR_161_4 ?_
    refine Sim.alen (n := 512) dX5_fewestTrunks_34 xA_165 ?_
    refine Sim.icmp_ge 132 dX5_fewestTrunks_35 rfl ?_ ?_
    · refine Sim.aload_n 0 dX5_fewestTrunks_38 rfl ?_
      refine Sim.getR (j := 165) fl_X5_21 dX5_fewestTrunks_39 xR_161_4 ?_
      refine Sim.iload_n 3 dX5_fewestTrunks_42 rfl ?_
      refine Sim.sipush (v := (1000 : Int32)) dX5_fewestTrunks_43 rfl ?_
      refine Sim.iast (n := 512) dX5_fewestTrunks_46 xA_165 ?_
      refine Sim.lth (fun h1 => ?_)
      refine Sim.iconst (v := (0 : Int32)) dX5_fewestTrunks_47 rfl ?_
      refine Sim.istore (L' := [(4, .int (0 : Int32)), (0, .ref 161), (1, .int v1), (2, .int v2), (3, .int v3)]) dX5_fewestTrunks_48 (Nat.le_of_ble_eq_true rfl) rfl ?_
      refine Sim.locs [1, 2, 3, 4, 0] rfl ?_
      exact f_X5_fewestTrunks_50_ls k24 H24 zN (v1, v2, v3, (0 : Int32), h1)
    · refine Sim.locs [0, 2] rfl ?_
      exact f_X5_fewestTrunks_132_s v2 h
def f_X5_fewestTrunks_24_lp   (n : Nat) (v : Int32 × Int32 × Int32 × zHp) : Option (Int32 × zHp) := zlp (fun k24 v => f_X5_fewestTrunks_24 k24 v.1 v.2.1 v.2.2.1 v.2.2.2) n v
theorem f_X5_fewestTrunks_24_ls  (n : Nat) (v : Int32 × Int32 × Int32 × zHp) : Sim wX mX5_fewestTrunks 1 rI 24 [(0, .ref 161), (1, .int v.1), (2, .int v.2.1), (3, .int v.2.2.1)] [] v.2.2.2 (f_X5_fewestTrunks_24_lp n v) :=
  Sim.lp (V := Int32 × Int32 × Int32 × zHp) (Lf := fun v => [(0, .ref 161), (1, .int v.1), (2, .int v.2.1), (3, .int v.2.2.1)]) (sf := fun v => []) (hf := fun v => v.2.2.2) (fun k24 H24 v => f_X5_fewestTrunks_24_s k24 H24 v.1 v.2.1 v.2.2.1 v.2.2.2) n v
def f_X5_fewestTrunks  (a1 : Int32) (h : zHp) : Option (Int32 × zHp) := zlt (((1 : Int32) <<< ((h 33 1) &&& 31)) - (1 : Int32)) fun x1 => zix (0 : Int32) 512 (zlt (zst h 165 (0 : Int32).toNatClampNeg (0 : Int32)) fun h2 => f_X5_fewestTrunks_24_lp  zN (a1, x1, (1 : Int32), h2))
set_option maxHeartbeats 4000000 in
set_option maxRecDepth 100000 in
theorem s_X5_fewestTrunks  (a1 : Int32) (h : zHp) : Fn wX mX5_fewestTrunks 1 rI [.ref 161, .int a1] h (f_X5_fewestTrunks a1 h) := by
  refine Fn.of rfl (Nat.le_of_ble_eq_true rfl) ?_
  unfold f_X5_fewestTrunks
  refine Sim.iconst (v := (1 : Int32)) dX5_fewestTrunks_0 rfl ?_
  refine Sim.aload_n 0 dX5_fewestTrunks_1 rfl ?_
  refine Sim.getR (j := 26) fl_X5_24 dX5_fewestTrunks_2 xR_161_0 ?_
  refine Sim.getR (j := 33) fl_X5_86 dX5_fewestTrunks_5 (xR_X8_3 _ xL_X8_26) ?_
  refine Sim.getI fl_X5_34 dX5_fewestTrunks_8 (xI_X7_1 _ xL_X7_33) ?_
  refine Sim.ishl dX5_fewestTrunks_11 ?_
  refine Sim.iconst (v := (1 : Int32)) dX5_fewestTrunks_12 rfl ?_
  refine Sim.isub dX5_fewestTrunks_13 ?_
  refine Sim.lti (fun x1 => ?_)
  refine Sim.istore_n (L' := [(2, .int x1), (0, .ref 161), (1, .int a1)]) dX5_fewestTrunks_14 (Nat.le_of_ble_eq_true rfl) rfl ?_
  refine Sim.aload_n 1 dX5_fewestTrunks_15 rfl ?_
  refine Sim.getR (j := 165) fl_X5_21 dX5_fewestTrunks_16 xR_161_4 ?_
  refine Sim.iconst (v := (0 : Int32)) dX5_fewestTrunks_19 rfl ?_
  refine Sim.iconst (v := (0 : Int32)) dX5_fewestTrunks_20 rfl ?_
  refine Sim.iast (n := 512) dX5_fewestTrunks_21 xA_165 ?_
  refine Sim.lth (fun h2 => ?_)
  refine Sim.iconst (v := (1 : Int32)) dX5_fewestTrunks_22 rfl ?_
  refine Sim.istore_n (L' := [(3, .int (1 : Int32)), (2, .int x1), (0, .ref 161), (1, .int a1)]) dX5_fewestTrunks_23 (Nat.le_of_ble_eq_true rfl) rfl ?_
  refine Sim.locs [2, 3, 1, 0] rfl ?_
  exact f_X5_fewestTrunks_24_ls  zN (a1, x1, (1 : Int32), h2)
theorem mv_X5_fewestTrunks : zMV mX5_fewestTrunks 1 := ⟨⟨zTb_in 1171 (by decide +kernel) rfl, zTb_in 147 (by decide +kernel) rfl, ⟨by decide +kernel, by decide +kernel⟩, by decide +kernel⟩, zTb_in 1169 (by decide +kernel) rfl, zTb_in 1170 (by decide +kernel) rfl⟩
-- ===== RockingPorch$Puzzles.throwsOf(I)I
abbrev mX5_throwsOf : zMt := (yX5_throwsOf, cX5_throwsOf, 2, some .int)
theorem dX5_throwsOf_0 : decode cX5_throwsOf 0 = .ok (.iconst 0, 1) := by decide +kernel
theorem dX5_throwsOf_1 : decode cX5_throwsOf 1 = .ok (.istore_n 1, 1) := by decide +kernel
theorem dX5_throwsOf_2 : decode cX5_throwsOf 2 = .ok (.iload_n 1, 1) := by decide +kernel
theorem dX5_throwsOf_3 : decode cX5_throwsOf 3 = .ok (.bipush 30, 2) := by decide +kernel
theorem dX5_throwsOf_5 : decode cX5_throwsOf 5 = .ok (.if_icmp .ge 17, 3) := by decide +kernel
theorem dX5_throwsOf_8 : decode cX5_throwsOf 8 = .ok (.iload_n 0, 1) := by decide +kernel
theorem dX5_throwsOf_9 : decode cX5_throwsOf 9 = .ok (.iload_n 1, 1) := by decide +kernel
theorem dX5_throwsOf_10 : decode cX5_throwsOf 10 = .ok (.iconst 1, 1) := by decide +kernel
theorem dX5_throwsOf_11 : decode cX5_throwsOf 11 = .ok (.iadd, 1) := by decide +kernel
theorem dX5_throwsOf_12 : decode cX5_throwsOf 12 = .ok (.ishr, 1) := by decide +kernel
theorem dX5_throwsOf_13 : decode cX5_throwsOf 13 = .ok (.ifCond .le 9, 3) := by decide +kernel
theorem dX5_throwsOf_16 : decode cX5_throwsOf 16 = .ok (.iinc 1 1, 3) := by decide +kernel
theorem dX5_throwsOf_19 : decode cX5_throwsOf 19 = .ok (.goto (-17), 3) := by decide +kernel
theorem dX5_throwsOf_22 : decode cX5_throwsOf 22 = .ok (.iload_n 1, 1) := by decide +kernel
theorem dX5_throwsOf_23 : decode cX5_throwsOf 23 = .ok (.ireturn, 1) := by decide +kernel
def f_X5_throwsOf_2  (k2 : Int32 × Int32 × zHp → Option (Int32 × zHp)) (v0 : Int32) (v1 : Int32) (h : zHp) : Option (Int32 × zHp) := (if v1 < (30 : Int32) then (if 0 < (v0 >>> ((v1 + (1 : Int32)) &&& 31)) then k2 (v0, (v1 + (1 : Int32)), h) else some (v1, h)) else some (v1, h))
set_option maxHeartbeats 4000000 in
set_option maxRecDepth 100000 in
theorem f_X5_throwsOf_2_s  (k2 : Int32 × Int32 × zHp → Option (Int32 × zHp)) (H2 : ∀ v : Int32 × Int32 × zHp, Sim wX mX5_throwsOf 0 rI 2 [(0, .int v.1), (1, .int v.2.1)] [] v.2.2 (k2 v)) (v0 : Int32) (v1 : Int32) (h : zHp) : Sim wX mX5_throwsOf 0 rI 2 [(0, .int v0), (1, .int v1)] [] h (f_X5_throwsOf_2 k2 v0 v1 h) := by
  unfold f_X5_throwsOf_2
  refine Sim.iload_n 1 dX5_throwsOf_2 rfl ?_
  refine Sim.bipush (v := (30 : Int32)) dX5_throwsOf_3 rfl ?_
  refine Sim.icmp_ge 22 dX5_throwsOf_5 rfl ?_ ?_
  · refine Sim.iload_n 0 dX5_throwsOf_8 rfl ?_
    refine Sim.iload_n 1 dX5_throwsOf_9 rfl ?_
    refine Sim.iconst (v := (1 : Int32)) dX5_throwsOf_10 rfl ?_
    refine Sim.iadd dX5_throwsOf_11 ?_
    refine Sim.ishr dX5_throwsOf_12 ?_
    refine Sim.if_le 22 dX5_throwsOf_13 rfl ?_ ?_
    · refine Sim.iinc (L' := [(1, .int (v1 + (1 : Int32))), (0, .int v0)]) 1 dX5_throwsOf_16 rfl rfl (Nat.le_of_ble_eq_true rfl) rfl ?_
      refine Sim.goto 2 dX5_throwsOf_19 rfl ?_
      refine Sim.locs [1, 0] rfl ?_
      exact H2 (v0, (v1 + (1 : Int32)), h)
    · refine Sim.iload_n 1 dX5_throwsOf_22 rfl ?_
      exact Sim.iret dX5_throwsOf_23 rfl
  · refine Sim.iload_n 1 dX5_throwsOf_22 rfl ?_
    exact Sim.iret dX5_throwsOf_23 rfl
def f_X5_throwsOf_2_lp   (n : Nat) (v : Int32 × Int32 × zHp) : Option (Int32 × zHp) := zlp (fun k2 v => f_X5_throwsOf_2 k2 v.1 v.2.1 v.2.2) n v
theorem f_X5_throwsOf_2_ls  (n : Nat) (v : Int32 × Int32 × zHp) : Sim wX mX5_throwsOf 0 rI 2 [(0, .int v.1), (1, .int v.2.1)] [] v.2.2 (f_X5_throwsOf_2_lp n v) :=
  Sim.lp (V := Int32 × Int32 × zHp) (Lf := fun v => [(0, .int v.1), (1, .int v.2.1)]) (sf := fun v => []) (hf := fun v => v.2.2) (fun k2 H2 v => f_X5_throwsOf_2_s k2 H2 v.1 v.2.1 v.2.2) n v
def f_X5_throwsOf  (a1 : Int32) (h : zHp) : Option (Int32 × zHp) := f_X5_throwsOf_2_lp  zN (a1, (0 : Int32), h)
set_option maxHeartbeats 4000000 in
set_option maxRecDepth 100000 in
theorem s_X5_throwsOf  (a1 : Int32) (h : zHp) : Fn wX mX5_throwsOf 0 rI [.int a1] h (f_X5_throwsOf a1 h) := by
  refine Fn.of rfl (Nat.le_of_ble_eq_true rfl) ?_
  unfold f_X5_throwsOf
  refine Sim.iconst (v := (0 : Int32)) dX5_throwsOf_0 rfl ?_
  refine Sim.istore_n (L' := [(1, .int (0 : Int32)), (0, .int a1)]) dX5_throwsOf_1 (Nat.le_of_ble_eq_true rfl) rfl ?_
  refine Sim.locs [1, 0] rfl ?_
  exact f_X5_throwsOf_2_ls  zN (a1, (0 : Int32), h)
theorem mv_X5_throwsOf : zMS mX5_throwsOf 1 := ⟨⟨zTb_in 1184 (by decide +kernel) rfl, zTb_in 147 (by decide +kernel) rfl, ⟨by decide +kernel, by decide +kernel⟩, by decide +kernel⟩, zTb_in 1183 (by decide +kernel) rfl⟩
-- ===== RockingPorch$Puzzles.fit(II)I
abbrev mX5_fit : zMt := (yX5_fit, cX5_fit, 6, some .int)
theorem ml_X5_93 : Cond.methodLink RX5 93 yX5_throwsOf ∈ zTb := zTb_in 1182 (by decide +kernel) rfl
theorem dX5_fit_0 : decode cX5_fit 0 = .ok (.iload_n 0, 1) := by decide +kernel
theorem dX5_fit_1 : decode cX5_fit 1 = .ok (.invokestatic 93, 3) := by decide +kernel
theorem dX5_fit_4 : decode cX5_fit 4 = .ok (.istore_n 2, 1) := by decide +kernel
theorem dX5_fit_5 : decode cX5_fit 5 = .ok (.iconst 0, 1) := by decide +kernel
theorem dX5_fit_6 : decode cX5_fit 6 = .ok (.istore_n 3, 1) := by decide +kernel
theorem dX5_fit_7 : decode cX5_fit 7 = .ok (.iconst 1, 1) := by decide +kernel
theorem dX5_fit_8 : decode cX5_fit 8 = .ok (.istore 4, 2) := by decide +kernel
theorem dX5_fit_10 : decode cX5_fit 10 = .ok (.iload 4, 2) := by decide +kernel
theorem dX5_fit_12 : decode cX5_fit 12 = .ok (.iload_n 2, 1) := by decide +kernel
theorem dX5_fit_13 : decode cX5_fit 13 = .ok (.if_icmp .gt 40, 3) := by decide +kernel
theorem dX5_fit_16 : decode cX5_fit 16 = .ok (.iconst 1, 1) := by decide +kernel
theorem dX5_fit_17 : decode cX5_fit 17 = .ok (.iload 4, 2) := by decide +kernel
theorem dX5_fit_19 : decode cX5_fit 19 = .ok (.ishl, 1) := by decide +kernel
theorem dX5_fit_20 : decode cX5_fit 20 = .ok (.iconst 1, 1) := by decide +kernel
theorem dX5_fit_21 : decode cX5_fit 21 = .ok (.isub, 1) := by decide +kernel
theorem dX5_fit_22 : decode cX5_fit 22 = .ok (.istore 5, 2) := by decide +kernel
theorem dX5_fit_24 : decode cX5_fit 24 = .ok (.iload_n 0, 1) := by decide +kernel
theorem dX5_fit_25 : decode cX5_fit 25 = .ok (.iload 5, 2) := by decide +kernel
theorem dX5_fit_27 : decode cX5_fit 27 = .ok (.iand, 1) := by decide +kernel
theorem dX5_fit_28 : decode cX5_fit 28 = .ok (.iload_n 1, 1) := by decide +kernel
theorem dX5_fit_29 : decode cX5_fit 29 = .ok (.iload_n 2, 1) := by decide +kernel
theorem dX5_fit_30 : decode cX5_fit 30 = .ok (.iload 4, 2) := by decide +kernel
theorem dX5_fit_32 : decode cX5_fit 32 = .ok (.isub, 1) := by decide +kernel
theorem dX5_fit_33 : decode cX5_fit 33 = .ok (.ishr, 1) := by decide +kernel
theorem dX5_fit_34 : decode cX5_fit 34 = .ok (.iload 5, 2) := by decide +kernel
theorem dX5_fit_36 : decode cX5_fit 36 = .ok (.iand, 1) := by decide +kernel
theorem dX5_fit_37 : decode cX5_fit 37 = .ok (.if_icmp .ne 10, 3) := by decide +kernel
theorem dX5_fit_40 : decode cX5_fit 40 = .ok (.iload_n 3, 1) := by decide +kernel
theorem dX5_fit_41 : decode cX5_fit 41 = .ok (.iconst 1, 1) := by decide +kernel
theorem dX5_fit_42 : decode cX5_fit 42 = .ok (.iload 4, 2) := by decide +kernel
theorem dX5_fit_44 : decode cX5_fit 44 = .ok (.ishl, 1) := by decide +kernel
theorem dX5_fit_45 : decode cX5_fit 45 = .ok (.iadd, 1) := by decide +kernel
theorem dX5_fit_46 : decode cX5_fit 46 = .ok (.istore_n 3, 1) := by decide +kernel
theorem dX5_fit_47 : decode cX5_fit 47 = .ok (.iinc 4 1, 3) := by decide +kernel
theorem dX5_fit_50 : decode cX5_fit 50 = .ok (.goto (-40), 3) := by decide +kernel
theorem dX5_fit_53 : decode cX5_fit 53 = .ok (.iload_n 3, 1) := by decide +kernel
theorem dX5_fit_54 : decode cX5_fit 54 = .ok (.ireturn, 1) := by decide +kernel
def f_X5_fit_10  (k10 : Int32 × Int32 × Int32 × Int32 × Int32 × zHp → Option (Int32 × zHp)) (v0 : Int32) (v1 : Int32) (v2 : Int32) (v3 : Int32) (v4 : Int32) (h : zHp) : Option (Int32 × zHp) := (if v2 < v4 then some (v3, h) else zlt (((1 : Int32) <<< (v4 &&& 31)) - (1 : Int32)) fun x1 => (if (v0 &&& x1) = ((v1 >>> ((v2 - v4) &&& 31)) &&& x1) then zlt (v3 + ((1 : Int32) <<< (v4 &&& 31))) fun x2 => k10 (v0, v1, v2, x2, (v4 + (1 : Int32)), h) else k10 (v0, v1, v2, v3, (v4 + (1 : Int32)), h)))
set_option maxHeartbeats 4000000 in
set_option maxRecDepth 100000 in
theorem f_X5_fit_10_s  (k10 : Int32 × Int32 × Int32 × Int32 × Int32 × zHp → Option (Int32 × zHp)) (H10 : ∀ v : Int32 × Int32 × Int32 × Int32 × Int32 × zHp, Sim wX mX5_fit 1 rI 10 [(0, .int v.1), (1, .int v.2.1), (2, .int v.2.2.1), (3, .int v.2.2.2.1), (4, .int v.2.2.2.2.1)] [] v.2.2.2.2.2 (k10 v)) (v0 : Int32) (v1 : Int32) (v2 : Int32) (v3 : Int32) (v4 : Int32) (h : zHp) : Sim wX mX5_fit 1 rI 10 [(0, .int v0), (1, .int v1), (2, .int v2), (3, .int v3), (4, .int v4)] [] h (f_X5_fit_10 k10 v0 v1 v2 v3 v4 h) := by
  unfold f_X5_fit_10
  refine Sim.iload 4 dX5_fit_10 rfl ?_
  refine Sim.iload_n 2 dX5_fit_12 rfl ?_
  refine Sim.icmp_gt 53 dX5_fit_13 rfl ?_ ?_
  · refine Sim.iload_n 3 dX5_fit_53 rfl ?_
    exact Sim.iret dX5_fit_54 rfl
  · refine Sim.iconst (v := (1 : Int32)) dX5_fit_16 rfl ?_
    refine Sim.iload 4 dX5_fit_17 rfl ?_
    refine Sim.ishl dX5_fit_19 ?_
    refine Sim.iconst (v := (1 : Int32)) dX5_fit_20 rfl ?_
    refine Sim.isub dX5_fit_21 ?_
    refine Sim.lti (fun x1 => ?_)
    refine Sim.istore (L' := [(5, .int x1), (0, .int v0), (1, .int v1), (2, .int v2), (3, .int v3), (4, .int v4)]) dX5_fit_22 (Nat.le_of_ble_eq_true rfl) rfl ?_
    refine Sim.iload_n 1 dX5_fit_24 rfl ?_
    refine Sim.iload 0 dX5_fit_25 rfl ?_
    refine Sim.iand dX5_fit_27 ?_
    refine Sim.iload_n 2 dX5_fit_28 rfl ?_
    refine Sim.iload_n 3 dX5_fit_29 rfl ?_
    refine Sim.iload 5 dX5_fit_30 rfl ?_
    refine Sim.isub dX5_fit_32 ?_
    refine Sim.ishr dX5_fit_33 ?_
    refine Sim.iload 0 dX5_fit_34 rfl ?_
    refine Sim.iand dX5_fit_36 ?_
    refine Sim.icmp_ne 47 dX5_fit_37 rfl ?_ ?_
    · refine Sim.iload_n 4 dX5_fit_40 rfl ?_
      refine Sim.iconst (v := (1 : Int32)) dX5_fit_41 rfl ?_
      refine Sim.iload 5 dX5_fit_42 rfl ?_
      refine Sim.ishl dX5_fit_44 ?_
      refine Sim.iadd dX5_fit_45 ?_
      refine Sim.lti (fun x2 => ?_)
      refine Sim.istore_n (L' := [(3, .int x2), (5, .int x1), (0, .int v0), (1, .int v1), (2, .int v2), (4, .int v4)]) dX5_fit_46 (Nat.le_of_ble_eq_true rfl) rfl ?_
      refine Sim.iinc (L' := [(4, .int (v4 + (1 : Int32))), (3, .int x2), (5, .int x1), (0, .int v0), (1, .int v1), (2, .int v2)]) 5 dX5_fit_47 rfl rfl (Nat.le_of_ble_eq_true rfl) rfl ?_
      refine Sim.goto 10 dX5_fit_50 rfl ?_
      refine Sim.locs [3, 4, 5, 1, 0] rfl ?_
      exact H10 (v0, v1, v2, x2, (v4 + (1 : Int32)), h)
    · refine Sim.iinc (L' := [(4, .int (v4 + (1 : Int32))), (5, .int x1), (0, .int v0), (1, .int v1), (2, .int v2), (3, .int v3)]) 5 dX5_fit_47 rfl rfl (Nat.le_of_ble_eq_true rfl) rfl ?_
      refine Sim.goto 10 dX5_fit_50 rfl ?_
      refine Sim.locs [2, 3, 4, 5, 0] rfl ?_
      exact H10 (v0, v1, v2, v3, (v4 + (1 : Int32)), h)
def f_X5_fit_10_lp   (n : Nat) (v : Int32 × Int32 × Int32 × Int32 × Int32 × zHp) : Option (Int32 × zHp) := zlp (fun k10 v => f_X5_fit_10 k10 v.1 v.2.1 v.2.2.1 v.2.2.2.1 v.2.2.2.2.1 v.2.2.2.2.2) n v
theorem f_X5_fit_10_ls  (n : Nat) (v : Int32 × Int32 × Int32 × Int32 × Int32 × zHp) : Sim wX mX5_fit 1 rI 10 [(0, .int v.1), (1, .int v.2.1), (2, .int v.2.2.1), (3, .int v.2.2.2.1), (4, .int v.2.2.2.2.1)] [] v.2.2.2.2.2 (f_X5_fit_10_lp n v) :=
  Sim.lp (V := Int32 × Int32 × Int32 × Int32 × Int32 × zHp) (Lf := fun v => [(0, .int v.1), (1, .int v.2.1), (2, .int v.2.2.1), (3, .int v.2.2.2.1), (4, .int v.2.2.2.2.1)]) (sf := fun v => []) (hf := fun v => v.2.2.2.2.2) (fun k10 H10 v => f_X5_fit_10_s k10 H10 v.1 v.2.1 v.2.2.1 v.2.2.2.1 v.2.2.2.2.1 v.2.2.2.2.2) n v
def f_X5_fit  (a1 : Int32) (a2 : Int32) (h : zHp) : Option (Int32 × zHp) := (f_X5_throwsOf a1 h).bind fun x1 => f_X5_fit_10_lp  zN (a1, a2, x1.1, (0 : Int32), (1 : Int32), x1.2)
set_option maxHeartbeats 4000000 in
set_option maxRecDepth 100000 in
theorem s_X5_fit  (a1 : Int32) (a2 : Int32) (h : zHp) : Fn wX mX5_fit 1 rI [.int a1, .int a2] h (f_X5_fit a1 a2 h) := by
  refine Fn.of rfl (Nat.le_of_ble_eq_true rfl) ?_
  unfold f_X5_fit
  refine Sim.iload_n 0 dX5_fit_0 rfl ?_
  refine Sim.callS1I (d1 := 0) (s_X5_throwsOf a1 h) dX5_fit_1 ml_X5_93 mv_X5_throwsOf (Nat.le_of_ble_eq_true rfl) (Nat.le_of_ble_eq_true rfl) (Nat.le_of_ble_eq_true rfl) (fun x1 => ?_)
  refine Sim.istore_n (L' := [(2, .int x1.1), (0, .int a1), (1, .int a2)]) dX5_fit_4 (Nat.le_of_ble_eq_true rfl) rfl ?_
  refine Sim.iconst (v := (0 : Int32)) dX5_fit_5 rfl ?_
  refine Sim.istore_n (L' := [(3, .int (0 : Int32)), (2, .int x1.1), (0, .int a1), (1, .int a2)]) dX5_fit_6 (Nat.le_of_ble_eq_true rfl) rfl ?_
  refine Sim.iconst (v := (1 : Int32)) dX5_fit_7 rfl ?_
  refine Sim.istore (L' := [(4, .int (1 : Int32)), (3, .int (0 : Int32)), (2, .int x1.1), (0, .int a1), (1, .int a2)]) dX5_fit_8 (Nat.le_of_ble_eq_true rfl) rfl ?_
  refine Sim.locs [3, 4, 2, 1, 0] rfl ?_
  exact f_X5_fit_10_ls  zN (a1, a2, x1.1, (0 : Int32), (1 : Int32), x1.2)
theorem mv_X5_fit : zMS mX5_fit 2 := ⟨⟨zTb_in 1181 (by decide +kernel) rfl, zTb_in 147 (by decide +kernel) rfl, ⟨by decide +kernel, by decide +kernel⟩, by decide +kernel⟩, zTb_in 1180 (by decide +kernel) rfl⟩
-- ===== RockingPorch$Puzzles.likely(IIZ)I
abbrev mX5_likely : zMt := (yX5_likely, cX5_likely, 6, some .int)
theorem ml_X5_96 : Cond.methodLink RX5 96 yX5_fit ∈ zTb := zTb_in 1193 (by decide +kernel) rfl
theorem dX5_likely_0 : decode cX5_likely 0 = .ok (.iload_n 1, 1) := by decide +kernel
theorem dX5_likely_1 : decode cX5_likely 1 = .ok (.iload_n 1, 1) := by decide +kernel
theorem dX5_likely_2 : decode cX5_likely 2 = .ok (.invokestatic 96, 3) := by decide +kernel
theorem dX5_likely_5 : decode cX5_likely 5 = .ok (.iload_n 1, 1) := by decide +kernel
theorem dX5_likely_6 : decode cX5_likely 6 = .ok (.iload_n 0, 1) := by decide +kernel
theorem dX5_likely_7 : decode cX5_likely 7 = .ok (.invokestatic 96, 3) := by decide +kernel
theorem dX5_likely_10 : decode cX5_likely 10 = .ok (.isub, 1) := by decide +kernel
theorem dX5_likely_11 : decode cX5_likely 11 = .ok (.istore_n 3, 1) := by decide +kernel
theorem dX5_likely_12 : decode cX5_likely 12 = .ok (.iload_n 0, 1) := by decide +kernel
theorem dX5_likely_13 : decode cX5_likely 13 = .ok (.iload_n 0, 1) := by decide +kernel
theorem dX5_likely_14 : decode cX5_likely 14 = .ok (.invokestatic 96, 3) := by decide +kernel
theorem dX5_likely_17 : decode cX5_likely 17 = .ok (.iload_n 0, 1) := by decide +kernel
theorem dX5_likely_18 : decode cX5_likely 18 = .ok (.iload_n 1, 1) := by decide +kernel
theorem dX5_likely_19 : decode cX5_likely 19 = .ok (.invokestatic 96, 3) := by decide +kernel
theorem dX5_likely_22 : decode cX5_likely 22 = .ok (.isub, 1) := by decide +kernel
theorem dX5_likely_23 : decode cX5_likely 23 = .ok (.istore 4, 2) := by decide +kernel
theorem dX5_likely_25 : decode cX5_likely 25 = .ok (.iconst 1, 1) := by decide +kernel
theorem dX5_likely_26 : decode cX5_likely 26 = .ok (.iload_n 3, 1) := by decide +kernel
theorem dX5_likely_27 : decode cX5_likely 27 = .ok (.iload 4, 2) := by decide +kernel
theorem dX5_likely_29 : decode cX5_likely 29 = .ok (.iadd, 1) := by decide +kernel
theorem dX5_likely_30 : decode cX5_likely 30 = .ok (.iload_n 3, 1) := by decide +kernel
theorem dX5_likely_31 : decode cX5_likely 31 = .ok (.invokestatic 55, 3) := by decide +kernel
theorem dX5_likely_34 : decode cX5_likely 34 = .ok (.invokestatic 47, 3) := by decide +kernel
theorem dX5_likely_37 : decode cX5_likely 37 = .ok (.istore 5, 2) := by decide +kernel
theorem dX5_likely_39 : decode cX5_likely 39 = .ok (.iload_n 2, 1) := by decide +kernel
theorem dX5_likely_40 : decode cX5_likely 40 = .ok (.ifCond .eq 10, 3) := by decide +kernel
theorem dX5_likely_43 : decode cX5_likely 43 = .ok (.iload_n 3, 1) := by decide +kernel
theorem dX5_likely_44 : decode cX5_likely 44 = .ok (.iload 4, 2) := by decide +kernel
theorem dX5_likely_46 : decode cX5_likely 46 = .ok (.iadd, 1) := by decide +kernel
theorem dX5_likely_47 : decode cX5_likely 47 = .ok (.goto 4, 3) := by decide +kernel
theorem dX5_likely_50 : decode cX5_likely 50 = .ok (.iload_n 3, 1) := by decide +kernel
theorem dX5_likely_51 : decode cX5_likely 51 = .ok (.iload 5, 2) := by decide +kernel
theorem dX5_likely_53 : decode cX5_likely 53 = .ok (.idiv, 1) := by decide +kernel
theorem dX5_likely_54 : decode cX5_likely 54 = .ok (.ireturn, 1) := by decide +kernel
def f_X5_likely  (a1 : Int32) (a2 : Int32) (a3 : Int32) (h : zHp) : Option (Int32 × zHp) := (f_X5_fit a2 a2 h).bind fun x1 => (f_X5_fit a2 a1 x1.2).bind fun x2 => zlt (x1.1 - x2.1) fun x3 => (f_X5_fit a1 a1 x2.2).bind fun x4 => (f_X5_fit a1 a2 x4.2).bind fun x5 => zlt (x4.1 - x5.1) fun x6 => (f_X5_divisor (x3 + x6) x3 x5.2).bind fun x7 => zlt (if (1 : Int32) < x7.1 then x7.1 else (1 : Int32)) fun x8 => (if a3 = 0 then zdz x8 (some ((x3 / x8), x7.2)) else zdz x8 (some (((x3 + x6) / x8), x7.2)))
set_option maxHeartbeats 4000000 in
set_option maxRecDepth 100000 in
theorem s_X5_likely  (a1 : Int32) (a2 : Int32) (a3 : Int32) (h : zHp) : Fn wX mX5_likely 2 rI [.int a1, .int a2, .int a3] h (f_X5_likely a1 a2 a3 h) := by
  refine Fn.of rfl (Nat.le_of_ble_eq_true rfl) ?_
  unfold f_X5_likely
  refine Sim.iload_n 1 dX5_likely_0 rfl ?_
  refine Sim.iload_n 1 dX5_likely_1 rfl ?_
  refine Sim.callS2I (d1 := 1) (s_X5_fit a2 a2 h) dX5_likely_2 ml_X5_96 mv_X5_fit (Nat.le_of_ble_eq_true rfl) (Nat.le_of_ble_eq_true rfl) (Nat.le_of_ble_eq_true rfl) (fun x1 => ?_)
  refine Sim.iload_n 1 dX5_likely_5 rfl ?_
  refine Sim.iload_n 0 dX5_likely_6 rfl ?_
  refine Sim.callS2I (d1 := 1) (s_X5_fit a2 a1 x1.2) dX5_likely_7 ml_X5_96 mv_X5_fit (Nat.le_of_ble_eq_true rfl) (Nat.le_of_ble_eq_true rfl) (Nat.le_of_ble_eq_true rfl) (fun x2 => ?_)
  refine Sim.isub dX5_likely_10 ?_
  refine Sim.lti (fun x3 => ?_)
  refine Sim.istore_n (L' := [(3, .int x3), (0, .int a1), (1, .int a2), (2, .int a3)]) dX5_likely_11 (Nat.le_of_ble_eq_true rfl) rfl ?_
  refine Sim.iload_n 1 dX5_likely_12 rfl ?_
  refine Sim.iload_n 1 dX5_likely_13 rfl ?_
  refine Sim.callS2I (d1 := 1) (s_X5_fit a1 a1 x2.2) dX5_likely_14 ml_X5_96 mv_X5_fit (Nat.le_of_ble_eq_true rfl) (Nat.le_of_ble_eq_true rfl) (Nat.le_of_ble_eq_true rfl) (fun x4 => ?_)
  refine Sim.iload_n 1 dX5_likely_17 rfl ?_
  refine Sim.iload_n 2 dX5_likely_18 rfl ?_
  refine Sim.callS2I (d1 := 1) (s_X5_fit a1 a2 x4.2) dX5_likely_19 ml_X5_96 mv_X5_fit (Nat.le_of_ble_eq_true rfl) (Nat.le_of_ble_eq_true rfl) (Nat.le_of_ble_eq_true rfl) (fun x5 => ?_)
  refine Sim.isub dX5_likely_22 ?_
  refine Sim.lti (fun x6 => ?_)
  refine Sim.istore (L' := [(4, .int x6), (3, .int x3), (0, .int a1), (1, .int a2), (2, .int a3)]) dX5_likely_23 (Nat.le_of_ble_eq_true rfl) rfl ?_
  refine Sim.iconst (v := (1 : Int32)) dX5_likely_25 rfl ?_
  refine Sim.iload_n 1 dX5_likely_26 rfl ?_
  refine Sim.iload 0 dX5_likely_27 rfl ?_
  refine Sim.iadd dX5_likely_29 ?_
  refine Sim.iload_n 1 dX5_likely_30 rfl ?_
  refine Sim.callS2I (d1 := 1) (s_X5_divisor (x3 + x6) x3 x5.2) dX5_likely_31 ml_X5_55 mv_X5_divisor (Nat.le_of_ble_eq_true rfl) (Nat.le_of_ble_eq_true rfl) (Nat.le_of_ble_eq_true rfl) (fun x7 => ?_)
  refine Sim.mmax dX5_likely_34 ml_X5_47 ms_max ms_Math mc_max (Nat.le_of_ble_eq_true rfl) (Nat.le_of_ble_eq_true rfl) ?_
  refine Sim.lti (fun x8 => ?_)
  refine Sim.istore (L' := [(5, .int x8), (4, .int x6), (3, .int x3), (0, .int a1), (1, .int a2), (2, .int a3)]) dX5_likely_37 (Nat.le_of_ble_eq_true rfl) rfl ?_
  refine Sim.iload_n 5 dX5_likely_39 rfl ?_
  refine Sim.if_eq 50 dX5_likely_40 rfl ?_ ?_
  · refine Sim.iload_n 2 dX5_likely_50 rfl ?_
    refine Sim.iload 0 dX5_likely_51 rfl ?_
    refine Sim.idiv dX5_likely_53 ?_
    exact Sim.iret dX5_likely_54 rfl
  · refine Sim.iload_n 2 dX5_likely_43 rfl ?_
    refine Sim.iload 1 dX5_likely_44 rfl ?_
    refine Sim.iadd dX5_likely_46 ?_
    refine Sim.goto 51 dX5_likely_47 rfl ?_
    refine Sim.iload 0 dX5_likely_51 rfl ?_
    refine Sim.idiv dX5_likely_53 ?_
    exact Sim.iret dX5_likely_54 rfl
theorem mv_X5_likely : zMS mX5_likely 3 := ⟨⟨zTb_in 1192 (by decide +kernel) rfl, zTb_in 147 (by decide +kernel) rfl, ⟨by decide +kernel, by decide +kernel⟩, by decide +kernel⟩, zTb_in 1191 (by decide +kernel) rfl⟩
-- ===== RockingPorch$Puzzles.handsApart(I)I
abbrev mX5_handsApart : zMt := (yX5_handsApart, cX5_handsApart, 2, some .int)
theorem dX5_handsApart_0 : decode cX5_handsApart 0 = .ok (.bipush 11, 2) := by decide +kernel
theorem dX5_handsApart_2 : decode cX5_handsApart 2 = .ok (.iload_n 0, 1) := by decide +kernel
theorem dX5_handsApart_3 : decode cX5_handsApart 3 = .ok (.imul, 1) := by decide +kernel
theorem dX5_handsApart_4 : decode cX5_handsApart 4 = .ok (.sipush 720, 3) := by decide +kernel
theorem dX5_handsApart_7 : decode cX5_handsApart 7 = .ok (.irem, 1) := by decide +kernel
theorem dX5_handsApart_8 : decode cX5_handsApart 8 = .ok (.istore_n 1, 1) := by decide +kernel
theorem dX5_handsApart_9 : decode cX5_handsApart 9 = .ok (.iload_n 1, 1) := by decide +kernel
theorem dX5_handsApart_10 : decode cX5_handsApart 10 = .ok (.sipush 720, 3) := by decide +kernel
theorem dX5_handsApart_13 : decode cX5_handsApart 13 = .ok (.iload_n 1, 1) := by decide +kernel
theorem dX5_handsApart_14 : decode cX5_handsApart 14 = .ok (.isub, 1) := by decide +kernel
theorem dX5_handsApart_15 : decode cX5_handsApart 15 = .ok (.invokestatic 71, 3) := by decide +kernel
theorem dX5_handsApart_18 : decode cX5_handsApart 18 = .ok (.ireturn, 1) := by decide +kernel
def f_X5_handsApart  (a1 : Int32) (h : zHp) : Option (Int32 × zHp) := zlt (((11 : Int32) * a1) - ((11 : Int32) * a1) / (720 : Int32) * (720 : Int32)) fun x1 => some ((if ((720 : Int32) - x1) < x1 then ((720 : Int32) - x1) else x1), h)
set_option maxHeartbeats 4000000 in
set_option maxRecDepth 100000 in
theorem s_X5_handsApart  (a1 : Int32) (h : zHp) : Fn wX mX5_handsApart 1 rI [.int a1] h (f_X5_handsApart a1 h) := by
  refine Fn.of rfl (Nat.le_of_ble_eq_true rfl) ?_
  unfold f_X5_handsApart
  refine Sim.bipush (v := (11 : Int32)) dX5_handsApart_0 rfl ?_
  refine Sim.iload_n 0 dX5_handsApart_2 rfl ?_
  refine Sim.imul dX5_handsApart_3 ?_
  refine Sim.sipush (v := (720 : Int32)) dX5_handsApart_4 rfl ?_
  refine Sim.iremL dX5_handsApart_7 (by decide) ?_
  refine Sim.lti (fun x1 => ?_)
  refine Sim.istore_n (L' := [(1, .int x1), (0, .int a1)]) dX5_handsApart_8 (Nat.le_of_ble_eq_true rfl) rfl ?_
  refine Sim.iload_n 0 dX5_handsApart_9 rfl ?_
  refine Sim.sipush (v := (720 : Int32)) dX5_handsApart_10 rfl ?_
  refine Sim.iload_n 0 dX5_handsApart_13 rfl ?_
  refine Sim.isub dX5_handsApart_14 ?_
  refine Sim.mmin dX5_handsApart_15 ml_X5_71 ms_min ms_Math mc_min (Nat.le_of_ble_eq_true rfl) (Nat.le_of_ble_eq_true rfl) ?_
  exact Sim.iret dX5_handsApart_18 rfl
theorem mv_X5_handsApart : zMS mX5_handsApart 1 := ⟨⟨zTb_in 1200 (by decide +kernel) rfl, zTb_in 147 (by decide +kernel) rfl, ⟨by decide +kernel, by decide +kernel⟩, by decide +kernel⟩, zTb_in 1199 (by decide +kernel) rfl⟩
-- ===== RockingPorch$Puzzles.handsAsNear(I)I
abbrev mX5_handsAsNear : zMt := (yX5_handsAsNear, cX5_handsAsNear, 4, some .int)
theorem ml_X5_99 : Cond.methodLink RX5 99 yX5_handsApart ∈ zTb := zTb_in 1204 (by decide +kernel) rfl
theorem dX5_handsAsNear_0 : decode cX5_handsAsNear 0 = .ok (.iload_n 0, 1) := by decide +kernel
theorem dX5_handsAsNear_1 : decode cX5_handsAsNear 1 = .ok (.invokestatic 99, 3) := by decide +kernel
theorem dX5_handsAsNear_4 : decode cX5_handsAsNear 4 = .ok (.istore_n 1, 1) := by decide +kernel
theorem dX5_handsAsNear_5 : decode cX5_handsAsNear 5 = .ok (.iconst 0, 1) := by decide +kernel
theorem dX5_handsAsNear_6 : decode cX5_handsAsNear 6 = .ok (.istore_n 2, 1) := by decide +kernel
theorem dX5_handsAsNear_7 : decode cX5_handsAsNear 7 = .ok (.iconst 0, 1) := by decide +kernel
theorem dX5_handsAsNear_8 : decode cX5_handsAsNear 8 = .ok (.istore_n 3, 1) := by decide +kernel
theorem dX5_handsAsNear_9 : decode cX5_handsAsNear 9 = .ok (.iload_n 3, 1) := by decide +kernel
theorem dX5_handsAsNear_10 : decode cX5_handsAsNear 10 = .ok (.iload_n 0, 1) := by decide +kernel
theorem dX5_handsAsNear_11 : decode cX5_handsAsNear 11 = .ok (.if_icmp .gt 25, 3) := by decide +kernel
theorem dX5_handsAsNear_14 : decode cX5_handsAsNear 14 = .ok (.iload_n 2, 1) := by decide +kernel
theorem dX5_handsAsNear_15 : decode cX5_handsAsNear 15 = .ok (.iload_n 3, 1) := by decide +kernel
theorem dX5_handsAsNear_16 : decode cX5_handsAsNear 16 = .ok (.invokestatic 99, 3) := by decide +kernel
theorem dX5_handsAsNear_19 : decode cX5_handsAsNear 19 = .ok (.iload_n 1, 1) := by decide +kernel
theorem dX5_handsAsNear_20 : decode cX5_handsAsNear 20 = .ok (.if_icmp .gt 7, 3) := by decide +kernel
theorem dX5_handsAsNear_23 : decode cX5_handsAsNear 23 = .ok (.iconst 1, 1) := by decide +kernel
theorem dX5_handsAsNear_24 : decode cX5_handsAsNear 24 = .ok (.goto 4, 3) := by decide +kernel
theorem dX5_handsAsNear_27 : decode cX5_handsAsNear 27 = .ok (.iconst 0, 1) := by decide +kernel
theorem dX5_handsAsNear_28 : decode cX5_handsAsNear 28 = .ok (.iadd, 1) := by decide +kernel
theorem dX5_handsAsNear_29 : decode cX5_handsAsNear 29 = .ok (.istore_n 2, 1) := by decide +kernel
theorem dX5_handsAsNear_30 : decode cX5_handsAsNear 30 = .ok (.iinc 3 1, 3) := by decide +kernel
theorem dX5_handsAsNear_33 : decode cX5_handsAsNear 33 = .ok (.goto (-24), 3) := by decide +kernel
theorem dX5_handsAsNear_36 : decode cX5_handsAsNear 36 = .ok (.iload_n 2, 1) := by decide +kernel
theorem dX5_handsAsNear_37 : decode cX5_handsAsNear 37 = .ok (.ireturn, 1) := by decide +kernel
def f_X5_handsAsNear_9  (k9 : Int32 × Int32 × Int32 × Int32 × zHp → Option (Int32 × zHp)) (v0 : Int32) (v1 : Int32) (v2 : Int32) (v3 : Int32) (h : zHp) : Option (Int32 × zHp) := (if v0 < v3 then some (v2, h) else (f_X5_handsApart v3 h).bind fun x1 => (if v1 < x1.1 then zlt (v2 + (0 : Int32)) fun x2 => k9 (v0, v1, x2, (v3 + (1 : Int32)), x1.2) else zlt (v2 + (1 : Int32)) fun x3 => k9 (v0, v1, x3, (v3 + (1 : Int32)), x1.2)))
set_option maxHeartbeats 4000000 in
set_option maxRecDepth 100000 in
theorem f_X5_handsAsNear_9_s  (k9 : Int32 × Int32 × Int32 × Int32 × zHp → Option (Int32 × zHp)) (H9 : ∀ v : Int32 × Int32 × Int32 × Int32 × zHp, Sim wX mX5_handsAsNear 2 rI 9 [(0, .int v.1), (1, .int v.2.1), (2, .int v.2.2.1), (3, .int v.2.2.2.1)] [] v.2.2.2.2 (k9 v)) (v0 : Int32) (v1 : Int32) (v2 : Int32) (v3 : Int32) (h : zHp) : Sim wX mX5_handsAsNear 2 rI 9 [(0, .int v0), (1, .int v1), (2, .int v2), (3, .int v3)] [] h (f_X5_handsAsNear_9 k9 v0 v1 v2 v3 h) := by
  unfold f_X5_handsAsNear_9
  refine Sim.iload_n 3 dX5_handsAsNear_9 rfl ?_
  refine Sim.iload_n 0 dX5_handsAsNear_10 rfl ?_
  refine Sim.icmp_gt 36 dX5_handsAsNear_11 rfl ?_ ?_
  · refine Sim.iload_n 2 dX5_handsAsNear_36 rfl ?_
    exact Sim.iret dX5_handsAsNear_37 rfl
  · refine Sim.iload_n 2 dX5_handsAsNear_14 rfl ?_
    refine Sim.iload_n 3 dX5_handsAsNear_15 rfl ?_
    refine Sim.callS1I (d1 := 1) (s_X5_handsApart v3 h) dX5_handsAsNear_16 ml_X5_99 mv_X5_handsApart (Nat.le_of_ble_eq_true rfl) (Nat.le_of_ble_eq_true rfl) (Nat.le_of_ble_eq_true rfl) (fun x1 => ?_)
    refine Sim.iload_n 1 dX5_handsAsNear_19 rfl ?_
    refine Sim.icmp_gt 27 dX5_handsAsNear_20 rfl ?_ ?_
    · refine Sim.iconst (v := (0 : Int32)) dX5_handsAsNear_27 rfl ?_
      refine Sim.iadd dX5_handsAsNear_28 ?_
      refine Sim.lti (fun x2 => ?_)
      refine Sim.istore_n (L' := [(2, .int x2), (0, .int v0), (1, .int v1), (3, .int v3)]) dX5_handsAsNear_29 (Nat.le_of_ble_eq_true rfl) rfl ?_
      refine Sim.iinc (L' := [(3, .int (v3 + (1 : Int32))), (2, .int x2), (0, .int v0), (1, .int v1)]) 3 dX5_handsAsNear_30 rfl rfl (Nat.le_of_ble_eq_true rfl) rfl ?_
      refine Sim.goto 9 dX5_handsAsNear_33 rfl ?_
      refine Sim.locs [2, 3, 1, 0] rfl ?_
      exact H9 (v0, v1, x2, (v3 + (1 : Int32)), x1.2)
    · refine Sim.iconst (v := (1 : Int32)) dX5_handsAsNear_23 rfl ?_
      refine Sim.goto 28 dX5_handsAsNear_24 rfl ?_
      refine Sim.iadd dX5_handsAsNear_28 ?_
      refine Sim.lti (fun x3 => ?_)
      refine Sim.istore_n (L' := [(2, .int x3), (0, .int v0), (1, .int v1), (3, .int v3)]) dX5_handsAsNear_29 (Nat.le_of_ble_eq_true rfl) rfl ?_
      refine Sim.iinc (L' := [(3, .int (v3 + (1 : Int32))), (2, .int x3), (0, .int v0), (1, .int v1)]) 3 dX5_handsAsNear_30 rfl rfl (Nat.le_of_ble_eq_true rfl) rfl ?_
      refine Sim.goto 9 dX5_handsAsNear_33 rfl ?_
      refine Sim.locs [2, 3, 1, 0] rfl ?_
      exact H9 (v0, v1, x3, (v3 + (1 : Int32)), x1.2)
def f_X5_handsAsNear_9_lp   (n : Nat) (v : Int32 × Int32 × Int32 × Int32 × zHp) : Option (Int32 × zHp) := zlp (fun k9 v => f_X5_handsAsNear_9 k9 v.1 v.2.1 v.2.2.1 v.2.2.2.1 v.2.2.2.2) n v
theorem f_X5_handsAsNear_9_ls  (n : Nat) (v : Int32 × Int32 × Int32 × Int32 × zHp) : Sim wX mX5_handsAsNear 2 rI 9 [(0, .int v.1), (1, .int v.2.1), (2, .int v.2.2.1), (3, .int v.2.2.2.1)] [] v.2.2.2.2 (f_X5_handsAsNear_9_lp n v) :=
  Sim.lp (V := Int32 × Int32 × Int32 × Int32 × zHp) (Lf := fun v => [(0, .int v.1), (1, .int v.2.1), (2, .int v.2.2.1), (3, .int v.2.2.2.1)]) (sf := fun v => []) (hf := fun v => v.2.2.2.2) (fun k9 H9 v => f_X5_handsAsNear_9_s k9 H9 v.1 v.2.1 v.2.2.1 v.2.2.2.1 v.2.2.2.2) n v
def f_X5_handsAsNear  (a1 : Int32) (h : zHp) : Option (Int32 × zHp) := (f_X5_handsApart a1 h).bind fun x1 => f_X5_handsAsNear_9_lp  zN (a1, x1.1, (0 : Int32), (0 : Int32), x1.2)
set_option maxHeartbeats 4000000 in
set_option maxRecDepth 100000 in
theorem s_X5_handsAsNear  (a1 : Int32) (h : zHp) : Fn wX mX5_handsAsNear 2 rI [.int a1] h (f_X5_handsAsNear a1 h) := by
  refine Fn.of rfl (Nat.le_of_ble_eq_true rfl) ?_
  unfold f_X5_handsAsNear
  refine Sim.iload_n 0 dX5_handsAsNear_0 rfl ?_
  refine Sim.callS1I (d1 := 1) (s_X5_handsApart a1 h) dX5_handsAsNear_1 ml_X5_99 mv_X5_handsApart (Nat.le_of_ble_eq_true rfl) (Nat.le_of_ble_eq_true rfl) (Nat.le_of_ble_eq_true rfl) (fun x1 => ?_)
  refine Sim.istore_n (L' := [(1, .int x1.1), (0, .int a1)]) dX5_handsAsNear_4 (Nat.le_of_ble_eq_true rfl) rfl ?_
  refine Sim.iconst (v := (0 : Int32)) dX5_handsAsNear_5 rfl ?_
  refine Sim.istore_n (L' := [(2, .int (0 : Int32)), (1, .int x1.1), (0, .int a1)]) dX5_handsAsNear_6 (Nat.le_of_ble_eq_true rfl) rfl ?_
  refine Sim.iconst (v := (0 : Int32)) dX5_handsAsNear_7 rfl ?_
  refine Sim.istore_n (L' := [(3, .int (0 : Int32)), (2, .int (0 : Int32)), (1, .int x1.1), (0, .int a1)]) dX5_handsAsNear_8 (Nat.le_of_ble_eq_true rfl) rfl ?_
  refine Sim.locs [3, 2, 1, 0] rfl ?_
  exact f_X5_handsAsNear_9_ls  zN (a1, x1.1, (0 : Int32), (0 : Int32), x1.2)
theorem mv_X5_handsAsNear : zMS mX5_handsAsNear 1 := ⟨⟨zTb_in 1203 (by decide +kernel) rfl, zTb_in 147 (by decide +kernel) rfl, ⟨by decide +kernel, by decide +kernel⟩, by decide +kernel⟩, zTb_in 1202 (by decide +kernel) rfl⟩
-- ===== RockingPorch$Puzzles.stepSet()J
abbrev mX5_stepSet : zMt := (yX5_stepSet, cX5_stepSet, 4, some .long)
theorem fl_X5_102 : zF RX5 102 8 4 := ⟨RX8, TX8, 7, rfl, Nat.le_of_ble_eq_true rfl, zTb_in 337 (by decide +kernel) rfl, in_X8⟩
theorem dX5_stepSet_0 : decode cX5_stepSet 0 = .ok (.lconst 0, 1) := by decide +kernel
theorem dX5_stepSet_1 : decode cX5_stepSet 1 = .ok (.lstore_n 1, 1) := by decide +kernel
theorem dX5_stepSet_2 : decode cX5_stepSet 2 = .ok (.iconst 0, 1) := by decide +kernel
theorem dX5_stepSet_3 : decode cX5_stepSet 3 = .ok (.istore_n 3, 1) := by decide +kernel
theorem dX5_stepSet_4 : decode cX5_stepSet 4 = .ok (.iload_n 3, 1) := by decide +kernel
theorem dX5_stepSet_5 : decode cX5_stepSet 5 = .ok (.aload_n 0, 1) := by decide +kernel
theorem dX5_stepSet_6 : decode cX5_stepSet 6 = .ok (.getfield 24, 3) := by decide +kernel
theorem dX5_stepSet_9 : decode cX5_stepSet 9 = .ok (.getfield 102, 3) := by decide +kernel
theorem dX5_stepSet_12 : decode cX5_stepSet 12 = .ok (.getfield 34, 3) := by decide +kernel
theorem dX5_stepSet_15 : decode cX5_stepSet 15 = .ok (.if_icmp .ge 25, 3) := by decide +kernel
theorem dX5_stepSet_18 : decode cX5_stepSet 18 = .ok (.lload_n 1, 1) := by decide +kernel
theorem dX5_stepSet_19 : decode cX5_stepSet 19 = .ok (.lconst 1, 1) := by decide +kernel
theorem dX5_stepSet_20 : decode cX5_stepSet 20 = .ok (.aload_n 0, 1) := by decide +kernel
theorem dX5_stepSet_21 : decode cX5_stepSet 21 = .ok (.getfield 24, 3) := by decide +kernel
theorem dX5_stepSet_24 : decode cX5_stepSet 24 = .ok (.getfield 102, 3) := by decide +kernel
theorem dX5_stepSet_27 : decode cX5_stepSet 27 = .ok (.iload_n 3, 1) := by decide +kernel
theorem dX5_stepSet_28 : decode cX5_stepSet 28 = .ok (.invokevirtual 40, 3) := by decide +kernel
theorem dX5_stepSet_31 : decode cX5_stepSet 31 = .ok (.lshl, 1) := by decide +kernel
theorem dX5_stepSet_32 : decode cX5_stepSet 32 = .ok (.lor, 1) := by decide +kernel
theorem dX5_stepSet_33 : decode cX5_stepSet 33 = .ok (.lstore_n 1, 1) := by decide +kernel
theorem dX5_stepSet_34 : decode cX5_stepSet 34 = .ok (.iinc 3 1, 3) := by decide +kernel
theorem dX5_stepSet_37 : decode cX5_stepSet 37 = .ok (.goto (-33), 3) := by decide +kernel
theorem dX5_stepSet_40 : decode cX5_stepSet 40 = .ok (.lload_n 1, 1) := by decide +kernel
theorem dX5_stepSet_41 : decode cX5_stepSet 41 = .ok (.lreturn, 1) := by decide +kernel
def f_X5_stepSet_4  (k4 : Int64 × Int32 × zHp → Option (Int64 × zHp)) (v1 : Int64) (v3 : Int32) (h : zHp) : Option (Int64 × zHp) := (if v3 < (h 35 1) then (f_X7_get 35 v3 h).bind fun x1 => zlt (v1 ||| ((1 : Int64) <<< (x1.1.toInt64 &&& 63))) fun x2 => k4 (x2, (v3 + (1 : Int32)), x1.2) else some (v1, h))
set_option maxHeartbeats 4000000 in
set_option maxRecDepth 100000 in
theorem f_X5_stepSet_4_s  (k4 : Int64 × Int32 × zHp → Option (Int64 × zHp)) (H4 : ∀ v : Int64 × Int32 × zHp, Sim wX mX5_stepSet 1 rJ 4 [(0, .ref 161), (1, .long v.1), (3, .int v.2.1)] [] v.2.2 (k4 v)) (v1 : Int64) (v3 : Int32) (h : zHp) : Sim wX mX5_stepSet 1 rJ 4 [(0, .ref 161), (1, .long v1), (3, .int v3)] [] h (f_X5_stepSet_4 k4 v1 v3 h) := by
  unfold f_X5_stepSet_4
  refine Sim.iload_n 2 dX5_stepSet_4 rfl ?_
  refine Sim.aload_n 0 dX5_stepSet_5 rfl ?_
  refine Sim.getR (j := 26) fl_X5_24 dX5_stepSet_6 xR_161_0 ?_
  refine Sim.getR (j := 35) fl_X5_102 dX5_stepSet_9 (xR_X8_4 _ xL_X8_26) ?_
  refine Sim.getI fl_X5_34 dX5_stepSet_12 (xI_X7_1 _ xL_X7_35) ?_
  refine Sim.icmp_ge 40 dX5_stepSet_15 rfl ?_ ?_
  · refine Sim.lload_n 1 dX5_stepSet_18 rfl ?_
    refine Sim.lconst (v := (1 : Int64)) dX5_stepSet_19 rfl ?_
    refine Sim.aload_n 0 dX5_stepSet_20 rfl ?_
    refine Sim.getR (j := 26) fl_X5_24 dX5_stepSet_21 xR_161_0 ?_
    refine Sim.getR (j := 35) fl_X5_102 dX5_stepSet_24 (xR_X8_4 _ xL_X8_26) ?_
    refine Sim.iload_n 2 dX5_stepSet_27 rfl ?_
    refine Sim.callV1I (d1 := 0) (s_X7_get 35 xL_X7_35 v3 h) dX5_stepSet_28 ml_X5_40 mv_X7_get (xOC_X7 _ xL_X7_35) (Nat.le_of_ble_eq_true rfl) (Nat.le_of_ble_eq_true rfl) (Nat.le_of_ble_eq_true rfl) (fun x1 => ?_)
    refine Sim.lshl dX5_stepSet_31 ?_
    refine Sim.lor dX5_stepSet_32 ?_
    refine Sim.ltl (fun x2 => ?_)
    refine Sim.lstore_n (L' := [(1, .long x2), (0, .ref 161), (3, .int v3)]) dX5_stepSet_33 (Nat.le_of_ble_eq_true rfl) rfl ?_
    refine Sim.iinc (L' := [(3, .int (v3 + (1 : Int32))), (1, .long x2), (0, .ref 161)]) 2 dX5_stepSet_34 rfl rfl (Nat.le_of_ble_eq_true rfl) rfl ?_
    refine Sim.goto 4 dX5_stepSet_37 rfl ?_
    refine Sim.locs [2, 1, 0] rfl ?_
    exact H4 (x2, (v3 + (1 : Int32)), x1.2)
  · refine Sim.lload_n 1 dX5_stepSet_40 rfl ?_
    exact Sim.lret dX5_stepSet_41 rfl
def f_X5_stepSet_4_lp   (n : Nat) (v : Int64 × Int32 × zHp) : Option (Int64 × zHp) := zlp (fun k4 v => f_X5_stepSet_4 k4 v.1 v.2.1 v.2.2) n v
theorem f_X5_stepSet_4_ls  (n : Nat) (v : Int64 × Int32 × zHp) : Sim wX mX5_stepSet 1 rJ 4 [(0, .ref 161), (1, .long v.1), (3, .int v.2.1)] [] v.2.2 (f_X5_stepSet_4_lp n v) :=
  Sim.lp (V := Int64 × Int32 × zHp) (Lf := fun v => [(0, .ref 161), (1, .long v.1), (3, .int v.2.1)]) (sf := fun v => []) (hf := fun v => v.2.2) (fun k4 H4 v => f_X5_stepSet_4_s k4 H4 v.1 v.2.1 v.2.2) n v
def f_X5_stepSet   (h : zHp) : Option (Int64 × zHp) := f_X5_stepSet_4_lp  zN ((0 : Int64), (0 : Int32), h)
set_option maxHeartbeats 4000000 in
set_option maxRecDepth 100000 in
theorem s_X5_stepSet   (h : zHp) : Fn wX mX5_stepSet 1 rJ [.ref 161] h (f_X5_stepSet  h) := by
  refine Fn.of rfl (Nat.le_of_ble_eq_true rfl) ?_
  unfold f_X5_stepSet
  refine Sim.lconst (v := (0 : Int64)) dX5_stepSet_0 rfl ?_
  refine Sim.lstore_n (L' := [(1, .long (0 : Int64)), (0, .ref 161)]) dX5_stepSet_1 (Nat.le_of_ble_eq_true rfl) rfl ?_
  refine Sim.iconst (v := (0 : Int32)) dX5_stepSet_2 rfl ?_
  refine Sim.istore_n (L' := [(3, .int (0 : Int32)), (1, .long (0 : Int64)), (0, .ref 161)]) dX5_stepSet_3 (Nat.le_of_ble_eq_true rfl) rfl ?_
  refine Sim.locs [2, 1, 0] rfl ?_
  exact f_X5_stepSet_4_ls  zN ((0 : Int64), (0 : Int32), h)
theorem mv_X5_stepSet : zMV mX5_stepSet 0 := ⟨⟨zTb_in 1220 (by decide +kernel) rfl, zTb_in 147 (by decide +kernel) rfl, ⟨by decide +kernel, by decide +kernel⟩, by decide +kernel⟩, zTb_in 1219 (by decide +kernel) rfl, zTb_in 35 (by decide +kernel) rfl⟩
-- ===== RockingPorch$Puzzles.stands(JI)Z
abbrev mX5_stands : zMt := (yX5_stands, cX5_stands, 3, some .boolean)
theorem dX5_stands_0 : decode cX5_stands 0 = .ok (.iload_n 2, 1) := by decide +kernel
theorem dX5_stands_1 : decode cX5_stands 1 = .ok (.ifCond .lt 23, 3) := by decide +kernel
theorem dX5_stands_4 : decode cX5_stands 4 = .ok (.iload_n 2, 1) := by decide +kernel
theorem dX5_stands_5 : decode cX5_stands 5 = .ok (.bipush 60, 2) := by decide +kernel
theorem dX5_stands_7 : decode cX5_stands 7 = .ok (.if_icmp .gt 17, 3) := by decide +kernel
theorem dX5_stands_10 : decode cX5_stands 10 = .ok (.lload_n 0, 1) := by decide +kernel
theorem dX5_stands_11 : decode cX5_stands 11 = .ok (.iload_n 2, 1) := by decide +kernel
theorem dX5_stands_12 : decode cX5_stands 12 = .ok (.lshr, 1) := by decide +kernel
theorem dX5_stands_13 : decode cX5_stands 13 = .ok (.lconst 1, 1) := by decide +kernel
theorem dX5_stands_14 : decode cX5_stands 14 = .ok (.land, 1) := by decide +kernel
theorem dX5_stands_15 : decode cX5_stands 15 = .ok (.lconst 1, 1) := by decide +kernel
theorem dX5_stands_16 : decode cX5_stands 16 = .ok (.lcmp, 1) := by decide +kernel
theorem dX5_stands_17 : decode cX5_stands 17 = .ok (.ifCond .ne 7, 3) := by decide +kernel
theorem dX5_stands_20 : decode cX5_stands 20 = .ok (.iconst 1, 1) := by decide +kernel
theorem dX5_stands_21 : decode cX5_stands 21 = .ok (.goto 4, 3) := by decide +kernel
theorem dX5_stands_24 : decode cX5_stands 24 = .ok (.iconst 0, 1) := by decide +kernel
theorem dX5_stands_25 : decode cX5_stands 25 = .ok (.ireturn, 1) := by decide +kernel
def f_X5_stands  (a1 : Int64) (a2 : Int32) (h : zHp) : Option (Int32 × zHp) := (if a2 < 0 then some ((0 : Int32), h) else (if (60 : Int32) < a2 then some ((0 : Int32), h) else (if (lg_cmp ((a1 >>> (a2.toInt64 &&& 63)) &&& (1 : Int64)) (1 : Int64)) = 0 then some ((1 : Int32), h) else some ((0 : Int32), h))))
set_option maxHeartbeats 4000000 in
set_option maxRecDepth 100000 in
theorem s_X5_stands  (a1 : Int64) (a2 : Int32) (h : zHp) : Fn wX mX5_stands 0 rI [.long a1, .int a2] h (f_X5_stands a1 a2 h) := by
  refine Fn.of rfl (Nat.le_of_ble_eq_true rfl) ?_
  unfold f_X5_stands
  refine Sim.iload_n 1 dX5_stands_0 rfl ?_
  refine Sim.if_lt 24 dX5_stands_1 rfl ?_ ?_
  · refine Sim.iconst (v := (0 : Int32)) dX5_stands_24 rfl ?_
    exact Sim.nret dX5_stands_25 rfl rfl
  · refine Sim.iload_n 1 dX5_stands_4 rfl ?_
    refine Sim.bipush (v := (60 : Int32)) dX5_stands_5 rfl ?_
    refine Sim.icmp_gt 24 dX5_stands_7 rfl ?_ ?_
    · refine Sim.iconst (v := (0 : Int32)) dX5_stands_24 rfl ?_
      exact Sim.nret dX5_stands_25 rfl rfl
    · refine Sim.lload_n 0 dX5_stands_10 rfl ?_
      refine Sim.iload_n 1 dX5_stands_11 rfl ?_
      refine Sim.lshr dX5_stands_12 ?_
      refine Sim.lconst (v := (1 : Int64)) dX5_stands_13 rfl ?_
      refine Sim.land dX5_stands_14 ?_
      refine Sim.lconst (v := (1 : Int64)) dX5_stands_15 rfl ?_
      refine Sim.lcmp dX5_stands_16 ?_
      refine Sim.if_ne 24 dX5_stands_17 rfl ?_ ?_
      · refine Sim.iconst (v := (1 : Int32)) dX5_stands_20 rfl ?_
        refine Sim.goto 25 dX5_stands_21 rfl ?_
        exact Sim.nret dX5_stands_25 rfl rfl
      · refine Sim.iconst (v := (0 : Int32)) dX5_stands_24 rfl ?_
        exact Sim.nret dX5_stands_25 rfl rfl
theorem mv_X5_stands : zMS mX5_stands 2 := ⟨⟨zTb_in 1223 (by decide +kernel) rfl, zTb_in 147 (by decide +kernel) rfl, ⟨by decide +kernel, by decide +kernel⟩, by decide +kernel⟩, zTb_in 1222 (by decide +kernel) rfl⟩
-- ===== RockingPorch$Puzzles.threes()I
abbrev mX5_threes : zMt := (yX5_threes, cX5_threes, 6, some .int)
theorem ml_X5_105 : Cond.methodLink RX5 105 yX5_stepSet ∈ zTb := zTb_in 1217 (by decide +kernel) rfl
theorem ml_X5_109 : Cond.methodLink RX5 109 yX5_stands ∈ zTb := zTb_in 1221 (by decide +kernel) rfl
theorem dX5_threes_0 : decode cX5_threes 0 = .ok (.aload_n 0, 1) := by decide +kernel
theorem dX5_threes_1 : decode cX5_threes 1 = .ok (.invokevirtual 105, 3) := by decide +kernel
theorem dX5_threes_4 : decode cX5_threes 4 = .ok (.lstore_n 1, 1) := by decide +kernel
theorem dX5_threes_5 : decode cX5_threes 5 = .ok (.iconst 0, 1) := by decide +kernel
theorem dX5_threes_6 : decode cX5_threes 6 = .ok (.istore_n 3, 1) := by decide +kernel
theorem dX5_threes_7 : decode cX5_threes 7 = .ok (.iconst 0, 1) := by decide +kernel
theorem dX5_threes_8 : decode cX5_threes 8 = .ok (.istore 4, 2) := by decide +kernel
theorem dX5_threes_10 : decode cX5_threes 10 = .ok (.iload 4, 2) := by decide +kernel
theorem dX5_threes_12 : decode cX5_threes 12 = .ok (.bipush 60, 2) := by decide +kernel
theorem dX5_threes_14 : decode cX5_threes 14 = .ok (.if_icmp .gt 73, 3) := by decide +kernel
theorem dX5_threes_17 : decode cX5_threes 17 = .ok (.iconst 1, 1) := by decide +kernel
theorem dX5_threes_18 : decode cX5_threes 18 = .ok (.istore 5, 2) := by decide +kernel
theorem dX5_threes_20 : decode cX5_threes 20 = .ok (.lload_n 1, 1) := by decide +kernel
theorem dX5_threes_21 : decode cX5_threes 21 = .ok (.iload 4, 2) := by decide +kernel
theorem dX5_threes_23 : decode cX5_threes 23 = .ok (.invokestatic 109, 3) := by decide +kernel
theorem dX5_threes_26 : decode cX5_threes 26 = .ok (.ifCond .eq 55, 3) := by decide +kernel
theorem dX5_threes_29 : decode cX5_threes 29 = .ok (.iload 4, 2) := by decide +kernel
theorem dX5_threes_31 : decode cX5_threes 31 = .ok (.iconst 2, 1) := by decide +kernel
theorem dX5_threes_32 : decode cX5_threes 32 = .ok (.iload 5, 2) := by decide +kernel
theorem dX5_threes_34 : decode cX5_threes 34 = .ok (.imul, 1) := by decide +kernel
theorem dX5_threes_35 : decode cX5_threes 35 = .ok (.iadd, 1) := by decide +kernel
theorem dX5_threes_36 : decode cX5_threes 36 = .ok (.bipush 60, 2) := by decide +kernel
theorem dX5_threes_38 : decode cX5_threes 38 = .ok (.if_icmp .gt 43, 3) := by decide +kernel
theorem dX5_threes_41 : decode cX5_threes 41 = .ok (.iload_n 3, 1) := by decide +kernel
theorem dX5_threes_42 : decode cX5_threes 42 = .ok (.lload_n 1, 1) := by decide +kernel
theorem dX5_threes_43 : decode cX5_threes 43 = .ok (.iload 4, 2) := by decide +kernel
theorem dX5_threes_45 : decode cX5_threes 45 = .ok (.iload 5, 2) := by decide +kernel
theorem dX5_threes_47 : decode cX5_threes 47 = .ok (.iadd, 1) := by decide +kernel
theorem dX5_threes_48 : decode cX5_threes 48 = .ok (.invokestatic 109, 3) := by decide +kernel
theorem dX5_threes_51 : decode cX5_threes 51 = .ok (.ifCond .eq 21, 3) := by decide +kernel
theorem dX5_threes_54 : decode cX5_threes 54 = .ok (.lload_n 1, 1) := by decide +kernel
theorem dX5_threes_55 : decode cX5_threes 55 = .ok (.iload 4, 2) := by decide +kernel
theorem dX5_threes_57 : decode cX5_threes 57 = .ok (.iconst 2, 1) := by decide +kernel
theorem dX5_threes_58 : decode cX5_threes 58 = .ok (.iload 5, 2) := by decide +kernel
theorem dX5_threes_60 : decode cX5_threes 60 = .ok (.imul, 1) := by decide +kernel
theorem dX5_threes_61 : decode cX5_threes 61 = .ok (.iadd, 1) := by decide +kernel
theorem dX5_threes_62 : decode cX5_threes 62 = .ok (.invokestatic 109, 3) := by decide +kernel
theorem dX5_threes_65 : decode cX5_threes 65 = .ok (.ifCond .eq 7, 3) := by decide +kernel
theorem dX5_threes_68 : decode cX5_threes 68 = .ok (.iconst 1, 1) := by decide +kernel
theorem dX5_threes_69 : decode cX5_threes 69 = .ok (.goto 4, 3) := by decide +kernel
theorem dX5_threes_72 : decode cX5_threes 72 = .ok (.iconst 0, 1) := by decide +kernel
theorem dX5_threes_73 : decode cX5_threes 73 = .ok (.iadd, 1) := by decide +kernel
theorem dX5_threes_74 : decode cX5_threes 74 = .ok (.istore_n 3, 1) := by decide +kernel
theorem dX5_threes_75 : decode cX5_threes 75 = .ok (.iinc 5 1, 3) := by decide +kernel
theorem dX5_threes_78 : decode cX5_threes 78 = .ok (.goto (-58), 3) := by decide +kernel
theorem dX5_threes_81 : decode cX5_threes 81 = .ok (.iinc 4 1, 3) := by decide +kernel
theorem dX5_threes_84 : decode cX5_threes 84 = .ok (.goto (-74), 3) := by decide +kernel
theorem dX5_threes_87 : decode cX5_threes 87 = .ok (.iload_n 3, 1) := by decide +kernel
theorem dX5_threes_88 : decode cX5_threes 88 = .ok (.ireturn, 1) := by decide +kernel
def f_X5_threes_72  (k10 : Int64 × Int32 × Int32 × zHp → Option (Int32 × zHp)) (k20 : Int64 × Int32 × Int32 × Int32 × zHp → Option (Int32 × zHp)) (v1 : Int64) (v4 : Int32) (v5 : Int32) (s0 : Int32) (h : zHp) : Option (Int32 × zHp) := zlt (s0 + (0 : Int32)) fun x1 => k20 (v1, x1, v4, (v5 + (1 : Int32)), h)
set_option maxHeartbeats 4000000 in
set_option maxRecDepth 100000 in
theorem f_X5_threes_72_s  (k10 : Int64 × Int32 × Int32 × zHp → Option (Int32 × zHp)) (H10 : ∀ v : Int64 × Int32 × Int32 × zHp, Sim wX mX5_threes 2 rI 10 [(1, .long v.1), (3, .int v.2.1), (4, .int v.2.2.1)] [] v.2.2.2 (k10 v)) (k20 : Int64 × Int32 × Int32 × Int32 × zHp → Option (Int32 × zHp)) (H20 : ∀ v : Int64 × Int32 × Int32 × Int32 × zHp, Sim wX mX5_threes 2 rI 20 [(1, .long v.1), (3, .int v.2.1), (4, .int v.2.2.1), (5, .int v.2.2.2.1)] [] v.2.2.2.2 (k20 v)) (v1 : Int64) (v4 : Int32) (v5 : Int32) (s0 : Int32) (h : zHp) : Sim wX mX5_threes 2 rI 72 [(1, .long v1), (4, .int v4), (5, .int v5)] [.int s0] h (f_X5_threes_72 k10 k20 v1 v4 v5 s0 h) := by
  unfold f_X5_threes_72
  refine Sim.iconst (v := (0 : Int32)) dX5_threes_72 rfl ?_
  refine Sim.iadd dX5_threes_73 ?_
  refine Sim.lti (fun x1 => ?_)
  refine Sim.istore_n (L' := [(3, .int x1), (1, .long v1), (4, .int v4), (5, .int v5)]) dX5_threes_74 (Nat.le_of_ble_eq_true rfl) rfl ?_
  refine Sim.iinc (L' := [(5, .int (v5 + (1 : Int32))), (3, .int x1), (1, .long v1), (4, .int v4)]) 3 dX5_threes_75 rfl rfl (Nat.le_of_ble_eq_true rfl) rfl ?_
  refine Sim.goto 20 dX5_threes_78 rfl ?_
  refine Sim.locs [2, 1, 3, 0] rfl ?_
  exact H20 (v1, x1, v4, (v5 + (1 : Int32)), h)
def f_X5_threes_20  (k10 : Int64 × Int32 × Int32 × zHp → Option (Int32 × zHp)) (k20 : Int64 × Int32 × Int32 × Int32 × zHp → Option (Int32 × zHp)) (v1 : Int64) (v3 : Int32) (v4 : Int32) (v5 : Int32) (h : zHp) : Option (Int32 × zHp) := (f_X5_stands v1 v4 h).bind fun x1 => (if x1.1 = 0 then k10 (v1, v3, (v4 + (1 : Int32)), x1.2) else (if (60 : Int32) < (v4 + ((2 : Int32) * v5)) then k10 (v1, v3, (v4 + (1 : Int32)), x1.2) else (f_X5_stands v1 (v4 + v5) x1.2).bind fun x2 => (if x2.1 = 0 then f_X5_threes_72 k10 k20 v1 v4 v5 v3 x2.2 else (f_X5_stands v1 (v4 + ((2 : Int32) * v5)) x2.2).bind fun x3 => (if x3.1 = 0 then f_X5_threes_72 k10 k20 v1 v4 v5 v3 x3.2 else zlt (v3 + (1 : Int32)) fun x4 => k20 (v1, x4, v4, (v5 + (1 : Int32)), x3.2)))))
set_option maxHeartbeats 4000000 in
set_option maxRecDepth 100000 in
theorem f_X5_threes_20_s  (k10 : Int64 × Int32 × Int32 × zHp → Option (Int32 × zHp)) (H10 : ∀ v : Int64 × Int32 × Int32 × zHp, Sim wX mX5_threes 2 rI 10 [(1, .long v.1), (3, .int v.2.1), (4, .int v.2.2.1)] [] v.2.2.2 (k10 v)) (k20 : Int64 × Int32 × Int32 × Int32 × zHp → Option (Int32 × zHp)) (H20 : ∀ v : Int64 × Int32 × Int32 × Int32 × zHp, Sim wX mX5_threes 2 rI 20 [(1, .long v.1), (3, .int v.2.1), (4, .int v.2.2.1), (5, .int v.2.2.2.1)] [] v.2.2.2.2 (k20 v)) (v1 : Int64) (v3 : Int32) (v4 : Int32) (v5 : Int32) (h : zHp) : Sim wX mX5_threes 2 rI 20 [(1, .long v1), (3, .int v3), (4, .int v4), (5, .int v5)] [] h (f_X5_threes_20 k10 k20 v1 v3 v4 v5 h) := by
  unfold f_X5_threes_20
  refine Sim.lload_n 0 dX5_threes_20 rfl ?_
  refine Sim.iload 2 dX5_threes_21 rfl ?_
  refine Sim.callS2I (d1 := 0) (s_X5_stands v1 v4 h) dX5_threes_23 ml_X5_109 mv_X5_stands (Nat.le_of_ble_eq_true rfl) (Nat.le_of_ble_eq_true rfl) (Nat.le_of_ble_eq_true rfl) (fun x1 => ?_)
  refine Sim.if_eq 81 dX5_threes_26 rfl ?_ ?_
  · refine Sim.iinc (L' := [(4, .int (v4 + (1 : Int32))), (1, .long v1), (3, .int v3), (5, .int v5)]) 2 dX5_threes_81 rfl rfl (Nat.le_of_ble_eq_true rfl) rfl ?_
    refine Sim.goto 10 dX5_threes_84 rfl ?_
    refine Sim.locs [1, 2, 0] rfl ?_
    exact H10 (v1, v3, (v4 + (1 : Int32)), x1.2)
  · refine Sim.iload 2 dX5_threes_29 rfl ?_
    refine Sim.iconst (v := (2 : Int32)) dX5_threes_31 rfl ?_
    refine Sim.iload 3 dX5_threes_32 rfl ?_
    refine Sim.imul dX5_threes_34 ?_
    refine Sim.iadd dX5_threes_35 ?_
    refine Sim.bipush (v := (60 : Int32)) dX5_threes_36 rfl ?_
    refine Sim.icmp_gt 81 dX5_threes_38 rfl ?_ ?_
    · refine Sim.iinc (L' := [(4, .int (v4 + (1 : Int32))), (1, .long v1), (3, .int v3), (5, .int v5)]) 2 dX5_threes_81 rfl rfl (Nat.le_of_ble_eq_true rfl) rfl ?_
      refine Sim.goto 10 dX5_threes_84 rfl ?_
      refine Sim.locs [1, 2, 0] rfl ?_
      exact H10 (v1, v3, (v4 + (1 : Int32)), x1.2)
    · refine Sim.iload_n 1 dX5_threes_41 rfl ?_
      refine Sim.lload_n 0 dX5_threes_42 rfl ?_
      refine Sim.iload 2 dX5_threes_43 rfl ?_
      refine Sim.iload 3 dX5_threes_45 rfl ?_
      refine Sim.iadd dX5_threes_47 ?_
      refine Sim.callS2I (d1 := 0) (s_X5_stands v1 (v4 + v5) x1.2) dX5_threes_48 ml_X5_109 mv_X5_stands (Nat.le_of_ble_eq_true rfl) (Nat.le_of_ble_eq_true rfl) (Nat.le_of_ble_eq_true rfl) (fun x2 => ?_)
      refine Sim.if_eq 72 dX5_threes_51 rfl ?_ ?_
      · refine Sim.locs [0, 2, 3] rfl ?_
        exact f_X5_threes_72_s k10 H10 k20 H20 v1 v4 v5 v3 x2.2
      · refine Sim.lload_n 0 dX5_threes_54 rfl ?_
        refine Sim.iload 2 dX5_threes_55 rfl ?_
        refine Sim.iconst (v := (2 : Int32)) dX5_threes_57 rfl ?_
        refine Sim.iload 3 dX5_threes_58 rfl ?_
        refine Sim.imul dX5_threes_60 ?_
        refine Sim.iadd dX5_threes_61 ?_
        refine Sim.callS2I (d1 := 0) (s_X5_stands v1 (v4 + ((2 : Int32) * v5)) x2.2) dX5_threes_62 ml_X5_109 mv_X5_stands (Nat.le_of_ble_eq_true rfl) (Nat.le_of_ble_eq_true rfl) (Nat.le_of_ble_eq_true rfl) (fun x3 => ?_)
        refine Sim.if_eq 72 dX5_threes_65 rfl ?_ ?_
        · refine Sim.locs [0, 2, 3] rfl ?_
          exact f_X5_threes_72_s k10 H10 k20 H20 v1 v4 v5 v3 x3.2
        · refine Sim.iconst (v := (1 : Int32)) dX5_threes_68 rfl ?_
          refine Sim.goto 73 dX5_threes_69 rfl ?_
          refine Sim.iadd dX5_threes_73 ?_
          refine Sim.lti (fun x4 => ?_)
          refine Sim.istore_n (L' := [(3, .int x4), (1, .long v1), (4, .int v4), (5, .int v5)]) dX5_threes_74 (Nat.le_of_ble_eq_true rfl) rfl ?_
          refine Sim.iinc (L' := [(5, .int (v5 + (1 : Int32))), (3, .int x4), (1, .long v1), (4, .int v4)]) 3 dX5_threes_75 rfl rfl (Nat.le_of_ble_eq_true rfl) rfl ?_
          refine Sim.goto 20 dX5_threes_78 rfl ?_
          refine Sim.locs [2, 1, 3, 0] rfl ?_
          exact H20 (v1, x4, v4, (v5 + (1 : Int32)), x3.2)
def f_X5_threes_20_lp  (k10 : Int64 × Int32 × Int32 × zHp → Option (Int32 × zHp)) (n : Nat) (v : Int64 × Int32 × Int32 × Int32 × zHp) : Option (Int32 × zHp) := zlp (fun k20 v => f_X5_threes_20 k10 k20 v.1 v.2.1 v.2.2.1 v.2.2.2.1 v.2.2.2.2) n v
theorem f_X5_threes_20_ls  (k10 : Int64 × Int32 × Int32 × zHp → Option (Int32 × zHp)) (H10 : ∀ v : Int64 × Int32 × Int32 × zHp, Sim wX mX5_threes 2 rI 10 [(1, .long v.1), (3, .int v.2.1), (4, .int v.2.2.1)] [] v.2.2.2 (k10 v)) (n : Nat) (v : Int64 × Int32 × Int32 × Int32 × zHp) : Sim wX mX5_threes 2 rI 20 [(1, .long v.1), (3, .int v.2.1), (4, .int v.2.2.1), (5, .int v.2.2.2.1)] [] v.2.2.2.2 (f_X5_threes_20_lp k10 n v) :=
  Sim.lp (V := Int64 × Int32 × Int32 × Int32 × zHp) (Lf := fun v => [(1, .long v.1), (3, .int v.2.1), (4, .int v.2.2.1), (5, .int v.2.2.2.1)]) (sf := fun v => []) (hf := fun v => v.2.2.2.2) (fun k20 H20 v => f_X5_threes_20_s k10 H10 k20 H20 v.1 v.2.1 v.2.2.1 v.2.2.2.1 v.2.2.2.2) n v
def f_X5_threes_10  (k10 : Int64 × Int32 × Int32 × zHp → Option (Int32 × zHp)) (v1 : Int64) (v3 : Int32) (v4 : Int32) (h : zHp) : Option (Int32 × zHp) := (if (60 : Int32) < v4 then some (v3, h) else f_X5_threes_20_lp k10 zN (v1, v3, v4, (1 : Int32), h))
set_option maxHeartbeats 4000000 in
set_option maxRecDepth 100000 in
theorem f_X5_threes_10_s  (k10 : Int64 × Int32 × Int32 × zHp → Option (Int32 × zHp)) (H10 : ∀ v : Int64 × Int32 × Int32 × zHp, Sim wX mX5_threes 2 rI 10 [(1, .long v.1), (3, .int v.2.1), (4, .int v.2.2.1)] [] v.2.2.2 (k10 v)) (v1 : Int64) (v3 : Int32) (v4 : Int32) (h : zHp) : Sim wX mX5_threes 2 rI 10 [(1, .long v1), (3, .int v3), (4, .int v4)] [] h (f_X5_threes_10 k10 v1 v3 v4 h) := by
  unfold f_X5_threes_10
  refine Sim.iload 2 dX5_threes_10 rfl ?_
  refine Sim.bipush (v := (60 : Int32)) dX5_threes_12 rfl ?_
  refine Sim.icmp_gt 87 dX5_threes_14 rfl ?_ ?_
  · refine Sim.iload_n 1 dX5_threes_87 rfl ?_
    exact Sim.iret dX5_threes_88 rfl
  · refine Sim.iconst (v := (1 : Int32)) dX5_threes_17 rfl ?_
    refine Sim.istore (L' := [(5, .int (1 : Int32)), (1, .long v1), (3, .int v3), (4, .int v4)]) dX5_threes_18 (Nat.le_of_ble_eq_true rfl) rfl ?_
    refine Sim.locs [1, 2, 3, 0] rfl ?_
    exact f_X5_threes_20_ls k10 H10 zN (v1, v3, v4, (1 : Int32), h)
def f_X5_threes_10_lp   (n : Nat) (v : Int64 × Int32 × Int32 × zHp) : Option (Int32 × zHp) := zlp (fun k10 v => f_X5_threes_10 k10 v.1 v.2.1 v.2.2.1 v.2.2.2) n v
theorem f_X5_threes_10_ls  (n : Nat) (v : Int64 × Int32 × Int32 × zHp) : Sim wX mX5_threes 2 rI 10 [(1, .long v.1), (3, .int v.2.1), (4, .int v.2.2.1)] [] v.2.2.2 (f_X5_threes_10_lp n v) :=
  Sim.lp (V := Int64 × Int32 × Int32 × zHp) (Lf := fun v => [(1, .long v.1), (3, .int v.2.1), (4, .int v.2.2.1)]) (sf := fun v => []) (hf := fun v => v.2.2.2) (fun k10 H10 v => f_X5_threes_10_s k10 H10 v.1 v.2.1 v.2.2.1 v.2.2.2) n v
def f_X5_threes   (h : zHp) : Option (Int32 × zHp) := (f_X5_stepSet h).bind fun x1 => f_X5_threes_10_lp  zN (x1.1, (0 : Int32), (0 : Int32), x1.2)
set_option maxHeartbeats 4000000 in
set_option maxRecDepth 100000 in
theorem s_X5_threes   (h : zHp) : Fn wX mX5_threes 2 rI [.ref 161] h (f_X5_threes  h) := by
  refine Fn.of rfl (Nat.le_of_ble_eq_true rfl) ?_
  unfold f_X5_threes
  refine Sim.aload_n 0 dX5_threes_0 rfl ?_
  refine Sim.callV0J (d1 := 1) (s_X5_stepSet h) dX5_threes_1 ml_X5_105 mv_X5_stepSet xO_X5 (Nat.le_of_ble_eq_true rfl) (Nat.le_of_ble_eq_true rfl) (Nat.le_of_ble_eq_true rfl) (fun x1 => ?_)
  refine Sim.lstore_n (L' := [(1, .long x1.1), (0, .ref 161)]) dX5_threes_4 (Nat.le_of_ble_eq_true rfl) rfl ?_
  refine Sim.iconst (v := (0 : Int32)) dX5_threes_5 rfl ?_
  refine Sim.istore_n (L' := [(3, .int (0 : Int32)), (1, .long x1.1), (0, .ref 161)]) dX5_threes_6 (Nat.le_of_ble_eq_true rfl) rfl ?_
  refine Sim.iconst (v := (0 : Int32)) dX5_threes_7 rfl ?_
  refine Sim.istore (L' := [(4, .int (0 : Int32)), (3, .int (0 : Int32)), (1, .long x1.1), (0, .ref 161)]) dX5_threes_8 (Nat.le_of_ble_eq_true rfl) rfl ?_
  refine Sim.locs [2, 1, 0] rfl ?_
  exact f_X5_threes_10_ls  zN (x1.1, (0 : Int32), (0 : Int32), x1.2)
theorem mv_X5_threes : zMV mX5_threes 0 := ⟨⟨zTb_in 1216 (by decide +kernel) rfl, zTb_in 147 (by decide +kernel) rfl, ⟨by decide +kernel, by decide +kernel⟩, by decide +kernel⟩, zTb_in 1214 (by decide +kernel) rfl, zTb_in 1215 (by decide +kernel) rfl⟩
-- ===== RockingPorch$Puzzles.longestStair()I
abbrev mX5_longestStair : zMt := (yX5_longestStair, cX5_longestStair, 7, some .int)
theorem dX5_longestStair_0 : decode cX5_longestStair 0 = .ok (.aload_n 0, 1) := by decide +kernel
theorem dX5_longestStair_1 : decode cX5_longestStair 1 = .ok (.invokevirtual 105, 3) := by decide +kernel
theorem dX5_longestStair_4 : decode cX5_longestStair 4 = .ok (.lstore_n 1, 1) := by decide +kernel
theorem dX5_longestStair_5 : decode cX5_longestStair 5 = .ok (.aload_n 0, 1) := by decide +kernel
theorem dX5_longestStair_6 : decode cX5_longestStair 6 = .ok (.getfield 24, 3) := by decide +kernel
theorem dX5_longestStair_9 : decode cX5_longestStair 9 = .ok (.getfield 102, 3) := by decide +kernel
theorem dX5_longestStair_12 : decode cX5_longestStair 12 = .ok (.getfield 34, 3) := by decide +kernel
theorem dX5_longestStair_15 : decode cX5_longestStair 15 = .ok (.iconst 1, 1) := by decide +kernel
theorem dX5_longestStair_16 : decode cX5_longestStair 16 = .ok (.invokestatic 71, 3) := by decide +kernel
theorem dX5_longestStair_19 : decode cX5_longestStair 19 = .ok (.istore_n 3, 1) := by decide +kernel
theorem dX5_longestStair_20 : decode cX5_longestStair 20 = .ok (.iconst 0, 1) := by decide +kernel
theorem dX5_longestStair_21 : decode cX5_longestStair 21 = .ok (.istore 4, 2) := by decide +kernel
theorem dX5_longestStair_23 : decode cX5_longestStair 23 = .ok (.iload 4, 2) := by decide +kernel
theorem dX5_longestStair_25 : decode cX5_longestStair 25 = .ok (.bipush 60, 2) := by decide +kernel
theorem dX5_longestStair_27 : decode cX5_longestStair 27 = .ok (.if_icmp .gt 75, 3) := by decide +kernel
theorem dX5_longestStair_30 : decode cX5_longestStair 30 = .ok (.iconst 1, 1) := by decide +kernel
theorem dX5_longestStair_31 : decode cX5_longestStair 31 = .ok (.istore 5, 2) := by decide +kernel
theorem dX5_longestStair_33 : decode cX5_longestStair 33 = .ok (.lload_n 1, 1) := by decide +kernel
theorem dX5_longestStair_34 : decode cX5_longestStair 34 = .ok (.iload 4, 2) := by decide +kernel
theorem dX5_longestStair_36 : decode cX5_longestStair 36 = .ok (.invokestatic 109, 3) := by decide +kernel
theorem dX5_longestStair_39 : decode cX5_longestStair 39 = .ok (.ifCond .eq 57, 3) := by decide +kernel
theorem dX5_longestStair_42 : decode cX5_longestStair 42 = .ok (.iload 4, 2) := by decide +kernel
theorem dX5_longestStair_44 : decode cX5_longestStair 44 = .ok (.iload 5, 2) := by decide +kernel
theorem dX5_longestStair_46 : decode cX5_longestStair 46 = .ok (.iadd, 1) := by decide +kernel
theorem dX5_longestStair_47 : decode cX5_longestStair 47 = .ok (.bipush 60, 2) := by decide +kernel
theorem dX5_longestStair_49 : decode cX5_longestStair 49 = .ok (.if_icmp .gt 47, 3) := by decide +kernel
theorem dX5_longestStair_52 : decode cX5_longestStair 52 = .ok (.iconst 1, 1) := by decide +kernel
theorem dX5_longestStair_53 : decode cX5_longestStair 53 = .ok (.istore 6, 2) := by decide +kernel
theorem dX5_longestStair_55 : decode cX5_longestStair 55 = .ok (.iload 6, 2) := by decide +kernel
theorem dX5_longestStair_57 : decode cX5_longestStair 57 = .ok (.bipush 60, 2) := by decide +kernel
theorem dX5_longestStair_59 : decode cX5_longestStair 59 = .ok (.if_icmp .gt 24, 3) := by decide +kernel
theorem dX5_longestStair_62 : decode cX5_longestStair 62 = .ok (.lload_n 1, 1) := by decide +kernel
theorem dX5_longestStair_63 : decode cX5_longestStair 63 = .ok (.iload 4, 2) := by decide +kernel
theorem dX5_longestStair_65 : decode cX5_longestStair 65 = .ok (.iload 6, 2) := by decide +kernel
theorem dX5_longestStair_67 : decode cX5_longestStair 67 = .ok (.iload 5, 2) := by decide +kernel
theorem dX5_longestStair_69 : decode cX5_longestStair 69 = .ok (.imul, 1) := by decide +kernel
theorem dX5_longestStair_70 : decode cX5_longestStair 70 = .ok (.iadd, 1) := by decide +kernel
theorem dX5_longestStair_71 : decode cX5_longestStair 71 = .ok (.invokestatic 109, 3) := by decide +kernel
theorem dX5_longestStair_74 : decode cX5_longestStair 74 = .ok (.ifCond .eq 9, 3) := by decide +kernel
theorem dX5_longestStair_77 : decode cX5_longestStair 77 = .ok (.iinc 6 1, 3) := by decide +kernel
theorem dX5_longestStair_80 : decode cX5_longestStair 80 = .ok (.goto (-25), 3) := by decide +kernel
theorem dX5_longestStair_83 : decode cX5_longestStair 83 = .ok (.iload_n 3, 1) := by decide +kernel
theorem dX5_longestStair_84 : decode cX5_longestStair 84 = .ok (.iload 6, 2) := by decide +kernel
theorem dX5_longestStair_86 : decode cX5_longestStair 86 = .ok (.invokestatic 47, 3) := by decide +kernel
theorem dX5_longestStair_89 : decode cX5_longestStair 89 = .ok (.istore_n 3, 1) := by decide +kernel
theorem dX5_longestStair_90 : decode cX5_longestStair 90 = .ok (.iinc 5 1, 3) := by decide +kernel
theorem dX5_longestStair_93 : decode cX5_longestStair 93 = .ok (.goto (-60), 3) := by decide +kernel
theorem dX5_longestStair_96 : decode cX5_longestStair 96 = .ok (.iinc 4 1, 3) := by decide +kernel
theorem dX5_longestStair_99 : decode cX5_longestStair 99 = .ok (.goto (-76), 3) := by decide +kernel
theorem dX5_longestStair_102 : decode cX5_longestStair 102 = .ok (.iload_n 3, 1) := by decide +kernel
theorem dX5_longestStair_103 : decode cX5_longestStair 103 = .ok (.ireturn, 1) := by decide +kernel
def f_X5_longestStair_83  (k23 : Int64 × Int32 × Int32 × zHp → Option (Int32 × zHp)) (k33 : Int64 × Int32 × Int32 × Int32 × zHp → Option (Int32 × zHp)) (v1 : Int64) (v3 : Int32) (v4 : Int32) (v5 : Int32) (v6 : Int32) (h : zHp) : Option (Int32 × zHp) := zlt (if v3 < v6 then v6 else v3) fun x1 => k33 (v1, x1, v4, (v5 + (1 : Int32)), h)
set_option maxHeartbeats 4000000 in
set_option maxRecDepth 100000 in
theorem f_X5_longestStair_83_s  (k23 : Int64 × Int32 × Int32 × zHp → Option (Int32 × zHp)) (H23 : ∀ v : Int64 × Int32 × Int32 × zHp, Sim wX mX5_longestStair 2 rI 23 [(1, .long v.1), (3, .int v.2.1), (4, .int v.2.2.1)] [] v.2.2.2 (k23 v)) (k33 : Int64 × Int32 × Int32 × Int32 × zHp → Option (Int32 × zHp)) (H33 : ∀ v : Int64 × Int32 × Int32 × Int32 × zHp, Sim wX mX5_longestStair 2 rI 33 [(1, .long v.1), (3, .int v.2.1), (4, .int v.2.2.1), (5, .int v.2.2.2.1)] [] v.2.2.2.2 (k33 v)) (v1 : Int64) (v3 : Int32) (v4 : Int32) (v5 : Int32) (v6 : Int32) (h : zHp) : Sim wX mX5_longestStair 2 rI 83 [(1, .long v1), (3, .int v3), (4, .int v4), (5, .int v5), (6, .int v6)] [] h (f_X5_longestStair_83 k23 k33 v1 v3 v4 v5 v6 h) := by
  unfold f_X5_longestStair_83
  refine Sim.iload_n 1 dX5_longestStair_83 rfl ?_
  refine Sim.iload 4 dX5_longestStair_84 rfl ?_
  refine Sim.mmax dX5_longestStair_86 ml_X5_47 ms_max ms_Math mc_max (Nat.le_of_ble_eq_true rfl) (Nat.le_of_ble_eq_true rfl) ?_
  refine Sim.lti (fun x1 => ?_)
  refine Sim.istore_n (L' := [(3, .int x1), (1, .long v1), (4, .int v4), (5, .int v5), (6, .int v6)]) dX5_longestStair_89 (Nat.le_of_ble_eq_true rfl) rfl ?_
  refine Sim.iinc (L' := [(5, .int (v5 + (1 : Int32))), (3, .int x1), (1, .long v1), (4, .int v4), (6, .int v6)]) 3 dX5_longestStair_90 rfl rfl (Nat.le_of_ble_eq_true rfl) rfl ?_
  refine Sim.goto 33 dX5_longestStair_93 rfl ?_
  refine Sim.locs [2, 1, 3, 0] rfl ?_
  exact H33 (v1, x1, v4, (v5 + (1 : Int32)), h)
def f_X5_longestStair_55  (k23 : Int64 × Int32 × Int32 × zHp → Option (Int32 × zHp)) (k33 : Int64 × Int32 × Int32 × Int32 × zHp → Option (Int32 × zHp)) (k55 : Int64 × Int32 × Int32 × Int32 × Int32 × zHp → Option (Int32 × zHp)) (v1 : Int64) (v3 : Int32) (v4 : Int32) (v5 : Int32) (v6 : Int32) (h : zHp) : Option (Int32 × zHp) := (if (60 : Int32) < v6 then f_X5_longestStair_83 k23 k33 v1 v3 v4 v5 v6 h else (f_X5_stands v1 (v4 + (v6 * v5)) h).bind fun x1 => (if x1.1 = 0 then f_X5_longestStair_83 k23 k33 v1 v3 v4 v5 v6 x1.2 else k55 (v1, v3, v4, v5, (v6 + (1 : Int32)), x1.2)))
set_option maxHeartbeats 4000000 in
set_option maxRecDepth 100000 in
theorem f_X5_longestStair_55_s  (k23 : Int64 × Int32 × Int32 × zHp → Option (Int32 × zHp)) (H23 : ∀ v : Int64 × Int32 × Int32 × zHp, Sim wX mX5_longestStair 2 rI 23 [(1, .long v.1), (3, .int v.2.1), (4, .int v.2.2.1)] [] v.2.2.2 (k23 v)) (k33 : Int64 × Int32 × Int32 × Int32 × zHp → Option (Int32 × zHp)) (H33 : ∀ v : Int64 × Int32 × Int32 × Int32 × zHp, Sim wX mX5_longestStair 2 rI 33 [(1, .long v.1), (3, .int v.2.1), (4, .int v.2.2.1), (5, .int v.2.2.2.1)] [] v.2.2.2.2 (k33 v)) (k55 : Int64 × Int32 × Int32 × Int32 × Int32 × zHp → Option (Int32 × zHp)) (H55 : ∀ v : Int64 × Int32 × Int32 × Int32 × Int32 × zHp, Sim wX mX5_longestStair 2 rI 55 [(1, .long v.1), (3, .int v.2.1), (4, .int v.2.2.1), (5, .int v.2.2.2.1), (6, .int v.2.2.2.2.1)] [] v.2.2.2.2.2 (k55 v)) (v1 : Int64) (v3 : Int32) (v4 : Int32) (v5 : Int32) (v6 : Int32) (h : zHp) : Sim wX mX5_longestStair 2 rI 55 [(1, .long v1), (3, .int v3), (4, .int v4), (5, .int v5), (6, .int v6)] [] h (f_X5_longestStair_55 k23 k33 k55 v1 v3 v4 v5 v6 h) := by
  unfold f_X5_longestStair_55
  refine Sim.iload 4 dX5_longestStair_55 rfl ?_
  refine Sim.bipush (v := (60 : Int32)) dX5_longestStair_57 rfl ?_
  refine Sim.icmp_gt 83 dX5_longestStair_59 rfl ?_ ?_
  · exact f_X5_longestStair_83_s k23 H23 k33 H33 v1 v3 v4 v5 v6 h
  · refine Sim.lload_n 0 dX5_longestStair_62 rfl ?_
    refine Sim.iload 2 dX5_longestStair_63 rfl ?_
    refine Sim.iload 4 dX5_longestStair_65 rfl ?_
    refine Sim.iload 3 dX5_longestStair_67 rfl ?_
    refine Sim.imul dX5_longestStair_69 ?_
    refine Sim.iadd dX5_longestStair_70 ?_
    refine Sim.callS2I (d1 := 0) (s_X5_stands v1 (v4 + (v6 * v5)) h) dX5_longestStair_71 ml_X5_109 mv_X5_stands (Nat.le_of_ble_eq_true rfl) (Nat.le_of_ble_eq_true rfl) (Nat.le_of_ble_eq_true rfl) (fun x1 => ?_)
    refine Sim.if_eq 83 dX5_longestStair_74 rfl ?_ ?_
    · exact f_X5_longestStair_83_s k23 H23 k33 H33 v1 v3 v4 v5 v6 x1.2
    · refine Sim.iinc (L' := [(6, .int (v6 + (1 : Int32))), (1, .long v1), (3, .int v3), (4, .int v4), (5, .int v5)]) 4 dX5_longestStair_77 rfl rfl (Nat.le_of_ble_eq_true rfl) rfl ?_
      refine Sim.goto 55 dX5_longestStair_80 rfl ?_
      refine Sim.locs [1, 2, 3, 4, 0] rfl ?_
      exact H55 (v1, v3, v4, v5, (v6 + (1 : Int32)), x1.2)
def f_X5_longestStair_55_lp  (k23 : Int64 × Int32 × Int32 × zHp → Option (Int32 × zHp)) (k33 : Int64 × Int32 × Int32 × Int32 × zHp → Option (Int32 × zHp)) (n : Nat) (v : Int64 × Int32 × Int32 × Int32 × Int32 × zHp) : Option (Int32 × zHp) := zlp (fun k55 v => f_X5_longestStair_55 k23 k33 k55 v.1 v.2.1 v.2.2.1 v.2.2.2.1 v.2.2.2.2.1 v.2.2.2.2.2) n v
theorem f_X5_longestStair_55_ls  (k23 : Int64 × Int32 × Int32 × zHp → Option (Int32 × zHp)) (H23 : ∀ v : Int64 × Int32 × Int32 × zHp, Sim wX mX5_longestStair 2 rI 23 [(1, .long v.1), (3, .int v.2.1), (4, .int v.2.2.1)] [] v.2.2.2 (k23 v)) (k33 : Int64 × Int32 × Int32 × Int32 × zHp → Option (Int32 × zHp)) (H33 : ∀ v : Int64 × Int32 × Int32 × Int32 × zHp, Sim wX mX5_longestStair 2 rI 33 [(1, .long v.1), (3, .int v.2.1), (4, .int v.2.2.1), (5, .int v.2.2.2.1)] [] v.2.2.2.2 (k33 v)) (n : Nat) (v : Int64 × Int32 × Int32 × Int32 × Int32 × zHp) : Sim wX mX5_longestStair 2 rI 55 [(1, .long v.1), (3, .int v.2.1), (4, .int v.2.2.1), (5, .int v.2.2.2.1), (6, .int v.2.2.2.2.1)] [] v.2.2.2.2.2 (f_X5_longestStair_55_lp k23 k33 n v) :=
  Sim.lp (V := Int64 × Int32 × Int32 × Int32 × Int32 × zHp) (Lf := fun v => [(1, .long v.1), (3, .int v.2.1), (4, .int v.2.2.1), (5, .int v.2.2.2.1), (6, .int v.2.2.2.2.1)]) (sf := fun v => []) (hf := fun v => v.2.2.2.2.2) (fun k55 H55 v => f_X5_longestStair_55_s k23 H23 k33 H33 k55 H55 v.1 v.2.1 v.2.2.1 v.2.2.2.1 v.2.2.2.2.1 v.2.2.2.2.2) n v
def f_X5_longestStair_33  (k23 : Int64 × Int32 × Int32 × zHp → Option (Int32 × zHp)) (k33 : Int64 × Int32 × Int32 × Int32 × zHp → Option (Int32 × zHp)) (v1 : Int64) (v3 : Int32) (v4 : Int32) (v5 : Int32) (h : zHp) : Option (Int32 × zHp) := (f_X5_stands v1 v4 h).bind fun x1 => (if x1.1 = 0 then k23 (v1, v3, (v4 + (1 : Int32)), x1.2) else (if (60 : Int32) < (v4 + v5) then k23 (v1, v3, (v4 + (1 : Int32)), x1.2) else f_X5_longestStair_55_lp k23 k33 zN (v1, v3, v4, v5, (1 : Int32), x1.2)))
set_option maxHeartbeats 4000000 in
set_option maxRecDepth 100000 in
theorem f_X5_longestStair_33_s  (k23 : Int64 × Int32 × Int32 × zHp → Option (Int32 × zHp)) (H23 : ∀ v : Int64 × Int32 × Int32 × zHp, Sim wX mX5_longestStair 2 rI 23 [(1, .long v.1), (3, .int v.2.1), (4, .int v.2.2.1)] [] v.2.2.2 (k23 v)) (k33 : Int64 × Int32 × Int32 × Int32 × zHp → Option (Int32 × zHp)) (H33 : ∀ v : Int64 × Int32 × Int32 × Int32 × zHp, Sim wX mX5_longestStair 2 rI 33 [(1, .long v.1), (3, .int v.2.1), (4, .int v.2.2.1), (5, .int v.2.2.2.1)] [] v.2.2.2.2 (k33 v)) (v1 : Int64) (v3 : Int32) (v4 : Int32) (v5 : Int32) (h : zHp) : Sim wX mX5_longestStair 2 rI 33 [(1, .long v1), (3, .int v3), (4, .int v4), (5, .int v5)] [] h (f_X5_longestStair_33 k23 k33 v1 v3 v4 v5 h) := by
  unfold f_X5_longestStair_33
  refine Sim.lload_n 0 dX5_longestStair_33 rfl ?_
  refine Sim.iload 2 dX5_longestStair_34 rfl ?_
  refine Sim.callS2I (d1 := 0) (s_X5_stands v1 v4 h) dX5_longestStair_36 ml_X5_109 mv_X5_stands (Nat.le_of_ble_eq_true rfl) (Nat.le_of_ble_eq_true rfl) (Nat.le_of_ble_eq_true rfl) (fun x1 => ?_)
  refine Sim.if_eq 96 dX5_longestStair_39 rfl ?_ ?_
  · refine Sim.iinc (L' := [(4, .int (v4 + (1 : Int32))), (1, .long v1), (3, .int v3), (5, .int v5)]) 2 dX5_longestStair_96 rfl rfl (Nat.le_of_ble_eq_true rfl) rfl ?_
    refine Sim.goto 23 dX5_longestStair_99 rfl ?_
    refine Sim.locs [1, 2, 0] rfl ?_
    exact H23 (v1, v3, (v4 + (1 : Int32)), x1.2)
  · refine Sim.iload 2 dX5_longestStair_42 rfl ?_
    refine Sim.iload 3 dX5_longestStair_44 rfl ?_
    refine Sim.iadd dX5_longestStair_46 ?_
    refine Sim.bipush (v := (60 : Int32)) dX5_longestStair_47 rfl ?_
    refine Sim.icmp_gt 96 dX5_longestStair_49 rfl ?_ ?_
    · refine Sim.iinc (L' := [(4, .int (v4 + (1 : Int32))), (1, .long v1), (3, .int v3), (5, .int v5)]) 2 dX5_longestStair_96 rfl rfl (Nat.le_of_ble_eq_true rfl) rfl ?_
      refine Sim.goto 23 dX5_longestStair_99 rfl ?_
      refine Sim.locs [1, 2, 0] rfl ?_
      exact H23 (v1, v3, (v4 + (1 : Int32)), x1.2)
    · refine Sim.iconst (v := (1 : Int32)) dX5_longestStair_52 rfl ?_
      refine Sim.istore (L' := [(6, .int (1 : Int32)), (1, .long v1), (3, .int v3), (4, .int v4), (5, .int v5)]) dX5_longestStair_53 (Nat.le_of_ble_eq_true rfl) rfl ?_
      refine Sim.locs [1, 2, 3, 4, 0] rfl ?_
      exact f_X5_longestStair_55_ls k23 H23 k33 H33 zN (v1, v3, v4, v5, (1 : Int32), x1.2)
def f_X5_longestStair_33_lp  (k23 : Int64 × Int32 × Int32 × zHp → Option (Int32 × zHp)) (n : Nat) (v : Int64 × Int32 × Int32 × Int32 × zHp) : Option (Int32 × zHp) := zlp (fun k33 v => f_X5_longestStair_33 k23 k33 v.1 v.2.1 v.2.2.1 v.2.2.2.1 v.2.2.2.2) n v
theorem f_X5_longestStair_33_ls  (k23 : Int64 × Int32 × Int32 × zHp → Option (Int32 × zHp)) (H23 : ∀ v : Int64 × Int32 × Int32 × zHp, Sim wX mX5_longestStair 2 rI 23 [(1, .long v.1), (3, .int v.2.1), (4, .int v.2.2.1)] [] v.2.2.2 (k23 v)) (n : Nat) (v : Int64 × Int32 × Int32 × Int32 × zHp) : Sim wX mX5_longestStair 2 rI 33 [(1, .long v.1), (3, .int v.2.1), (4, .int v.2.2.1), (5, .int v.2.2.2.1)] [] v.2.2.2.2 (f_X5_longestStair_33_lp k23 n v) :=
  Sim.lp (V := Int64 × Int32 × Int32 × Int32 × zHp) (Lf := fun v => [(1, .long v.1), (3, .int v.2.1), (4, .int v.2.2.1), (5, .int v.2.2.2.1)]) (sf := fun v => []) (hf := fun v => v.2.2.2.2) (fun k33 H33 v => f_X5_longestStair_33_s k23 H23 k33 H33 v.1 v.2.1 v.2.2.1 v.2.2.2.1 v.2.2.2.2) n v
def f_X5_longestStair_23  (k23 : Int64 × Int32 × Int32 × zHp → Option (Int32 × zHp)) (v1 : Int64) (v3 : Int32) (v4 : Int32) (h : zHp) : Option (Int32 × zHp) := (if (60 : Int32) < v4 then some (v3, h) else f_X5_longestStair_33_lp k23 zN (v1, v3, v4, (1 : Int32), h))
set_option maxHeartbeats 4000000 in
set_option maxRecDepth 100000 in
theorem f_X5_longestStair_23_s  (k23 : Int64 × Int32 × Int32 × zHp → Option (Int32 × zHp)) (H23 : ∀ v : Int64 × Int32 × Int32 × zHp, Sim wX mX5_longestStair 2 rI 23 [(1, .long v.1), (3, .int v.2.1), (4, .int v.2.2.1)] [] v.2.2.2 (k23 v)) (v1 : Int64) (v3 : Int32) (v4 : Int32) (h : zHp) : Sim wX mX5_longestStair 2 rI 23 [(1, .long v1), (3, .int v3), (4, .int v4)] [] h (f_X5_longestStair_23 k23 v1 v3 v4 h) := by
  unfold f_X5_longestStair_23
  refine Sim.iload 2 dX5_longestStair_23 rfl ?_
  refine Sim.bipush (v := (60 : Int32)) dX5_longestStair_25 rfl ?_
  refine Sim.icmp_gt 102 dX5_longestStair_27 rfl ?_ ?_
  · refine Sim.iload_n 1 dX5_longestStair_102 rfl ?_
    exact Sim.iret dX5_longestStair_103 rfl
  · refine Sim.iconst (v := (1 : Int32)) dX5_longestStair_30 rfl ?_
    refine Sim.istore (L' := [(5, .int (1 : Int32)), (1, .long v1), (3, .int v3), (4, .int v4)]) dX5_longestStair_31 (Nat.le_of_ble_eq_true rfl) rfl ?_
    refine Sim.locs [1, 2, 3, 0] rfl ?_
    exact f_X5_longestStair_33_ls k23 H23 zN (v1, v3, v4, (1 : Int32), h)
def f_X5_longestStair_23_lp   (n : Nat) (v : Int64 × Int32 × Int32 × zHp) : Option (Int32 × zHp) := zlp (fun k23 v => f_X5_longestStair_23 k23 v.1 v.2.1 v.2.2.1 v.2.2.2) n v
theorem f_X5_longestStair_23_ls  (n : Nat) (v : Int64 × Int32 × Int32 × zHp) : Sim wX mX5_longestStair 2 rI 23 [(1, .long v.1), (3, .int v.2.1), (4, .int v.2.2.1)] [] v.2.2.2 (f_X5_longestStair_23_lp n v) :=
  Sim.lp (V := Int64 × Int32 × Int32 × zHp) (Lf := fun v => [(1, .long v.1), (3, .int v.2.1), (4, .int v.2.2.1)]) (sf := fun v => []) (hf := fun v => v.2.2.2) (fun k23 H23 v => f_X5_longestStair_23_s k23 H23 v.1 v.2.1 v.2.2.1 v.2.2.2) n v
def f_X5_longestStair   (h : zHp) : Option (Int32 × zHp) := (f_X5_stepSet h).bind fun x1 => zlt (if (1 : Int32) < (x1.2 35 1) then (1 : Int32) else (x1.2 35 1)) fun x2 => f_X5_longestStair_23_lp  zN (x1.1, x2, (0 : Int32), x1.2)
set_option maxHeartbeats 4000000 in
set_option maxRecDepth 100000 in
theorem s_X5_longestStair   (h : zHp) : Fn wX mX5_longestStair 2 rI [.ref 161] h (f_X5_longestStair  h) := by
  refine Fn.of rfl (Nat.le_of_ble_eq_true rfl) ?_
  unfold f_X5_longestStair
  refine Sim.aload_n 0 dX5_longestStair_0 rfl ?_
  refine Sim.callV0J (d1 := 1) (s_X5_stepSet h) dX5_longestStair_1 ml_X5_105 mv_X5_stepSet xO_X5 (Nat.le_of_ble_eq_true rfl) (Nat.le_of_ble_eq_true rfl) (Nat.le_of_ble_eq_true rfl) (fun x1 => ?_)
  refine Sim.lstore_n (L' := [(1, .long x1.1), (0, .ref 161)]) dX5_longestStair_4 (Nat.le_of_ble_eq_true rfl) rfl ?_
  refine Sim.aload_n 1 dX5_longestStair_5 rfl ?_
  refine Sim.getR (j := 26) fl_X5_24 dX5_longestStair_6 xR_161_0 ?_
  refine Sim.getR (j := 35) fl_X5_102 dX5_longestStair_9 (xR_X8_4 _ xL_X8_26) ?_
  refine Sim.getI fl_X5_34 dX5_longestStair_12 (xI_X7_1 _ xL_X7_35) ?_
  refine Sim.iconst (v := (1 : Int32)) dX5_longestStair_15 rfl ?_
  refine Sim.mmin dX5_longestStair_16 ml_X5_71 ms_min ms_Math mc_min (Nat.le_of_ble_eq_true rfl) (Nat.le_of_ble_eq_true rfl) ?_
  refine Sim.lti (fun x2 => ?_)
  refine Sim.istore_n (L' := [(3, .int x2), (1, .long x1.1), (0, .ref 161)]) dX5_longestStair_19 (Nat.le_of_ble_eq_true rfl) rfl ?_
  refine Sim.iconst (v := (0 : Int32)) dX5_longestStair_20 rfl ?_
  refine Sim.istore (L' := [(4, .int (0 : Int32)), (3, .int x2), (1, .long x1.1), (0, .ref 161)]) dX5_longestStair_21 (Nat.le_of_ble_eq_true rfl) rfl ?_
  refine Sim.locs [2, 1, 0] rfl ?_
  exact f_X5_longestStair_23_ls  zN (x1.1, x2, (0 : Int32), x1.2)
theorem mv_X5_longestStair : zMV mX5_longestStair 0 := ⟨⟨zTb_in 1227 (by decide +kernel) rfl, zTb_in 147 (by decide +kernel) rfl, ⟨by decide +kernel, by decide +kernel⟩, by decide +kernel⟩, zTb_in 1225 (by decide +kernel) rfl, zTb_in 1226 (by decide +kernel) rfl⟩
-- ===== RockingPorch$Puzzles.sortCoins(I)V
abbrev mX5_sortCoins : zMt := (yX5_sortCoins, cX5_sortCoins, 5, none)
theorem fl_X5_113 : zF RX5 113 8 5 := ⟨RX8, TX8, 7, rfl, Nat.le_of_ble_eq_true rfl, zTb_in 340 (by decide +kernel) rfl, in_X8⟩
theorem dX5_sortCoins_0 : decode cX5_sortCoins 0 = .ok (.iconst 0, 1) := by decide +kernel
theorem dX5_sortCoins_1 : decode cX5_sortCoins 1 = .ok (.istore_n 2, 1) := by decide +kernel
theorem dX5_sortCoins_2 : decode cX5_sortCoins 2 = .ok (.iload_n 2, 1) := by decide +kernel
theorem dX5_sortCoins_3 : decode cX5_sortCoins 3 = .ok (.iload_n 1, 1) := by decide +kernel
theorem dX5_sortCoins_4 : decode cX5_sortCoins 4 = .ok (.if_icmp .ge 78, 3) := by decide +kernel
theorem dX5_sortCoins_7 : decode cX5_sortCoins 7 = .ok (.iload_n 2, 1) := by decide +kernel
theorem dX5_sortCoins_8 : decode cX5_sortCoins 8 = .ok (.bipush 10, 2) := by decide +kernel
theorem dX5_sortCoins_10 : decode cX5_sortCoins 10 = .ok (.if_icmp .ge 72, 3) := by decide +kernel
theorem dX5_sortCoins_13 : decode cX5_sortCoins 13 = .ok (.aload_n 0, 1) := by decide +kernel
theorem dX5_sortCoins_14 : decode cX5_sortCoins 14 = .ok (.getfield 24, 3) := by decide +kernel
theorem dX5_sortCoins_17 : decode cX5_sortCoins 17 = .ok (.getfield 113, 3) := by decide +kernel
theorem dX5_sortCoins_20 : decode cX5_sortCoins 20 = .ok (.iload_n 2, 1) := by decide +kernel
theorem dX5_sortCoins_21 : decode cX5_sortCoins 21 = .ok (.invokevirtual 40, 3) := by decide +kernel
theorem dX5_sortCoins_24 : decode cX5_sortCoins 24 = .ok (.istore_n 3, 1) := by decide +kernel
theorem dX5_sortCoins_25 : decode cX5_sortCoins 25 = .ok (.iload_n 2, 1) := by decide +kernel
theorem dX5_sortCoins_26 : decode cX5_sortCoins 26 = .ok (.istore 4, 2) := by decide +kernel
theorem dX5_sortCoins_28 : decode cX5_sortCoins 28 = .ok (.iload 4, 2) := by decide +kernel
theorem dX5_sortCoins_30 : decode cX5_sortCoins 30 = .ok (.ifCond .le 38, 3) := by decide +kernel
theorem dX5_sortCoins_33 : decode cX5_sortCoins 33 = .ok (.aload_n 0, 1) := by decide +kernel
theorem dX5_sortCoins_34 : decode cX5_sortCoins 34 = .ok (.getfield 9, 3) := by decide +kernel
theorem dX5_sortCoins_37 : decode cX5_sortCoins 37 = .ok (.iload 4, 2) := by decide +kernel
theorem dX5_sortCoins_39 : decode cX5_sortCoins 39 = .ok (.iconst 1, 1) := by decide +kernel
theorem dX5_sortCoins_40 : decode cX5_sortCoins 40 = .ok (.isub, 1) := by decide +kernel
theorem dX5_sortCoins_41 : decode cX5_sortCoins 41 = .ok (.iaload, 1) := by decide +kernel
theorem dX5_sortCoins_42 : decode cX5_sortCoins 42 = .ok (.iload_n 3, 1) := by decide +kernel
theorem dX5_sortCoins_43 : decode cX5_sortCoins 43 = .ok (.if_icmp .le 25, 3) := by decide +kernel
theorem dX5_sortCoins_46 : decode cX5_sortCoins 46 = .ok (.aload_n 0, 1) := by decide +kernel
theorem dX5_sortCoins_47 : decode cX5_sortCoins 47 = .ok (.getfield 9, 3) := by decide +kernel
theorem dX5_sortCoins_50 : decode cX5_sortCoins 50 = .ok (.iload 4, 2) := by decide +kernel
theorem dX5_sortCoins_52 : decode cX5_sortCoins 52 = .ok (.aload_n 0, 1) := by decide +kernel
theorem dX5_sortCoins_53 : decode cX5_sortCoins 53 = .ok (.getfield 9, 3) := by decide +kernel
theorem dX5_sortCoins_56 : decode cX5_sortCoins 56 = .ok (.iload 4, 2) := by decide +kernel
theorem dX5_sortCoins_58 : decode cX5_sortCoins 58 = .ok (.iconst 1, 1) := by decide +kernel
theorem dX5_sortCoins_59 : decode cX5_sortCoins 59 = .ok (.isub, 1) := by decide +kernel
theorem dX5_sortCoins_60 : decode cX5_sortCoins 60 = .ok (.iaload, 1) := by decide +kernel
theorem dX5_sortCoins_61 : decode cX5_sortCoins 61 = .ok (.iastore, 1) := by decide +kernel
theorem dX5_sortCoins_62 : decode cX5_sortCoins 62 = .ok (.iinc 4 (-1), 3) := by decide +kernel
theorem dX5_sortCoins_65 : decode cX5_sortCoins 65 = .ok (.goto (-37), 3) := by decide +kernel
theorem dX5_sortCoins_68 : decode cX5_sortCoins 68 = .ok (.aload_n 0, 1) := by decide +kernel
theorem dX5_sortCoins_69 : decode cX5_sortCoins 69 = .ok (.getfield 9, 3) := by decide +kernel
theorem dX5_sortCoins_72 : decode cX5_sortCoins 72 = .ok (.iload 4, 2) := by decide +kernel
theorem dX5_sortCoins_74 : decode cX5_sortCoins 74 = .ok (.iload_n 3, 1) := by decide +kernel
theorem dX5_sortCoins_75 : decode cX5_sortCoins 75 = .ok (.iastore, 1) := by decide +kernel
theorem dX5_sortCoins_76 : decode cX5_sortCoins 76 = .ok (.iinc 2 1, 3) := by decide +kernel
theorem dX5_sortCoins_79 : decode cX5_sortCoins 79 = .ok (.goto (-77), 3) := by decide +kernel
theorem dX5_sortCoins_82 : decode cX5_sortCoins 82 = .ok (.return_, 1) := by decide +kernel
def f_X5_sortCoins_68  (k2 : Int32 × Int32 × zHp → Option (zHp)) (v1 : Int32) (v2 : Int32) (v3 : Int32) (v4 : Int32) (h : zHp) : Option (zHp) := zix v4 10 (zlt (zst h 162 v4.toNatClampNeg v3) fun h1 => k2 (v1, (v2 + (1 : Int32)), h1))
set_option maxHeartbeats 4000000 in
set_option maxRecDepth 100000 in
theorem f_X5_sortCoins_68_s  (k2 : Int32 × Int32 × zHp → Option (zHp)) (H2 : ∀ v : Int32 × Int32 × zHp, Sim wX mX5_sortCoins 1 rV 2 [(0, .ref 161), (1, .int v.1), (2, .int v.2.1)] [] v.2.2 (k2 v)) (v1 : Int32) (v2 : Int32) (v3 : Int32) (v4 : Int32) (h : zHp) : Sim wX mX5_sortCoins 1 rV 68 [(0, .ref 161), (1, .int v1), (2, .int v2), (3, .int v3), (4, .int v4)] [] h (f_X5_sortCoins_68 k2 v1 v2 v3 v4 h) := by
  unfold f_X5_sortCoins_68
  refine Sim.aload_n 0 dX5_sortCoins_68 rfl ?_
  refine Sim.getR (j := 162) fl_X5_9 dX5_sortCoins_69 xR_161_1 ?_
  refine Sim.iload 4 dX5_sortCoins_72 rfl ?_
  refine Sim.iload_n 3 dX5_sortCoins_74 rfl ?_
  refine Sim.iast (n := 10) dX5_sortCoins_75 xA_162 ?_
  refine Sim.lth (fun h1 => ?_)
  refine Sim.iinc (L' := [(2, .int (v2 + (1 : Int32))), (0, .ref 161), (1, .int v1), (3, .int v3), (4, .int v4)]) 2 dX5_sortCoins_76 rfl rfl (Nat.le_of_ble_eq_true rfl) rfl ?_
  refine Sim.goto 2 dX5_sortCoins_79 rfl ?_
  refine Sim.locs [1, 2, 0] rfl ?_
  exact H2 (v1, (v2 + (1 : Int32)), h1)
def f_X5_sortCoins_28  (k2 : Int32 × Int32 × zHp → Option (zHp)) (k28 : Int32 × Int32 × Int32 × Int32 × zHp → Option (zHp)) (v1 : Int32) (v2 : Int32) (v3 : Int32) (v4 : Int32) (h : zHp) : Option (zHp) := (if 0 < v4 then zix (v4 - (1 : Int32)) 10 ((if v3 < (h 162 (v4 - (1 : Int32)).toNatClampNeg) then zix (v4 - (1 : Int32)) 10 (zix v4 10 (zlt (zst h 162 v4.toNatClampNeg (h 162 (v4 - (1 : Int32)).toNatClampNeg)) fun h1 => k28 (v1, v2, v3, (v4 + (-1 : Int32)), h1))) else f_X5_sortCoins_68 k2 v1 v2 v3 v4 h)) else f_X5_sortCoins_68 k2 v1 v2 v3 v4 h)
set_option maxHeartbeats 4000000 in
set_option maxRecDepth 100000 in
theorem f_X5_sortCoins_28_s  (k2 : Int32 × Int32 × zHp → Option (zHp)) (H2 : ∀ v : Int32 × Int32 × zHp, Sim wX mX5_sortCoins 1 rV 2 [(0, .ref 161), (1, .int v.1), (2, .int v.2.1)] [] v.2.2 (k2 v)) (k28 : Int32 × Int32 × Int32 × Int32 × zHp → Option (zHp)) (H28 : ∀ v : Int32 × Int32 × Int32 × Int32 × zHp, Sim wX mX5_sortCoins 1 rV 28 [(0, .ref 161), (1, .int v.1), (2, .int v.2.1), (3, .int v.2.2.1), (4, .int v.2.2.2.1)] [] v.2.2.2.2 (k28 v)) (v1 : Int32) (v2 : Int32) (v3 : Int32) (v4 : Int32) (h : zHp) : Sim wX mX5_sortCoins 1 rV 28 [(0, .ref 161), (1, .int v1), (2, .int v2), (3, .int v3), (4, .int v4)] [] h (f_X5_sortCoins_28 k2 k28 v1 v2 v3 v4 h) := by
  unfold f_X5_sortCoins_28
  refine Sim.iload 4 dX5_sortCoins_28 rfl ?_
  refine Sim.if_le 68 dX5_sortCoins_30 rfl ?_ ?_
  · refine Sim.aload_n 0 dX5_sortCoins_33 rfl ?_
    refine Sim.getR (j := 162) fl_X5_9 dX5_sortCoins_34 xR_161_1 ?_
    refine Sim.iload 4 dX5_sortCoins_37 rfl ?_
    refine Sim.iconst (v := (1 : Int32)) dX5_sortCoins_39 rfl ?_
    refine Sim.isub dX5_sortCoins_40 ?_
    refine Sim.iald (n := 10) dX5_sortCoins_41 xA_162 ?_
    refine Sim.iload_n 3 dX5_sortCoins_42 rfl ?_
    refine Sim.icmp_le 68 dX5_sortCoins_43 rfl ?_ ?_
    · refine Sim.aload_n 0 dX5_sortCoins_46 rfl ?_
      refine Sim.getR (j := 162) fl_X5_9 dX5_sortCoins_47 xR_161_1 ?_
      refine Sim.iload 4 dX5_sortCoins_50 rfl ?_
      refine Sim.aload_n 0 dX5_sortCoins_52 rfl ?_
      refine Sim.getR (j := 162) fl_X5_9 dX5_sortCoins_53 xR_161_1 ?_
      refine Sim.iload 4 dX5_sortCoins_56 rfl ?_
      refine Sim.iconst (v := (1 : Int32)) dX5_sortCoins_58 rfl ?_
      refine Sim.isub dX5_sortCoins_59 ?_
      refine Sim.iald (n := 10) dX5_sortCoins_60 xA_162 ?_
      refine Sim.iast (n := 10) dX5_sortCoins_61 xA_162 ?_
      refine Sim.lth (fun h1 => ?_)
      refine Sim.iinc (L' := [(4, .int (v4 + (-1 : Int32))), (0, .ref 161), (1, .int v1), (2, .int v2), (3, .int v3)]) 4 dX5_sortCoins_62 rfl rfl (Nat.le_of_ble_eq_true rfl) rfl ?_
      refine Sim.goto 28 dX5_sortCoins_65 rfl ?_
      refine Sim.locs [1, 2, 3, 4, 0] rfl ?_
      exact H28 (v1, v2, v3, (v4 + (-1 : Int32)), h1)
    · exact f_X5_sortCoins_68_s k2 H2 v1 v2 v3 v4 h
  · exact f_X5_sortCoins_68_s k2 H2 v1 v2 v3 v4 h
def f_X5_sortCoins_28_lp  (k2 : Int32 × Int32 × zHp → Option (zHp)) (n : Nat) (v : Int32 × Int32 × Int32 × Int32 × zHp) : Option (zHp) := zlp (fun k28 v => f_X5_sortCoins_28 k2 k28 v.1 v.2.1 v.2.2.1 v.2.2.2.1 v.2.2.2.2) n v
theorem f_X5_sortCoins_28_ls  (k2 : Int32 × Int32 × zHp → Option (zHp)) (H2 : ∀ v : Int32 × Int32 × zHp, Sim wX mX5_sortCoins 1 rV 2 [(0, .ref 161), (1, .int v.1), (2, .int v.2.1)] [] v.2.2 (k2 v)) (n : Nat) (v : Int32 × Int32 × Int32 × Int32 × zHp) : Sim wX mX5_sortCoins 1 rV 28 [(0, .ref 161), (1, .int v.1), (2, .int v.2.1), (3, .int v.2.2.1), (4, .int v.2.2.2.1)] [] v.2.2.2.2 (f_X5_sortCoins_28_lp k2 n v) :=
  Sim.lp (V := Int32 × Int32 × Int32 × Int32 × zHp) (Lf := fun v => [(0, .ref 161), (1, .int v.1), (2, .int v.2.1), (3, .int v.2.2.1), (4, .int v.2.2.2.1)]) (sf := fun v => []) (hf := fun v => v.2.2.2.2) (fun k28 H28 v => f_X5_sortCoins_28_s k2 H2 k28 H28 v.1 v.2.1 v.2.2.1 v.2.2.2.1 v.2.2.2.2) n v
def f_X5_sortCoins_2  (k2 : Int32 × Int32 × zHp → Option (zHp)) (v1 : Int32) (v2 : Int32) (h : zHp) : Option (zHp) := (if v2 < v1 then (if v2 < (10 : Int32) then (f_X7_get 37 v2 h).bind fun x1 => f_X5_sortCoins_28_lp k2 zN (v1, v2, x1.1, v2, x1.2) else some h) else some h)
set_option maxHeartbeats 4000000 in
set_option maxRecDepth 100000 in
theorem f_X5_sortCoins_2_s  (k2 : Int32 × Int32 × zHp → Option (zHp)) (H2 : ∀ v : Int32 × Int32 × zHp, Sim wX mX5_sortCoins 1 rV 2 [(0, .ref 161), (1, .int v.1), (2, .int v.2.1)] [] v.2.2 (k2 v)) (v1 : Int32) (v2 : Int32) (h : zHp) : Sim wX mX5_sortCoins 1 rV 2 [(0, .ref 161), (1, .int v1), (2, .int v2)] [] h (f_X5_sortCoins_2 k2 v1 v2 h) := by
  unfold f_X5_sortCoins_2
  refine Sim.iload_n 2 dX5_sortCoins_2 rfl ?_
  refine Sim.iload_n 1 dX5_sortCoins_3 rfl ?_
  refine Sim.icmp_ge 82 dX5_sortCoins_4 rfl ?_ ?_
  · refine Sim.iload_n 2 dX5_sortCoins_7 rfl ?_
    refine Sim.bipush (v := (10 : Int32)) dX5_sortCoins_8 rfl ?_
    refine Sim.icmp_ge 82 dX5_sortCoins_10 rfl ?_ ?_
    · refine Sim.aload_n 0 dX5_sortCoins_13 rfl ?_
      refine Sim.getR (j := 26) fl_X5_24 dX5_sortCoins_14 xR_161_0 ?_
      refine Sim.getR (j := 37) fl_X5_113 dX5_sortCoins_17 (xR_X8_5 _ xL_X8_26) ?_
      refine Sim.iload_n 2 dX5_sortCoins_20 rfl ?_
      refine Sim.callV1I (d1 := 0) (s_X7_get 37 xL_X7_37 v2 h) dX5_sortCoins_21 ml_X5_40 mv_X7_get (xOC_X7 _ xL_X7_37) (Nat.le_of_ble_eq_true rfl) (Nat.le_of_ble_eq_true rfl) (Nat.le_of_ble_eq_true rfl) (fun x1 => ?_)
      refine Sim.istore_n (L' := [(3, .int x1.1), (0, .ref 161), (1, .int v1), (2, .int v2)]) dX5_sortCoins_24 (Nat.le_of_ble_eq_true rfl) rfl ?_
      refine Sim.iload_n 3 dX5_sortCoins_25 rfl ?_
      refine Sim.istore (L' := [(4, .int v2), (3, .int x1.1), (0, .ref 161), (1, .int v1), (2, .int v2)]) dX5_sortCoins_26 (Nat.le_of_ble_eq_true rfl) rfl ?_
      refine Sim.locs [2, 3, 4, 1, 0] rfl ?_
      exact f_X5_sortCoins_28_ls k2 H2 zN (v1, v2, x1.1, v2, x1.2)
    · exact Sim.vret dX5_sortCoins_82 rfl
  · exact Sim.vret dX5_sortCoins_82 rfl
def f_X5_sortCoins_2_lp   (n : Nat) (v : Int32 × Int32 × zHp) : Option (zHp) := zlp (fun k2 v => f_X5_sortCoins_2 k2 v.1 v.2.1 v.2.2) n v
theorem f_X5_sortCoins_2_ls  (n : Nat) (v : Int32 × Int32 × zHp) : Sim wX mX5_sortCoins 1 rV 2 [(0, .ref 161), (1, .int v.1), (2, .int v.2.1)] [] v.2.2 (f_X5_sortCoins_2_lp n v) :=
  Sim.lp (V := Int32 × Int32 × zHp) (Lf := fun v => [(0, .ref 161), (1, .int v.1), (2, .int v.2.1)]) (sf := fun v => []) (hf := fun v => v.2.2) (fun k2 H2 v => f_X5_sortCoins_2_s k2 H2 v.1 v.2.1 v.2.2) n v
def f_X5_sortCoins  (a1 : Int32) (h : zHp) : Option (zHp) := f_X5_sortCoins_2_lp  zN (a1, (0 : Int32), h)
set_option maxHeartbeats 4000000 in
set_option maxRecDepth 100000 in
theorem s_X5_sortCoins  (a1 : Int32) (h : zHp) : Fn wX mX5_sortCoins 1 rV [.ref 161, .int a1] h (f_X5_sortCoins a1 h) := by
  refine Fn.of rfl (Nat.le_of_ble_eq_true rfl) ?_
  unfold f_X5_sortCoins
  refine Sim.iconst (v := (0 : Int32)) dX5_sortCoins_0 rfl ?_
  refine Sim.istore_n (L' := [(2, .int (0 : Int32)), (0, .ref 161), (1, .int a1)]) dX5_sortCoins_1 (Nat.le_of_ble_eq_true rfl) rfl ?_
  refine Sim.locs [1, 2, 0] rfl ?_
  exact f_X5_sortCoins_2_ls  zN (a1, (0 : Int32), h)
theorem mv_X5_sortCoins : zMV mX5_sortCoins 1 := ⟨⟨zTb_in 1243 (by decide +kernel) rfl, zTb_in 147 (by decide +kernel) rfl, ⟨by decide +kernel, by decide +kernel⟩, by decide +kernel⟩, zTb_in 1242 (by decide +kernel) rfl, zTb_in 36 (by decide +kernel) rfl⟩
-- ===== RockingPorch$Puzzles.roomBelow(I)I
abbrev mX5_roomBelow : zMt := (yX5_roomBelow, cX5_roomBelow, 2, some .int)
theorem dX5_roomBelow_0 : decode cX5_roomBelow 0 = .ok (.iload_n 1, 1) := by decide +kernel
theorem dX5_roomBelow_1 : decode cX5_roomBelow 1 = .ok (.ifCond .le 44, 3) := by decide +kernel
theorem dX5_roomBelow_4 : decode cX5_roomBelow 4 = .ok (.aload_n 0, 1) := by decide +kernel
theorem dX5_roomBelow_5 : decode cX5_roomBelow 5 = .ok (.getfield 9, 3) := by decide +kernel
theorem dX5_roomBelow_8 : decode cX5_roomBelow 8 = .ok (.iload_n 1, 1) := by decide +kernel
theorem dX5_roomBelow_9 : decode cX5_roomBelow 9 = .ok (.iconst 1, 1) := by decide +kernel
theorem dX5_roomBelow_10 : decode cX5_roomBelow 10 = .ok (.isub, 1) := by decide +kernel
theorem dX5_roomBelow_11 : decode cX5_roomBelow 11 = .ok (.iaload, 1) := by decide +kernel
theorem dX5_roomBelow_12 : decode cX5_roomBelow 12 = .ok (.aload_n 0, 1) := by decide +kernel
theorem dX5_roomBelow_13 : decode cX5_roomBelow 13 = .ok (.getfield 9, 3) := by decide +kernel
theorem dX5_roomBelow_16 : decode cX5_roomBelow 16 = .ok (.iload_n 1, 1) := by decide +kernel
theorem dX5_roomBelow_17 : decode cX5_roomBelow 17 = .ok (.iaload, 1) := by decide +kernel
theorem dX5_roomBelow_18 : decode cX5_roomBelow 18 = .ok (.if_icmp .ge 23, 3) := by decide +kernel
theorem dX5_roomBelow_21 : decode cX5_roomBelow 21 = .ok (.aload_n 0, 1) := by decide +kernel
theorem dX5_roomBelow_22 : decode cX5_roomBelow 22 = .ok (.getfield 9, 3) := by decide +kernel
theorem dX5_roomBelow_25 : decode cX5_roomBelow 25 = .ok (.iload_n 1, 1) := by decide +kernel
theorem dX5_roomBelow_26 : decode cX5_roomBelow 26 = .ok (.iaload, 1) := by decide +kernel
theorem dX5_roomBelow_27 : decode cX5_roomBelow 27 = .ok (.aload_n 0, 1) := by decide +kernel
theorem dX5_roomBelow_28 : decode cX5_roomBelow 28 = .ok (.getfield 9, 3) := by decide +kernel
theorem dX5_roomBelow_31 : decode cX5_roomBelow 31 = .ok (.iload_n 1, 1) := by decide +kernel
theorem dX5_roomBelow_32 : decode cX5_roomBelow 32 = .ok (.iconst 1, 1) := by decide +kernel
theorem dX5_roomBelow_33 : decode cX5_roomBelow 33 = .ok (.isub, 1) := by decide +kernel
theorem dX5_roomBelow_34 : decode cX5_roomBelow 34 = .ok (.iaload, 1) := by decide +kernel
theorem dX5_roomBelow_35 : decode cX5_roomBelow 35 = .ok (.isub, 1) := by decide +kernel
theorem dX5_roomBelow_36 : decode cX5_roomBelow 36 = .ok (.iconst 1, 1) := by decide +kernel
theorem dX5_roomBelow_37 : decode cX5_roomBelow 37 = .ok (.isub, 1) := by decide +kernel
theorem dX5_roomBelow_38 : decode cX5_roomBelow 38 = .ok (.goto 13, 3) := by decide +kernel
theorem dX5_roomBelow_41 : decode cX5_roomBelow 41 = .ok (.iconst 0, 1) := by decide +kernel
theorem dX5_roomBelow_42 : decode cX5_roomBelow 42 = .ok (.goto 9, 3) := by decide +kernel
theorem dX5_roomBelow_45 : decode cX5_roomBelow 45 = .ok (.aload_n 0, 1) := by decide +kernel
theorem dX5_roomBelow_46 : decode cX5_roomBelow 46 = .ok (.getfield 9, 3) := by decide +kernel
theorem dX5_roomBelow_49 : decode cX5_roomBelow 49 = .ok (.iconst 0, 1) := by decide +kernel
theorem dX5_roomBelow_50 : decode cX5_roomBelow 50 = .ok (.iaload, 1) := by decide +kernel
theorem dX5_roomBelow_51 : decode cX5_roomBelow 51 = .ok (.ireturn, 1) := by decide +kernel
def f_X5_roomBelow  (a1 : Int32) (h : zHp) : Option (Int32 × zHp) := (if 0 < a1 then zix (a1 - (1 : Int32)) 10 (zix a1 10 ((if (h 162 (a1 - (1 : Int32)).toNatClampNeg) < (h 162 a1.toNatClampNeg) then zix a1 10 (zix (a1 - (1 : Int32)) 10 (some ((((h 162 a1.toNatClampNeg) - (h 162 (a1 - (1 : Int32)).toNatClampNeg)) - (1 : Int32)), h))) else some ((0 : Int32), h)))) else zix (0 : Int32) 10 (some ((h 162 (0 : Int32).toNatClampNeg), h)))
set_option maxHeartbeats 4000000 in
set_option maxRecDepth 100000 in
theorem s_X5_roomBelow  (a1 : Int32) (h : zHp) : Fn wX mX5_roomBelow 0 rI [.ref 161, .int a1] h (f_X5_roomBelow a1 h) := by
  refine Fn.of rfl (Nat.le_of_ble_eq_true rfl) ?_
  unfold f_X5_roomBelow
  refine Sim.iload_n 1 dX5_roomBelow_0 rfl ?_
  refine Sim.if_le 45 dX5_roomBelow_1 rfl ?_ ?_
  · refine Sim.aload_n 0 dX5_roomBelow_4 rfl ?_
    refine Sim.getR (j := 162) fl_X5_9 dX5_roomBelow_5 xR_161_1 ?_
    refine Sim.iload_n 1 dX5_roomBelow_8 rfl ?_
    refine Sim.iconst (v := (1 : Int32)) dX5_roomBelow_9 rfl ?_
    refine Sim.isub dX5_roomBelow_10 ?_
    refine Sim.iald (n := 10) dX5_roomBelow_11 xA_162 ?_
    refine Sim.aload_n 0 dX5_roomBelow_12 rfl ?_
    refine Sim.getR (j := 162) fl_X5_9 dX5_roomBelow_13 xR_161_1 ?_
    refine Sim.iload_n 1 dX5_roomBelow_16 rfl ?_
    refine Sim.iald (n := 10) dX5_roomBelow_17 xA_162 ?_
    refine Sim.icmp_ge 41 dX5_roomBelow_18 rfl ?_ ?_
    · refine Sim.aload_n 0 dX5_roomBelow_21 rfl ?_
      refine Sim.getR (j := 162) fl_X5_9 dX5_roomBelow_22 xR_161_1 ?_
      refine Sim.iload_n 1 dX5_roomBelow_25 rfl ?_
      refine Sim.iald (n := 10) dX5_roomBelow_26 xA_162 ?_
      refine Sim.aload_n 0 dX5_roomBelow_27 rfl ?_
      refine Sim.getR (j := 162) fl_X5_9 dX5_roomBelow_28 xR_161_1 ?_
      refine Sim.iload_n 1 dX5_roomBelow_31 rfl ?_
      refine Sim.iconst (v := (1 : Int32)) dX5_roomBelow_32 rfl ?_
      refine Sim.isub dX5_roomBelow_33 ?_
      refine Sim.iald (n := 10) dX5_roomBelow_34 xA_162 ?_
      refine Sim.isub dX5_roomBelow_35 ?_
      refine Sim.iconst (v := (1 : Int32)) dX5_roomBelow_36 rfl ?_
      refine Sim.isub dX5_roomBelow_37 ?_
      refine Sim.goto 51 dX5_roomBelow_38 rfl ?_
      exact Sim.iret dX5_roomBelow_51 rfl
    · refine Sim.iconst (v := (0 : Int32)) dX5_roomBelow_41 rfl ?_
      refine Sim.goto 51 dX5_roomBelow_42 rfl ?_
      exact Sim.iret dX5_roomBelow_51 rfl
  · refine Sim.aload_n 0 dX5_roomBelow_45 rfl ?_
    refine Sim.getR (j := 162) fl_X5_9 dX5_roomBelow_46 xR_161_1 ?_
    refine Sim.iconst (v := (0 : Int32)) dX5_roomBelow_49 rfl ?_
    refine Sim.iald (n := 10) dX5_roomBelow_50 xA_162 ?_
    exact Sim.iret dX5_roomBelow_51 rfl
theorem mv_X5_roomBelow : zMV mX5_roomBelow 1 := ⟨⟨zTb_in 1247 (by decide +kernel) rfl, zTb_in 147 (by decide +kernel) rfl, ⟨by decide +kernel, by decide +kernel⟩, by decide +kernel⟩, zTb_in 1246 (by decide +kernel) rfl, zTb_in 37 (by decide +kernel) rfl⟩
