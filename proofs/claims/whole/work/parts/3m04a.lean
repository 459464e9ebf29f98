-- ===== RockingPorchModel.firstTrunks(I)I
abbrev mX11_firstTrunks : zMt := (yX11_firstTrunks, cX11_firstTrunks, 5, some .int)
theorem fl_X11_110 : zF RX11 110 11 58 := ⟨RX11, TX11, 69, rfl, Nat.le_of_ble_eq_true rfl, zTb_in 1357 (by decide +kernel) rfl, in_X11⟩
theorem dX11_firstTrunks_0 : decode cX11_firstTrunks 0 = .ok (.iconst 0, 1) := by decide +kernel
theorem dX11_firstTrunks_1 : decode cX11_firstTrunks 1 = .ok (.istore_n 2, 1) := by decide +kernel
theorem dX11_firstTrunks_2 : decode cX11_firstTrunks 2 = .ok (.iconst 0, 1) := by decide +kernel
theorem dX11_firstTrunks_3 : decode cX11_firstTrunks 3 = .ok (.istore_n 3, 1) := by decide +kernel
theorem dX11_firstTrunks_4 : decode cX11_firstTrunks 4 = .ok (.iload_n 3, 1) := by decide +kernel
theorem dX11_firstTrunks_5 : decode cX11_firstTrunks 5 = .ok (.aload_n 0, 1) := by decide +kernel
theorem dX11_firstTrunks_6 : decode cX11_firstTrunks 6 = .ok (.getfield 472, 3) := by decide +kernel
theorem dX11_firstTrunks_9 : decode cX11_firstTrunks 9 = .ok (.if_icmp .ge 84, 3) := by decide +kernel
theorem dX11_firstTrunks_12 : decode cX11_firstTrunks 12 = .ok (.iconst 0, 1) := by decide +kernel
theorem dX11_firstTrunks_13 : decode cX11_firstTrunks 13 = .ok (.istore 4, 2) := by decide +kernel
theorem dX11_firstTrunks_15 : decode cX11_firstTrunks 15 = .ok (.iload 4, 2) := by decide +kernel
theorem dX11_firstTrunks_17 : decode cX11_firstTrunks 17 = .ok (.iload_n 2, 1) := by decide +kernel
theorem dX11_firstTrunks_18 : decode cX11_firstTrunks 18 = .ok (.if_icmp .ge 30, 3) := by decide +kernel
theorem dX11_firstTrunks_21 : decode cX11_firstTrunks 21 = .ok (.aload_n 0, 1) := by decide +kernel
theorem dX11_firstTrunks_22 : decode cX11_firstTrunks 22 = .ok (.getfield 110, 3) := by decide +kernel
theorem dX11_firstTrunks_25 : decode cX11_firstTrunks 25 = .ok (.iload 4, 2) := by decide +kernel
theorem dX11_firstTrunks_27 : decode cX11_firstTrunks 27 = .ok (.iaload, 1) := by decide +kernel
theorem dX11_firstTrunks_28 : decode cX11_firstTrunks 28 = .ok (.aload_n 0, 1) := by decide +kernel
theorem dX11_firstTrunks_29 : decode cX11_firstTrunks 29 = .ok (.getfield 107, 3) := by decide +kernel
theorem dX11_firstTrunks_32 : decode cX11_firstTrunks 32 = .ok (.iload_n 3, 1) := by decide +kernel
theorem dX11_firstTrunks_33 : decode cX11_firstTrunks 33 = .ok (.iaload, 1) := by decide +kernel
theorem dX11_firstTrunks_34 : decode cX11_firstTrunks 34 = .ok (.iadd, 1) := by decide +kernel
theorem dX11_firstTrunks_35 : decode cX11_firstTrunks 35 = .ok (.iload_n 1, 1) := by decide +kernel
theorem dX11_firstTrunks_36 : decode cX11_firstTrunks 36 = .ok (.if_icmp .le 12, 3) := by decide +kernel
theorem dX11_firstTrunks_39 : decode cX11_firstTrunks 39 = .ok (.iload 4, 2) := by decide +kernel
theorem dX11_firstTrunks_41 : decode cX11_firstTrunks 41 = .ok (.iconst 1, 1) := by decide +kernel
theorem dX11_firstTrunks_42 : decode cX11_firstTrunks 42 = .ok (.iadd, 1) := by decide +kernel
theorem dX11_firstTrunks_43 : decode cX11_firstTrunks 43 = .ok (.istore 4, 2) := by decide +kernel
theorem dX11_firstTrunks_45 : decode cX11_firstTrunks 45 = .ok (.goto (-30), 3) := by decide +kernel
theorem dX11_firstTrunks_48 : decode cX11_firstTrunks 48 = .ok (.iload 4, 2) := by decide +kernel
theorem dX11_firstTrunks_50 : decode cX11_firstTrunks 50 = .ok (.iload_n 2, 1) := by decide +kernel
theorem dX11_firstTrunks_51 : decode cX11_firstTrunks 51 = .ok (.if_icmp .ne 15, 3) := by decide +kernel
theorem dX11_firstTrunks_54 : decode cX11_firstTrunks 54 = .ok (.aload_n 0, 1) := by decide +kernel
theorem dX11_firstTrunks_55 : decode cX11_firstTrunks 55 = .ok (.getfield 110, 3) := by decide +kernel
theorem dX11_firstTrunks_58 : decode cX11_firstTrunks 58 = .ok (.iload 4, 2) := by decide +kernel
theorem dX11_firstTrunks_60 : decode cX11_firstTrunks 60 = .ok (.iconst 0, 1) := by decide +kernel
theorem dX11_firstTrunks_61 : decode cX11_firstTrunks 61 = .ok (.iastore, 1) := by decide +kernel
theorem dX11_firstTrunks_62 : decode cX11_firstTrunks 62 = .ok (.iload_n 2, 1) := by decide +kernel
theorem dX11_firstTrunks_63 : decode cX11_firstTrunks 63 = .ok (.iconst 1, 1) := by decide +kernel
theorem dX11_firstTrunks_64 : decode cX11_firstTrunks 64 = .ok (.iadd, 1) := by decide +kernel
theorem dX11_firstTrunks_65 : decode cX11_firstTrunks 65 = .ok (.istore_n 2, 1) := by decide +kernel
theorem dX11_firstTrunks_66 : decode cX11_firstTrunks 66 = .ok (.aload_n 0, 1) := by decide +kernel
theorem dX11_firstTrunks_67 : decode cX11_firstTrunks 67 = .ok (.getfield 110, 3) := by decide +kernel
theorem dX11_firstTrunks_70 : decode cX11_firstTrunks 70 = .ok (.iload 4, 2) := by decide +kernel
theorem dX11_firstTrunks_72 : decode cX11_firstTrunks 72 = .ok (.aload_n 0, 1) := by decide +kernel
theorem dX11_firstTrunks_73 : decode cX11_firstTrunks 73 = .ok (.getfield 110, 3) := by decide +kernel
theorem dX11_firstTrunks_76 : decode cX11_firstTrunks 76 = .ok (.iload 4, 2) := by decide +kernel
theorem dX11_firstTrunks_78 : decode cX11_firstTrunks 78 = .ok (.iaload, 1) := by decide +kernel
theorem dX11_firstTrunks_79 : decode cX11_firstTrunks 79 = .ok (.aload_n 0, 1) := by decide +kernel
theorem dX11_firstTrunks_80 : decode cX11_firstTrunks 80 = .ok (.getfield 107, 3) := by decide +kernel
theorem dX11_firstTrunks_83 : decode cX11_firstTrunks 83 = .ok (.iload_n 3, 1) := by decide +kernel
theorem dX11_firstTrunks_84 : decode cX11_firstTrunks 84 = .ok (.iaload, 1) := by decide +kernel
theorem dX11_firstTrunks_85 : decode cX11_firstTrunks 85 = .ok (.iadd, 1) := by decide +kernel
theorem dX11_firstTrunks_86 : decode cX11_firstTrunks 86 = .ok (.iastore, 1) := by decide +kernel
theorem dX11_firstTrunks_87 : decode cX11_firstTrunks 87 = .ok (.iinc 3 1, 3) := by decide +kernel
theorem dX11_firstTrunks_90 : decode cX11_firstTrunks 90 = .ok (.goto (-86), 3) := by decide +kernel
theorem dX11_firstTrunks_93 : decode cX11_firstTrunks 93 = .ok (.iload_n 2, 1) := by decide +kernel
theorem dX11_firstTrunks_94 : decode cX11_firstTrunks 94 = .ok (.ireturn, 1) := by decide +kernel
def f_X11_firstTrunks_66  (k4 : Int32 × Int32 × Int32 × zHp → Option (Int32 × zHp)) (v1 : Int32) (v2 : Int32) (v3 : Int32) (v4 : Int32) (h : zHp) : Option (Int32 × zHp) := zix v4 9 (zix v3 9 (zix v4 9 (zlt (zst h 33 v4.toNatClampNeg ((h 33 v4.toNatClampNeg) + (h 32 v3.toNatClampNeg))) fun h1 => k4 (v1, v2, (v3 + (1 : Int32)), h1))))
set_option maxHeartbeats 4000000 in
set_option maxRecDepth 100000 in
theorem f_X11_firstTrunks_66_s  (k4 : Int32 × Int32 × Int32 × zHp → Option (Int32 × zHp)) (H4 : ∀ v : Int32 × Int32 × Int32 × zHp, Sim wM mX11_firstTrunks 0 rI 4 [(0, .ref 0), (1, .int v.1), (2, .int v.2.1), (3, .int v.2.2.1)] [] v.2.2.2 (k4 v)) (v1 : Int32) (v2 : Int32) (v3 : Int32) (v4 : Int32) (h : zHp) : Sim wM mX11_firstTrunks 0 rI 66 [(0, .ref 0), (1, .int v1), (2, .int v2), (3, .int v3), (4, .int v4)] [] h (f_X11_firstTrunks_66 k4 v1 v2 v3 v4 h) := by
  unfold f_X11_firstTrunks_66
  refine Sim.aload_n 0 dX11_firstTrunks_66 rfl ?_
  refine Sim.getR (j := 33) fl_X11_110 dX11_firstTrunks_67 mR_58 ?_
  refine Sim.iload 4 dX11_firstTrunks_70 rfl ?_
  refine Sim.aload_n 0 dX11_firstTrunks_72 rfl ?_
  refine Sim.getR (j := 33) fl_X11_110 dX11_firstTrunks_73 mR_58 ?_
  refine Sim.iload 4 dX11_firstTrunks_76 rfl ?_
  refine Sim.iald (n := 9) dX11_firstTrunks_78 mA_33 ?_
  refine Sim.aload_n 0 dX11_firstTrunks_79 rfl ?_
  refine Sim.getR (j := 32) fl_X11_107 dX11_firstTrunks_80 mR_57 ?_
  refine Sim.iload_n 3 dX11_firstTrunks_83 rfl ?_
  refine Sim.iald (n := 9) dX11_firstTrunks_84 mA_32 ?_
  refine Sim.iadd dX11_firstTrunks_85 ?_
  refine Sim.iast (n := 9) dX11_firstTrunks_86 mA_33 ?_
  refine Sim.lth (fun h1 => ?_)
  refine Sim.iinc (L' := [(3, .int (v3 + (1 : Int32))), (0, .ref 0), (1, .int v1), (2, .int v2), (4, .int v4)]) 3 dX11_firstTrunks_87 rfl rfl (Nat.le_of_ble_eq_true rfl) rfl ?_
  refine Sim.goto 4 dX11_firstTrunks_90 rfl ?_
  refine Sim.locs [1, 2, 3, 0] rfl ?_
  exact H4 (v1, v2, (v3 + (1 : Int32)), h1)
def f_X11_firstTrunks_48  (k4 : Int32 × Int32 × Int32 × zHp → Option (Int32 × zHp)) (v1 : Int32) (v2 : Int32) (v3 : Int32) (v4 : Int32) (h : zHp) : Option (Int32 × zHp) := (if v4 = v2 then zix v4 9 (zlt (zst h 33 v4.toNatClampNeg (0 : Int32)) fun h1 => zlt (v2 + (1 : Int32)) fun x2 => f_X11_firstTrunks_66 k4 v1 x2 v3 v4 h1) else f_X11_firstTrunks_66 k4 v1 v2 v3 v4 h)
set_option maxHeartbeats 4000000 in
set_option maxRecDepth 100000 in
theorem f_X11_firstTrunks_48_s  (k4 : Int32 × Int32 × Int32 × zHp → Option (Int32 × zHp)) (H4 : ∀ v : Int32 × Int32 × Int32 × zHp, Sim wM mX11_firstTrunks 0 rI 4 [(0, .ref 0), (1, .int v.1), (2, .int v.2.1), (3, .int v.2.2.1)] [] v.2.2.2 (k4 v)) (v1 : Int32) (v2 : Int32) (v3 : Int32) (v4 : Int32) (h : zHp) : Sim wM mX11_firstTrunks 0 rI 48 [(0, .ref 0), (1, .int v1), (2, .int v2), (3, .int v3), (4, .int v4)] [] h (f_X11_firstTrunks_48 k4 v1 v2 v3 v4 h) := by
  unfold f_X11_firstTrunks_48
  refine Sim.iload 4 dX11_firstTrunks_48 rfl ?_
  refine Sim.iload_n 2 dX11_firstTrunks_50 rfl ?_
  refine Sim.icmp_ne 66 dX11_firstTrunks_51 rfl ?_ ?_
  · refine Sim.aload_n 0 dX11_firstTrunks_54 rfl ?_
    refine Sim.getR (j := 33) fl_X11_110 dX11_firstTrunks_55 mR_58 ?_
    refine Sim.iload 4 dX11_firstTrunks_58 rfl ?_
    refine Sim.iconst (v := (0 : Int32)) dX11_firstTrunks_60 rfl ?_
    refine Sim.iast (n := 9) dX11_firstTrunks_61 mA_33 ?_
    refine Sim.lth (fun h1 => ?_)
    refine Sim.iload_n 2 dX11_firstTrunks_62 rfl ?_
    refine Sim.iconst (v := (1 : Int32)) dX11_firstTrunks_63 rfl ?_
    refine Sim.iadd dX11_firstTrunks_64 ?_
    refine Sim.lti (fun x2 => ?_)
    refine Sim.istore_n (L' := [(2, .int x2), (0, .ref 0), (1, .int v1), (3, .int v3), (4, .int v4)]) dX11_firstTrunks_65 (Nat.le_of_ble_eq_true rfl) rfl ?_
    refine Sim.locs [1, 2, 0, 3, 4] rfl ?_
    exact f_X11_firstTrunks_66_s k4 H4 v1 x2 v3 v4 h1
  · exact f_X11_firstTrunks_66_s k4 H4 v1 v2 v3 v4 h
def f_X11_firstTrunks_15  (k4 : Int32 × Int32 × Int32 × zHp → Option (Int32 × zHp)) (k15 : Int32 × Int32 × Int32 × Int32 × zHp → Option (Int32 × zHp)) (v1 : Int32) (v2 : Int32) (v3 : Int32) (v4 : Int32) (h : zHp) : Option (Int32 × zHp) := (if v4 < v2 then zix v4 9 (zix v3 9 ((if v1 < ((h 33 v4.toNatClampNeg) + (h 32 v3.toNatClampNeg)) then zlt (v4 + (1 : Int32)) fun x1 => k15 (v1, v2, v3, x1, h) else f_X11_firstTrunks_48 k4 v1 v2 v3 v4 h))) else f_X11_firstTrunks_48 k4 v1 v2 v3 v4 h)
set_option maxHeartbeats 4000000 in
set_option maxRecDepth 100000 in
theorem f_X11_firstTrunks_15_s  (k4 : Int32 × Int32 × Int32 × zHp → Option (Int32 × zHp)) (H4 : ∀ v : Int32 × Int32 × Int32 × zHp, Sim wM mX11_firstTrunks 0 rI 4 [(0, .ref 0), (1, .int v.1), (2, .int v.2.1), (3, .int v.2.2.1)] [] v.2.2.2 (k4 v)) (k15 : Int32 × Int32 × Int32 × Int32 × zHp → Option (Int32 × zHp)) (H15 : ∀ v : Int32 × Int32 × Int32 × Int32 × zHp, Sim wM mX11_firstTrunks 0 rI 15 [(0, .ref 0), (1, .int v.1), (2, .int v.2.1), (3, .int v.2.2.1), (4, .int v.2.2.2.1)] [] v.2.2.2.2 (k15 v)) (v1 : Int32) (v2 : Int32) (v3 : Int32) (v4 : Int32) (h : zHp) : Sim wM mX11_firstTrunks 0 rI 15 [(0, .ref 0), (1, .int v1), (2, .int v2), (3, .int v3), (4, .int v4)] [] h (f_X11_firstTrunks_15 k4 k15 v1 v2 v3 v4 h) := by
  unfold f_X11_firstTrunks_15
  refine Sim.iload 4 dX11_firstTrunks_15 rfl ?_
  refine Sim.iload_n 2 dX11_firstTrunks_17 rfl ?_
  refine Sim.icmp_ge 48 dX11_firstTrunks_18 rfl ?_ ?_
  · refine Sim.aload_n 0 dX11_firstTrunks_21 rfl ?_
    refine Sim.getR (j := 33) fl_X11_110 dX11_firstTrunks_22 mR_58 ?_
    refine Sim.iload 4 dX11_firstTrunks_25 rfl ?_
    refine Sim.iald (n := 9) dX11_firstTrunks_27 mA_33 ?_
    refine Sim.aload_n 0 dX11_firstTrunks_28 rfl ?_
    refine Sim.getR (j := 32) fl_X11_107 dX11_firstTrunks_29 mR_57 ?_
    refine Sim.iload_n 3 dX11_firstTrunks_32 rfl ?_
    refine Sim.iald (n := 9) dX11_firstTrunks_33 mA_32 ?_
    refine Sim.iadd dX11_firstTrunks_34 ?_
    refine Sim.iload_n 1 dX11_firstTrunks_35 rfl ?_
    refine Sim.icmp_le 48 dX11_firstTrunks_36 rfl ?_ ?_
    · refine Sim.iload 4 dX11_firstTrunks_39 rfl ?_
      refine Sim.iconst (v := (1 : Int32)) dX11_firstTrunks_41 rfl ?_
      refine Sim.iadd dX11_firstTrunks_42 ?_
      refine Sim.lti (fun x1 => ?_)
      refine Sim.istore (L' := [(4, .int x1), (0, .ref 0), (1, .int v1), (2, .int v2), (3, .int v3)]) dX11_firstTrunks_43 (Nat.le_of_ble_eq_true rfl) rfl ?_
      refine Sim.goto 15 dX11_firstTrunks_45 rfl ?_
      refine Sim.locs [1, 2, 3, 4, 0] rfl ?_
      exact H15 (v1, v2, v3, x1, h)
    · exact f_X11_firstTrunks_48_s k4 H4 v1 v2 v3 v4 h
  · exact f_X11_firstTrunks_48_s k4 H4 v1 v2 v3 v4 h
def f_X11_firstTrunks_15_lp  (k4 : Int32 × Int32 × Int32 × zHp → Option (Int32 × zHp)) (n : Nat) (v : Int32 × Int32 × Int32 × Int32 × zHp) : Option (Int32 × zHp) := zlp (fun k15 v => f_X11_firstTrunks_15 k4 k15 v.1 v.2.1 v.2.2.1 v.2.2.2.1 v.2.2.2.2) n v
theorem f_X11_firstTrunks_15_ls  (k4 : Int32 × Int32 × Int32 × zHp → Option (Int32 × zHp)) (H4 : ∀ v : Int32 × Int32 × Int32 × zHp, Sim wM mX11_firstTrunks 0 rI 4 [(0, .ref 0), (1, .int v.1), (2, .int v.2.1), (3, .int v.2.2.1)] [] v.2.2.2 (k4 v)) (n : Nat) (v : Int32 × Int32 × Int32 × Int32 × zHp) : Sim wM mX11_firstTrunks 0 rI 15 [(0, .ref 0), (1, .int v.1), (2, .int v.2.1), (3, .int v.2.2.1), (4, .int v.2.2.2.1)] [] v.2.2.2.2 (f_X11_firstTrunks_15_lp k4 n v) :=
  Sim.lp (V := Int32 × Int32 × Int32 × Int32 × zHp) (Lf := fun v => [(0, .ref 0), (1, .int v.1), (2, .int v.2.1), (3, .int v.2.2.1), (4, .int v.2.2.2.1)]) (sf := fun v => []) (hf := fun v => v.2.2.2.2) (fun k15 H15 v => f_X11_firstTrunks_15_s k4 H4 k15 H15 v.1 v.2.1 v.2.2.1 v.2.2.2.1 v.2.2.2.2) n v
def f_X11_firstTrunks_4  (k4 : Int32 × Int32 × Int32 × zHp → Option (Int32 × zHp)) (v1 : Int32) (v2 : Int32) (v3 : Int32) (h : zHp) : Option (Int32 × zHp) := (if v3 < (h 0 56) then f_X11_firstTrunks_15_lp k4 zN (v1, v2, v3, (0 : Int32), h) else some (v2, h))
set_option maxHeartbeats 4000000 in
set_option maxRecDepth 100000 in
theorem f_X11_firstTrunks_4_s  (k4 : Int32 × Int32 × Int32 × zHp → Option (Int32 × zHp)) (H4 : ∀ v : Int32 × Int32 × Int32 × zHp, Sim wM mX11_firstTrunks 0 rI 4 [(0, .ref 0), (1, .int v.1), (2, .int v.2.1), (3, .int v.2.2.1)] [] v.2.2.2 (k4 v)) (v1 : Int32) (v2 : Int32) (v3 : Int32) (h : zHp) : Sim wM mX11_firstTrunks 0 rI 4 [(0, .ref 0), (1, .int v1), (2, .int v2), (3, .int v3)] [] h (f_X11_firstTrunks_4 k4 v1 v2 v3 h) := by
  unfold f_X11_firstTrunks_4
  refine Sim.iload_n 3 dX11_firstTrunks_4 rfl ?_
  refine Sim.aload_n 0 dX11_firstTrunks_5 rfl ?_
  refine Sim.getI fl_X11_472 dX11_firstTrunks_6 mI_56 ?_
  refine Sim.icmp_ge 93 dX11_firstTrunks_9 rfl ?_ ?_
  · refine Sim.iconst (v := (0 : Int32)) dX11_firstTrunks_12 rfl ?_
    refine Sim.istore (L' := [(4, .int (0 : Int32)), (0, .ref 0), (1, .int v1), (2, .int v2), (3, .int v3)]) dX11_firstTrunks_13 (Nat.le_of_ble_eq_true rfl) rfl ?_
    refine Sim.locs [1, 2, 3, 4, 0] rfl ?_
    exact f_X11_firstTrunks_15_ls k4 H4 zN (v1, v2, v3, (0 : Int32), h)
  · refine Sim.iload_n 2 dX11_firstTrunks_93 rfl ?_
    exact Sim.iret dX11_firstTrunks_94 rfl
def f_X11_firstTrunks_4_lp   (n : Nat) (v : Int32 × Int32 × Int32 × zHp) : Option (Int32 × zHp) := zlp (fun k4 v => f_X11_firstTrunks_4 k4 v.1 v.2.1 v.2.2.1 v.2.2.2) n v
theorem f_X11_firstTrunks_4_ls  (n : Nat) (v : Int32 × Int32 × Int32 × zHp) : Sim wM mX11_firstTrunks 0 rI 4 [(0, .ref 0), (1, .int v.1), (2, .int v.2.1), (3, .int v.2.2.1)] [] v.2.2.2 (f_X11_firstTrunks_4_lp n v) :=
  Sim.lp (V := Int32 × Int32 × Int32 × zHp) (Lf := fun v => [(0, .ref 0), (1, .int v.1), (2, .int v.2.1), (3, .int v.2.2.1)]) (sf := fun v => []) (hf := fun v => v.2.2.2) (fun k4 H4 v => f_X11_firstTrunks_4_s k4 H4 v.1 v.2.1 v.2.2.1 v.2.2.2) n v
def f_X11_firstTrunks  (a1 : Int32) (h : zHp) : Option (Int32 × zHp) := f_X11_firstTrunks_4_lp  zN (a1, (0 : Int32), (0 : Int32), h)
set_option maxHeartbeats 4000000 in
set_option maxRecDepth 100000 in
theorem s_X11_firstTrunks  (a1 : Int32) (h : zHp) : Fn wM mX11_firstTrunks 0 rI [.ref 0, .int a1] h (f_X11_firstTrunks a1 h) := by
  refine Fn.of rfl (Nat.le_of_ble_eq_true rfl) ?_
  unfold f_X11_firstTrunks
  refine Sim.iconst (v := (0 : Int32)) dX11_firstTrunks_0 rfl ?_
  refine Sim.istore_n (L' := [(2, .int (0 : Int32)), (0, .ref 0), (1, .int a1)]) dX11_firstTrunks_1 (Nat.le_of_ble_eq_true rfl) rfl ?_
  refine Sim.iconst (v := (0 : Int32)) dX11_firstTrunks_2 rfl ?_
  refine Sim.istore_n (L' := [(3, .int (0 : Int32)), (2, .int (0 : Int32)), (0, .ref 0), (1, .int a1)]) dX11_firstTrunks_3 (Nat.le_of_ble_eq_true rfl) rfl ?_
  refine Sim.locs [2, 3, 1, 0] rfl ?_
  exact f_X11_firstTrunks_4_ls  zN (a1, (0 : Int32), (0 : Int32), h)
theorem mv_X11_firstTrunks : zMV mX11_firstTrunks 1 := ⟨⟨zTb_in 1961 (by decide +kernel) rfl, zTb_in 148 (by decide +kernel) rfl, ⟨by decide +kernel, by decide +kernel⟩, by decide +kernel⟩, zTb_in 1960 (by decide +kernel) rfl, zTb_in 124 (by decide +kernel) rfl⟩
-- ===== RockingPorchModel.fewestTrunks(I)I
abbrev mX11_fewestTrunks : zMt := (yX11_fewestTrunks, cX11_fewestTrunks, 6, some .int)
theorem fl_X11_113 : zF RX11 113 11 59 := ⟨RX11, TX11, 69, rfl, Nat.le_of_ble_eq_true rfl, zTb_in 1358 (by decide +kernel) rfl, in_X11⟩
theorem dX11_fewestTrunks_0 : decode cX11_fewestTrunks 0 = .ok (.aload_n 0, 1) := by decide +kernel
theorem dX11_fewestTrunks_1 : decode cX11_fewestTrunks 1 = .ok (.getfield 113, 3) := by decide +kernel
theorem dX11_fewestTrunks_4 : decode cX11_fewestTrunks 4 = .ok (.iconst 0, 1) := by decide +kernel
theorem dX11_fewestTrunks_5 : decode cX11_fewestTrunks 5 = .ok (.iload_n 1, 1) := by decide +kernel
theorem dX11_fewestTrunks_6 : decode cX11_fewestTrunks 6 = .ok (.iastore, 1) := by decide +kernel
theorem dX11_fewestTrunks_7 : decode cX11_fewestTrunks 7 = .ok (.iconst 1, 1) := by decide +kernel
theorem dX11_fewestTrunks_8 : decode cX11_fewestTrunks 8 = .ok (.istore_n 2, 1) := by decide +kernel
theorem dX11_fewestTrunks_9 : decode cX11_fewestTrunks 9 = .ok (.iload_n 2, 1) := by decide +kernel
theorem dX11_fewestTrunks_10 : decode cX11_fewestTrunks 10 = .ok (.iconst 1, 1) := by decide +kernel
theorem dX11_fewestTrunks_11 : decode cX11_fewestTrunks 11 = .ok (.aload_n 0, 1) := by decide +kernel
theorem dX11_fewestTrunks_12 : decode cX11_fewestTrunks 12 = .ok (.getfield 472, 3) := by decide +kernel
theorem dX11_fewestTrunks_15 : decode cX11_fewestTrunks 15 = .ok (.ishl, 1) := by decide +kernel
theorem dX11_fewestTrunks_16 : decode cX11_fewestTrunks 16 = .ok (.if_icmp .ge 134, 3) := by decide +kernel
theorem dX11_fewestTrunks_19 : decode cX11_fewestTrunks 19 = .ok (.aload_n 0, 1) := by decide +kernel
theorem dX11_fewestTrunks_20 : decode cX11_fewestTrunks 20 = .ok (.getfield 113, 3) := by decide +kernel
theorem dX11_fewestTrunks_23 : decode cX11_fewestTrunks 23 = .ok (.iload_n 2, 1) := by decide +kernel
theorem dX11_fewestTrunks_24 : decode cX11_fewestTrunks 24 = .ok (.ldc_w 446, 3) := by decide +kernel
theorem dX11_fewestTrunks_27 : decode cX11_fewestTrunks 27 = .ok (.iastore, 1) := by decide +kernel
theorem dX11_fewestTrunks_28 : decode cX11_fewestTrunks 28 = .ok (.iconst 0, 1) := by decide +kernel
theorem dX11_fewestTrunks_29 : decode cX11_fewestTrunks 29 = .ok (.istore_n 3, 1) := by decide +kernel
theorem dX11_fewestTrunks_30 : decode cX11_fewestTrunks 30 = .ok (.iload_n 3, 1) := by decide +kernel
theorem dX11_fewestTrunks_31 : decode cX11_fewestTrunks 31 = .ok (.aload_n 0, 1) := by decide +kernel
theorem dX11_fewestTrunks_32 : decode cX11_fewestTrunks 32 = .ok (.getfield 472, 3) := by decide +kernel
theorem dX11_fewestTrunks_35 : decode cX11_fewestTrunks 35 = .ok (.if_icmp .ge 109, 3) := by decide +kernel
theorem dX11_fewestTrunks_38 : decode cX11_fewestTrunks 38 = .ok (.aload_n 0, 1) := by decide +kernel
theorem dX11_fewestTrunks_39 : decode cX11_fewestTrunks 39 = .ok (.iload_n 2, 1) := by decide +kernel
theorem dX11_fewestTrunks_40 : decode cX11_fewestTrunks 40 = .ok (.iload_n 3, 1) := by decide +kernel
theorem dX11_fewestTrunks_41 : decode cX11_fewestTrunks 41 = .ok (.invokevirtual 433, 3) := by decide +kernel
theorem dX11_fewestTrunks_44 : decode cX11_fewestTrunks 44 = .ok (.ifCond .ne 6, 3) := by decide +kernel
theorem dX11_fewestTrunks_47 : decode cX11_fewestTrunks 47 = .ok (.goto 91, 3) := by decide +kernel
theorem dX11_fewestTrunks_50 : decode cX11_fewestTrunks 50 = .ok (.aload_n 0, 1) := by decide +kernel
theorem dX11_fewestTrunks_51 : decode cX11_fewestTrunks 51 = .ok (.getfield 113, 3) := by decide +kernel
theorem dX11_fewestTrunks_54 : decode cX11_fewestTrunks 54 = .ok (.iload_n 2, 1) := by decide +kernel
theorem dX11_fewestTrunks_55 : decode cX11_fewestTrunks 55 = .ok (.iconst 1, 1) := by decide +kernel
theorem dX11_fewestTrunks_56 : decode cX11_fewestTrunks 56 = .ok (.iload_n 3, 1) := by decide +kernel
theorem dX11_fewestTrunks_57 : decode cX11_fewestTrunks 57 = .ok (.ishl, 1) := by decide +kernel
theorem dX11_fewestTrunks_58 : decode cX11_fewestTrunks 58 = .ok (.iconst (-1), 1) := by decide +kernel
theorem dX11_fewestTrunks_59 : decode cX11_fewestTrunks 59 = .ok (.ixor, 1) := by decide +kernel
theorem dX11_fewestTrunks_60 : decode cX11_fewestTrunks 60 = .ok (.iand, 1) := by decide +kernel
theorem dX11_fewestTrunks_61 : decode cX11_fewestTrunks 61 = .ok (.iaload, 1) := by decide +kernel
theorem dX11_fewestTrunks_62 : decode cX11_fewestTrunks 62 = .ok (.istore 4, 2) := by decide +kernel
theorem dX11_fewestTrunks_64 : decode cX11_fewestTrunks 64 = .ok (.iload 4, 2) := by decide +kernel
theorem dX11_fewestTrunks_66 : decode cX11_fewestTrunks 66 = .ok (.bipush 100, 2) := by decide +kernel
theorem dX11_fewestTrunks_68 : decode cX11_fewestTrunks 68 = .ok (.irem, 1) := by decide +kernel
theorem dX11_fewestTrunks_69 : decode cX11_fewestTrunks 69 = .ok (.aload_n 0, 1) := by decide +kernel
theorem dX11_fewestTrunks_70 : decode cX11_fewestTrunks 70 = .ok (.getfield 107, 3) := by decide +kernel
theorem dX11_fewestTrunks_73 : decode cX11_fewestTrunks 73 = .ok (.iload_n 3, 1) := by decide +kernel
theorem dX11_fewestTrunks_74 : decode cX11_fewestTrunks 74 = .ok (.iaload, 1) := by decide +kernel
theorem dX11_fewestTrunks_75 : decode cX11_fewestTrunks 75 = .ok (.iadd, 1) := by decide +kernel
theorem dX11_fewestTrunks_76 : decode cX11_fewestTrunks 76 = .ok (.iload_n 1, 1) := by decide +kernel
theorem dX11_fewestTrunks_77 : decode cX11_fewestTrunks 77 = .ok (.if_icmp .gt 7, 3) := by decide +kernel
theorem dX11_fewestTrunks_80 : decode cX11_fewestTrunks 80 = .ok (.iconst 1, 1) := by decide +kernel
theorem dX11_fewestTrunks_81 : decode cX11_fewestTrunks 81 = .ok (.goto 4, 3) := by decide +kernel
theorem dX11_fewestTrunks_84 : decode cX11_fewestTrunks 84 = .ok (.iconst 0, 1) := by decide +kernel
theorem dX11_fewestTrunks_85 : decode cX11_fewestTrunks 85 = .ok (.istore 5, 2) := by decide +kernel
theorem dX11_fewestTrunks_87 : decode cX11_fewestTrunks 87 = .ok (.aload_n 0, 1) := by decide +kernel
theorem dX11_fewestTrunks_88 : decode cX11_fewestTrunks 88 = .ok (.getfield 113, 3) := by decide +kernel
theorem dX11_fewestTrunks_91 : decode cX11_fewestTrunks 91 = .ok (.iload_n 2, 1) := by decide +kernel
theorem dX11_fewestTrunks_92 : decode cX11_fewestTrunks 92 = .ok (.aload_n 0, 1) := by decide +kernel
theorem dX11_fewestTrunks_93 : decode cX11_fewestTrunks 93 = .ok (.aload_n 0, 1) := by decide +kernel
theorem dX11_fewestTrunks_94 : decode cX11_fewestTrunks 94 = .ok (.getfield 113, 3) := by decide +kernel
theorem dX11_fewestTrunks_97 : decode cX11_fewestTrunks 97 = .ok (.iload_n 2, 1) := by decide +kernel
theorem dX11_fewestTrunks_98 : decode cX11_fewestTrunks 98 = .ok (.iaload, 1) := by decide +kernel
theorem dX11_fewestTrunks_99 : decode cX11_fewestTrunks 99 = .ok (.iload 5, 2) := by decide +kernel
theorem dX11_fewestTrunks_101 : decode cX11_fewestTrunks 101 = .ok (.ifCond .eq 15, 3) := by decide +kernel
theorem dX11_fewestTrunks_104 : decode cX11_fewestTrunks 104 = .ok (.iload 4, 2) := by decide +kernel
theorem dX11_fewestTrunks_106 : decode cX11_fewestTrunks 106 = .ok (.aload_n 0, 1) := by decide +kernel
theorem dX11_fewestTrunks_107 : decode cX11_fewestTrunks 107 = .ok (.getfield 107, 3) := by decide +kernel
theorem dX11_fewestTrunks_110 : decode cX11_fewestTrunks 110 = .ok (.iload_n 3, 1) := by decide +kernel
theorem dX11_fewestTrunks_111 : decode cX11_fewestTrunks 111 = .ok (.iaload, 1) := by decide +kernel
theorem dX11_fewestTrunks_112 : decode cX11_fewestTrunks 112 = .ok (.iadd, 1) := by decide +kernel
theorem dX11_fewestTrunks_113 : decode cX11_fewestTrunks 113 = .ok (.goto 21, 3) := by decide +kernel
theorem dX11_fewestTrunks_116 : decode cX11_fewestTrunks 116 = .ok (.iload 4, 2) := by decide +kernel
theorem dX11_fewestTrunks_118 : decode cX11_fewestTrunks 118 = .ok (.bipush 100, 2) := by decide +kernel
theorem dX11_fewestTrunks_120 : decode cX11_fewestTrunks 120 = .ok (.idiv, 1) := by decide +kernel
theorem dX11_fewestTrunks_121 : decode cX11_fewestTrunks 121 = .ok (.bipush 100, 2) := by decide +kernel
theorem dX11_fewestTrunks_123 : decode cX11_fewestTrunks 123 = .ok (.imul, 1) := by decide +kernel
theorem dX11_fewestTrunks_124 : decode cX11_fewestTrunks 124 = .ok (.bipush 100, 2) := by decide +kernel
theorem dX11_fewestTrunks_126 : decode cX11_fewestTrunks 126 = .ok (.iadd, 1) := by decide +kernel
theorem dX11_fewestTrunks_127 : decode cX11_fewestTrunks 127 = .ok (.aload_n 0, 1) := by decide +kernel
theorem dX11_fewestTrunks_128 : decode cX11_fewestTrunks 128 = .ok (.getfield 107, 3) := by decide +kernel
theorem dX11_fewestTrunks_131 : decode cX11_fewestTrunks 131 = .ok (.iload_n 3, 1) := by decide +kernel
theorem dX11_fewestTrunks_132 : decode cX11_fewestTrunks 132 = .ok (.iaload, 1) := by decide +kernel
theorem dX11_fewestTrunks_133 : decode cX11_fewestTrunks 133 = .ok (.iadd, 1) := by decide +kernel
theorem dX11_fewestTrunks_134 : decode cX11_fewestTrunks 134 = .ok (.invokevirtual 453, 3) := by decide +kernel
theorem dX11_fewestTrunks_137 : decode cX11_fewestTrunks 137 = .ok (.iastore, 1) := by decide +kernel
theorem dX11_fewestTrunks_138 : decode cX11_fewestTrunks 138 = .ok (.iinc 3 1, 3) := by decide +kernel
theorem dX11_fewestTrunks_141 : decode cX11_fewestTrunks 141 = .ok (.goto (-111), 3) := by decide +kernel
theorem dX11_fewestTrunks_144 : decode cX11_fewestTrunks 144 = .ok (.iinc 2 1, 3) := by decide +kernel
theorem dX11_fewestTrunks_147 : decode cX11_fewestTrunks 147 = .ok (.goto (-138), 3) := by decide +kernel
theorem dX11_fewestTrunks_150 : decode cX11_fewestTrunks 150 = .ok (.aload_n 0, 1) := by decide +kernel
theorem dX11_fewestTrunks_151 : decode cX11_fewestTrunks 151 = .ok (.getfield 113, 3) := by decide +kernel
theorem dX11_fewestTrunks_154 : decode cX11_fewestTrunks 154 = .ok (.iconst 1, 1) := by decide +kernel
theorem dX11_fewestTrunks_155 : decode cX11_fewestTrunks 155 = .ok (.aload_n 0, 1) := by decide +kernel
theorem dX11_fewestTrunks_156 : decode cX11_fewestTrunks 156 = .ok (.getfield 472, 3) := by decide +kernel
theorem dX11_fewestTrunks_159 : decode cX11_fewestTrunks 159 = .ok (.ishl, 1) := by decide +kernel
theorem dX11_fewestTrunks_160 : decode cX11_fewestTrunks 160 = .ok (.iconst 1, 1) := by decide +kernel
theorem dX11_fewestTrunks_161 : decode cX11_fewestTrunks 161 = .ok (.isub, 1) := by decide +kernel
theorem dX11_fewestTrunks_162 : decode cX11_fewestTrunks 162 = .ok (.iaload, 1) := by decide +kernel
theorem dX11_fewestTrunks_163 : decode cX11_fewestTrunks 163 = .ok (.bipush 100, 2) := by decide +kernel
theorem dX11_fewestTrunks_165 : decode cX11_fewestTrunks 165 = .ok (.idiv, 1) := by decide +kernel
theorem dX11_fewestTrunks_166 : decode cX11_fewestTrunks 166 = .ok (.ireturn, 1) := by decide +kernel
def f_X11_fewestTrunks_85  (k9 : Int32 × Int32 × zHp → Option (Int32 × zHp)) (k30 : Int32 × Int32 × Int32 × zHp → Option (Int32 × zHp)) (v1 : Int32) (v2 : Int32) (v3 : Int32) (v4 : Int32) (s0 : Int32) (h : zHp) : Option (Int32 × zHp) := zix v2 512 ((if s0 = 0 then zix v3 9 ((f_X11_lesser (h 34 v2.toNatClampNeg) ((((v4 / (100 : Int32)) * (100 : Int32)) + (100 : Int32)) + (h 32 v3.toNatClampNeg)) h).bind fun x1 => zix v2 512 (zlt (zst x1.2 34 v2.toNatClampNeg x1.1) fun h2 => k30 (v1, v2, (v3 + (1 : Int32)), h2))) else zix v3 9 ((f_X11_lesser (h 34 v2.toNatClampNeg) (v4 + (h 32 v3.toNatClampNeg)) h).bind fun x3 => zix v2 512 (zlt (zst x3.2 34 v2.toNatClampNeg x3.1) fun h4 => k30 (v1, v2, (v3 + (1 : Int32)), h4)))))
set_option maxHeartbeats 4000000 in
set_option maxRecDepth 100000 in
theorem f_X11_fewestTrunks_85_s  (k9 : Int32 × Int32 × zHp → Option (Int32 × zHp)) (H9 : ∀ v : Int32 × Int32 × zHp, Sim wM mX11_fewestTrunks 1 rI 9 [(0, .ref 0), (1, .int v.1), (2, .int v.2.1)] [] v.2.2 (k9 v)) (k30 : Int32 × Int32 × Int32 × zHp → Option (Int32 × zHp)) (H30 : ∀ v : Int32 × Int32 × Int32 × zHp, Sim wM mX11_fewestTrunks 1 rI 30 [(0, .ref 0), (1, .int v.1), (2, .int v.2.1), (3, .int v.2.2.1)] [] v.2.2.2 (k30 v)) (v1 : Int32) (v2 : Int32) (v3 : Int32) (v4 : Int32) (s0 : Int32) (h : zHp) : Sim wM mX11_fewestTrunks 1 rI 85 [(0, .ref 0), (1, .int v1), (2, .int v2), (3, .int v3), (4, .int v4)] [.int s0] h (f_X11_fewestTrunks_85 k9 k30 v1 v2 v3 v4 s0 h) := by
  unfold f_X11_fewestTrunks_85
  refine Sim.istore (L' := [(5, .int s0), (0, .ref 0), (1, .int v1), (2, .int v2), (3, .int v3), (4, .int v4)]) dX11_fewestTrunks_85 (Nat.le_of_ble_eq_true rfl) rfl ?_
  refine Sim.aload_n 1 dX11_fewestTrunks_87 rfl ?_
  refine Sim.getR (j := 34) fl_X11_113 dX11_fewestTrunks_88 mR_59 ?_
  refine Sim.iload_n 3 dX11_fewestTrunks_91 rfl ?_
  refine Sim.aload_n 1 dX11_fewestTrunks_92 rfl ?_
  refine Sim.aload_n 1 dX11_fewestTrunks_93 rfl ?_
  refine Sim.getR (j := 34) fl_X11_113 dX11_fewestTrunks_94 mR_59 ?_
  refine Sim.iload_n 3 dX11_fewestTrunks_97 rfl ?_
  refine Sim.iald (n := 512) dX11_fewestTrunks_98 mA_34 ?_
  refine Sim.iload 0 dX11_fewestTrunks_99 rfl ?_
  refine Sim.if_eq 116 dX11_fewestTrunks_101 rfl ?_ ?_
  · refine Sim.iload 5 dX11_fewestTrunks_116 rfl ?_
    refine Sim.bipush (v := (100 : Int32)) dX11_fewestTrunks_118 rfl ?_
    refine Sim.idivL dX11_fewestTrunks_120 (by decide) ?_
    refine Sim.bipush (v := (100 : Int32)) dX11_fewestTrunks_121 rfl ?_
    refine Sim.imul dX11_fewestTrunks_123 ?_
    refine Sim.bipush (v := (100 : Int32)) dX11_fewestTrunks_124 rfl ?_
    refine Sim.iadd dX11_fewestTrunks_126 ?_
    refine Sim.aload_n 1 dX11_fewestTrunks_127 rfl ?_
    refine Sim.getR (j := 32) fl_X11_107 dX11_fewestTrunks_128 mR_57 ?_
    refine Sim.iload_n 4 dX11_fewestTrunks_131 rfl ?_
    refine Sim.iald (n := 9) dX11_fewestTrunks_132 mA_32 ?_
    refine Sim.iadd dX11_fewestTrunks_133 ?_
    refine Sim.callV2I (d1 := 0) (s_X11_lesser (h 34 v2.toNatClampNeg) ((((v4 / (100 : Int32)) * (100 : Int32)) + (100 : Int32)) + (h 32 v3.toNatClampNeg)) h) dX11_fewestTrunks_134 ml_X11_453 mv_X11_lesser mC (Nat.le_of_ble_eq_true rfl) (Nat.le_of_ble_eq_true rfl) (Nat.le_of_ble_eq_true rfl) (fun x1 => ?_)
    refine Sim.iast (n := 512) dX11_fewestTrunks_137 mA_34 ?_
    refine Sim.lth (fun h2 => ?_)
    refine Sim.iinc (L' := [(3, .int (v3 + (1 : Int32))), (5, .int s0), (0, .ref 0), (1, .int v1), (2, .int v2), (4, .int v4)]) 4 dX11_fewestTrunks_138 rfl rfl (Nat.le_of_ble_eq_true rfl) rfl ?_
    refine Sim.goto 30 dX11_fewestTrunks_141 rfl ?_
    refine Sim.locs [2, 3, 4, 0] rfl ?_
    exact H30 (v1, v2, (v3 + (1 : Int32)), h2)
  · refine Sim.iload 5 dX11_fewestTrunks_104 rfl ?_
    refine Sim.aload_n 1 dX11_fewestTrunks_106 rfl ?_
    refine Sim.getR (j := 32) fl_X11_107 dX11_fewestTrunks_107 mR_57 ?_
    refine Sim.iload_n 4 dX11_fewestTrunks_110 rfl ?_
    refine Sim.iald (n := 9) dX11_fewestTrunks_111 mA_32 ?_
    refine Sim.iadd dX11_fewestTrunks_112 ?_
    refine Sim.goto 134 dX11_fewestTrunks_113 rfl ?_
    refine Sim.callV2I (d1 := 0) (s_X11_lesser (h 34 v2.toNatClampNeg) (v4 + (h 32 v3.toNatClampNeg)) h) dX11_fewestTrunks_134 ml_X11_453 mv_X11_lesser mC (Nat.le_of_ble_eq_true rfl) (Nat.le_of_ble_eq_true rfl) (Nat.le_of_ble_eq_true rfl) (fun x3 => ?_)
    refine Sim.iast (n := 512) dX11_fewestTrunks_137 mA_34 ?_
    refine Sim.lth (fun h4 => ?_)
    refine Sim.iinc (L' := [(3, .int (v3 + (1 : Int32))), (5, .int s0), (0, .ref 0), (1, .int v1), (2, .int v2), (4, .int v4)]) 4 dX11_fewestTrunks_138 rfl rfl (Nat.le_of_ble_eq_true rfl) rfl ?_
    refine Sim.goto 30 dX11_fewestTrunks_141 rfl ?_
    refine Sim.locs [2, 3, 4, 0] rfl ?_
    exact H30 (v1, v2, (v3 + (1 : Int32)), h4)
def f_X11_fewestTrunks_30  (k9 : Int32 × Int32 × zHp → Option (Int32 × zHp)) (k30 : Int32 × Int32 × Int32 × zHp → Option (Int32 × zHp)) (v1 : Int32) (v2 : Int32) (v3 : Int32) (h : zHp) : Option (Int32 × zHp) := (if v3 < (h 0 56) then (f_X11_has v2 v3 h).bind fun x1 => (if x1.1 = 0 then k30 (v1, v2, (v3 + (1 : Int32)), x1.2) else zix (v2 &&& (((1 : Int32) <<< (v3 &&& 31)) ^^^ (-1 : Int32))) 512 (zlt (x1.2 34 (v2 &&& (((1 : Int32) <<< (v3 &&& 31)) ^^^ (-1 : Int32))).toNatClampNeg) fun x2 => zix v3 9 ((if v1 < ((x2 - x2 / (100 : Int32) * (100 : Int32)) + (x1.2 32 v3.toNatClampNeg)) then f_X11_fewestTrunks_85 k9 k30 v1 v2 v3 x2 (0 : Int32) x1.2 else f_X11_fewestTrunks_85 k9 k30 v1 v2 v3 x2 (1 : Int32) x1.2)))) else k9 (v1, (v2 + (1 : Int32)), h))
set_option maxHeartbeats 4000000 in
set_option maxRecDepth 100000 in
theorem f_X11_fewestTrunks_30_s  (k9 : Int32 × Int32 × zHp → Option (Int32 × zHp)) (H9 : ∀ v : Int32 × Int32 × zHp, Sim wM mX11_fewestTrunks 1 rI 9 [(0, .ref 0), (1, .int v.1), (2, .int v.2.1)] [] v.2.2 (k9 v)) (k30 : Int32 × Int32 × Int32 × zHp → Option (Int32 × zHp)) (H30 : ∀ v : Int32 × Int32 × Int32 × zHp, Sim wM mX11_fewestTrunks 1 rI 30 [(0, .ref 0), (1, .int v.1), (2, .int v.2.1), (3, .int v.2.2.1)] [] v.2.2.2 (k30 v)) (v1 : Int32) (v2 : Int32) (v3 : Int32) (h : zHp) : Sim wM mX11_fewestTrunks 1 rI 30 [(0, .ref 0), (1, .int v1), (2, .int v2), (3, .int v3)] [] h (f_X11_fewestTrunks_30 k9 k30 v1 v2 v3 h) := by
  unfold f_X11_fewestTrunks_30
  refine Sim.iload_n 3 dX11_fewestTrunks_30 rfl ?_
  refine Sim.aload_n 0 dX11_fewestTrunks_31 rfl ?_
  refine Sim.getI fl_X11_472 dX11_fewestTrunks_32 mI_56 ?_
  refine Sim.icmp_ge 144 dX11_fewestTrunks_35 rfl ?_ ?_
  · refine Sim.aload_n 0 dX11_fewestTrunks_38 rfl ?_
    refine Sim.iload_n 2 dX11_fewestTrunks_39 rfl ?_
    refine Sim.iload_n 3 dX11_fewestTrunks_40 rfl ?_
    refine Sim.callV2I (d1 := 0) (s_X11_has v2 v3 h) dX11_fewestTrunks_41 ml_X11_433 mv_X11_has mC (Nat.le_of_ble_eq_true rfl) (Nat.le_of_ble_eq_true rfl) (Nat.le_of_ble_eq_true rfl) (fun x1 => ?_)
    refine Sim.if_ne 50 dX11_fewestTrunks_44 rfl ?_ ?_
    · refine Sim.goto 138 dX11_fewestTrunks_47 rfl ?_
      refine Sim.iinc (L' := [(3, .int (v3 + (1 : Int32))), (0, .ref 0), (1, .int v1), (2, .int v2)]) 3 dX11_fewestTrunks_138 rfl rfl (Nat.le_of_ble_eq_true rfl) rfl ?_
      refine Sim.goto 30 dX11_fewestTrunks_141 rfl ?_
      refine Sim.locs [1, 2, 3, 0] rfl ?_
      exact H30 (v1, v2, (v3 + (1 : Int32)), x1.2)
    · refine Sim.aload_n 0 dX11_fewestTrunks_50 rfl ?_
      refine Sim.getR (j := 34) fl_X11_113 dX11_fewestTrunks_51 mR_59 ?_
      refine Sim.iload_n 2 dX11_fewestTrunks_54 rfl ?_
      refine Sim.iconst (v := (1 : Int32)) dX11_fewestTrunks_55 rfl ?_
      refine Sim.iload_n 3 dX11_fewestTrunks_56 rfl ?_
      refine Sim.ishl dX11_fewestTrunks_57 ?_
      refine Sim.iconst (v := (-1 : Int32)) dX11_fewestTrunks_58 rfl ?_
      refine Sim.ixor dX11_fewestTrunks_59 ?_
      refine Sim.iand dX11_fewestTrunks_60 ?_
      refine Sim.iald (n := 512) dX11_fewestTrunks_61 mA_34 ?_
      refine Sim.lti (fun x2 => ?_)
      refine Sim.istore (L' := [(4, .int x2), (0, .ref 0), (1, .int v1), (2, .int v2), (3, .int v3)]) dX11_fewestTrunks_62 (Nat.le_of_ble_eq_true rfl) rfl ?_
      refine Sim.iload 0 dX11_fewestTrunks_64 rfl ?_
      refine Sim.bipush (v := (100 : Int32)) dX11_fewestTrunks_66 rfl ?_
      refine Sim.iremL dX11_fewestTrunks_68 (by decide) ?_
      refine Sim.aload_n 1 dX11_fewestTrunks_69 rfl ?_
      refine Sim.getR (j := 32) fl_X11_107 dX11_fewestTrunks_70 mR_57 ?_
      refine Sim.iload_n 4 dX11_fewestTrunks_73 rfl ?_
      refine Sim.iald (n := 9) dX11_fewestTrunks_74 mA_32 ?_
      refine Sim.iadd dX11_fewestTrunks_75 ?_
      refine Sim.iload_n 2 dX11_fewestTrunks_76 rfl ?_
      refine Sim.icmp_gt 84 dX11_fewestTrunks_77 rfl ?_ ?_
      · refine Sim.iconst (v := (0 : Int32)) dX11_fewestTrunks_84 rfl ?_
        refine Sim.locs [1, 2, 3, 4, 0] rfl ?_
        exact f_X11_fewestTrunks_85_s k9 H9 k30 H30 v1 v2 v3 x2 (0 : Int32) x1.2
      · refine Sim.iconst (v := (1 : Int32)) dX11_fewestTrunks_80 rfl ?_
        refine Sim.goto 85 dX11_fewestTrunks_81 rfl ?_
        refine Sim.locs [1, 2, 3, 4, 0] rfl ?_
        exact f_X11_fewestTrunks_85_s k9 H9 k30 H30 v1 v2 v3 x2 (1 : Int32) x1.2
  · refine Sim.iinc (L' := [(2, .int (v2 + (1 : Int32))), (0, .ref 0), (1, .int v1), (3, .int v3)]) 2 dX11_fewestTrunks_144 rfl rfl (Nat.le_of_ble_eq_true rfl) rfl ?_
    refine Sim.goto 9 dX11_fewestTrunks_147 rfl ?_
    refine Sim.locs [1, 2, 0] rfl ?_
    exact H9 (v1, (v2 + (1 : Int32)), h)
def f_X11_fewestTrunks_30_lp  (k9 : Int32 × Int32 × zHp → Option (Int32 × zHp)) (n : Nat) (v : Int32 × Int32 × Int32 × zHp) : Option (Int32 × zHp) := zlp (fun k30 v => f_X11_fewestTrunks_30 k9 k30 v.1 v.2.1 v.2.2.1 v.2.2.2) n v
theorem f_X11_fewestTrunks_30_ls  (k9 : Int32 × Int32 × zHp → Option (Int32 × zHp)) (H9 : ∀ v : Int32 × Int32 × zHp, Sim wM mX11_fewestTrunks 1 rI 9 [(0, .ref 0), (1, .int v.1), (2, .int v.2.1)] [] v.2.2 (k9 v)) (n : Nat) (v : Int32 × Int32 × Int32 × zHp) : Sim wM mX11_fewestTrunks 1 rI 30 [(0, .ref 0), (1, .int v.1), (2, .int v.2.1), (3, .int v.2.2.1)] [] v.2.2.2 (f_X11_fewestTrunks_30_lp k9 n v) :=
  Sim.lp (V := Int32 × Int32 × Int32 × zHp) (Lf := fun v => [(0, .ref 0), (1, .int v.1), (2, .int v.2.1), (3, .int v.2.2.1)]) (sf := fun v => []) (hf := fun v => v.2.2.2) (fun k30 H30 v => f_X11_fewestTrunks_30_s k9 H9 k30 H30 v.1 v.2.1 v.2.2.1 v.2.2.2) n v
def f_X11_fewestTrunks_9  (k9 : Int32 × Int32 × zHp → Option (Int32 × zHp)) (v1 : Int32) (v2 : Int32) (h : zHp) : Option (Int32 × zHp) := (if v2 < ((1 : Int32) <<< ((h 0 56) &&& 31)) then zix v2 512 (zlt (zst h 34 v2.toNatClampNeg (100000000 : Int32)) fun h1 => f_X11_fewestTrunks_30_lp k9 zN (v1, v2, (0 : Int32), h1)) else zix (((1 : Int32) <<< ((h 0 56) &&& 31)) - (1 : Int32)) 512 (some (((h 34 (((1 : Int32) <<< ((h 0 56) &&& 31)) - (1 : Int32)).toNatClampNeg) / (100 : Int32)), h)))
set_option maxHeartbeats 4000000 in
set_option maxRecDepth 100000 in
theorem f_X11_fewestTrunks_9_s  (k9 : Int32 × Int32 × zHp → Option (Int32 × zHp)) (H9 : ∀ v : Int32 × Int32 × zHp, Sim wM mX11_fewestTrunks 1 rI 9 [(0, .ref 0), (1, .int v.1), (2, .int v.2.1)] [] v.2.2 (k9 v)) (v1 : Int32) (v2 : Int32) (h : zHp) : Sim wM mX11_fewestTrunks 1 rI 9 [(0, .ref 0), (1, .int v1), (2, .int v2)] [] h (f_X11_fewestTrunks_9 k9 v1 v2 h) := by
  unfold f_X11_fewestTrunks_9
  refine Sim.iload_n 2 dX11_fewestTrunks_9 rfl ?_
  refine Sim.iconst (v := (1 : Int32)) dX11_fewestTrunks_10 rfl ?_
  refine Sim.aload_n 0 dX11_fewestTrunks_11 rfl ?_
  refine Sim.getI fl_X11_472 dX11_fewestTrunks_12 mI_56 ?_
  refine Sim.ishl dX11_fewestTrunks_15 ?_
  refine Sim.icmp_ge 150 dX11_fewestTrunks_16 rfl ?_ ?_
  · refine Sim.aload_n 0 dX11_fewestTrunks_19 rfl ?_
    refine Sim.getR (j := 34) fl_X11_113 dX11_fewestTrunks_20 mR_59 ?_
    refine Sim.iload_n 2 dX11_fewestTrunks_23 rfl ?_
    refine Sim.ldc_w (v := (100000000 : Int32)) dX11_fewestTrunks_24 ct_X11_446 ?_
    refine Sim.iast (n := 512) dX11_fewestTrunks_27 mA_34 ?_
    refine Sim.lth (fun h1 => ?_)
    refine Sim.iconst (v := (0 : Int32)) dX11_fewestTrunks_28 rfl ?_
    refine Sim.istore_n (L' := [(3, .int (0 : Int32)), (0, .ref 0), (1, .int v1), (2, .int v2)]) dX11_fewestTrunks_29 (Nat.le_of_ble_eq_true rfl) rfl ?_
    refine Sim.locs [1, 2, 3, 0] rfl ?_
    exact f_X11_fewestTrunks_30_ls k9 H9 zN (v1, v2, (0 : Int32), h1)
  · refine Sim.aload_n 0 dX11_fewestTrunks_150 rfl ?_
    refine Sim.getR (j := 34) fl_X11_113 dX11_fewestTrunks_151 mR_59 ?_
    refine Sim.iconst (v := (1 : Int32)) dX11_fewestTrunks_154 rfl ?_
    refine Sim.aload_n 0 dX11_fewestTrunks_155 rfl ?_
    refine Sim.getI fl_X11_472 dX11_fewestTrunks_156 mI_56 ?_
    refine Sim.ishl dX11_fewestTrunks_159 ?_
    refine Sim.iconst (v := (1 : Int32)) dX11_fewestTrunks_160 rfl ?_
    refine Sim.isub dX11_fewestTrunks_161 ?_
    refine Sim.iald (n := 512) dX11_fewestTrunks_162 mA_34 ?_
    refine Sim.bipush (v := (100 : Int32)) dX11_fewestTrunks_163 rfl ?_
    refine Sim.idivL dX11_fewestTrunks_165 (by decide) ?_
    exact Sim.iret dX11_fewestTrunks_166 rfl
def f_X11_fewestTrunks_9_lp   (n : Nat) (v : Int32 × Int32 × zHp) : Option (Int32 × zHp) := zlp (fun k9 v => f_X11_fewestTrunks_9 k9 v.1 v.2.1 v.2.2) n v
theorem f_X11_fewestTrunks_9_ls  (n : Nat) (v : Int32 × Int32 × zHp) : Sim wM mX11_fewestTrunks 1 rI 9 [(0, .ref 0), (1, .int v.1), (2, .int v.2.1)] [] v.2.2 (f_X11_fewestTrunks_9_lp n v) :=
  Sim.lp (V := Int32 × Int32 × zHp) (Lf := fun v => [(0, .ref 0), (1, .int v.1), (2, .int v.2.1)]) (sf := fun v => []) (hf := fun v => v.2.2) (fun k9 H9 v => f_X11_fewestTrunks_9_s k9 H9 v.1 v.2.1 v.2.2) n v
def f_X11_fewestTrunks  (a1 : Int32) (h : zHp) : Option (Int32 × zHp) := zix (0 : Int32) 512 (zlt (zst h 34 (0 : Int32).toNatClampNeg a1) fun h1 => f_X11_fewestTrunks_9_lp  zN (a1, (1 : Int32), h1))
set_option maxHeartbeats 4000000 in
set_option maxRecDepth 100000 in
theorem s_X11_fewestTrunks  (a1 : Int32) (h : zHp) : Fn wM mX11_fewestTrunks 1 rI [.ref 0, .int a1] h (f_X11_fewestTrunks a1 h) := by
  refine Fn.of rfl (Nat.le_of_ble_eq_true rfl) ?_
  unfold f_X11_fewestTrunks
  refine Sim.aload_n 0 dX11_fewestTrunks_0 rfl ?_
  refine Sim.getR (j := 34) fl_X11_113 dX11_fewestTrunks_1 mR_59 ?_
  refine Sim.iconst (v := (0 : Int32)) dX11_fewestTrunks_4 rfl ?_
  refine Sim.iload_n 1 dX11_fewestTrunks_5 rfl ?_
  refine Sim.iast (n := 512) dX11_fewestTrunks_6 mA_34 ?_
  refine Sim.lth (fun h1 => ?_)
  refine Sim.iconst (v := (1 : Int32)) dX11_fewestTrunks_7 rfl ?_
  refine Sim.istore_n (L' := [(2, .int (1 : Int32)), (0, .ref 0), (1, .int a1)]) dX11_fewestTrunks_8 (Nat.le_of_ble_eq_true rfl) rfl ?_
  refine Sim.locs [1, 2, 0] rfl ?_
  exact f_X11_fewestTrunks_9_ls  zN (a1, (1 : Int32), h1)
theorem mv_X11_fewestTrunks : zMV mX11_fewestTrunks 1 := ⟨⟨zTb_in 1965 (by decide +kernel) rfl, zTb_in 148 (by decide +kernel) rfl, ⟨by decide +kernel, by decide +kernel⟩, by decide +kernel⟩, zTb_in 1964 (by decide +kernel) rfl, zTb_in 125 (by decide +kernel) rfl⟩
-- ===== RockingPorchModel.trunks(II)I
abbrev mX11_trunks : zMt := (yX11_trunks, cX11_trunks, 4, some .int)
theorem ml_X11_475 : Cond.methodLink RX11 475 yX11_firstTrunks ∈ zTb := zTb_in 1958 (by decide +kernel) rfl
theorem ml_X11_478 : Cond.methodLink RX11 478 yX11_fewestTrunks ∈ zTb := zTb_in 1962 (by decide +kernel) rfl
theorem dX11_trunks_0 : decode cX11_trunks 0 = .ok (.aload_n 0, 1) := by decide +kernel
theorem dX11_trunks_1 : decode cX11_trunks 1 = .ok (.iconst 0, 1) := by decide +kernel
theorem dX11_trunks_2 : decode cX11_trunks 2 = .ok (.putfield 128, 3) := by decide +kernel
theorem dX11_trunks_5 : decode cX11_trunks 5 = .ok (.aload_n 0, 1) := by decide +kernel
theorem dX11_trunks_6 : decode cX11_trunks 6 = .ok (.iload_n 1, 1) := by decide +kernel
theorem dX11_trunks_7 : decode cX11_trunks 7 = .ok (.iconst 1, 1) := by decide +kernel
theorem dX11_trunks_8 : decode cX11_trunks 8 = .ok (.bipush 99, 2) := by decide +kernel
theorem dX11_trunks_10 : decode cX11_trunks 10 = .ok (.invokevirtual 154, 3) := by decide +kernel
theorem dX11_trunks_13 : decode cX11_trunks 13 = .ok (.ifCond .eq 13, 3) := by decide +kernel
theorem dX11_trunks_16 : decode cX11_trunks 16 = .ok (.aload_n 0, 1) := by decide +kernel
theorem dX11_trunks_17 : decode cX11_trunks 17 = .ok (.iload_n 2, 1) := by decide +kernel
theorem dX11_trunks_18 : decode cX11_trunks 18 = .ok (.iconst 0, 1) := by decide +kernel
theorem dX11_trunks_19 : decode cX11_trunks 19 = .ok (.iconst 1, 1) := by decide +kernel
theorem dX11_trunks_20 : decode cX11_trunks 20 = .ok (.invokevirtual 154, 3) := by decide +kernel
theorem dX11_trunks_23 : decode cX11_trunks 23 = .ok (.ifCond .ne 5, 3) := by decide +kernel
theorem dX11_trunks_26 : decode cX11_trunks 26 = .ok (.iconst (-1), 1) := by decide +kernel
theorem dX11_trunks_27 : decode cX11_trunks 27 = .ok (.ireturn, 1) := by decide +kernel
theorem dX11_trunks_28 : decode cX11_trunks 28 = .ok (.iconst 0, 1) := by decide +kernel
theorem dX11_trunks_29 : decode cX11_trunks 29 = .ok (.istore_n 3, 1) := by decide +kernel
theorem dX11_trunks_30 : decode cX11_trunks 30 = .ok (.iload_n 3, 1) := by decide +kernel
theorem dX11_trunks_31 : decode cX11_trunks 31 = .ok (.aload_n 0, 1) := by decide +kernel
theorem dX11_trunks_32 : decode cX11_trunks 32 = .ok (.getfield 472, 3) := by decide +kernel
theorem dX11_trunks_35 : decode cX11_trunks 35 = .ok (.if_icmp .ge 21, 3) := by decide +kernel
theorem dX11_trunks_38 : decode cX11_trunks 38 = .ok (.aload_n 0, 1) := by decide +kernel
theorem dX11_trunks_39 : decode cX11_trunks 39 = .ok (.getfield 107, 3) := by decide +kernel
theorem dX11_trunks_42 : decode cX11_trunks 42 = .ok (.iload_n 3, 1) := by decide +kernel
theorem dX11_trunks_43 : decode cX11_trunks 43 = .ok (.iaload, 1) := by decide +kernel
theorem dX11_trunks_44 : decode cX11_trunks 44 = .ok (.iload_n 1, 1) := by decide +kernel
theorem dX11_trunks_45 : decode cX11_trunks 45 = .ok (.if_icmp .le 5, 3) := by decide +kernel
theorem dX11_trunks_48 : decode cX11_trunks 48 = .ok (.iconst (-1), 1) := by decide +kernel
theorem dX11_trunks_49 : decode cX11_trunks 49 = .ok (.ireturn, 1) := by decide +kernel
theorem dX11_trunks_50 : decode cX11_trunks 50 = .ok (.iinc 3 1, 3) := by decide +kernel
theorem dX11_trunks_53 : decode cX11_trunks 53 = .ok (.goto (-23), 3) := by decide +kernel
theorem dX11_trunks_56 : decode cX11_trunks 56 = .ok (.iload_n 2, 1) := by decide +kernel
theorem dX11_trunks_57 : decode cX11_trunks 57 = .ok (.ifCond .ne 11, 3) := by decide +kernel
theorem dX11_trunks_60 : decode cX11_trunks 60 = .ok (.aload_n 0, 1) := by decide +kernel
theorem dX11_trunks_61 : decode cX11_trunks 61 = .ok (.iload_n 1, 1) := by decide +kernel
theorem dX11_trunks_62 : decode cX11_trunks 62 = .ok (.invokevirtual 475, 3) := by decide +kernel
theorem dX11_trunks_65 : decode cX11_trunks 65 = .ok (.goto 8, 3) := by decide +kernel
theorem dX11_trunks_68 : decode cX11_trunks 68 = .ok (.aload_n 0, 1) := by decide +kernel
theorem dX11_trunks_69 : decode cX11_trunks 69 = .ok (.iload_n 1, 1) := by decide +kernel
theorem dX11_trunks_70 : decode cX11_trunks 70 = .ok (.invokevirtual 478, 3) := by decide +kernel
theorem dX11_trunks_73 : decode cX11_trunks 73 = .ok (.ireturn, 1) := by decide +kernel
def f_X11_trunks_30  (k30 : Int32 × Int32 × Int32 × zHp → Option (Int32 × zHp)) (v1 : Int32) (v2 : Int32) (v3 : Int32) (h : zHp) : Option (Int32 × zHp) := (if v3 < (h 0 56) then zix v3 9 ((if v1 < (h 32 v3.toNatClampNeg) then some ((-1 : Int32), h) else k30 (v1, v2, (v3 + (1 : Int32)), h))) else (if v2 = 0 then (f_X11_firstTrunks v1 h).bind fun x1 => some (x1.1, x1.2) else (f_X11_fewestTrunks v1 h).bind fun x2 => some (x2.1, x2.2)))
set_option maxHeartbeats 4000000 in
set_option maxRecDepth 100000 in
theorem f_X11_trunks_30_s  (k30 : Int32 × Int32 × Int32 × zHp → Option (Int32 × zHp)) (H30 : ∀ v : Int32 × Int32 × Int32 × zHp, Sim wM mX11_trunks 2 rI 30 [(0, .ref 0), (1, .int v.1), (2, .int v.2.1), (3, .int v.2.2.1)] [] v.2.2.2 (k30 v)) (v1 : Int32) (v2 : Int32) (v3 : Int32) (h : zHp) : Sim wM mX11_trunks 2 rI 30 [(0, .ref 0), (1, .int v1), (2, .int v2), (3, .int v3)] [] h (f_X11_trunks_30 k30 v1 v2 v3 h) := by
  unfold f_X11_trunks_30
  refine Sim.iload_n 3 dX11_trunks_30 rfl ?_
  refine Sim.aload_n 0 dX11_trunks_31 rfl ?_
  refine Sim.getI fl_X11_472 dX11_trunks_32 mI_56 ?_
  refine Sim.icmp_ge 56 dX11_trunks_35 rfl ?_ ?_
  · refine Sim.aload_n 0 dX11_trunks_38 rfl ?_
    refine Sim.getR (j := 32) fl_X11_107 dX11_trunks_39 mR_57 ?_
    refine Sim.iload_n 3 dX11_trunks_42 rfl ?_
    refine Sim.iald (n := 9) dX11_trunks_43 mA_32 ?_
    refine Sim.iload_n 1 dX11_trunks_44 rfl ?_
    refine Sim.icmp_le 50 dX11_trunks_45 rfl ?_ ?_
    · refine Sim.iconst (v := (-1 : Int32)) dX11_trunks_48 rfl ?_
      exact Sim.iret dX11_trunks_49 rfl
    · refine Sim.iinc (L' := [(3, .int (v3 + (1 : Int32))), (0, .ref 0), (1, .int v1), (2, .int v2)]) 3 dX11_trunks_50 rfl rfl (Nat.le_of_ble_eq_true rfl) rfl ?_
      refine Sim.goto 30 dX11_trunks_53 rfl ?_
      refine Sim.locs [1, 2, 3, 0] rfl ?_
      exact H30 (v1, v2, (v3 + (1 : Int32)), h)
  · refine Sim.iload_n 2 dX11_trunks_56 rfl ?_
    refine Sim.if_ne 68 dX11_trunks_57 rfl ?_ ?_
    · refine Sim.aload_n 0 dX11_trunks_60 rfl ?_
      refine Sim.iload_n 1 dX11_trunks_61 rfl ?_
      refine Sim.callV1I (d1 := 0) (s_X11_firstTrunks v1 h) dX11_trunks_62 ml_X11_475 mv_X11_firstTrunks mC (Nat.le_of_ble_eq_true rfl) (Nat.le_of_ble_eq_true rfl) (Nat.le_of_ble_eq_true rfl) (fun x1 => ?_)
      refine Sim.goto 73 dX11_trunks_65 rfl ?_
      exact Sim.iret dX11_trunks_73 rfl
    · refine Sim.aload_n 0 dX11_trunks_68 rfl ?_
      refine Sim.iload_n 1 dX11_trunks_69 rfl ?_
      refine Sim.callV1I (d1 := 1) (s_X11_fewestTrunks v1 h) dX11_trunks_70 ml_X11_478 mv_X11_fewestTrunks mC (Nat.le_of_ble_eq_true rfl) (Nat.le_of_ble_eq_true rfl) (Nat.le_of_ble_eq_true rfl) (fun x2 => ?_)
      exact Sim.iret dX11_trunks_73 rfl
def f_X11_trunks_30_lp   (n : Nat) (v : Int32 × Int32 × Int32 × zHp) : Option (Int32 × zHp) := zlp (fun k30 v => f_X11_trunks_30 k30 v.1 v.2.1 v.2.2.1 v.2.2.2) n v
theorem f_X11_trunks_30_ls  (n : Nat) (v : Int32 × Int32 × Int32 × zHp) : Sim wM mX11_trunks 2 rI 30 [(0, .ref 0), (1, .int v.1), (2, .int v.2.1), (3, .int v.2.2.1)] [] v.2.2.2 (f_X11_trunks_30_lp n v) :=
  Sim.lp (V := Int32 × Int32 × Int32 × zHp) (Lf := fun v => [(0, .ref 0), (1, .int v.1), (2, .int v.2.1), (3, .int v.2.2.1)]) (sf := fun v => []) (hf := fun v => v.2.2.2) (fun k30 H30 v => f_X11_trunks_30_s k30 H30 v.1 v.2.1 v.2.2.1 v.2.2.2) n v
def f_X11_trunks  (a1 : Int32) (a2 : Int32) (h : zHp) : Option (Int32 × zHp) := zlt (zst h 0 0 (0 : Int32)) fun h1 => (f_X11_isIn a1 (1 : Int32) (99 : Int32) h1).bind fun x2 => (if x2.1 = 0 then some ((-1 : Int32), x2.2) else (f_X11_isIn a2 (0 : Int32) (1 : Int32) x2.2).bind fun x3 => (if x3.1 = 0 then some ((-1 : Int32), x3.2) else f_X11_trunks_30_lp  zN (a1, a2, (0 : Int32), x3.2)))
set_option maxHeartbeats 4000000 in
set_option maxRecDepth 100000 in
theorem s_X11_trunks  (a1 : Int32) (a2 : Int32) (h : zHp) : Fn wM mX11_trunks 2 rI [.ref 0, .int a1, .int a2] h (f_X11_trunks a1 a2 h) := by
  refine Fn.of rfl (Nat.le_of_ble_eq_true rfl) ?_
  unfold f_X11_trunks
  refine Sim.aload_n 0 dX11_trunks_0 rfl ?_
  refine Sim.iconst (v := (0 : Int32)) dX11_trunks_1 rfl ?_
  refine Sim.put fp_X11_128 dX11_trunks_2 mI_0 rfl rfl ?_
  refine Sim.lth (fun h1 => ?_)
  refine Sim.aload_n 0 dX11_trunks_5 rfl ?_
  refine Sim.iload_n 1 dX11_trunks_6 rfl ?_
  refine Sim.iconst (v := (1 : Int32)) dX11_trunks_7 rfl ?_
  refine Sim.bipush (v := (99 : Int32)) dX11_trunks_8 rfl ?_
  refine Sim.callV3I (d1 := 0) (s_X11_isIn a1 (1 : Int32) (99 : Int32) h1) dX11_trunks_10 ml_X11_154 mv_X11_isIn mC (Nat.le_of_ble_eq_true rfl) (Nat.le_of_ble_eq_true rfl) (Nat.le_of_ble_eq_true rfl) (fun x2 => ?_)
  refine Sim.if_eq 26 dX11_trunks_13 rfl ?_ ?_
  · refine Sim.iconst (v := (-1 : Int32)) dX11_trunks_26 rfl ?_
    exact Sim.iret dX11_trunks_27 rfl
  · refine Sim.aload_n 0 dX11_trunks_16 rfl ?_
    refine Sim.iload_n 2 dX11_trunks_17 rfl ?_
    refine Sim.iconst (v := (0 : Int32)) dX11_trunks_18 rfl ?_
    refine Sim.iconst (v := (1 : Int32)) dX11_trunks_19 rfl ?_
    refine Sim.callV3I (d1 := 0) (s_X11_isIn a2 (0 : Int32) (1 : Int32) x2.2) dX11_trunks_20 ml_X11_154 mv_X11_isIn mC (Nat.le_of_ble_eq_true rfl) (Nat.le_of_ble_eq_true rfl) (Nat.le_of_ble_eq_true rfl) (fun x3 => ?_)
    refine Sim.if_ne 28 dX11_trunks_23 rfl ?_ ?_
    · refine Sim.iconst (v := (-1 : Int32)) dX11_trunks_26 rfl ?_
      exact Sim.iret dX11_trunks_27 rfl
    · refine Sim.iconst (v := (0 : Int32)) dX11_trunks_28 rfl ?_
      refine Sim.istore_n (L' := [(3, .int (0 : Int32)), (0, .ref 0), (1, .int a1), (2, .int a2)]) dX11_trunks_29 (Nat.le_of_ble_eq_true rfl) rfl ?_
      refine Sim.locs [1, 2, 3, 0] rfl ?_
      exact f_X11_trunks_30_ls  zN (a1, a2, (0 : Int32), x3.2)
theorem mv_X11_trunks : zMV mX11_trunks 2 := ⟨⟨zTb_in 1957 (by decide +kernel) rfl, zTb_in 148 (by decide +kernel) rfl, ⟨by decide +kernel, by decide +kernel⟩, by decide +kernel⟩, zTb_in 1955 (by decide +kernel) rfl, zTb_in 1956 (by decide +kernel) rfl⟩
-- ===== RockingPorchModel.longOf(I)I
abbrev mX11_longOf : zMt := (yX11_longOf, cX11_longOf, 4, some .int)
theorem dX11_longOf_0 : decode cX11_longOf 0 = .ok (.iconst (-1), 1) := by decide +kernel
theorem dX11_longOf_1 : decode cX11_longOf 1 = .ok (.istore_n 2, 1) := by decide +kernel
theorem dX11_longOf_2 : decode cX11_longOf 2 = .ok (.iload_n 1, 1) := by decide +kernel
theorem dX11_longOf_3 : decode cX11_longOf 3 = .ok (.istore_n 3, 1) := by decide +kernel
theorem dX11_longOf_4 : decode cX11_longOf 4 = .ok (.iload_n 3, 1) := by decide +kernel
theorem dX11_longOf_5 : decode cX11_longOf 5 = .ok (.ifCond .le 14, 3) := by decide +kernel
theorem dX11_longOf_8 : decode cX11_longOf 8 = .ok (.iload_n 2, 1) := by decide +kernel
theorem dX11_longOf_9 : decode cX11_longOf 9 = .ok (.iconst 1, 1) := by decide +kernel
theorem dX11_longOf_10 : decode cX11_longOf 10 = .ok (.iadd, 1) := by decide +kernel
theorem dX11_longOf_11 : decode cX11_longOf 11 = .ok (.istore_n 2, 1) := by decide +kernel
theorem dX11_longOf_12 : decode cX11_longOf 12 = .ok (.iload_n 3, 1) := by decide +kernel
theorem dX11_longOf_13 : decode cX11_longOf 13 = .ok (.iconst 2, 1) := by decide +kernel
theorem dX11_longOf_14 : decode cX11_longOf 14 = .ok (.idiv, 1) := by decide +kernel
theorem dX11_longOf_15 : decode cX11_longOf 15 = .ok (.istore_n 3, 1) := by decide +kernel
theorem dX11_longOf_16 : decode cX11_longOf 16 = .ok (.goto (-12), 3) := by decide +kernel
theorem dX11_longOf_19 : decode cX11_longOf 19 = .ok (.iload_n 2, 1) := by decide +kernel
theorem dX11_longOf_20 : decode cX11_longOf 20 = .ok (.ireturn, 1) := by decide +kernel
def f_X11_longOf_4  (k4 : Int32 × Int32 × zHp → Option (Int32 × zHp)) (v2 : Int32) (v3 : Int32) (h : zHp) : Option (Int32 × zHp) := (if 0 < v3 then zlt (v2 + (1 : Int32)) fun x1 => zlt (v3 / (2 : Int32)) fun x2 => k4 (x1, x2, h) else some (v2, h))
set_option maxHeartbeats 4000000 in
set_option maxRecDepth 100000 in
theorem f_X11_longOf_4_s  (k4 : Int32 × Int32 × zHp → Option (Int32 × zHp)) (H4 : ∀ v : Int32 × Int32 × zHp, Sim wM mX11_longOf 0 rI 4 [(2, .int v.1), (3, .int v.2.1)] [] v.2.2 (k4 v)) (v2 : Int32) (v3 : Int32) (h : zHp) : Sim wM mX11_longOf 0 rI 4 [(2, .int v2), (3, .int v3)] [] h (f_X11_longOf_4 k4 v2 v3 h) := by
  unfold f_X11_longOf_4
  refine Sim.iload_n 1 dX11_longOf_4 rfl ?_
  refine Sim.if_le 19 dX11_longOf_5 rfl ?_ ?_
  · refine Sim.iload_n 0 dX11_longOf_8 rfl ?_
    refine Sim.iconst (v := (1 : Int32)) dX11_longOf_9 rfl ?_
    refine Sim.iadd dX11_longOf_10 ?_
    refine Sim.lti (fun x1 => ?_)
    refine Sim.istore_n (L' := [(2, .int x1), (3, .int v3)]) dX11_longOf_11 (Nat.le_of_ble_eq_true rfl) rfl ?_
    refine Sim.iload_n 1 dX11_longOf_12 rfl ?_
    refine Sim.iconst (v := (2 : Int32)) dX11_longOf_13 rfl ?_
    refine Sim.idivL dX11_longOf_14 (by decide) ?_
    refine Sim.lti (fun x2 => ?_)
    refine Sim.istore_n (L' := [(3, .int x2), (2, .int x1)]) dX11_longOf_15 (Nat.le_of_ble_eq_true rfl) rfl ?_
    refine Sim.goto 4 dX11_longOf_16 rfl ?_
    refine Sim.locs [1, 0] rfl ?_
    exact H4 (x1, x2, h)
  · refine Sim.iload_n 0 dX11_longOf_19 rfl ?_
    exact Sim.iret dX11_longOf_20 rfl
def f_X11_longOf_4_lp   (n : Nat) (v : Int32 × Int32 × zHp) : Option (Int32 × zHp) := zlp (fun k4 v => f_X11_longOf_4 k4 v.1 v.2.1 v.2.2) n v
theorem f_X11_longOf_4_ls  (n : Nat) (v : Int32 × Int32 × zHp) : Sim wM mX11_longOf 0 rI 4 [(2, .int v.1), (3, .int v.2.1)] [] v.2.2 (f_X11_longOf_4_lp n v) :=
  Sim.lp (V := Int32 × Int32 × zHp) (Lf := fun v => [(2, .int v.1), (3, .int v.2.1)]) (sf := fun v => []) (hf := fun v => v.2.2) (fun k4 H4 v => f_X11_longOf_4_s k4 H4 v.1 v.2.1 v.2.2) n v
def f_X11_longOf  (a1 : Int32) (h : zHp) : Option (Int32 × zHp) := f_X11_longOf_4_lp  zN ((-1 : Int32), a1, h)
set_option maxHeartbeats 4000000 in
set_option maxRecDepth 100000 in
theorem s_X11_longOf  (a1 : Int32) (h : zHp) : Fn wM mX11_longOf 0 rI [.ref 0, .int a1] h (f_X11_longOf a1 h) := by
  refine Fn.of rfl (Nat.le_of_ble_eq_true rfl) ?_
  unfold f_X11_longOf
  refine Sim.iconst (v := (-1 : Int32)) dX11_longOf_0 rfl ?_
  refine Sim.istore_n (L' := [(2, .int (-1 : Int32)), (0, .ref 0), (1, .int a1)]) dX11_longOf_1 (Nat.le_of_ble_eq_true rfl) rfl ?_
  refine Sim.iload_n 2 dX11_longOf_2 rfl ?_
  refine Sim.istore_n (L' := [(3, .int a1), (2, .int (-1 : Int32)), (0, .ref 0), (1, .int a1)]) dX11_longOf_3 (Nat.le_of_ble_eq_true rfl) rfl ?_
  refine Sim.locs [1, 0] rfl ?_
  exact f_X11_longOf_4_ls  zN ((-1 : Int32), a1, h)
theorem mv_X11_longOf : zMV mX11_longOf 1 := ⟨⟨zTb_in 1977 (by decide +kernel) rfl, zTb_in 148 (by decide +kernel) rfl, ⟨by decide +kernel, by decide +kernel⟩, by decide +kernel⟩, zTb_in 1976 (by decide +kernel) rfl, zTb_in 127 (by decide +kernel) rfl⟩
-- ===== RockingPorchModel.fitOf(II)I
abbrev mX11_fitOf : zMt := (yX11_fitOf, cX11_fitOf, 8, some .int)
theorem ml_X11_481 : Cond.methodLink RX11 481 yX11_longOf ∈ zTb := zTb_in 1974 (by decide +kernel) rfl
theorem dX11_fitOf_0 : decode cX11_fitOf 0 = .ok (.iconst 0, 1) := by decide +kernel
theorem dX11_fitOf_1 : decode cX11_fitOf 1 = .ok (.istore_n 3, 1) := by decide +kernel
theorem dX11_fitOf_2 : decode cX11_fitOf 2 = .ok (.aload_n 0, 1) := by decide +kernel
theorem dX11_fitOf_3 : decode cX11_fitOf 3 = .ok (.iload_n 2, 1) := by decide +kernel
theorem dX11_fitOf_4 : decode cX11_fitOf 4 = .ok (.invokevirtual 481, 3) := by decide +kernel
theorem dX11_fitOf_7 : decode cX11_fitOf 7 = .ok (.istore 4, 2) := by decide +kernel
theorem dX11_fitOf_9 : decode cX11_fitOf 9 = .ok (.iconst 1, 1) := by decide +kernel
theorem dX11_fitOf_10 : decode cX11_fitOf 10 = .ok (.istore 5, 2) := by decide +kernel
theorem dX11_fitOf_12 : decode cX11_fitOf 12 = .ok (.iload 5, 2) := by decide +kernel
theorem dX11_fitOf_14 : decode cX11_fitOf 14 = .ok (.aload_n 0, 1) := by decide +kernel
theorem dX11_fitOf_15 : decode cX11_fitOf 15 = .ok (.iload_n 1, 1) := by decide +kernel
theorem dX11_fitOf_16 : decode cX11_fitOf 16 = .ok (.invokevirtual 481, 3) := by decide +kernel
theorem dX11_fitOf_19 : decode cX11_fitOf 19 = .ok (.if_icmp .gt 56, 3) := by decide +kernel
theorem dX11_fitOf_22 : decode cX11_fitOf 22 = .ok (.iload 5, 2) := by decide +kernel
theorem dX11_fitOf_24 : decode cX11_fitOf 24 = .ok (.iload 4, 2) := by decide +kernel
theorem dX11_fitOf_26 : decode cX11_fitOf 26 = .ok (.if_icmp .gt 49, 3) := by decide +kernel
theorem dX11_fitOf_29 : decode cX11_fitOf 29 = .ok (.iload_n 1, 1) := by decide +kernel
theorem dX11_fitOf_30 : decode cX11_fitOf 30 = .ok (.iconst 1, 1) := by decide +kernel
theorem dX11_fitOf_31 : decode cX11_fitOf 31 = .ok (.iload 5, 2) := by decide +kernel
theorem dX11_fitOf_33 : decode cX11_fitOf 33 = .ok (.ishl, 1) := by decide +kernel
theorem dX11_fitOf_34 : decode cX11_fitOf 34 = .ok (.iconst 1, 1) := by decide +kernel
theorem dX11_fitOf_35 : decode cX11_fitOf 35 = .ok (.isub, 1) := by decide +kernel
theorem dX11_fitOf_36 : decode cX11_fitOf 36 = .ok (.iand, 1) := by decide +kernel
theorem dX11_fitOf_37 : decode cX11_fitOf 37 = .ok (.istore 6, 2) := by decide +kernel
theorem dX11_fitOf_39 : decode cX11_fitOf 39 = .ok (.iload_n 2, 1) := by decide +kernel
theorem dX11_fitOf_40 : decode cX11_fitOf 40 = .ok (.iload 4, 2) := by decide +kernel
theorem dX11_fitOf_42 : decode cX11_fitOf 42 = .ok (.iload 5, 2) := by decide +kernel
theorem dX11_fitOf_44 : decode cX11_fitOf 44 = .ok (.isub, 1) := by decide +kernel
theorem dX11_fitOf_45 : decode cX11_fitOf 45 = .ok (.ishr, 1) := by decide +kernel
theorem dX11_fitOf_46 : decode cX11_fitOf 46 = .ok (.iconst 1, 1) := by decide +kernel
theorem dX11_fitOf_47 : decode cX11_fitOf 47 = .ok (.iload 5, 2) := by decide +kernel
theorem dX11_fitOf_49 : decode cX11_fitOf 49 = .ok (.ishl, 1) := by decide +kernel
theorem dX11_fitOf_50 : decode cX11_fitOf 50 = .ok (.iconst 1, 1) := by decide +kernel
theorem dX11_fitOf_51 : decode cX11_fitOf 51 = .ok (.isub, 1) := by decide +kernel
theorem dX11_fitOf_52 : decode cX11_fitOf 52 = .ok (.iand, 1) := by decide +kernel
theorem dX11_fitOf_53 : decode cX11_fitOf 53 = .ok (.istore 7, 2) := by decide +kernel
theorem dX11_fitOf_55 : decode cX11_fitOf 55 = .ok (.iload 6, 2) := by decide +kernel
theorem dX11_fitOf_57 : decode cX11_fitOf 57 = .ok (.iload 7, 2) := by decide +kernel
theorem dX11_fitOf_59 : decode cX11_fitOf 59 = .ok (.if_icmp .ne 10, 3) := by decide +kernel
theorem dX11_fitOf_62 : decode cX11_fitOf 62 = .ok (.iload_n 3, 1) := by decide +kernel
theorem dX11_fitOf_63 : decode cX11_fitOf 63 = .ok (.iconst 1, 1) := by decide +kernel
theorem dX11_fitOf_64 : decode cX11_fitOf 64 = .ok (.iload 5, 2) := by decide +kernel
theorem dX11_fitOf_66 : decode cX11_fitOf 66 = .ok (.ishl, 1) := by decide +kernel
theorem dX11_fitOf_67 : decode cX11_fitOf 67 = .ok (.iadd, 1) := by decide +kernel
theorem dX11_fitOf_68 : decode cX11_fitOf 68 = .ok (.istore_n 3, 1) := by decide +kernel
theorem dX11_fitOf_69 : decode cX11_fitOf 69 = .ok (.iinc 5 1, 3) := by decide +kernel
theorem dX11_fitOf_72 : decode cX11_fitOf 72 = .ok (.goto (-60), 3) := by decide +kernel
theorem dX11_fitOf_75 : decode cX11_fitOf 75 = .ok (.iload_n 3, 1) := by decide +kernel
theorem dX11_fitOf_76 : decode cX11_fitOf 76 = .ok (.ireturn, 1) := by decide +kernel
def f_X11_fitOf_12  (k12 : Int32 × Int32 × Int32 × Int32 × Int32 × zHp → Option (Int32 × zHp)) (v1 : Int32) (v2 : Int32) (v3 : Int32) (v4 : Int32) (v5 : Int32) (h : zHp) : Option (Int32 × zHp) := (f_X11_longOf v1 h).bind fun x1 => (if x1.1 < v5 then some (v3, x1.2) else (if v4 < v5 then some (v3, x1.2) else zlt (v1 &&& (((1 : Int32) <<< (v5 &&& 31)) - (1 : Int32))) fun x2 => zlt ((v2 >>> ((v4 - v5) &&& 31)) &&& (((1 : Int32) <<< (v5 &&& 31)) - (1 : Int32))) fun x3 => (if x2 = x3 then zlt (v3 + ((1 : Int32) <<< (v5 &&& 31))) fun x4 => k12 (v1, v2, x4, v4, (v5 + (1 : Int32)), x1.2) else k12 (v1, v2, v3, v4, (v5 + (1 : Int32)), x1.2))))
set_option maxHeartbeats 4000000 in
set_option maxRecDepth 100000 in
theorem f_X11_fitOf_12_s  (k12 : Int32 × Int32 × Int32 × Int32 × Int32 × zHp → Option (Int32 × zHp)) (H12 : ∀ v : Int32 × Int32 × Int32 × Int32 × Int32 × zHp, Sim wM mX11_fitOf 1 rI 12 [(0, .ref 0), (1, .int v.1), (2, .int v.2.1), (3, .int v.2.2.1), (4, .int v.2.2.2.1), (5, .int v.2.2.2.2.1)] [] v.2.2.2.2.2 (k12 v)) (v1 : Int32) (v2 : Int32) (v3 : Int32) (v4 : Int32) (v5 : Int32) (h : zHp) : Sim wM mX11_fitOf 1 rI 12 [(0, .ref 0), (1, .int v1), (2, .int v2), (3, .int v3), (4, .int v4), (5, .int v5)] [] h (f_X11_fitOf_12 k12 v1 v2 v3 v4 v5 h) := by
  unfold f_X11_fitOf_12
  refine Sim.iload 5 dX11_fitOf_12 rfl ?_
  refine Sim.aload_n 0 dX11_fitOf_14 rfl ?_
  refine Sim.iload_n 1 dX11_fitOf_15 rfl ?_
  refine Sim.callV1I (d1 := 0) (s_X11_longOf v1 h) dX11_fitOf_16 ml_X11_481 mv_X11_longOf mC (Nat.le_of_ble_eq_true rfl) (Nat.le_of_ble_eq_true rfl) (Nat.le_of_ble_eq_true rfl) (fun x1 => ?_)
  refine Sim.icmp_gt 75 dX11_fitOf_19 rfl ?_ ?_
  · refine Sim.iload_n 3 dX11_fitOf_75 rfl ?_
    exact Sim.iret dX11_fitOf_76 rfl
  · refine Sim.iload 5 dX11_fitOf_22 rfl ?_
    refine Sim.iload 4 dX11_fitOf_24 rfl ?_
    refine Sim.icmp_gt 75 dX11_fitOf_26 rfl ?_ ?_
    · refine Sim.iload_n 3 dX11_fitOf_75 rfl ?_
      exact Sim.iret dX11_fitOf_76 rfl
    · refine Sim.iload_n 1 dX11_fitOf_29 rfl ?_
      refine Sim.iconst (v := (1 : Int32)) dX11_fitOf_30 rfl ?_
      refine Sim.iload 5 dX11_fitOf_31 rfl ?_
      refine Sim.ishl dX11_fitOf_33 ?_
      refine Sim.iconst (v := (1 : Int32)) dX11_fitOf_34 rfl ?_
      refine Sim.isub dX11_fitOf_35 ?_
      refine Sim.iand dX11_fitOf_36 ?_
      refine Sim.lti (fun x2 => ?_)
      refine Sim.istore (L' := [(6, .int x2), (0, .ref 0), (1, .int v1), (2, .int v2), (3, .int v3), (4, .int v4), (5, .int v5)]) dX11_fitOf_37 (Nat.le_of_ble_eq_true rfl) rfl ?_
      refine Sim.iload_n 3 dX11_fitOf_39 rfl ?_
      refine Sim.iload 5 dX11_fitOf_40 rfl ?_
      refine Sim.iload 6 dX11_fitOf_42 rfl ?_
      refine Sim.isub dX11_fitOf_44 ?_
      refine Sim.ishr dX11_fitOf_45 ?_
      refine Sim.iconst (v := (1 : Int32)) dX11_fitOf_46 rfl ?_
      refine Sim.iload 6 dX11_fitOf_47 rfl ?_
      refine Sim.ishl dX11_fitOf_49 ?_
      refine Sim.iconst (v := (1 : Int32)) dX11_fitOf_50 rfl ?_
      refine Sim.isub dX11_fitOf_51 ?_
      refine Sim.iand dX11_fitOf_52 ?_
      refine Sim.lti (fun x3 => ?_)
      refine Sim.istore (L' := [(7, .int x3), (6, .int x2), (0, .ref 0), (1, .int v1), (2, .int v2), (3, .int v3), (4, .int v4), (5, .int v5)]) dX11_fitOf_53 (Nat.le_of_ble_eq_true rfl) rfl ?_
      refine Sim.iload 1 dX11_fitOf_55 rfl ?_
      refine Sim.iload 0 dX11_fitOf_57 rfl ?_
      refine Sim.icmp_ne 69 dX11_fitOf_59 rfl ?_ ?_
      · refine Sim.iload_n 5 dX11_fitOf_62 rfl ?_
        refine Sim.iconst (v := (1 : Int32)) dX11_fitOf_63 rfl ?_
        refine Sim.iload 7 dX11_fitOf_64 rfl ?_
        refine Sim.ishl dX11_fitOf_66 ?_
        refine Sim.iadd dX11_fitOf_67 ?_
        refine Sim.lti (fun x4 => ?_)
        refine Sim.istore_n (L' := [(3, .int x4), (7, .int x3), (6, .int x2), (0, .ref 0), (1, .int v1), (2, .int v2), (4, .int v4), (5, .int v5)]) dX11_fitOf_68 (Nat.le_of_ble_eq_true rfl) rfl ?_
        refine Sim.iinc (L' := [(5, .int (v5 + (1 : Int32))), (3, .int x4), (7, .int x3), (6, .int x2), (0, .ref 0), (1, .int v1), (2, .int v2), (4, .int v4)]) 7 dX11_fitOf_69 rfl rfl (Nat.le_of_ble_eq_true rfl) rfl ?_
        refine Sim.goto 12 dX11_fitOf_72 rfl ?_
        refine Sim.locs [4, 5, 6, 1, 7, 0] rfl ?_
        exact H12 (v1, v2, x4, v4, (v5 + (1 : Int32)), x1.2)
      · refine Sim.iinc (L' := [(5, .int (v5 + (1 : Int32))), (7, .int x3), (6, .int x2), (0, .ref 0), (1, .int v1), (2, .int v2), (3, .int v3), (4, .int v4)]) 7 dX11_fitOf_69 rfl rfl (Nat.le_of_ble_eq_true rfl) rfl ?_
        refine Sim.goto 12 dX11_fitOf_72 rfl ?_
        refine Sim.locs [3, 4, 5, 6, 7, 0] rfl ?_
        exact H12 (v1, v2, v3, v4, (v5 + (1 : Int32)), x1.2)
def f_X11_fitOf_12_lp   (n : Nat) (v : Int32 × Int32 × Int32 × Int32 × Int32 × zHp) : Option (Int32 × zHp) := zlp (fun k12 v => f_X11_fitOf_12 k12 v.1 v.2.1 v.2.2.1 v.2.2.2.1 v.2.2.2.2.1 v.2.2.2.2.2) n v
theorem f_X11_fitOf_12_ls  (n : Nat) (v : Int32 × Int32 × Int32 × Int32 × Int32 × zHp) : Sim wM mX11_fitOf 1 rI 12 [(0, .ref 0), (1, .int v.1), (2, .int v.2.1), (3, .int v.2.2.1), (4, .int v.2.2.2.1), (5, .int v.2.2.2.2.1)] [] v.2.2.2.2.2 (f_X11_fitOf_12_lp n v) :=
  Sim.lp (V := Int32 × Int32 × Int32 × Int32 × Int32 × zHp) (Lf := fun v => [(0, .ref 0), (1, .int v.1), (2, .int v.2.1), (3, .int v.2.2.1), (4, .int v.2.2.2.1), (5, .int v.2.2.2.2.1)]) (sf := fun v => []) (hf := fun v => v.2.2.2.2.2) (fun k12 H12 v => f_X11_fitOf_12_s k12 H12 v.1 v.2.1 v.2.2.1 v.2.2.2.1 v.2.2.2.2.1 v.2.2.2.2.2) n v
def f_X11_fitOf  (a1 : Int32) (a2 : Int32) (h : zHp) : Option (Int32 × zHp) := (f_X11_longOf a2 h).bind fun x1 => f_X11_fitOf_12_lp  zN (a1, a2, (0 : Int32), x1.1, (1 : Int32), x1.2)
set_option maxHeartbeats 4000000 in
set_option maxRecDepth 100000 in
theorem s_X11_fitOf  (a1 : Int32) (a2 : Int32) (h : zHp) : Fn wM mX11_fitOf 1 rI [.ref 0, .int a1, .int a2] h (f_X11_fitOf a1 a2 h) := by
  refine Fn.of rfl (Nat.le_of_ble_eq_true rfl) ?_
  unfold f_X11_fitOf
  refine Sim.iconst (v := (0 : Int32)) dX11_fitOf_0 rfl ?_
  refine Sim.istore_n (L' := [(3, .int (0 : Int32)), (0, .ref 0), (1, .int a1), (2, .int a2)]) dX11_fitOf_1 (Nat.le_of_ble_eq_true rfl) rfl ?_
  refine Sim.aload_n 1 dX11_fitOf_2 rfl ?_
  refine Sim.iload_n 3 dX11_fitOf_3 rfl ?_
  refine Sim.callV1I (d1 := 0) (s_X11_longOf a2 h) dX11_fitOf_4 ml_X11_481 mv_X11_longOf mC (Nat.le_of_ble_eq_true rfl) (Nat.le_of_ble_eq_true rfl) (Nat.le_of_ble_eq_true rfl) (fun x1 => ?_)
  refine Sim.istore (L' := [(4, .int x1.1), (3, .int (0 : Int32)), (0, .ref 0), (1, .int a1), (2, .int a2)]) dX11_fitOf_7 (Nat.le_of_ble_eq_true rfl) rfl ?_
  refine Sim.iconst (v := (1 : Int32)) dX11_fitOf_9 rfl ?_
  refine Sim.istore (L' := [(5, .int (1 : Int32)), (4, .int x1.1), (3, .int (0 : Int32)), (0, .ref 0), (1, .int a1), (2, .int a2)]) dX11_fitOf_10 (Nat.le_of_ble_eq_true rfl) rfl ?_
  refine Sim.locs [3, 4, 5, 2, 1, 0] rfl ?_
  exact f_X11_fitOf_12_ls  zN (a1, a2, (0 : Int32), x1.1, (1 : Int32), x1.2)
theorem mv_X11_fitOf : zMV mX11_fitOf 2 := ⟨⟨zTb_in 1973 (by decide +kernel) rfl, zTb_in 148 (by decide +kernel) rfl, ⟨by decide +kernel, by decide +kernel⟩, by decide +kernel⟩, zTb_in 1972 (by decide +kernel) rfl, zTb_in 126 (by decide +kernel) rfl⟩
-- ===== RockingPorchModel.throwing(I)I
abbrev mX11_throwing : zMt := (yX11_throwing, cX11_throwing, 2, some .int)
theorem ml_X11_484 : Cond.methodLink RX11 484 yX11_fitOf ∈ zTb := zTb_in 1970 (by decide +kernel) rfl
theorem dX11_throwing_0 : decode cX11_throwing 0 = .ok (.aload_n 0, 1) := by decide +kernel
theorem dX11_throwing_1 : decode cX11_throwing 1 = .ok (.iconst 0, 1) := by decide +kernel
theorem dX11_throwing_2 : decode cX11_throwing 2 = .ok (.putfield 128, 3) := by decide +kernel
theorem dX11_throwing_5 : decode cX11_throwing 5 = .ok (.aload_n 0, 1) := by decide +kernel
theorem dX11_throwing_6 : decode cX11_throwing 6 = .ok (.iload_n 1, 1) := by decide +kernel
theorem dX11_throwing_7 : decode cX11_throwing 7 = .ok (.iconst 2, 1) := by decide +kernel
theorem dX11_throwing_8 : decode cX11_throwing 8 = .ok (.sipush 511, 3) := by decide +kernel
theorem dX11_throwing_11 : decode cX11_throwing 11 = .ok (.invokevirtual 154, 3) := by decide +kernel
theorem dX11_throwing_14 : decode cX11_throwing 14 = .ok (.ifCond .eq 12, 3) := by decide +kernel
theorem dX11_throwing_17 : decode cX11_throwing 17 = .ok (.aload_n 0, 1) := by decide +kernel
theorem dX11_throwing_18 : decode cX11_throwing 18 = .ok (.iload_n 1, 1) := by decide +kernel
theorem dX11_throwing_19 : decode cX11_throwing 19 = .ok (.iload_n 1, 1) := by decide +kernel
theorem dX11_throwing_20 : decode cX11_throwing 20 = .ok (.invokevirtual 484, 3) := by decide +kernel
theorem dX11_throwing_23 : decode cX11_throwing 23 = .ok (.goto 4, 3) := by decide +kernel
theorem dX11_throwing_26 : decode cX11_throwing 26 = .ok (.iconst (-1), 1) := by decide +kernel
theorem dX11_throwing_27 : decode cX11_throwing 27 = .ok (.ireturn, 1) := by decide +kernel
def f_X11_throwing  (a1 : Int32) (h : zHp) : Option (Int32 × zHp) := zlt (zst h 0 0 (0 : Int32)) fun h1 => (f_X11_isIn a1 (2 : Int32) (511 : Int32) h1).bind fun x2 => (if x2.1 = 0 then some ((-1 : Int32), x2.2) else (f_X11_fitOf a1 a1 x2.2).bind fun x3 => some (x3.1, x3.2))
set_option maxHeartbeats 4000000 in
set_option maxRecDepth 100000 in
theorem s_X11_throwing  (a1 : Int32) (h : zHp) : Fn wM mX11_throwing 2 rI [.ref 0, .int a1] h (f_X11_throwing a1 h) := by
  refine Fn.of rfl (Nat.le_of_ble_eq_true rfl) ?_
  unfold f_X11_throwing
  refine Sim.aload_n 0 dX11_throwing_0 rfl ?_
  refine Sim.iconst (v := (0 : Int32)) dX11_throwing_1 rfl ?_
  refine Sim.put fp_X11_128 dX11_throwing_2 mI_0 rfl rfl ?_
  refine Sim.lth (fun h1 => ?_)
  refine Sim.aload_n 0 dX11_throwing_5 rfl ?_
  refine Sim.iload_n 1 dX11_throwing_6 rfl ?_
  refine Sim.iconst (v := (2 : Int32)) dX11_throwing_7 rfl ?_
  refine Sim.sipush (v := (511 : Int32)) dX11_throwing_8 rfl ?_
  refine Sim.callV3I (d1 := 0) (s_X11_isIn a1 (2 : Int32) (511 : Int32) h1) dX11_throwing_11 ml_X11_154 mv_X11_isIn mC (Nat.le_of_ble_eq_true rfl) (Nat.le_of_ble_eq_true rfl) (Nat.le_of_ble_eq_true rfl) (fun x2 => ?_)
  refine Sim.if_eq 26 dX11_throwing_14 rfl ?_ ?_
  · refine Sim.iconst (v := (-1 : Int32)) dX11_throwing_26 rfl ?_
    exact Sim.iret dX11_throwing_27 rfl
  · refine Sim.aload_n 0 dX11_throwing_17 rfl ?_
    refine Sim.iload_n 1 dX11_throwing_18 rfl ?_
    refine Sim.iload_n 1 dX11_throwing_19 rfl ?_
    refine Sim.callV2I (d1 := 1) (s_X11_fitOf a1 a1 x2.2) dX11_throwing_20 ml_X11_484 mv_X11_fitOf mC (Nat.le_of_ble_eq_true rfl) (Nat.le_of_ble_eq_true rfl) (Nat.le_of_ble_eq_true rfl) (fun x3 => ?_)
    refine Sim.goto 27 dX11_throwing_23 rfl ?_
    exact Sim.iret dX11_throwing_27 rfl
theorem mv_X11_throwing : zMV mX11_throwing 1 := ⟨⟨zTb_in 1969 (by decide +kernel) rfl, zTb_in 148 (by decide +kernel) rfl, ⟨by decide +kernel, by decide +kernel⟩, by decide +kernel⟩, zTb_in 1967 (by decide +kernel) rfl, zTb_in 1968 (by decide +kernel) rfl⟩
-- ===== RockingPorchModel.ahead(III)I
abbrev mX11_ahead : zMt := (yX11_ahead, cX11_ahead, 7, some .int)
theorem dX11_ahead_0 : decode cX11_ahead 0 = .ok (.aload_n 0, 1) := by decide +kernel
theorem dX11_ahead_1 : decode cX11_ahead 1 = .ok (.iconst 0, 1) := by decide +kernel
theorem dX11_ahead_2 : decode cX11_ahead 2 = .ok (.putfield 128, 3) := by decide +kernel
theorem dX11_ahead_5 : decode cX11_ahead 5 = .ok (.aload_n 0, 1) := by decide +kernel
theorem dX11_ahead_6 : decode cX11_ahead 6 = .ok (.iload_n 1, 1) := by decide +kernel
theorem dX11_ahead_7 : decode cX11_ahead 7 = .ok (.iconst 2, 1) := by decide +kernel
theorem dX11_ahead_8 : decode cX11_ahead 8 = .ok (.sipush 511, 3) := by decide +kernel
theorem dX11_ahead_11 : decode cX11_ahead 11 = .ok (.invokevirtual 154, 3) := by decide +kernel
theorem dX11_ahead_14 : decode cX11_ahead 14 = .ok (.ifCond .eq 43, 3) := by decide +kernel
theorem dX11_ahead_17 : decode cX11_ahead 17 = .ok (.aload_n 0, 1) := by decide +kernel
theorem dX11_ahead_18 : decode cX11_ahead 18 = .ok (.iload_n 2, 1) := by decide +kernel
theorem dX11_ahead_19 : decode cX11_ahead 19 = .ok (.iconst 2, 1) := by decide +kernel
theorem dX11_ahead_20 : decode cX11_ahead 20 = .ok (.sipush 511, 3) := by decide +kernel
theorem dX11_ahead_23 : decode cX11_ahead 23 = .ok (.invokevirtual 154, 3) := by decide +kernel
theorem dX11_ahead_26 : decode cX11_ahead 26 = .ok (.ifCond .eq 31, 3) := by decide +kernel
theorem dX11_ahead_29 : decode cX11_ahead 29 = .ok (.iload_n 1, 1) := by decide +kernel
theorem dX11_ahead_30 : decode cX11_ahead 30 = .ok (.iload_n 2, 1) := by decide +kernel
theorem dX11_ahead_31 : decode cX11_ahead 31 = .ok (.if_icmp .eq 26, 3) := by decide +kernel
theorem dX11_ahead_34 : decode cX11_ahead 34 = .ok (.aload_n 0, 1) := by decide +kernel
theorem dX11_ahead_35 : decode cX11_ahead 35 = .ok (.iload_n 1, 1) := by decide +kernel
theorem dX11_ahead_36 : decode cX11_ahead 36 = .ok (.invokevirtual 481, 3) := by decide +kernel
theorem dX11_ahead_39 : decode cX11_ahead 39 = .ok (.aload_n 0, 1) := by decide +kernel
theorem dX11_ahead_40 : decode cX11_ahead 40 = .ok (.iload_n 2, 1) := by decide +kernel
theorem dX11_ahead_41 : decode cX11_ahead 41 = .ok (.invokevirtual 481, 3) := by decide +kernel
theorem dX11_ahead_44 : decode cX11_ahead 44 = .ok (.if_icmp .ne 13, 3) := by decide +kernel
theorem dX11_ahead_47 : decode cX11_ahead 47 = .ok (.aload_n 0, 1) := by decide +kernel
theorem dX11_ahead_48 : decode cX11_ahead 48 = .ok (.iload_n 3, 1) := by decide +kernel
theorem dX11_ahead_49 : decode cX11_ahead 49 = .ok (.iconst 0, 1) := by decide +kernel
theorem dX11_ahead_50 : decode cX11_ahead 50 = .ok (.iconst 1, 1) := by decide +kernel
theorem dX11_ahead_51 : decode cX11_ahead 51 = .ok (.invokevirtual 154, 3) := by decide +kernel
theorem dX11_ahead_54 : decode cX11_ahead 54 = .ok (.ifCond .ne 5, 3) := by decide +kernel
theorem dX11_ahead_57 : decode cX11_ahead 57 = .ok (.iconst (-1), 1) := by decide +kernel
theorem dX11_ahead_58 : decode cX11_ahead 58 = .ok (.ireturn, 1) := by decide +kernel
theorem dX11_ahead_59 : decode cX11_ahead 59 = .ok (.aload_n 0, 1) := by decide +kernel
theorem dX11_ahead_60 : decode cX11_ahead 60 = .ok (.iload_n 2, 1) := by decide +kernel
theorem dX11_ahead_61 : decode cX11_ahead 61 = .ok (.iload_n 2, 1) := by decide +kernel
theorem dX11_ahead_62 : decode cX11_ahead 62 = .ok (.invokevirtual 484, 3) := by decide +kernel
theorem dX11_ahead_65 : decode cX11_ahead 65 = .ok (.aload_n 0, 1) := by decide +kernel
theorem dX11_ahead_66 : decode cX11_ahead 66 = .ok (.iload_n 2, 1) := by decide +kernel
theorem dX11_ahead_67 : decode cX11_ahead 67 = .ok (.iload_n 1, 1) := by decide +kernel
theorem dX11_ahead_68 : decode cX11_ahead 68 = .ok (.invokevirtual 484, 3) := by decide +kernel
theorem dX11_ahead_71 : decode cX11_ahead 71 = .ok (.isub, 1) := by decide +kernel
theorem dX11_ahead_72 : decode cX11_ahead 72 = .ok (.istore 4, 2) := by decide +kernel
theorem dX11_ahead_74 : decode cX11_ahead 74 = .ok (.aload_n 0, 1) := by decide +kernel
theorem dX11_ahead_75 : decode cX11_ahead 75 = .ok (.iload_n 1, 1) := by decide +kernel
theorem dX11_ahead_76 : decode cX11_ahead 76 = .ok (.iload_n 1, 1) := by decide +kernel
theorem dX11_ahead_77 : decode cX11_ahead 77 = .ok (.invokevirtual 484, 3) := by decide +kernel
theorem dX11_ahead_80 : decode cX11_ahead 80 = .ok (.aload_n 0, 1) := by decide +kernel
theorem dX11_ahead_81 : decode cX11_ahead 81 = .ok (.iload_n 1, 1) := by decide +kernel
theorem dX11_ahead_82 : decode cX11_ahead 82 = .ok (.iload_n 2, 1) := by decide +kernel
theorem dX11_ahead_83 : decode cX11_ahead 83 = .ok (.invokevirtual 484, 3) := by decide +kernel
theorem dX11_ahead_86 : decode cX11_ahead 86 = .ok (.isub, 1) := by decide +kernel
theorem dX11_ahead_87 : decode cX11_ahead 87 = .ok (.istore 5, 2) := by decide +kernel
theorem dX11_ahead_89 : decode cX11_ahead 89 = .ok (.aload_n 0, 1) := by decide +kernel
theorem dX11_ahead_90 : decode cX11_ahead 90 = .ok (.iload 4, 2) := by decide +kernel
theorem dX11_ahead_92 : decode cX11_ahead 92 = .ok (.iload 5, 2) := by decide +kernel
theorem dX11_ahead_94 : decode cX11_ahead 94 = .ok (.iadd, 1) := by decide +kernel
theorem dX11_ahead_95 : decode cX11_ahead 95 = .ok (.iload 4, 2) := by decide +kernel
theorem dX11_ahead_97 : decode cX11_ahead 97 = .ok (.invokevirtual 424, 3) := by decide +kernel
theorem dX11_ahead_100 : decode cX11_ahead 100 = .ok (.istore 6, 2) := by decide +kernel
theorem dX11_ahead_102 : decode cX11_ahead 102 = .ok (.iload_n 3, 1) := by decide +kernel
theorem dX11_ahead_103 : decode cX11_ahead 103 = .ok (.ifCond .ne 8, 3) := by decide +kernel
theorem dX11_ahead_106 : decode cX11_ahead 106 = .ok (.iload 4, 2) := by decide +kernel
theorem dX11_ahead_108 : decode cX11_ahead 108 = .ok (.goto 8, 3) := by decide +kernel
theorem dX11_ahead_111 : decode cX11_ahead 111 = .ok (.iload 4, 2) := by decide +kernel
theorem dX11_ahead_113 : decode cX11_ahead 113 = .ok (.iload 5, 2) := by decide +kernel
theorem dX11_ahead_115 : decode cX11_ahead 115 = .ok (.iadd, 1) := by decide +kernel
theorem dX11_ahead_116 : decode cX11_ahead 116 = .ok (.iload 6, 2) := by decide +kernel
theorem dX11_ahead_118 : decode cX11_ahead 118 = .ok (.idiv, 1) := by decide +kernel
theorem dX11_ahead_119 : decode cX11_ahead 119 = .ok (.ireturn, 1) := by decide +kernel
def f_X11_ahead  (a1 : Int32) (a2 : Int32) (a3 : Int32) (h : zHp) : Option (Int32 × zHp) := zlt (zst h 0 0 (0 : Int32)) fun h1 => (f_X11_isIn a1 (2 : Int32) (511 : Int32) h1).bind fun x2 => (if x2.1 = 0 then some ((-1 : Int32), x2.2) else (f_X11_isIn a2 (2 : Int32) (511 : Int32) x2.2).bind fun x3 => (if x3.1 = 0 then some ((-1 : Int32), x3.2) else (if a1 = a2 then some ((-1 : Int32), x3.2) else (f_X11_longOf a1 x3.2).bind fun x4 => (f_X11_longOf a2 x4.2).bind fun x5 => (if x4.1 = x5.1 then (f_X11_isIn a3 (0 : Int32) (1 : Int32) x5.2).bind fun x6 => (if x6.1 = 0 then some ((-1 : Int32), x6.2) else (f_X11_fitOf a2 a2 x6.2).bind fun x7 => (f_X11_fitOf a2 a1 x7.2).bind fun x8 => zlt (x7.1 - x8.1) fun x9 => (f_X11_fitOf a1 a1 x8.2).bind fun x10 => (f_X11_fitOf a1 a2 x10.2).bind fun x11 => zlt (x10.1 - x11.1) fun x12 => (f_X11_common (x9 + x12) x9 x11.2).bind fun x13 => (if a3 = 0 then zdz x13.1 (some ((x9 / x13.1), x13.2)) else zdz x13.1 (some (((x9 + x12) / x13.1), x13.2)))) else some ((-1 : Int32), x5.2)))))
set_option maxHeartbeats 4000000 in
set_option maxRecDepth 100000 in
theorem s_X11_ahead  (a1 : Int32) (a2 : Int32) (a3 : Int32) (h : zHp) : Fn wM mX11_ahead 2 rI [.ref 0, .int a1, .int a2, .int a3] h (f_X11_ahead a1 a2 a3 h) := by
  refine Fn.of rfl (Nat.le_of_ble_eq_true rfl) ?_
  unfold f_X11_ahead
  refine Sim.aload_n 0 dX11_ahead_0 rfl ?_
  refine Sim.iconst (v := (0 : Int32)) dX11_ahead_1 rfl ?_
  refine Sim.put fp_X11_128 dX11_ahead_2 mI_0 rfl rfl ?_
  refine Sim.lth (fun h1 => ?_)
  refine Sim.aload_n 0 dX11_ahead_5 rfl ?_
  refine Sim.iload_n 1 dX11_ahead_6 rfl ?_
  refine Sim.iconst (v := (2 : Int32)) dX11_ahead_7 rfl ?_
  refine Sim.sipush (v := (511 : Int32)) dX11_ahead_8 rfl ?_
  refine Sim.callV3I (d1 := 0) (s_X11_isIn a1 (2 : Int32) (511 : Int32) h1) dX11_ahead_11 ml_X11_154 mv_X11_isIn mC (Nat.le_of_ble_eq_true rfl) (Nat.le_of_ble_eq_true rfl) (Nat.le_of_ble_eq_true rfl) (fun x2 => ?_)
  refine Sim.if_eq 57 dX11_ahead_14 rfl ?_ ?_
  · refine Sim.iconst (v := (-1 : Int32)) dX11_ahead_57 rfl ?_
    exact Sim.iret dX11_ahead_58 rfl
  · refine Sim.aload_n 0 dX11_ahead_17 rfl ?_
    refine Sim.iload_n 2 dX11_ahead_18 rfl ?_
    refine Sim.iconst (v := (2 : Int32)) dX11_ahead_19 rfl ?_
    refine Sim.sipush (v := (511 : Int32)) dX11_ahead_20 rfl ?_
    refine Sim.callV3I (d1 := 0) (s_X11_isIn a2 (2 : Int32) (511 : Int32) x2.2) dX11_ahead_23 ml_X11_154 mv_X11_isIn mC (Nat.le_of_ble_eq_true rfl) (Nat.le_of_ble_eq_true rfl) (Nat.le_of_ble_eq_true rfl) (fun x3 => ?_)
    refine Sim.if_eq 57 dX11_ahead_26 rfl ?_ ?_
    · refine Sim.iconst (v := (-1 : Int32)) dX11_ahead_57 rfl ?_
      exact Sim.iret dX11_ahead_58 rfl
    · refine Sim.iload_n 1 dX11_ahead_29 rfl ?_
      refine Sim.iload_n 2 dX11_ahead_30 rfl ?_
      refine Sim.icmp_eq 57 dX11_ahead_31 rfl ?_ ?_
      · refine Sim.iconst (v := (-1 : Int32)) dX11_ahead_57 rfl ?_
        exact Sim.iret dX11_ahead_58 rfl
      · refine Sim.aload_n 0 dX11_ahead_34 rfl ?_
        refine Sim.iload_n 1 dX11_ahead_35 rfl ?_
        refine Sim.callV1I (d1 := 0) (s_X11_longOf a1 x3.2) dX11_ahead_36 ml_X11_481 mv_X11_longOf mC (Nat.le_of_ble_eq_true rfl) (Nat.le_of_ble_eq_true rfl) (Nat.le_of_ble_eq_true rfl) (fun x4 => ?_)
        refine Sim.aload_n 0 dX11_ahead_39 rfl ?_
        refine Sim.iload_n 2 dX11_ahead_40 rfl ?_
        refine Sim.callV1I (d1 := 0) (s_X11_longOf a2 x4.2) dX11_ahead_41 ml_X11_481 mv_X11_longOf mC (Nat.le_of_ble_eq_true rfl) (Nat.le_of_ble_eq_true rfl) (Nat.le_of_ble_eq_true rfl) (fun x5 => ?_)
        refine Sim.icmp_ne 57 dX11_ahead_44 rfl ?_ ?_
        · refine Sim.aload_n 0 dX11_ahead_47 rfl ?_
          refine Sim.iload_n 3 dX11_ahead_48 rfl ?_
          refine Sim.iconst (v := (0 : Int32)) dX11_ahead_49 rfl ?_
          refine Sim.iconst (v := (1 : Int32)) dX11_ahead_50 rfl ?_
          refine Sim.callV3I (d1 := 0) (s_X11_isIn a3 (0 : Int32) (1 : Int32) x5.2) dX11_ahead_51 ml_X11_154 mv_X11_isIn mC (Nat.le_of_ble_eq_true rfl) (Nat.le_of_ble_eq_true rfl) (Nat.le_of_ble_eq_true rfl) (fun x6 => ?_)
          refine Sim.if_ne 59 dX11_ahead_54 rfl ?_ ?_
          · refine Sim.iconst (v := (-1 : Int32)) dX11_ahead_57 rfl ?_
            exact Sim.iret dX11_ahead_58 rfl
          · refine Sim.aload_n 0 dX11_ahead_59 rfl ?_
            refine Sim.iload_n 2 dX11_ahead_60 rfl ?_
            refine Sim.iload_n 2 dX11_ahead_61 rfl ?_
            refine Sim.callV2I (d1 := 1) (s_X11_fitOf a2 a2 x6.2) dX11_ahead_62 ml_X11_484 mv_X11_fitOf mC (Nat.le_of_ble_eq_true rfl) (Nat.le_of_ble_eq_true rfl) (Nat.le_of_ble_eq_true rfl) (fun x7 => ?_)
            refine Sim.aload_n 0 dX11_ahead_65 rfl ?_
            refine Sim.iload_n 2 dX11_ahead_66 rfl ?_
            refine Sim.iload_n 1 dX11_ahead_67 rfl ?_
            refine Sim.callV2I (d1 := 1) (s_X11_fitOf a2 a1 x7.2) dX11_ahead_68 ml_X11_484 mv_X11_fitOf mC (Nat.le_of_ble_eq_true rfl) (Nat.le_of_ble_eq_true rfl) (Nat.le_of_ble_eq_true rfl) (fun x8 => ?_)
            refine Sim.isub dX11_ahead_71 ?_
            refine Sim.lti (fun x9 => ?_)
            refine Sim.istore (L' := [(4, .int x9), (0, .ref 0), (1, .int a1), (2, .int a2), (3, .int a3)]) dX11_ahead_72 (Nat.le_of_ble_eq_true rfl) rfl ?_
            refine Sim.aload_n 1 dX11_ahead_74 rfl ?_
            refine Sim.iload_n 2 dX11_ahead_75 rfl ?_
            refine Sim.iload_n 2 dX11_ahead_76 rfl ?_
            refine Sim.callV2I (d1 := 1) (s_X11_fitOf a1 a1 x8.2) dX11_ahead_77 ml_X11_484 mv_X11_fitOf mC (Nat.le_of_ble_eq_true rfl) (Nat.le_of_ble_eq_true rfl) (Nat.le_of_ble_eq_true rfl) (fun x10 => ?_)
            refine Sim.aload_n 1 dX11_ahead_80 rfl ?_
            refine Sim.iload_n 2 dX11_ahead_81 rfl ?_
            refine Sim.iload_n 3 dX11_ahead_82 rfl ?_
            refine Sim.callV2I (d1 := 1) (s_X11_fitOf a1 a2 x10.2) dX11_ahead_83 ml_X11_484 mv_X11_fitOf mC (Nat.le_of_ble_eq_true rfl) (Nat.le_of_ble_eq_true rfl) (Nat.le_of_ble_eq_true rfl) (fun x11 => ?_)
            refine Sim.isub dX11_ahead_86 ?_
            refine Sim.lti (fun x12 => ?_)
            refine Sim.istore (L' := [(5, .int x12), (4, .int x9), (0, .ref 0), (1, .int a1), (2, .int a2), (3, .int a3)]) dX11_ahead_87 (Nat.le_of_ble_eq_true rfl) rfl ?_
            refine Sim.aload_n 2 dX11_ahead_89 rfl ?_
            refine Sim.iload 1 dX11_ahead_90 rfl ?_
            refine Sim.iload 0 dX11_ahead_92 rfl ?_
            refine Sim.iadd dX11_ahead_94 ?_
            refine Sim.iload 1 dX11_ahead_95 rfl ?_
            refine Sim.callV2I (d1 := 0) (s_X11_common (x9 + x12) x9 x11.2) dX11_ahead_97 ml_X11_424 mv_X11_common mC (Nat.le_of_ble_eq_true rfl) (Nat.le_of_ble_eq_true rfl) (Nat.le_of_ble_eq_true rfl) (fun x13 => ?_)
            refine Sim.istore (L' := [(6, .int x13.1), (5, .int x12), (4, .int x9), (0, .ref 0), (1, .int a1), (2, .int a2), (3, .int a3)]) dX11_ahead_100 (Nat.le_of_ble_eq_true rfl) rfl ?_
            refine Sim.iload_n 6 dX11_ahead_102 rfl ?_
            refine Sim.if_ne 111 dX11_ahead_103 rfl ?_ ?_
            · refine Sim.iload 2 dX11_ahead_106 rfl ?_
              refine Sim.goto 116 dX11_ahead_108 rfl ?_
              refine Sim.iload 0 dX11_ahead_116 rfl ?_
              refine Sim.idiv dX11_ahead_118 ?_
              exact Sim.iret dX11_ahead_119 rfl
            · refine Sim.iload 2 dX11_ahead_111 rfl ?_
              refine Sim.iload 1 dX11_ahead_113 rfl ?_
              refine Sim.iadd dX11_ahead_115 ?_
              refine Sim.iload 0 dX11_ahead_116 rfl ?_
              refine Sim.idiv dX11_ahead_118 ?_
              exact Sim.iret dX11_ahead_119 rfl
        · refine Sim.iconst (v := (-1 : Int32)) dX11_ahead_57 rfl ?_
          exact Sim.iret dX11_ahead_58 rfl
theorem mv_X11_ahead : zMV mX11_ahead 3 := ⟨⟨zTb_in 1981 (by decide +kernel) rfl, zTb_in 148 (by decide +kernel) rfl, ⟨by decide +kernel, by decide +kernel⟩, by decide +kernel⟩, zTb_in 1979 (by decide +kernel) rfl, zTb_in 1980 (by decide +kernel) rfl⟩
-- ===== RockingPorchModel.handsApart(I)I
abbrev mX11_handsApart : zMt := (yX11_handsApart, cX11_handsApart, 3, some .int)
theorem dX11_handsApart_0 : decode cX11_handsApart 0 = .ok (.bipush 11, 2) := by decide +kernel
theorem dX11_handsApart_2 : decode cX11_handsApart 2 = .ok (.iload_n 1, 1) := by decide +kernel
theorem dX11_handsApart_3 : decode cX11_handsApart 3 = .ok (.imul, 1) := by decide +kernel
theorem dX11_handsApart_4 : decode cX11_handsApart 4 = .ok (.sipush 720, 3) := by decide +kernel
theorem dX11_handsApart_7 : decode cX11_handsApart 7 = .ok (.irem, 1) := by decide +kernel
theorem dX11_handsApart_8 : decode cX11_handsApart 8 = .ok (.istore_n 2, 1) := by decide +kernel
theorem dX11_handsApart_9 : decode cX11_handsApart 9 = .ok (.iload_n 2, 1) := by decide +kernel
theorem dX11_handsApart_10 : decode cX11_handsApart 10 = .ok (.sipush 360, 3) := by decide +kernel
theorem dX11_handsApart_13 : decode cX11_handsApart 13 = .ok (.if_icmp .le 11, 3) := by decide +kernel
theorem dX11_handsApart_16 : decode cX11_handsApart 16 = .ok (.sipush 720, 3) := by decide +kernel
theorem dX11_handsApart_19 : decode cX11_handsApart 19 = .ok (.iload_n 2, 1) := by decide +kernel
theorem dX11_handsApart_20 : decode cX11_handsApart 20 = .ok (.isub, 1) := by decide +kernel
theorem dX11_handsApart_21 : decode cX11_handsApart 21 = .ok (.goto 4, 3) := by decide +kernel
theorem dX11_handsApart_24 : decode cX11_handsApart 24 = .ok (.iload_n 2, 1) := by decide +kernel
theorem dX11_handsApart_25 : decode cX11_handsApart 25 = .ok (.ireturn, 1) := by decide +kernel
def f_X11_handsApart  (a1 : Int32) (h : zHp) : Option (Int32 × zHp) := zlt (((11 : Int32) * a1) - ((11 : Int32) * a1) / (720 : Int32) * (720 : Int32)) fun x1 => (if (360 : Int32) < x1 then some (((720 : Int32) - x1), h) else some (x1, h))
set_option maxHeartbeats 4000000 in
set_option maxRecDepth 100000 in
theorem s_X11_handsApart  (a1 : Int32) (h : zHp) : Fn wM mX11_handsApart 0 rI [.ref 0, .int a1] h (f_X11_handsApart a1 h) := by
  refine Fn.of rfl (Nat.le_of_ble_eq_true rfl) ?_
  unfold f_X11_handsApart
  refine Sim.bipush (v := (11 : Int32)) dX11_handsApart_0 rfl ?_
  refine Sim.iload_n 1 dX11_handsApart_2 rfl ?_
  refine Sim.imul dX11_handsApart_3 ?_
  refine Sim.sipush (v := (720 : Int32)) dX11_handsApart_4 rfl ?_
  refine Sim.iremL dX11_handsApart_7 (by decide) ?_
  refine Sim.lti (fun x1 => ?_)
  refine Sim.istore_n (L' := [(2, .int x1), (0, .ref 0), (1, .int a1)]) dX11_handsApart_8 (Nat.le_of_ble_eq_true rfl) rfl ?_
  refine Sim.iload_n 0 dX11_handsApart_9 rfl ?_
  refine Sim.sipush (v := (360 : Int32)) dX11_handsApart_10 rfl ?_
  refine Sim.icmp_le 24 dX11_handsApart_13 rfl ?_ ?_
  · refine Sim.sipush (v := (720 : Int32)) dX11_handsApart_16 rfl ?_
    refine Sim.iload_n 0 dX11_handsApart_19 rfl ?_
    refine Sim.isub dX11_handsApart_20 ?_
    refine Sim.goto 25 dX11_handsApart_21 rfl ?_
    exact Sim.iret dX11_handsApart_25 rfl
  · refine Sim.iload_n 0 dX11_handsApart_24 rfl ?_
    exact Sim.iret dX11_handsApart_25 rfl
theorem mv_X11_handsApart : zMV mX11_handsApart 1 := ⟨⟨zTb_in 1989 (by decide +kernel) rfl, zTb_in 148 (by decide +kernel) rfl, ⟨by decide +kernel, by decide +kernel⟩, by decide +kernel⟩, zTb_in 1988 (by decide +kernel) rfl, zTb_in 128 (by decide +kernel) rfl⟩
-- ===== RockingPorchModel.hands(II)I
abbrev mX11_hands : zMt := (yX11_hands, cX11_hands, 5, some .int)
theorem ml_X11_487 : Cond.methodLink RX11 487 yX11_handsApart ∈ zTb := zTb_in 1986 (by decide +kernel) rfl
theorem dX11_hands_0 : decode cX11_hands 0 = .ok (.aload_n 0, 1) := by decide +kernel
theorem dX11_hands_1 : decode cX11_hands 1 = .ok (.iconst 0, 1) := by decide +kernel
theorem dX11_hands_2 : decode cX11_hands 2 = .ok (.putfield 128, 3) := by decide +kernel
theorem dX11_hands_5 : decode cX11_hands 5 = .ok (.aload_n 0, 1) := by decide +kernel
theorem dX11_hands_6 : decode cX11_hands 6 = .ok (.iload_n 1, 1) := by decide +kernel
theorem dX11_hands_7 : decode cX11_hands 7 = .ok (.iconst 0, 1) := by decide +kernel
theorem dX11_hands_8 : decode cX11_hands 8 = .ok (.sipush 719, 3) := by decide +kernel
theorem dX11_hands_11 : decode cX11_hands 11 = .ok (.invokevirtual 154, 3) := by decide +kernel
theorem dX11_hands_14 : decode cX11_hands 14 = .ok (.ifCond .eq 13, 3) := by decide +kernel
theorem dX11_hands_17 : decode cX11_hands 17 = .ok (.aload_n 0, 1) := by decide +kernel
theorem dX11_hands_18 : decode cX11_hands 18 = .ok (.iload_n 2, 1) := by decide +kernel
theorem dX11_hands_19 : decode cX11_hands 19 = .ok (.iconst 0, 1) := by decide +kernel
theorem dX11_hands_20 : decode cX11_hands 20 = .ok (.iconst 1, 1) := by decide +kernel
theorem dX11_hands_21 : decode cX11_hands 21 = .ok (.invokevirtual 154, 3) := by decide +kernel
theorem dX11_hands_24 : decode cX11_hands 24 = .ok (.ifCond .ne 5, 3) := by decide +kernel
theorem dX11_hands_27 : decode cX11_hands 27 = .ok (.iconst (-1), 1) := by decide +kernel
theorem dX11_hands_28 : decode cX11_hands 28 = .ok (.ireturn, 1) := by decide +kernel
theorem dX11_hands_29 : decode cX11_hands 29 = .ok (.iload_n 2, 1) := by decide +kernel
theorem dX11_hands_30 : decode cX11_hands 30 = .ok (.ifCond .ne 9, 3) := by decide +kernel
theorem dX11_hands_33 : decode cX11_hands 33 = .ok (.aload_n 0, 1) := by decide +kernel
theorem dX11_hands_34 : decode cX11_hands 34 = .ok (.iload_n 1, 1) := by decide +kernel
theorem dX11_hands_35 : decode cX11_hands 35 = .ok (.invokevirtual 487, 3) := by decide +kernel
theorem dX11_hands_38 : decode cX11_hands 38 = .ok (.ireturn, 1) := by decide +kernel
theorem dX11_hands_39 : decode cX11_hands 39 = .ok (.iconst 0, 1) := by decide +kernel
theorem dX11_hands_40 : decode cX11_hands 40 = .ok (.istore_n 3, 1) := by decide +kernel
theorem dX11_hands_41 : decode cX11_hands 41 = .ok (.iconst 0, 1) := by decide +kernel
theorem dX11_hands_42 : decode cX11_hands 42 = .ok (.istore 4, 2) := by decide +kernel
theorem dX11_hands_44 : decode cX11_hands 44 = .ok (.iload 4, 2) := by decide +kernel
theorem dX11_hands_46 : decode cX11_hands 46 = .ok (.iload_n 1, 1) := by decide +kernel
theorem dX11_hands_47 : decode cX11_hands 47 = .ok (.if_icmp .gt 27, 3) := by decide +kernel
theorem dX11_hands_50 : decode cX11_hands 50 = .ok (.aload_n 0, 1) := by decide +kernel
theorem dX11_hands_51 : decode cX11_hands 51 = .ok (.iload 4, 2) := by decide +kernel
theorem dX11_hands_53 : decode cX11_hands 53 = .ok (.invokevirtual 487, 3) := by decide +kernel
theorem dX11_hands_56 : decode cX11_hands 56 = .ok (.aload_n 0, 1) := by decide +kernel
theorem dX11_hands_57 : decode cX11_hands 57 = .ok (.iload_n 1, 1) := by decide +kernel
theorem dX11_hands_58 : decode cX11_hands 58 = .ok (.invokevirtual 487, 3) := by decide +kernel
theorem dX11_hands_61 : decode cX11_hands 61 = .ok (.if_icmp .gt 7, 3) := by decide +kernel
theorem dX11_hands_64 : decode cX11_hands 64 = .ok (.iload_n 3, 1) := by decide +kernel
theorem dX11_hands_65 : decode cX11_hands 65 = .ok (.iconst 1, 1) := by decide +kernel
theorem dX11_hands_66 : decode cX11_hands 66 = .ok (.iadd, 1) := by decide +kernel
theorem dX11_hands_67 : decode cX11_hands 67 = .ok (.istore_n 3, 1) := by decide +kernel
theorem dX11_hands_68 : decode cX11_hands 68 = .ok (.iinc 4 1, 3) := by decide +kernel
theorem dX11_hands_71 : decode cX11_hands 71 = .ok (.goto (-27), 3) := by decide +kernel
theorem dX11_hands_74 : decode cX11_hands 74 = .ok (.iload_n 3, 1) := by decide +kernel
theorem dX11_hands_75 : decode cX11_hands 75 = .ok (.ireturn, 1) := by decide +kernel
def f_X11_hands_44  (k44 : Int32 × Int32 × Int32 × zHp → Option (Int32 × zHp)) (v1 : Int32) (v3 : Int32) (v4 : Int32) (h : zHp) : Option (Int32 × zHp) := (if v1 < v4 then some (v3, h) else (f_X11_handsApart v4 h).bind fun x1 => (f_X11_handsApart v1 x1.2).bind fun x2 => (if x2.1 < x1.1 then k44 (v1, v3, (v4 + (1 : Int32)), x2.2) else zlt (v3 + (1 : Int32)) fun x3 => k44 (v1, x3, (v4 + (1 : Int32)), x2.2)))
set_option maxHeartbeats 4000000 in
set_option maxRecDepth 100000 in
theorem f_X11_hands_44_s  (k44 : Int32 × Int32 × Int32 × zHp → Option (Int32 × zHp)) (H44 : ∀ v : Int32 × Int32 × Int32 × zHp, Sim wM mX11_hands 1 rI 44 [(0, .ref 0), (1, .int v.1), (3, .int v.2.1), (4, .int v.2.2.1)] [] v.2.2.2 (k44 v)) (v1 : Int32) (v3 : Int32) (v4 : Int32) (h : zHp) : Sim wM mX11_hands 1 rI 44 [(0, .ref 0), (1, .int v1), (3, .int v3), (4, .int v4)] [] h (f_X11_hands_44 k44 v1 v3 v4 h) := by
  unfold f_X11_hands_44
  refine Sim.iload 3 dX11_hands_44 rfl ?_
  refine Sim.iload_n 1 dX11_hands_46 rfl ?_
  refine Sim.icmp_gt 74 dX11_hands_47 rfl ?_ ?_
  · refine Sim.iload_n 2 dX11_hands_74 rfl ?_
    exact Sim.iret dX11_hands_75 rfl
  · refine Sim.aload_n 0 dX11_hands_50 rfl ?_
    refine Sim.iload 3 dX11_hands_51 rfl ?_
    refine Sim.callV1I (d1 := 0) (s_X11_handsApart v4 h) dX11_hands_53 ml_X11_487 mv_X11_handsApart mC (Nat.le_of_ble_eq_true rfl) (Nat.le_of_ble_eq_true rfl) (Nat.le_of_ble_eq_true rfl) (fun x1 => ?_)
    refine Sim.aload_n 0 dX11_hands_56 rfl ?_
    refine Sim.iload_n 1 dX11_hands_57 rfl ?_
    refine Sim.callV1I (d1 := 0) (s_X11_handsApart v1 x1.2) dX11_hands_58 ml_X11_487 mv_X11_handsApart mC (Nat.le_of_ble_eq_true rfl) (Nat.le_of_ble_eq_true rfl) (Nat.le_of_ble_eq_true rfl) (fun x2 => ?_)
    refine Sim.icmp_gt 68 dX11_hands_61 rfl ?_ ?_
    · refine Sim.iinc (L' := [(4, .int (v4 + (1 : Int32))), (0, .ref 0), (1, .int v1), (3, .int v3)]) 3 dX11_hands_68 rfl rfl (Nat.le_of_ble_eq_true rfl) rfl ?_
      refine Sim.goto 44 dX11_hands_71 rfl ?_
      refine Sim.locs [1, 2, 3, 0] rfl ?_
      exact H44 (v1, v3, (v4 + (1 : Int32)), x2.2)
    · refine Sim.iload_n 2 dX11_hands_64 rfl ?_
      refine Sim.iconst (v := (1 : Int32)) dX11_hands_65 rfl ?_
      refine Sim.iadd dX11_hands_66 ?_
      refine Sim.lti (fun x3 => ?_)
      refine Sim.istore_n (L' := [(3, .int x3), (0, .ref 0), (1, .int v1), (4, .int v4)]) dX11_hands_67 (Nat.le_of_ble_eq_true rfl) rfl ?_
      refine Sim.iinc (L' := [(4, .int (v4 + (1 : Int32))), (3, .int x3), (0, .ref 0), (1, .int v1)]) 3 dX11_hands_68 rfl rfl (Nat.le_of_ble_eq_true rfl) rfl ?_
      refine Sim.goto 44 dX11_hands_71 rfl ?_
      refine Sim.locs [2, 3, 1, 0] rfl ?_
      exact H44 (v1, x3, (v4 + (1 : Int32)), x2.2)
def f_X11_hands_44_lp   (n : Nat) (v : Int32 × Int32 × Int32 × zHp) : Option (Int32 × zHp) := zlp (fun k44 v => f_X11_hands_44 k44 v.1 v.2.1 v.2.2.1 v.2.2.2) n v
theorem f_X11_hands_44_ls  (n : Nat) (v : Int32 × Int32 × Int32 × zHp) : Sim wM mX11_hands 1 rI 44 [(0, .ref 0), (1, .int v.1), (3, .int v.2.1), (4, .int v.2.2.1)] [] v.2.2.2 (f_X11_hands_44_lp n v) :=
  Sim.lp (V := Int32 × Int32 × Int32 × zHp) (Lf := fun v => [(0, .ref 0), (1, .int v.1), (3, .int v.2.1), (4, .int v.2.2.1)]) (sf := fun v => []) (hf := fun v => v.2.2.2) (fun k44 H44 v => f_X11_hands_44_s k44 H44 v.1 v.2.1 v.2.2.1 v.2.2.2) n v
def f_X11_hands  (a1 : Int32) (a2 : Int32) (h : zHp) : Option (Int32 × zHp) := zlt (zst h 0 0 (0 : Int32)) fun h1 => (f_X11_isIn a1 (0 : Int32) (719 : Int32) h1).bind fun x2 => (if x2.1 = 0 then some ((-1 : Int32), x2.2) else (f_X11_isIn a2 (0 : Int32) (1 : Int32) x2.2).bind fun x3 => (if x3.1 = 0 then some ((-1 : Int32), x3.2) else (if a2 = 0 then (f_X11_handsApart a1 x3.2).bind fun x4 => some (x4.1, x4.2) else f_X11_hands_44_lp  zN (a1, (0 : Int32), (0 : Int32), x3.2))))
set_option maxHeartbeats 4000000 in
set_option maxRecDepth 100000 in
theorem s_X11_hands  (a1 : Int32) (a2 : Int32) (h : zHp) : Fn wM mX11_hands 1 rI [.ref 0, .int a1, .int a2] h (f_X11_hands a1 a2 h) := by
  refine Fn.of rfl (Nat.le_of_ble_eq_true rfl) ?_
  unfold f_X11_hands
  refine Sim.aload_n 0 dX11_hands_0 rfl ?_
  refine Sim.iconst (v := (0 : Int32)) dX11_hands_1 rfl ?_
  refine Sim.put fp_X11_128 dX11_hands_2 mI_0 rfl rfl ?_
  refine Sim.lth (fun h1 => ?_)
  refine Sim.aload_n 0 dX11_hands_5 rfl ?_
  refine Sim.iload_n 1 dX11_hands_6 rfl ?_
  refine Sim.iconst (v := (0 : Int32)) dX11_hands_7 rfl ?_
  refine Sim.sipush (v := (719 : Int32)) dX11_hands_8 rfl ?_
  refine Sim.callV3I (d1 := 0) (s_X11_isIn a1 (0 : Int32) (719 : Int32) h1) dX11_hands_11 ml_X11_154 mv_X11_isIn mC (Nat.le_of_ble_eq_true rfl) (Nat.le_of_ble_eq_true rfl) (Nat.le_of_ble_eq_true rfl) (fun x2 => ?_)
  refine Sim.if_eq 27 dX11_hands_14 rfl ?_ ?_
  · refine Sim.iconst (v := (-1 : Int32)) dX11_hands_27 rfl ?_
    exact Sim.iret dX11_hands_28 rfl
  · refine Sim.aload_n 0 dX11_hands_17 rfl ?_
    refine Sim.iload_n 2 dX11_hands_18 rfl ?_
    refine Sim.iconst (v := (0 : Int32)) dX11_hands_19 rfl ?_
    refine Sim.iconst (v := (1 : Int32)) dX11_hands_20 rfl ?_
    refine Sim.callV3I (d1 := 0) (s_X11_isIn a2 (0 : Int32) (1 : Int32) x2.2) dX11_hands_21 ml_X11_154 mv_X11_isIn mC (Nat.le_of_ble_eq_true rfl) (Nat.le_of_ble_eq_true rfl) (Nat.le_of_ble_eq_true rfl) (fun x3 => ?_)
    refine Sim.if_ne 29 dX11_hands_24 rfl ?_ ?_
    · refine Sim.iconst (v := (-1 : Int32)) dX11_hands_27 rfl ?_
      exact Sim.iret dX11_hands_28 rfl
    · refine Sim.iload_n 2 dX11_hands_29 rfl ?_
      refine Sim.if_ne 39 dX11_hands_30 rfl ?_ ?_
      · refine Sim.aload_n 0 dX11_hands_33 rfl ?_
        refine Sim.iload_n 1 dX11_hands_34 rfl ?_
        refine Sim.callV1I (d1 := 0) (s_X11_handsApart a1 x3.2) dX11_hands_35 ml_X11_487 mv_X11_handsApart mC (Nat.le_of_ble_eq_true rfl) (Nat.le_of_ble_eq_true rfl) (Nat.le_of_ble_eq_true rfl) (fun x4 => ?_)
        exact Sim.iret dX11_hands_38 rfl
      · refine Sim.iconst (v := (0 : Int32)) dX11_hands_39 rfl ?_
        refine Sim.istore_n (L' := [(3, .int (0 : Int32)), (0, .ref 0), (1, .int a1), (2, .int a2)]) dX11_hands_40 (Nat.le_of_ble_eq_true rfl) rfl ?_
        refine Sim.iconst (v := (0 : Int32)) dX11_hands_41 rfl ?_
        refine Sim.istore (L' := [(4, .int (0 : Int32)), (3, .int (0 : Int32)), (0, .ref 0), (1, .int a1), (2, .int a2)]) dX11_hands_42 (Nat.le_of_ble_eq_true rfl) rfl ?_
        refine Sim.locs [2, 3, 1, 0] rfl ?_
        exact f_X11_hands_44_ls  zN (a1, (0 : Int32), (0 : Int32), x3.2)
theorem mv_X11_hands : zMV mX11_hands 2 := ⟨⟨zTb_in 1985 (by decide +kernel) rfl, zTb_in 148 (by decide +kernel) rfl, ⟨by decide +kernel, by decide +kernel⟩, by decide +kernel⟩, zTb_in 1983 (by decide +kernel) rfl, zTb_in 1984 (by decide +kernel) rfl⟩
-- ===== RockingPorchModel.isStep(I)Z
abbrev mX11_isStep : zMt := (yX11_isStep, cX11_isStep, 3, some .boolean)
theorem fl_X11_116 : zF RX11 116 11 61 := ⟨RX11, TX11, 69, rfl, Nat.le_of_ble_eq_true rfl, zTb_in 1360 (by decide +kernel) rfl, in_X11⟩
theorem fl_X11_490 : zF RX11 490 11 60 := ⟨RX11, TX11, 69, rfl, Nat.le_of_ble_eq_true rfl, zTb_in 1359 (by decide +kernel) rfl, in_X11⟩
theorem dX11_isStep_0 : decode cX11_isStep 0 = .ok (.iconst 0, 1) := by decide +kernel
theorem dX11_isStep_1 : decode cX11_isStep 1 = .ok (.istore_n 2, 1) := by decide +kernel
theorem dX11_isStep_2 : decode cX11_isStep 2 = .ok (.iload_n 2, 1) := by decide +kernel
theorem dX11_isStep_3 : decode cX11_isStep 3 = .ok (.aload_n 0, 1) := by decide +kernel
theorem dX11_isStep_4 : decode cX11_isStep 4 = .ok (.getfield 490, 3) := by decide +kernel
theorem dX11_isStep_7 : decode cX11_isStep 7 = .ok (.if_icmp .ge 21, 3) := by decide +kernel
theorem dX11_isStep_10 : decode cX11_isStep 10 = .ok (.aload_n 0, 1) := by decide +kernel
theorem dX11_isStep_11 : decode cX11_isStep 11 = .ok (.getfield 116, 3) := by decide +kernel
theorem dX11_isStep_14 : decode cX11_isStep 14 = .ok (.iload_n 2, 1) := by decide +kernel
theorem dX11_isStep_15 : decode cX11_isStep 15 = .ok (.iaload, 1) := by decide +kernel
theorem dX11_isStep_16 : decode cX11_isStep 16 = .ok (.iload_n 1, 1) := by decide +kernel
theorem dX11_isStep_17 : decode cX11_isStep 17 = .ok (.if_icmp .ne 5, 3) := by decide +kernel
theorem dX11_isStep_20 : decode cX11_isStep 20 = .ok (.iconst 1, 1) := by decide +kernel
theorem dX11_isStep_21 : decode cX11_isStep 21 = .ok (.ireturn, 1) := by decide +kernel
theorem dX11_isStep_22 : decode cX11_isStep 22 = .ok (.iinc 2 1, 3) := by decide +kernel
theorem dX11_isStep_25 : decode cX11_isStep 25 = .ok (.goto (-23), 3) := by decide +kernel
theorem dX11_isStep_28 : decode cX11_isStep 28 = .ok (.iconst 0, 1) := by decide +kernel
theorem dX11_isStep_29 : decode cX11_isStep 29 = .ok (.ireturn, 1) := by decide +kernel
def f_X11_isStep_2  (k2 : Int32 × Int32 × zHp → Option (Int32 × zHp)) (v1 : Int32) (v2 : Int32) (h : zHp) : Option (Int32 × zHp) := (if v2 < (h 0 60) then zix v2 10 ((if (h 35 v2.toNatClampNeg) = v1 then some ((1 : Int32), h) else k2 (v1, (v2 + (1 : Int32)), h))) else some ((0 : Int32), h))
set_option maxHeartbeats 4000000 in
set_option maxRecDepth 100000 in
theorem f_X11_isStep_2_s  (k2 : Int32 × Int32 × zHp → Option (Int32 × zHp)) (H2 : ∀ v : Int32 × Int32 × zHp, Sim wM mX11_isStep 0 rI 2 [(0, .ref 0), (1, .int v.1), (2, .int v.2.1)] [] v.2.2 (k2 v)) (v1 : Int32) (v2 : Int32) (h : zHp) : Sim wM mX11_isStep 0 rI 2 [(0, .ref 0), (1, .int v1), (2, .int v2)] [] h (f_X11_isStep_2 k2 v1 v2 h) := by
  unfold f_X11_isStep_2
  refine Sim.iload_n 2 dX11_isStep_2 rfl ?_
  refine Sim.aload_n 0 dX11_isStep_3 rfl ?_
  refine Sim.getI fl_X11_490 dX11_isStep_4 mI_60 ?_
  refine Sim.icmp_ge 28 dX11_isStep_7 rfl ?_ ?_
  · refine Sim.aload_n 0 dX11_isStep_10 rfl ?_
    refine Sim.getR (j := 35) fl_X11_116 dX11_isStep_11 mR_61 ?_
    refine Sim.iload_n 2 dX11_isStep_14 rfl ?_
    refine Sim.iald (n := 10) dX11_isStep_15 mA_35 ?_
    refine Sim.iload_n 1 dX11_isStep_16 rfl ?_
    refine Sim.icmp_ne 22 dX11_isStep_17 rfl ?_ ?_
    · refine Sim.iconst (v := (1 : Int32)) dX11_isStep_20 rfl ?_
      exact Sim.nret dX11_isStep_21 rfl rfl
    · refine Sim.iinc (L' := [(2, .int (v2 + (1 : Int32))), (0, .ref 0), (1, .int v1)]) 2 dX11_isStep_22 rfl rfl (Nat.le_of_ble_eq_true rfl) rfl ?_
      refine Sim.goto 2 dX11_isStep_25 rfl ?_
      refine Sim.locs [1, 2, 0] rfl ?_
      exact H2 (v1, (v2 + (1 : Int32)), h)
  · refine Sim.iconst (v := (0 : Int32)) dX11_isStep_28 rfl ?_
    exact Sim.nret dX11_isStep_29 rfl rfl
def f_X11_isStep_2_lp   (n : Nat) (v : Int32 × Int32 × zHp) : Option (Int32 × zHp) := zlp (fun k2 v => f_X11_isStep_2 k2 v.1 v.2.1 v.2.2) n v
theorem f_X11_isStep_2_ls  (n : Nat) (v : Int32 × Int32 × zHp) : Sim wM mX11_isStep 0 rI 2 [(0, .ref 0), (1, .int v.1), (2, .int v.2.1)] [] v.2.2 (f_X11_isStep_2_lp n v) :=
  Sim.lp (V := Int32 × Int32 × zHp) (Lf := fun v => [(0, .ref 0), (1, .int v.1), (2, .int v.2.1)]) (sf := fun v => []) (hf := fun v => v.2.2) (fun k2 H2 v => f_X11_isStep_2_s k2 H2 v.1 v.2.1 v.2.2) n v
def f_X11_isStep  (a1 : Int32) (h : zHp) : Option (Int32 × zHp) := f_X11_isStep_2_lp  zN (a1, (0 : Int32), h)
set_option maxHeartbeats 4000000 in
set_option maxRecDepth 100000 in
theorem s_X11_isStep  (a1 : Int32) (h : zHp) : Fn wM mX11_isStep 0 rI [.ref 0, .int a1] h (f_X11_isStep a1 h) := by
  refine Fn.of rfl (Nat.le_of_ble_eq_true rfl) ?_
  unfold f_X11_isStep
  refine Sim.iconst (v := (0 : Int32)) dX11_isStep_0 rfl ?_
  refine Sim.istore_n (L' := [(2, .int (0 : Int32)), (0, .ref 0), (1, .int a1)]) dX11_isStep_1 (Nat.le_of_ble_eq_true rfl) rfl ?_
  refine Sim.locs [1, 2, 0] rfl ?_
  exact f_X11_isStep_2_ls  zN (a1, (0 : Int32), h)
theorem mv_X11_isStep : zMV mX11_isStep 1 := ⟨⟨zTb_in 1997 (by decide +kernel) rfl, zTb_in 148 (by decide +kernel) rfl, ⟨by decide +kernel, by decide +kernel⟩, by decide +kernel⟩, zTb_in 1996 (by decide +kernel) rfl, zTb_in 129 (by decide +kernel) rfl⟩
-- ===== RockingPorchModel.step(I)I
abbrev mX11_step : zMt := (yX11_step, cX11_step, 2, some .int)
theorem fp_X11_490 : zFp RX11 490 11 60 .int := ⟨RX11, TX11, 69, tyX11, rfl, Nat.le_of_ble_eq_true rfl, zTb_in 1359 (by decide +kernel) rfl, in_X11, tyX11_ok, nmX11, rfl, rfl⟩
theorem ml_X11_493 : Cond.methodLink RX11 493 yX11_isStep ∈ zTb := zTb_in 1994 (by decide +kernel) rfl
theorem dX11_step_0 : decode cX11_step 0 = .ok (.aload_n 0, 1) := by decide +kernel
theorem dX11_step_1 : decode cX11_step 1 = .ok (.iconst 0, 1) := by decide +kernel
theorem dX11_step_2 : decode cX11_step 2 = .ok (.putfield 128, 3) := by decide +kernel
theorem dX11_step_5 : decode cX11_step 5 = .ok (.iload_n 1, 1) := by decide +kernel
theorem dX11_step_6 : decode cX11_step 6 = .ok (.iconst (-1), 1) := by decide +kernel
theorem dX11_step_7 : decode cX11_step 7 = .ok (.if_icmp .ne 10, 3) := by decide +kernel
theorem dX11_step_10 : decode cX11_step 10 = .ok (.aload_n 0, 1) := by decide +kernel
theorem dX11_step_11 : decode cX11_step 11 = .ok (.iconst 0, 1) := by decide +kernel
theorem dX11_step_12 : decode cX11_step 12 = .ok (.putfield 490, 3) := by decide +kernel
theorem dX11_step_15 : decode cX11_step 15 = .ok (.iconst 0, 1) := by decide +kernel
theorem dX11_step_16 : decode cX11_step 16 = .ok (.ireturn, 1) := by decide +kernel
theorem dX11_step_17 : decode cX11_step 17 = .ok (.aload_n 0, 1) := by decide +kernel
theorem dX11_step_18 : decode cX11_step 18 = .ok (.iload_n 1, 1) := by decide +kernel
theorem dX11_step_19 : decode cX11_step 19 = .ok (.iconst 0, 1) := by decide +kernel
theorem dX11_step_20 : decode cX11_step 20 = .ok (.bipush 60, 2) := by decide +kernel
theorem dX11_step_22 : decode cX11_step 22 = .ok (.invokevirtual 154, 3) := by decide +kernel
theorem dX11_step_25 : decode cX11_step 25 = .ok (.ifCond .eq 20, 3) := by decide +kernel
theorem dX11_step_28 : decode cX11_step 28 = .ok (.aload_n 0, 1) := by decide +kernel
theorem dX11_step_29 : decode cX11_step 29 = .ok (.getfield 490, 3) := by decide +kernel
theorem dX11_step_32 : decode cX11_step 32 = .ok (.bipush 10, 2) := by decide +kernel
theorem dX11_step_34 : decode cX11_step 34 = .ok (.if_icmp .eq 11, 3) := by decide +kernel
theorem dX11_step_37 : decode cX11_step 37 = .ok (.aload_n 0, 1) := by decide +kernel
theorem dX11_step_38 : decode cX11_step 38 = .ok (.iload_n 1, 1) := by decide +kernel
theorem dX11_step_39 : decode cX11_step 39 = .ok (.invokevirtual 493, 3) := by decide +kernel
theorem dX11_step_42 : decode cX11_step 42 = .ok (.ifCond .eq 5, 3) := by decide +kernel
theorem dX11_step_45 : decode cX11_step 45 = .ok (.iconst (-1), 1) := by decide +kernel
theorem dX11_step_46 : decode cX11_step 46 = .ok (.ireturn, 1) := by decide +kernel
theorem dX11_step_47 : decode cX11_step 47 = .ok (.aload_n 0, 1) := by decide +kernel
theorem dX11_step_48 : decode cX11_step 48 = .ok (.getfield 116, 3) := by decide +kernel
theorem dX11_step_51 : decode cX11_step 51 = .ok (.aload_n 0, 1) := by decide +kernel
theorem dX11_step_52 : decode cX11_step 52 = .ok (.getfield 490, 3) := by decide +kernel
theorem dX11_step_55 : decode cX11_step 55 = .ok (.iload_n 1, 1) := by decide +kernel
theorem dX11_step_56 : decode cX11_step 56 = .ok (.iastore, 1) := by decide +kernel
theorem dX11_step_57 : decode cX11_step 57 = .ok (.aload_n 0, 1) := by decide +kernel
theorem dX11_step_58 : decode cX11_step 58 = .ok (.aload_n 0, 1) := by decide +kernel
theorem dX11_step_59 : decode cX11_step 59 = .ok (.getfield 490, 3) := by decide +kernel
theorem dX11_step_62 : decode cX11_step 62 = .ok (.iconst 1, 1) := by decide +kernel
theorem dX11_step_63 : decode cX11_step 63 = .ok (.iadd, 1) := by decide +kernel
theorem dX11_step_64 : decode cX11_step 64 = .ok (.putfield 490, 3) := by decide +kernel
theorem dX11_step_67 : decode cX11_step 67 = .ok (.aload_n 0, 1) := by decide +kernel
theorem dX11_step_68 : decode cX11_step 68 = .ok (.getfield 490, 3) := by decide +kernel
theorem dX11_step_71 : decode cX11_step 71 = .ok (.ireturn, 1) := by decide +kernel
def f_X11_step  (a1 : Int32) (h : zHp) : Option (Int32 × zHp) := zlt (zst h 0 0 (0 : Int32)) fun h1 => (if a1 = (-1 : Int32) then zlt (zst h1 0 60 (0 : Int32)) fun h2 => some ((0 : Int32), h2) else (f_X11_isIn a1 (0 : Int32) (60 : Int32) h1).bind fun x3 => (if x3.1 = 0 then some ((-1 : Int32), x3.2) else (if (x3.2 0 60) = (10 : Int32) then some ((-1 : Int32), x3.2) else (f_X11_isStep a1 x3.2).bind fun x4 => (if x4.1 = 0 then zix (x4.2 0 60) 10 (zlt (zst x4.2 35 (x4.2 0 60).toNatClampNeg a1) fun h5 => zlt (zst h5 0 60 ((h5 0 60) + (1 : Int32))) fun h6 => some ((h6 0 60), h6)) else some ((-1 : Int32), x4.2)))))
set_option maxHeartbeats 4000000 in
set_option maxRecDepth 100000 in
theorem s_X11_step  (a1 : Int32) (h : zHp) : Fn wM mX11_step 1 rI [.ref 0, .int a1] h (f_X11_step a1 h) := by
  refine Fn.of rfl (Nat.le_of_ble_eq_true rfl) ?_
  unfold f_X11_step
  refine Sim.aload_n 0 dX11_step_0 rfl ?_
  refine Sim.iconst (v := (0 : Int32)) dX11_step_1 rfl ?_
  refine Sim.put fp_X11_128 dX11_step_2 mI_0 rfl rfl ?_
  refine Sim.lth (fun h1 => ?_)
  refine Sim.iload_n 1 dX11_step_5 rfl ?_
  refine Sim.iconst (v := (-1 : Int32)) dX11_step_6 rfl ?_
  refine Sim.icmp_ne 17 dX11_step_7 rfl ?_ ?_
  · refine Sim.aload_n 0 dX11_step_10 rfl ?_
    refine Sim.iconst (v := (0 : Int32)) dX11_step_11 rfl ?_
    refine Sim.put fp_X11_490 dX11_step_12 mI_60 rfl rfl ?_
    refine Sim.lth (fun h2 => ?_)
    refine Sim.iconst (v := (0 : Int32)) dX11_step_15 rfl ?_
    exact Sim.iret dX11_step_16 rfl
  · refine Sim.aload_n 0 dX11_step_17 rfl ?_
    refine Sim.iload_n 1 dX11_step_18 rfl ?_
    refine Sim.iconst (v := (0 : Int32)) dX11_step_19 rfl ?_
    refine Sim.bipush (v := (60 : Int32)) dX11_step_20 rfl ?_
    refine Sim.callV3I (d1 := 0) (s_X11_isIn a1 (0 : Int32) (60 : Int32) h1) dX11_step_22 ml_X11_154 mv_X11_isIn mC (Nat.le_of_ble_eq_true rfl) (Nat.le_of_ble_eq_true rfl) (Nat.le_of_ble_eq_true rfl) (fun x3 => ?_)
    refine Sim.if_eq 45 dX11_step_25 rfl ?_ ?_
    · refine Sim.iconst (v := (-1 : Int32)) dX11_step_45 rfl ?_
      exact Sim.iret dX11_step_46 rfl
    · refine Sim.aload_n 0 dX11_step_28 rfl ?_
      refine Sim.getI fl_X11_490 dX11_step_29 mI_60 ?_
      refine Sim.bipush (v := (10 : Int32)) dX11_step_32 rfl ?_
      refine Sim.icmp_eq 45 dX11_step_34 rfl ?_ ?_
      · refine Sim.iconst (v := (-1 : Int32)) dX11_step_45 rfl ?_
        exact Sim.iret dX11_step_46 rfl
      · refine Sim.aload_n 0 dX11_step_37 rfl ?_
        refine Sim.iload_n 1 dX11_step_38 rfl ?_
        refine Sim.callV1I (d1 := 0) (s_X11_isStep a1 x3.2) dX11_step_39 ml_X11_493 mv_X11_isStep mC (Nat.le_of_ble_eq_true rfl) (Nat.le_of_ble_eq_true rfl) (Nat.le_of_ble_eq_true rfl) (fun x4 => ?_)
        refine Sim.if_eq 47 dX11_step_42 rfl ?_ ?_
        · refine Sim.aload_n 0 dX11_step_47 rfl ?_
          refine Sim.getR (j := 35) fl_X11_116 dX11_step_48 mR_61 ?_
          refine Sim.aload_n 0 dX11_step_51 rfl ?_
          refine Sim.getI fl_X11_490 dX11_step_52 mI_60 ?_
          refine Sim.iload_n 1 dX11_step_55 rfl ?_
          refine Sim.iast (n := 10) dX11_step_56 mA_35 ?_
          refine Sim.lth (fun h5 => ?_)
          refine Sim.aload_n 0 dX11_step_57 rfl ?_
          refine Sim.aload_n 0 dX11_step_58 rfl ?_
          refine Sim.getI fl_X11_490 dX11_step_59 mI_60 ?_
          refine Sim.iconst (v := (1 : Int32)) dX11_step_62 rfl ?_
          refine Sim.iadd dX11_step_63 ?_
          refine Sim.put fp_X11_490 dX11_step_64 mI_60 rfl rfl ?_
          refine Sim.lth (fun h6 => ?_)
          refine Sim.aload_n 0 dX11_step_67 rfl ?_
          refine Sim.getI fl_X11_490 dX11_step_68 mI_60 ?_
          exact Sim.iret dX11_step_71 rfl
        · refine Sim.iconst (v := (-1 : Int32)) dX11_step_45 rfl ?_
          exact Sim.iret dX11_step_46 rfl
theorem mv_X11_step : zMV mX11_step 1 := ⟨⟨zTb_in 1993 (by decide +kernel) rfl, zTb_in 148 (by decide +kernel) rfl, ⟨by decide +kernel, by decide +kernel⟩, by decide +kernel⟩, zTb_in 1991 (by decide +kernel) rfl, zTb_in 1992 (by decide +kernel) rfl⟩
-- ===== RockingPorchModel.steps(I)I
abbrev mX11_steps : zMt := (yX11_steps, cX11_steps, 7, some .int)
theorem dX11_steps_0 : decode cX11_steps 0 = .ok (.aload_n 0, 1) := by decide +kernel
theorem dX11_steps_1 : decode cX11_steps 1 = .ok (.iconst 0, 1) := by decide +kernel
theorem dX11_steps_2 : decode cX11_steps 2 = .ok (.putfield 128, 3) := by decide +kernel
theorem dX11_steps_5 : decode cX11_steps 5 = .ok (.aload_n 0, 1) := by decide +kernel
theorem dX11_steps_6 : decode cX11_steps 6 = .ok (.iload_n 1, 1) := by decide +kernel
theorem dX11_steps_7 : decode cX11_steps 7 = .ok (.iconst 0, 1) := by decide +kernel
theorem dX11_steps_8 : decode cX11_steps 8 = .ok (.iconst 1, 1) := by decide +kernel
theorem dX11_steps_9 : decode cX11_steps 9 = .ok (.invokevirtual 154, 3) := by decide +kernel
theorem dX11_steps_12 : decode cX11_steps 12 = .ok (.ifCond .ne 5, 3) := by decide +kernel
theorem dX11_steps_15 : decode cX11_steps 15 = .ok (.iconst (-1), 1) := by decide +kernel
theorem dX11_steps_16 : decode cX11_steps 16 = .ok (.ireturn, 1) := by decide +kernel
theorem dX11_steps_17 : decode cX11_steps 17 = .ok (.iconst 0, 1) := by decide +kernel
theorem dX11_steps_18 : decode cX11_steps 18 = .ok (.istore_n 2, 1) := by decide +kernel
theorem dX11_steps_19 : decode cX11_steps 19 = .ok (.aload_n 0, 1) := by decide +kernel
theorem dX11_steps_20 : decode cX11_steps 20 = .ok (.aload_n 0, 1) := by decide +kernel
theorem dX11_steps_21 : decode cX11_steps 21 = .ok (.getfield 490, 3) := by decide +kernel
theorem dX11_steps_24 : decode cX11_steps 24 = .ok (.iconst 1, 1) := by decide +kernel
theorem dX11_steps_25 : decode cX11_steps 25 = .ok (.invokevirtual 453, 3) := by decide +kernel
theorem dX11_steps_28 : decode cX11_steps 28 = .ok (.istore_n 3, 1) := by decide +kernel
theorem dX11_steps_29 : decode cX11_steps 29 = .ok (.iconst 0, 1) := by decide +kernel
theorem dX11_steps_30 : decode cX11_steps 30 = .ok (.istore 4, 2) := by decide +kernel
theorem dX11_steps_32 : decode cX11_steps 32 = .ok (.iload 4, 2) := by decide +kernel
theorem dX11_steps_34 : decode cX11_steps 34 = .ok (.bipush 60, 2) := by decide +kernel
theorem dX11_steps_36 : decode cX11_steps 36 = .ok (.if_icmp .gt 70, 3) := by decide +kernel
theorem dX11_steps_39 : decode cX11_steps 39 = .ok (.iconst 1, 1) := by decide +kernel
theorem dX11_steps_40 : decode cX11_steps 40 = .ok (.istore 5, 2) := by decide +kernel
theorem dX11_steps_42 : decode cX11_steps 42 = .ok (.iload 5, 2) := by decide +kernel
theorem dX11_steps_44 : decode cX11_steps 44 = .ok (.bipush 60, 2) := by decide +kernel
theorem dX11_steps_46 : decode cX11_steps 46 = .ok (.if_icmp .gt 54, 3) := by decide +kernel
theorem dX11_steps_49 : decode cX11_steps 49 = .ok (.iconst 0, 1) := by decide +kernel
theorem dX11_steps_50 : decode cX11_steps 50 = .ok (.istore 6, 2) := by decide +kernel
theorem dX11_steps_52 : decode cX11_steps 52 = .ok (.aload_n 0, 1) := by decide +kernel
theorem dX11_steps_53 : decode cX11_steps 53 = .ok (.iload 4, 2) := by decide +kernel
theorem dX11_steps_55 : decode cX11_steps 55 = .ok (.iload 6, 2) := by decide +kernel
theorem dX11_steps_57 : decode cX11_steps 57 = .ok (.iload 5, 2) := by decide +kernel
theorem dX11_steps_59 : decode cX11_steps 59 = .ok (.imul, 1) := by decide +kernel
theorem dX11_steps_60 : decode cX11_steps 60 = .ok (.iadd, 1) := by decide +kernel
theorem dX11_steps_61 : decode cX11_steps 61 = .ok (.invokevirtual 493, 3) := by decide +kernel
theorem dX11_steps_64 : decode cX11_steps 64 = .ok (.ifCond .eq 12, 3) := by decide +kernel
theorem dX11_steps_67 : decode cX11_steps 67 = .ok (.iload 6, 2) := by decide +kernel
theorem dX11_steps_69 : decode cX11_steps 69 = .ok (.iconst 1, 1) := by decide +kernel
theorem dX11_steps_70 : decode cX11_steps 70 = .ok (.iadd, 1) := by decide +kernel
theorem dX11_steps_71 : decode cX11_steps 71 = .ok (.istore 6, 2) := by decide +kernel
theorem dX11_steps_73 : decode cX11_steps 73 = .ok (.goto (-21), 3) := by decide +kernel
theorem dX11_steps_76 : decode cX11_steps 76 = .ok (.iload 6, 2) := by decide +kernel
theorem dX11_steps_78 : decode cX11_steps 78 = .ok (.iconst 2, 1) := by decide +kernel
theorem dX11_steps_79 : decode cX11_steps 79 = .ok (.if_icmp .le 7, 3) := by decide +kernel
theorem dX11_steps_82 : decode cX11_steps 82 = .ok (.iload_n 2, 1) := by decide +kernel
theorem dX11_steps_83 : decode cX11_steps 83 = .ok (.iconst 1, 1) := by decide +kernel
theorem dX11_steps_84 : decode cX11_steps 84 = .ok (.iadd, 1) := by decide +kernel
theorem dX11_steps_85 : decode cX11_steps 85 = .ok (.istore_n 2, 1) := by decide +kernel
theorem dX11_steps_86 : decode cX11_steps 86 = .ok (.aload_n 0, 1) := by decide +kernel
theorem dX11_steps_87 : decode cX11_steps 87 = .ok (.iload_n 3, 1) := by decide +kernel
theorem dX11_steps_88 : decode cX11_steps 88 = .ok (.iload 6, 2) := by decide +kernel
theorem dX11_steps_90 : decode cX11_steps 90 = .ok (.invokevirtual 394, 3) := by decide +kernel
theorem dX11_steps_93 : decode cX11_steps 93 = .ok (.istore_n 3, 1) := by decide +kernel
theorem dX11_steps_94 : decode cX11_steps 94 = .ok (.iinc 5 1, 3) := by decide +kernel
theorem dX11_steps_97 : decode cX11_steps 97 = .ok (.goto (-55), 3) := by decide +kernel
theorem dX11_steps_100 : decode cX11_steps 100 = .ok (.iinc 4 1, 3) := by decide +kernel
theorem dX11_steps_103 : decode cX11_steps 103 = .ok (.goto (-71), 3) := by decide +kernel
theorem dX11_steps_106 : decode cX11_steps 106 = .ok (.iload_n 1, 1) := by decide +kernel
theorem dX11_steps_107 : decode cX11_steps 107 = .ok (.ifCond .ne 7, 3) := by decide +kernel
theorem dX11_steps_110 : decode cX11_steps 110 = .ok (.iload_n 2, 1) := by decide +kernel
theorem dX11_steps_111 : decode cX11_steps 111 = .ok (.goto 4, 3) := by decide +kernel
theorem dX11_steps_114 : decode cX11_steps 114 = .ok (.iload_n 3, 1) := by decide +kernel
theorem dX11_steps_115 : decode cX11_steps 115 = .ok (.ireturn, 1) := by decide +kernel
def f_X11_steps_86  (k32 : Int32 × Int32 × Int32 × Int32 × zHp → Option (Int32 × zHp)) (k42 : Int32 × Int32 × Int32 × Int32 × Int32 × zHp → Option (Int32 × zHp)) (v1 : Int32) (v2 : Int32) (v3 : Int32) (v4 : Int32) (v5 : Int32) (v6 : Int32) (h : zHp) : Option (Int32 × zHp) := (f_X11_greater v3 v6 h).bind fun x1 => k42 (v1, v2, x1.1, v4, (v5 + (1 : Int32)), x1.2)
set_option maxHeartbeats 4000000 in
set_option maxRecDepth 100000 in
theorem f_X11_steps_86_s  (k32 : Int32 × Int32 × Int32 × Int32 × zHp → Option (Int32 × zHp)) (H32 : ∀ v : Int32 × Int32 × Int32 × Int32 × zHp, Sim wM mX11_steps 1 rI 32 [(0, .ref 0), (1, .int v.1), (2, .int v.2.1), (3, .int v.2.2.1), (4, .int v.2.2.2.1)] [] v.2.2.2.2 (k32 v)) (k42 : Int32 × Int32 × Int32 × Int32 × Int32 × zHp → Option (Int32 × zHp)) (H42 : ∀ v : Int32 × Int32 × Int32 × Int32 × Int32 × zHp, Sim wM mX11_steps 1 rI 42 [(0, .ref 0), (1, .int v.1), (2, .int v.2.1), (3, .int v.2.2.1), (4, .int v.2.2.2.1), (5, .int v.2.2.2.2.1)] [] v.2.2.2.2.2 (k42 v)) (v1 : Int32) (v2 : Int32) (v3 : Int32) (v4 : Int32) (v5 : Int32) (v6 : Int32) (h : zHp) : Sim wM mX11_steps 1 rI 86 [(0, .ref 0), (1, .int v1), (2, .int v2), (3, .int v3), (4, .int v4), (5, .int v5), (6, .int v6)] [] h (f_X11_steps_86 k32 k42 v1 v2 v3 v4 v5 v6 h) := by
  unfold f_X11_steps_86
  refine Sim.aload_n 0 dX11_steps_86 rfl ?_
  refine Sim.iload_n 3 dX11_steps_87 rfl ?_
  refine Sim.iload 6 dX11_steps_88 rfl ?_
  refine Sim.callV2I (d1 := 0) (s_X11_greater v3 v6 h) dX11_steps_90 ml_X11_394 mv_X11_greater mC (Nat.le_of_ble_eq_true rfl) (Nat.le_of_ble_eq_true rfl) (Nat.le_of_ble_eq_true rfl) (fun x1 => ?_)
  refine Sim.istore_n (L' := [(3, .int x1.1), (0, .ref 0), (1, .int v1), (2, .int v2), (4, .int v4), (5, .int v5), (6, .int v6)]) dX11_steps_93 (Nat.le_of_ble_eq_true rfl) rfl ?_
  refine Sim.iinc (L' := [(5, .int (v5 + (1 : Int32))), (3, .int x1.1), (0, .ref 0), (1, .int v1), (2, .int v2), (4, .int v4), (6, .int v6)]) 5 dX11_steps_94 rfl rfl (Nat.le_of_ble_eq_true rfl) rfl ?_
  refine Sim.goto 42 dX11_steps_97 rfl ?_
  refine Sim.locs [2, 3, 4, 1, 5, 0] rfl ?_
  exact H42 (v1, v2, x1.1, v4, (v5 + (1 : Int32)), x1.2)
def f_X11_steps_52  (k32 : Int32 × Int32 × Int32 × Int32 × zHp → Option (Int32 × zHp)) (k42 : Int32 × Int32 × Int32 × Int32 × Int32 × zHp → Option (Int32 × zHp)) (k52 : Int32 × Int32 × Int32 × Int32 × Int32 × Int32 × zHp → Option (Int32 × zHp)) (v1 : Int32) (v2 : Int32) (v3 : Int32) (v4 : Int32) (v5 : Int32) (v6 : Int32) (h : zHp) : Option (Int32 × zHp) := (f_X11_isStep (v4 + (v6 * v5)) h).bind fun x1 => (if x1.1 = 0 then (if (2 : Int32) < v6 then zlt (v2 + (1 : Int32)) fun x2 => f_X11_steps_86 k32 k42 v1 x2 v3 v4 v5 v6 x1.2 else f_X11_steps_86 k32 k42 v1 v2 v3 v4 v5 v6 x1.2) else zlt (v6 + (1 : Int32)) fun x3 => k52 (v1, v2, v3, v4, v5, x3, x1.2))
set_option maxHeartbeats 4000000 in
set_option maxRecDepth 100000 in
theorem f_X11_steps_52_s  (k32 : Int32 × Int32 × Int32 × Int32 × zHp → Option (Int32 × zHp)) (H32 : ∀ v : Int32 × Int32 × Int32 × Int32 × zHp, Sim wM mX11_steps 1 rI 32 [(0, .ref 0), (1, .int v.1), (2, .int v.2.1), (3, .int v.2.2.1), (4, .int v.2.2.2.1)] [] v.2.2.2.2 (k32 v)) (k42 : Int32 × Int32 × Int32 × Int32 × Int32 × zHp → Option (Int32 × zHp)) (H42 : ∀ v : Int32 × Int32 × Int32 × Int32 × Int32 × zHp, Sim wM mX11_steps 1 rI 42 [(0, .ref 0), (1, .int v.1), (2, .int v.2.1), (3, .int v.2.2.1), (4, .int v.2.2.2.1), (5, .int v.2.2.2.2.1)] [] v.2.2.2.2.2 (k42 v)) (k52 : Int32 × Int32 × Int32 × Int32 × Int32 × Int32 × zHp → Option (Int32 × zHp)) (H52 : ∀ v : Int32 × Int32 × Int32 × Int32 × Int32 × Int32 × zHp, Sim wM mX11_steps 1 rI 52 [(0, .ref 0), (1, .int v.1), (2, .int v.2.1), (3, .int v.2.2.1), (4, .int v.2.2.2.1), (5, .int v.2.2.2.2.1), (6, .int v.2.2.2.2.2.1)] [] v.2.2.2.2.2.2 (k52 v)) (v1 : Int32) (v2 : Int32) (v3 : Int32) (v4 : Int32) (v5 : Int32) (v6 : Int32) (h : zHp) : Sim wM mX11_steps 1 rI 52 [(0, .ref 0), (1, .int v1), (2, .int v2), (3, .int v3), (4, .int v4), (5, .int v5), (6, .int v6)] [] h (f_X11_steps_52 k32 k42 k52 v1 v2 v3 v4 v5 v6 h) := by
  unfold f_X11_steps_52
  refine Sim.aload_n 0 dX11_steps_52 rfl ?_
  refine Sim.iload 4 dX11_steps_53 rfl ?_
  refine Sim.iload 6 dX11_steps_55 rfl ?_
  refine Sim.iload 5 dX11_steps_57 rfl ?_
  refine Sim.imul dX11_steps_59 ?_
  refine Sim.iadd dX11_steps_60 ?_
  refine Sim.callV1I (d1 := 0) (s_X11_isStep (v4 + (v6 * v5)) h) dX11_steps_61 ml_X11_493 mv_X11_isStep mC (Nat.le_of_ble_eq_true rfl) (Nat.le_of_ble_eq_true rfl) (Nat.le_of_ble_eq_true rfl) (fun x1 => ?_)
  refine Sim.if_eq 76 dX11_steps_64 rfl ?_ ?_
  · refine Sim.iload 6 dX11_steps_76 rfl ?_
    refine Sim.iconst (v := (2 : Int32)) dX11_steps_78 rfl ?_
    refine Sim.icmp_le 86 dX11_steps_79 rfl ?_ ?_
    · refine Sim.iload_n 2 dX11_steps_82 rfl ?_
      refine Sim.iconst (v := (1 : Int32)) dX11_steps_83 rfl ?_
      refine Sim.iadd dX11_steps_84 ?_
      refine Sim.lti (fun x2 => ?_)
      refine Sim.istore_n (L' := [(2, .int x2), (0, .ref 0), (1, .int v1), (3, .int v3), (4, .int v4), (5, .int v5), (6, .int v6)]) dX11_steps_85 (Nat.le_of_ble_eq_true rfl) rfl ?_
      refine Sim.locs [1, 2, 0, 3, 4, 5, 6] rfl ?_
      exact f_X11_steps_86_s k32 H32 k42 H42 v1 x2 v3 v4 v5 v6 x1.2
    · exact f_X11_steps_86_s k32 H32 k42 H42 v1 v2 v3 v4 v5 v6 x1.2
  · refine Sim.iload 6 dX11_steps_67 rfl ?_
    refine Sim.iconst (v := (1 : Int32)) dX11_steps_69 rfl ?_
    refine Sim.iadd dX11_steps_70 ?_
    refine Sim.lti (fun x3 => ?_)
    refine Sim.istore (L' := [(6, .int x3), (0, .ref 0), (1, .int v1), (2, .int v2), (3, .int v3), (4, .int v4), (5, .int v5)]) dX11_steps_71 (Nat.le_of_ble_eq_true rfl) rfl ?_
    refine Sim.goto 52 dX11_steps_73 rfl ?_
    refine Sim.locs [1, 2, 3, 4, 5, 6, 0] rfl ?_
    exact H52 (v1, v2, v3, v4, v5, x3, x1.2)
def f_X11_steps_52_lp  (k32 : Int32 × Int32 × Int32 × Int32 × zHp → Option (Int32 × zHp)) (k42 : Int32 × Int32 × Int32 × Int32 × Int32 × zHp → Option (Int32 × zHp)) (n : Nat) (v : Int32 × Int32 × Int32 × Int32 × Int32 × Int32 × zHp) : Option (Int32 × zHp) := zlp (fun k52 v => f_X11_steps_52 k32 k42 k52 v.1 v.2.1 v.2.2.1 v.2.2.2.1 v.2.2.2.2.1 v.2.2.2.2.2.1 v.2.2.2.2.2.2) n v
theorem f_X11_steps_52_ls  (k32 : Int32 × Int32 × Int32 × Int32 × zHp → Option (Int32 × zHp)) (H32 : ∀ v : Int32 × Int32 × Int32 × Int32 × zHp, Sim wM mX11_steps 1 rI 32 [(0, .ref 0), (1, .int v.1), (2, .int v.2.1), (3, .int v.2.2.1), (4, .int v.2.2.2.1)] [] v.2.2.2.2 (k32 v)) (k42 : Int32 × Int32 × Int32 × Int32 × Int32 × zHp → Option (Int32 × zHp)) (H42 : ∀ v : Int32 × Int32 × Int32 × Int32 × Int32 × zHp, Sim wM mX11_steps 1 rI 42 [(0, .ref 0), (1, .int v.1), (2, .int v.2.1), (3, .int v.2.2.1), (4, .int v.2.2.2.1), (5, .int v.2.2.2.2.1)] [] v.2.2.2.2.2 (k42 v)) (n : Nat) (v : Int32 × Int32 × Int32 × Int32 × Int32 × Int32 × zHp) : Sim wM mX11_steps 1 rI 52 [(0, .ref 0), (1, .int v.1), (2, .int v.2.1), (3, .int v.2.2.1), (4, .int v.2.2.2.1), (5, .int v.2.2.2.2.1), (6, .int v.2.2.2.2.2.1)] [] v.2.2.2.2.2.2 (f_X11_steps_52_lp k32 k42 n v) :=
  Sim.lp (V := Int32 × Int32 × Int32 × Int32 × Int32 × Int32 × zHp) (Lf := fun v => [(0, .ref 0), (1, .int v.1), (2, .int v.2.1), (3, .int v.2.2.1), (4, .int v.2.2.2.1), (5, .int v.2.2.2.2.1), (6, .int v.2.2.2.2.2.1)]) (sf := fun v => []) (hf := fun v => v.2.2.2.2.2.2) (fun k52 H52 v => f_X11_steps_52_s k32 H32 k42 H42 k52 H52 v.1 v.2.1 v.2.2.1 v.2.2.2.1 v.2.2.2.2.1 v.2.2.2.2.2.1 v.2.2.2.2.2.2) n v
def f_X11_steps_42  (k32 : Int32 × Int32 × Int32 × Int32 × zHp → Option (Int32 × zHp)) (k42 : Int32 × Int32 × Int32 × Int32 × Int32 × zHp → Option (Int32 × zHp)) (v1 : Int32) (v2 : Int32) (v3 : Int32) (v4 : Int32) (v5 : Int32) (h : zHp) : Option (Int32 × zHp) := (if (60 : Int32) < v5 then k32 (v1, v2, v3, (v4 + (1 : Int32)), h) else f_X11_steps_52_lp k32 k42 zN (v1, v2, v3, v4, v5, (0 : Int32), h))
set_option maxHeartbeats 4000000 in
set_option maxRecDepth 100000 in
theorem f_X11_steps_42_s  (k32 : Int32 × Int32 × Int32 × Int32 × zHp → Option (Int32 × zHp)) (H32 : ∀ v : Int32 × Int32 × Int32 × Int32 × zHp, Sim wM mX11_steps 1 rI 32 [(0, .ref 0), (1, .int v.1), (2, .int v.2.1), (3, .int v.2.2.1), (4, .int v.2.2.2.1)] [] v.2.2.2.2 (k32 v)) (k42 : Int32 × Int32 × Int32 × Int32 × Int32 × zHp → Option (Int32 × zHp)) (H42 : ∀ v : Int32 × Int32 × Int32 × Int32 × Int32 × zHp, Sim wM mX11_steps 1 rI 42 [(0, .ref 0), (1, .int v.1), (2, .int v.2.1), (3, .int v.2.2.1), (4, .int v.2.2.2.1), (5, .int v.2.2.2.2.1)] [] v.2.2.2.2.2 (k42 v)) (v1 : Int32) (v2 : Int32) (v3 : Int32) (v4 : Int32) (v5 : Int32) (h : zHp) : Sim wM mX11_steps 1 rI 42 [(0, .ref 0), (1, .int v1), (2, .int v2), (3, .int v3), (4, .int v4), (5, .int v5)] [] h (f_X11_steps_42 k32 k42 v1 v2 v3 v4 v5 h) := by
  unfold f_X11_steps_42
  refine Sim.iload 5 dX11_steps_42 rfl ?_
  refine Sim.bipush (v := (60 : Int32)) dX11_steps_44 rfl ?_
  refine Sim.icmp_gt 100 dX11_steps_46 rfl ?_ ?_
  · refine Sim.iinc (L' := [(4, .int (v4 + (1 : Int32))), (0, .ref 0), (1, .int v1), (2, .int v2), (3, .int v3), (5, .int v5)]) 4 dX11_steps_100 rfl rfl (Nat.le_of_ble_eq_true rfl) rfl ?_
    refine Sim.goto 32 dX11_steps_103 rfl ?_
    refine Sim.locs [1, 2, 3, 4, 0] rfl ?_
    exact H32 (v1, v2, v3, (v4 + (1 : Int32)), h)
  · refine Sim.iconst (v := (0 : Int32)) dX11_steps_49 rfl ?_
    refine Sim.istore (L' := [(6, .int (0 : Int32)), (0, .ref 0), (1, .int v1), (2, .int v2), (3, .int v3), (4, .int v4), (5, .int v5)]) dX11_steps_50 (Nat.le_of_ble_eq_true rfl) rfl ?_
    refine Sim.locs [1, 2, 3, 4, 5, 6, 0] rfl ?_
    exact f_X11_steps_52_ls k32 H32 k42 H42 zN (v1, v2, v3, v4, v5, (0 : Int32), h)
def f_X11_steps_42_lp  (k32 : Int32 × Int32 × Int32 × Int32 × zHp → Option (Int32 × zHp)) (n : Nat) (v : Int32 × Int32 × Int32 × Int32 × Int32 × zHp) : Option (Int32 × zHp) := zlp (fun k42 v => f_X11_steps_42 k32 k42 v.1 v.2.1 v.2.2.1 v.2.2.2.1 v.2.2.2.2.1 v.2.2.2.2.2) n v
theorem f_X11_steps_42_ls  (k32 : Int32 × Int32 × Int32 × Int32 × zHp → Option (Int32 × zHp)) (H32 : ∀ v : Int32 × Int32 × Int32 × Int32 × zHp, Sim wM mX11_steps 1 rI 32 [(0, .ref 0), (1, .int v.1), (2, .int v.2.1), (3, .int v.2.2.1), (4, .int v.2.2.2.1)] [] v.2.2.2.2 (k32 v)) (n : Nat) (v : Int32 × Int32 × Int32 × Int32 × Int32 × zHp) : Sim wM mX11_steps 1 rI 42 [(0, .ref 0), (1, .int v.1), (2, .int v.2.1), (3, .int v.2.2.1), (4, .int v.2.2.2.1), (5, .int v.2.2.2.2.1)] [] v.2.2.2.2.2 (f_X11_steps_42_lp k32 n v) :=
  Sim.lp (V := Int32 × Int32 × Int32 × Int32 × Int32 × zHp) (Lf := fun v => [(0, .ref 0), (1, .int v.1), (2, .int v.2.1), (3, .int v.2.2.1), (4, .int v.2.2.2.1), (5, .int v.2.2.2.2.1)]) (sf := fun v => []) (hf := fun v => v.2.2.2.2.2) (fun k42 H42 v => f_X11_steps_42_s k32 H32 k42 H42 v.1 v.2.1 v.2.2.1 v.2.2.2.1 v.2.2.2.2.1 v.2.2.2.2.2) n v
def f_X11_steps_32  (k32 : Int32 × Int32 × Int32 × Int32 × zHp → Option (Int32 × zHp)) (v1 : Int32) (v2 : Int32) (v3 : Int32) (v4 : Int32) (h : zHp) : Option (Int32 × zHp) := (if (60 : Int32) < v4 then (if v1 = 0 then some (v2, h) else some (v3, h)) else f_X11_steps_42_lp k32 zN (v1, v2, v3, v4, (1 : Int32), h))
set_option maxHeartbeats 4000000 in
set_option maxRecDepth 100000 in
theorem f_X11_steps_32_s  (k32 : Int32 × Int32 × Int32 × Int32 × zHp → Option (Int32 × zHp)) (H32 : ∀ v : Int32 × Int32 × Int32 × Int32 × zHp, Sim wM mX11_steps 1 rI 32 [(0, .ref 0), (1, .int v.1), (2, .int v.2.1), (3, .int v.2.2.1), (4, .int v.2.2.2.1)] [] v.2.2.2.2 (k32 v)) (v1 : Int32) (v2 : Int32) (v3 : Int32) (v4 : Int32) (h : zHp) : Sim wM mX11_steps 1 rI 32 [(0, .ref 0), (1, .int v1), (2, .int v2), (3, .int v3), (4, .int v4)] [] h (f_X11_steps_32 k32 v1 v2 v3 v4 h) := by
  unfold f_X11_steps_32
  refine Sim.iload 4 dX11_steps_32 rfl ?_
  refine Sim.bipush (v := (60 : Int32)) dX11_steps_34 rfl ?_
  refine Sim.icmp_gt 106 dX11_steps_36 rfl ?_ ?_
  · refine Sim.iload_n 1 dX11_steps_106 rfl ?_
    refine Sim.if_ne 114 dX11_steps_107 rfl ?_ ?_
    · refine Sim.iload_n 2 dX11_steps_110 rfl ?_
      refine Sim.goto 115 dX11_steps_111 rfl ?_
      exact Sim.iret dX11_steps_115 rfl
    · refine Sim.iload_n 3 dX11_steps_114 rfl ?_
      exact Sim.iret dX11_steps_115 rfl
  · refine Sim.iconst (v := (1 : Int32)) dX11_steps_39 rfl ?_
    refine Sim.istore (L' := [(5, .int (1 : Int32)), (0, .ref 0), (1, .int v1), (2, .int v2), (3, .int v3), (4, .int v4)]) dX11_steps_40 (Nat.le_of_ble_eq_true rfl) rfl ?_
    refine Sim.locs [1, 2, 3, 4, 5, 0] rfl ?_
    exact f_X11_steps_42_ls k32 H32 zN (v1, v2, v3, v4, (1 : Int32), h)
def f_X11_steps_32_lp   (n : Nat) (v : Int32 × Int32 × Int32 × Int32 × zHp) : Option (Int32 × zHp) := zlp (fun k32 v => f_X11_steps_32 k32 v.1 v.2.1 v.2.2.1 v.2.2.2.1 v.2.2.2.2) n v
theorem f_X11_steps_32_ls  (n : Nat) (v : Int32 × Int32 × Int32 × Int32 × zHp) : Sim wM mX11_steps 1 rI 32 [(0, .ref 0), (1, .int v.1), (2, .int v.2.1), (3, .int v.2.2.1), (4, .int v.2.2.2.1)] [] v.2.2.2.2 (f_X11_steps_32_lp n v) :=
  Sim.lp (V := Int32 × Int32 × Int32 × Int32 × zHp) (Lf := fun v => [(0, .ref 0), (1, .int v.1), (2, .int v.2.1), (3, .int v.2.2.1), (4, .int v.2.2.2.1)]) (sf := fun v => []) (hf := fun v => v.2.2.2.2) (fun k32 H32 v => f_X11_steps_32_s k32 H32 v.1 v.2.1 v.2.2.1 v.2.2.2.1 v.2.2.2.2) n v
def f_X11_steps  (a1 : Int32) (h : zHp) : Option (Int32 × zHp) := zlt (zst h 0 0 (0 : Int32)) fun h1 => (f_X11_isIn a1 (0 : Int32) (1 : Int32) h1).bind fun x2 => (if x2.1 = 0 then some ((-1 : Int32), x2.2) else (f_X11_lesser (x2.2 0 60) (1 : Int32) x2.2).bind fun x3 => f_X11_steps_32_lp  zN (a1, (0 : Int32), x3.1, (0 : Int32), x3.2))
set_option maxHeartbeats 4000000 in
set_option maxRecDepth 100000 in
theorem s_X11_steps  (a1 : Int32) (h : zHp) : Fn wM mX11_steps 1 rI [.ref 0, .int a1] h (f_X11_steps a1 h) := by
  refine Fn.of rfl (Nat.le_of_ble_eq_true rfl) ?_
  unfold f_X11_steps
  refine Sim.aload_n 0 dX11_steps_0 rfl ?_
  refine Sim.iconst (v := (0 : Int32)) dX11_steps_1 rfl ?_
  refine Sim.put fp_X11_128 dX11_steps_2 mI_0 rfl rfl ?_
  refine Sim.lth (fun h1 => ?_)
  refine Sim.aload_n 0 dX11_steps_5 rfl ?_
  refine Sim.iload_n 1 dX11_steps_6 rfl ?_
  refine Sim.iconst (v := (0 : Int32)) dX11_steps_7 rfl ?_
  refine Sim.iconst (v := (1 : Int32)) dX11_steps_8 rfl ?_
  refine Sim.callV3I (d1 := 0) (s_X11_isIn a1 (0 : Int32) (1 : Int32) h1) dX11_steps_9 ml_X11_154 mv_X11_isIn mC (Nat.le_of_ble_eq_true rfl) (Nat.le_of_ble_eq_true rfl) (Nat.le_of_ble_eq_true rfl) (fun x2 => ?_)
  refine Sim.if_ne 17 dX11_steps_12 rfl ?_ ?_
  · refine Sim.iconst (v := (-1 : Int32)) dX11_steps_15 rfl ?_
    exact Sim.iret dX11_steps_16 rfl
  · refine Sim.iconst (v := (0 : Int32)) dX11_steps_17 rfl ?_
    refine Sim.istore_n (L' := [(2, .int (0 : Int32)), (0, .ref 0), (1, .int a1)]) dX11_steps_18 (Nat.le_of_ble_eq_true rfl) rfl ?_
    refine Sim.aload_n 1 dX11_steps_19 rfl ?_
    refine Sim.aload_n 1 dX11_steps_20 rfl ?_
    refine Sim.getI fl_X11_490 dX11_steps_21 mI_60 ?_
    refine Sim.iconst (v := (1 : Int32)) dX11_steps_24 rfl ?_
    refine Sim.callV2I (d1 := 0) (s_X11_lesser (x2.2 0 60) (1 : Int32) x2.2) dX11_steps_25 ml_X11_453 mv_X11_lesser mC (Nat.le_of_ble_eq_true rfl) (Nat.le_of_ble_eq_true rfl) (Nat.le_of_ble_eq_true rfl) (fun x3 => ?_)
    refine Sim.istore_n (L' := [(3, .int x3.1), (2, .int (0 : Int32)), (0, .ref 0), (1, .int a1)]) dX11_steps_28 (Nat.le_of_ble_eq_true rfl) rfl ?_
    refine Sim.iconst (v := (0 : Int32)) dX11_steps_29 rfl ?_
    refine Sim.istore (L' := [(4, .int (0 : Int32)), (3, .int x3.1), (2, .int (0 : Int32)), (0, .ref 0), (1, .int a1)]) dX11_steps_30 (Nat.le_of_ble_eq_true rfl) rfl ?_
    refine Sim.locs [3, 4, 2, 1, 0] rfl ?_
    exact f_X11_steps_32_ls  zN (a1, (0 : Int32), x3.1, (0 : Int32), x3.2)
theorem mv_X11_steps : zMV mX11_steps 1 := ⟨⟨zTb_in 2001 (by decide +kernel) rfl, zTb_in 148 (by decide +kernel) rfl, ⟨by decide +kernel, by decide +kernel⟩, by decide +kernel⟩, zTb_in 1999 (by decide +kernel) rfl, zTb_in 2000 (by decide +kernel) rfl⟩
-- ===== RockingPorchModel.isCoin(I)Z
abbrev mX11_isCoin : zMt := (yX11_isCoin, cX11_isCoin, 3, some .boolean)
theorem fl_X11_119 : zF RX11 119 11 63 := ⟨RX11, TX11, 69, rfl, Nat.le_of_ble_eq_true rfl, zTb_in 1362 (by decide +kernel) rfl, in_X11⟩
theorem fl_X11_496 : zF RX11 496 11 62 := ⟨RX11, TX11, 69, rfl, Nat.le_of_ble_eq_true rfl, zTb_in 1361 (by decide +kernel) rfl, in_X11⟩
theorem dX11_isCoin_0 : decode cX11_isCoin 0 = .ok (.iconst 0, 1) := by decide +kernel
theorem dX11_isCoin_1 : decode cX11_isCoin 1 = .ok (.istore_n 2, 1) := by decide +kernel
theorem dX11_isCoin_2 : decode cX11_isCoin 2 = .ok (.iload_n 2, 1) := by decide +kernel
theorem dX11_isCoin_3 : decode cX11_isCoin 3 = .ok (.aload_n 0, 1) := by decide +kernel
theorem dX11_isCoin_4 : decode cX11_isCoin 4 = .ok (.getfield 496, 3) := by decide +kernel
theorem dX11_isCoin_7 : decode cX11_isCoin 7 = .ok (.if_icmp .ge 21, 3) := by decide +kernel
theorem dX11_isCoin_10 : decode cX11_isCoin 10 = .ok (.aload_n 0, 1) := by decide +kernel
theorem dX11_isCoin_11 : decode cX11_isCoin 11 = .ok (.getfield 119, 3) := by decide +kernel
theorem dX11_isCoin_14 : decode cX11_isCoin 14 = .ok (.iload_n 2, 1) := by decide +kernel
theorem dX11_isCoin_15 : decode cX11_isCoin 15 = .ok (.iaload, 1) := by decide +kernel
theorem dX11_isCoin_16 : decode cX11_isCoin 16 = .ok (.iload_n 1, 1) := by decide +kernel
theorem dX11_isCoin_17 : decode cX11_isCoin 17 = .ok (.if_icmp .ne 5, 3) := by decide +kernel
theorem dX11_isCoin_20 : decode cX11_isCoin 20 = .ok (.iconst 1, 1) := by decide +kernel
theorem dX11_isCoin_21 : decode cX11_isCoin 21 = .ok (.ireturn, 1) := by decide +kernel
theorem dX11_isCoin_22 : decode cX11_isCoin 22 = .ok (.iinc 2 1, 3) := by decide +kernel
theorem dX11_isCoin_25 : decode cX11_isCoin 25 = .ok (.goto (-23), 3) := by decide +kernel
theorem dX11_isCoin_28 : decode cX11_isCoin 28 = .ok (.iconst 0, 1) := by decide +kernel
theorem dX11_isCoin_29 : decode cX11_isCoin 29 = .ok (.ireturn, 1) := by decide +kernel
def f_X11_isCoin_2  (k2 : Int32 × Int32 × zHp → Option (Int32 × zHp)) (v1 : Int32) (v2 : Int32) (h : zHp) : Option (Int32 × zHp) := (if v2 < (h 0 62) then zix v2 6 ((if (h 36 v2.toNatClampNeg) = v1 then some ((1 : Int32), h) else k2 (v1, (v2 + (1 : Int32)), h))) else some ((0 : Int32), h))
set_option maxHeartbeats 4000000 in
set_option maxRecDepth 100000 in
theorem f_X11_isCoin_2_s  (k2 : Int32 × Int32 × zHp → Option (Int32 × zHp)) (H2 : ∀ v : Int32 × Int32 × zHp, Sim wM mX11_isCoin 0 rI 2 [(0, .ref 0), (1, .int v.1), (2, .int v.2.1)] [] v.2.2 (k2 v)) (v1 : Int32) (v2 : Int32) (h : zHp) : Sim wM mX11_isCoin 0 rI 2 [(0, .ref 0), (1, .int v1), (2, .int v2)] [] h (f_X11_isCoin_2 k2 v1 v2 h) := by
  unfold f_X11_isCoin_2
  refine Sim.iload_n 2 dX11_isCoin_2 rfl ?_
  refine Sim.aload_n 0 dX11_isCoin_3 rfl ?_
  refine Sim.getI fl_X11_496 dX11_isCoin_4 mI_62 ?_
  refine Sim.icmp_ge 28 dX11_isCoin_7 rfl ?_ ?_
  · refine Sim.aload_n 0 dX11_isCoin_10 rfl ?_
    refine Sim.getR (j := 36) fl_X11_119 dX11_isCoin_11 mR_63 ?_
    refine Sim.iload_n 2 dX11_isCoin_14 rfl ?_
    refine Sim.iald (n := 6) dX11_isCoin_15 mA_36 ?_
    refine Sim.iload_n 1 dX11_isCoin_16 rfl ?_
    refine Sim.icmp_ne 22 dX11_isCoin_17 rfl ?_ ?_
    · refine Sim.iconst (v := (1 : Int32)) dX11_isCoin_20 rfl ?_
      exact Sim.nret dX11_isCoin_21 rfl rfl
    · refine Sim.iinc (L' := [(2, .int (v2 + (1 : Int32))), (0, .ref 0), (1, .int v1)]) 2 dX11_isCoin_22 rfl rfl (Nat.le_of_ble_eq_true rfl) rfl ?_
      refine Sim.goto 2 dX11_isCoin_25 rfl ?_
      refine Sim.locs [1, 2, 0] rfl ?_
      exact H2 (v1, (v2 + (1 : Int32)), h)
  · refine Sim.iconst (v := (0 : Int32)) dX11_isCoin_28 rfl ?_
    exact Sim.nret dX11_isCoin_29 rfl rfl
def f_X11_isCoin_2_lp   (n : Nat) (v : Int32 × Int32 × zHp) : Option (Int32 × zHp) := zlp (fun k2 v => f_X11_isCoin_2 k2 v.1 v.2.1 v.2.2) n v
theorem f_X11_isCoin_2_ls  (n : Nat) (v : Int32 × Int32 × zHp) : Sim wM mX11_isCoin 0 rI 2 [(0, .ref 0), (1, .int v.1), (2, .int v.2.1)] [] v.2.2 (f_X11_isCoin_2_lp n v) :=
  Sim.lp (V := Int32 × Int32 × zHp) (Lf := fun v => [(0, .ref 0), (1, .int v.1), (2, .int v.2.1)]) (sf := fun v => []) (hf := fun v => v.2.2) (fun k2 H2 v => f_X11_isCoin_2_s k2 H2 v.1 v.2.1 v.2.2) n v
def f_X11_isCoin  (a1 : Int32) (h : zHp) : Option (Int32 × zHp) := f_X11_isCoin_2_lp  zN (a1, (0 : Int32), h)
set_option maxHeartbeats 4000000 in
set_option maxRecDepth 100000 in
theorem s_X11_isCoin  (a1 : Int32) (h : zHp) : Fn wM mX11_isCoin 0 rI [.ref 0, .int a1] h (f_X11_isCoin a1 h) := by
  refine Fn.of rfl (Nat.le_of_ble_eq_true rfl) ?_
  unfold f_X11_isCoin
  refine Sim.iconst (v := (0 : Int32)) dX11_isCoin_0 rfl ?_
  refine Sim.istore_n (L' := [(2, .int (0 : Int32)), (0, .ref 0), (1, .int a1)]) dX11_isCoin_1 (Nat.le_of_ble_eq_true rfl) rfl ?_
  refine Sim.locs [1, 2, 0] rfl ?_
  exact f_X11_isCoin_2_ls  zN (a1, (0 : Int32), h)
theorem mv_X11_isCoin : zMV mX11_isCoin 1 := ⟨⟨zTb_in 2009 (by decide +kernel) rfl, zTb_in 148 (by decide +kernel) rfl, ⟨by decide +kernel, by decide +kernel⟩, by decide +kernel⟩, zTb_in 2008 (by decide +kernel) rfl, zTb_in 130 (by decide +kernel) rfl⟩
-- ===== RockingPorchModel.coin(I)I
abbrev mX11_coin : zMt := (yX11_coin, cX11_coin, 2, some .int)
theorem fp_X11_496 : zFp RX11 496 11 62 .int := ⟨RX11, TX11, 69, tyX11, rfl, Nat.le_of_ble_eq_true rfl, zTb_in 1361 (by decide +kernel) rfl, in_X11, tyX11_ok, nmX11, rfl, rfl⟩
theorem ml_X11_499 : Cond.methodLink RX11 499 yX11_isCoin ∈ zTb := zTb_in 2006 (by decide +kernel) rfl
theorem dX11_coin_0 : decode cX11_coin 0 = .ok (.aload_n 0, 1) := by decide +kernel
theorem dX11_coin_1 : decode cX11_coin 1 = .ok (.iconst 0, 1) := by decide +kernel
theorem dX11_coin_2 : decode cX11_coin 2 = .ok (.putfield 128, 3) := by decide +kernel
theorem dX11_coin_5 : decode cX11_coin 5 = .ok (.iload_n 1, 1) := by decide +kernel
theorem dX11_coin_6 : decode cX11_coin 6 = .ok (.iconst (-1), 1) := by decide +kernel
theorem dX11_coin_7 : decode cX11_coin 7 = .ok (.if_icmp .ne 10, 3) := by decide +kernel
theorem dX11_coin_10 : decode cX11_coin 10 = .ok (.aload_n 0, 1) := by decide +kernel
theorem dX11_coin_11 : decode cX11_coin 11 = .ok (.iconst 0, 1) := by decide +kernel
theorem dX11_coin_12 : decode cX11_coin 12 = .ok (.putfield 496, 3) := by decide +kernel
theorem dX11_coin_15 : decode cX11_coin 15 = .ok (.iconst 0, 1) := by decide +kernel
theorem dX11_coin_16 : decode cX11_coin 16 = .ok (.ireturn, 1) := by decide +kernel
theorem dX11_coin_17 : decode cX11_coin 17 = .ok (.aload_n 0, 1) := by decide +kernel
theorem dX11_coin_18 : decode cX11_coin 18 = .ok (.iload_n 1, 1) := by decide +kernel
theorem dX11_coin_19 : decode cX11_coin 19 = .ok (.iconst 0, 1) := by decide +kernel
theorem dX11_coin_20 : decode cX11_coin 20 = .ok (.bipush 40, 2) := by decide +kernel
theorem dX11_coin_22 : decode cX11_coin 22 = .ok (.invokevirtual 154, 3) := by decide +kernel
theorem dX11_coin_25 : decode cX11_coin 25 = .ok (.ifCond .eq 20, 3) := by decide +kernel
theorem dX11_coin_28 : decode cX11_coin 28 = .ok (.aload_n 0, 1) := by decide +kernel
theorem dX11_coin_29 : decode cX11_coin 29 = .ok (.getfield 496, 3) := by decide +kernel
theorem dX11_coin_32 : decode cX11_coin 32 = .ok (.bipush 6, 2) := by decide +kernel
theorem dX11_coin_34 : decode cX11_coin 34 = .ok (.if_icmp .eq 11, 3) := by decide +kernel
theorem dX11_coin_37 : decode cX11_coin 37 = .ok (.aload_n 0, 1) := by decide +kernel
theorem dX11_coin_38 : decode cX11_coin 38 = .ok (.iload_n 1, 1) := by decide +kernel
theorem dX11_coin_39 : decode cX11_coin 39 = .ok (.invokevirtual 499, 3) := by decide +kernel
theorem dX11_coin_42 : decode cX11_coin 42 = .ok (.ifCond .eq 5, 3) := by decide +kernel
theorem dX11_coin_45 : decode cX11_coin 45 = .ok (.iconst (-1), 1) := by decide +kernel
theorem dX11_coin_46 : decode cX11_coin 46 = .ok (.ireturn, 1) := by decide +kernel
theorem dX11_coin_47 : decode cX11_coin 47 = .ok (.aload_n 0, 1) := by decide +kernel
theorem dX11_coin_48 : decode cX11_coin 48 = .ok (.getfield 119, 3) := by decide +kernel
theorem dX11_coin_51 : decode cX11_coin 51 = .ok (.aload_n 0, 1) := by decide +kernel
theorem dX11_coin_52 : decode cX11_coin 52 = .ok (.getfield 496, 3) := by decide +kernel
theorem dX11_coin_55 : decode cX11_coin 55 = .ok (.iload_n 1, 1) := by decide +kernel
theorem dX11_coin_56 : decode cX11_coin 56 = .ok (.iastore, 1) := by decide +kernel
theorem dX11_coin_57 : decode cX11_coin 57 = .ok (.aload_n 0, 1) := by decide +kernel
theorem dX11_coin_58 : decode cX11_coin 58 = .ok (.aload_n 0, 1) := by decide +kernel
theorem dX11_coin_59 : decode cX11_coin 59 = .ok (.getfield 496, 3) := by decide +kernel
theorem dX11_coin_62 : decode cX11_coin 62 = .ok (.iconst 1, 1) := by decide +kernel
theorem dX11_coin_63 : decode cX11_coin 63 = .ok (.iadd, 1) := by decide +kernel
theorem dX11_coin_64 : decode cX11_coin 64 = .ok (.putfield 496, 3) := by decide +kernel
theorem dX11_coin_67 : decode cX11_coin 67 = .ok (.aload_n 0, 1) := by decide +kernel
theorem dX11_coin_68 : decode cX11_coin 68 = .ok (.getfield 496, 3) := by decide +kernel
theorem dX11_coin_71 : decode cX11_coin 71 = .ok (.ireturn, 1) := by decide +kernel
def f_X11_coin  (a1 : Int32) (h : zHp) : Option (Int32 × zHp) := zlt (zst h 0 0 (0 : Int32)) fun h1 => (if a1 = (-1 : Int32) then zlt (zst h1 0 62 (0 : Int32)) fun h2 => some ((0 : Int32), h2) else (f_X11_isIn a1 (0 : Int32) (40 : Int32) h1).bind fun x3 => (if x3.1 = 0 then some ((-1 : Int32), x3.2) else (if (x3.2 0 62) = (6 : Int32) then some ((-1 : Int32), x3.2) else (f_X11_isCoin a1 x3.2).bind fun x4 => (if x4.1 = 0 then zix (x4.2 0 62) 6 (zlt (zst x4.2 36 (x4.2 0 62).toNatClampNeg a1) fun h5 => zlt (zst h5 0 62 ((h5 0 62) + (1 : Int32))) fun h6 => some ((h6 0 62), h6)) else some ((-1 : Int32), x4.2)))))
set_option maxHeartbeats 4000000 in
set_option maxRecDepth 100000 in
theorem s_X11_coin  (a1 : Int32) (h : zHp) : Fn wM mX11_coin 1 rI [.ref 0, .int a1] h (f_X11_coin a1 h) := by
  refine Fn.of rfl (Nat.le_of_ble_eq_true rfl) ?_
  unfold f_X11_coin
  refine Sim.aload_n 0 dX11_coin_0 rfl ?_
  refine Sim.iconst (v := (0 : Int32)) dX11_coin_1 rfl ?_
  refine Sim.put fp_X11_128 dX11_coin_2 mI_0 rfl rfl ?_
  refine Sim.lth (fun h1 => ?_)
  refine Sim.iload_n 1 dX11_coin_5 rfl ?_
  refine Sim.iconst (v := (-1 : Int32)) dX11_coin_6 rfl ?_
  refine Sim.icmp_ne 17 dX11_coin_7 rfl ?_ ?_
  · refine Sim.aload_n 0 dX11_coin_10 rfl ?_
    refine Sim.iconst (v := (0 : Int32)) dX11_coin_11 rfl ?_
    refine Sim.put fp_X11_496 dX11_coin_12 mI_62 rfl rfl ?_
    refine Sim.lth (fun h2 => ?_)
    refine Sim.iconst (v := (0 : Int32)) dX11_coin_15 rfl ?_
    exact Sim.iret dX11_coin_16 rfl
  · refine Sim.aload_n 0 dX11_coin_17 rfl ?_
    refine Sim.iload_n 1 dX11_coin_18 rfl ?_
    refine Sim.iconst (v := (0 : Int32)) dX11_coin_19 rfl ?_
    refine Sim.bipush (v := (40 : Int32)) dX11_coin_20 rfl ?_
    refine Sim.callV3I (d1 := 0) (s_X11_isIn a1 (0 : Int32) (40 : Int32) h1) dX11_coin_22 ml_X11_154 mv_X11_isIn mC (Nat.le_of_ble_eq_true rfl) (Nat.le_of_ble_eq_true rfl) (Nat.le_of_ble_eq_true rfl) (fun x3 => ?_)
    refine Sim.if_eq 45 dX11_coin_25 rfl ?_ ?_
    · refine Sim.iconst (v := (-1 : Int32)) dX11_coin_45 rfl ?_
      exact Sim.iret dX11_coin_46 rfl
    · refine Sim.aload_n 0 dX11_coin_28 rfl ?_
      refine Sim.getI fl_X11_496 dX11_coin_29 mI_62 ?_
      refine Sim.bipush (v := (6 : Int32)) dX11_coin_32 rfl ?_
      refine Sim.icmp_eq 45 dX11_coin_34 rfl ?_ ?_
      · refine Sim.iconst (v := (-1 : Int32)) dX11_coin_45 rfl ?_
        exact Sim.iret dX11_coin_46 rfl
      · refine Sim.aload_n 0 dX11_coin_37 rfl ?_
        refine Sim.iload_n 1 dX11_coin_38 rfl ?_
        refine Sim.callV1I (d1 := 0) (s_X11_isCoin a1 x3.2) dX11_coin_39 ml_X11_499 mv_X11_isCoin mC (Nat.le_of_ble_eq_true rfl) (Nat.le_of_ble_eq_true rfl) (Nat.le_of_ble_eq_true rfl) (fun x4 => ?_)
        refine Sim.if_eq 47 dX11_coin_42 rfl ?_ ?_
        · refine Sim.aload_n 0 dX11_coin_47 rfl ?_
          refine Sim.getR (j := 36) fl_X11_119 dX11_coin_48 mR_63 ?_
          refine Sim.aload_n 0 dX11_coin_51 rfl ?_
          refine Sim.getI fl_X11_496 dX11_coin_52 mI_62 ?_
          refine Sim.iload_n 1 dX11_coin_55 rfl ?_
          refine Sim.iast (n := 6) dX11_coin_56 mA_36 ?_
          refine Sim.lth (fun h5 => ?_)
          refine Sim.aload_n 0 dX11_coin_57 rfl ?_
          refine Sim.aload_n 0 dX11_coin_58 rfl ?_
          refine Sim.getI fl_X11_496 dX11_coin_59 mI_62 ?_
          refine Sim.iconst (v := (1 : Int32)) dX11_coin_62 rfl ?_
          refine Sim.iadd dX11_coin_63 ?_
          refine Sim.put fp_X11_496 dX11_coin_64 mI_62 rfl rfl ?_
          refine Sim.lth (fun h6 => ?_)
          refine Sim.aload_n 0 dX11_coin_67 rfl ?_
          refine Sim.getI fl_X11_496 dX11_coin_68 mI_62 ?_
          exact Sim.iret dX11_coin_71 rfl
        · refine Sim.iconst (v := (-1 : Int32)) dX11_coin_45 rfl ?_
          exact Sim.iret dX11_coin_46 rfl
theorem mv_X11_coin : zMV mX11_coin 1 := ⟨⟨zTb_in 2005 (by decide +kernel) rfl, zTb_in 148 (by decide +kernel) rfl, ⟨by decide +kernel, by decide +kernel⟩, by decide +kernel⟩, zTb_in 2003 (by decide +kernel) rfl, zTb_in 2004 (by decide +kernel) rfl⟩
-- ===== RockingPorchModel.isLost()Z
abbrev mX11_isLost : zMt := (yX11_isLost, cX11_isLost, 3, some .boolean)
theorem fl_X11_122 : zF RX11 122 11 64 := ⟨RX11, TX11, 69, rfl, Nat.le_of_ble_eq_true rfl, zTb_in 1363 (by decide +kernel) rfl, in_X11⟩
theorem dX11_isLost_0 : decode cX11_isLost 0 = .ok (.iconst 0, 1) := by decide +kernel
theorem dX11_isLost_1 : decode cX11_isLost 1 = .ok (.istore_n 1, 1) := by decide +kernel
theorem dX11_isLost_2 : decode cX11_isLost 2 = .ok (.aload_n 0, 1) := by decide +kernel
theorem dX11_isLost_3 : decode cX11_isLost 3 = .ok (.getfield 496, 3) := by decide +kernel
theorem dX11_isLost_6 : decode cX11_isLost 6 = .ok (.iconst 1, 1) := by decide +kernel
theorem dX11_isLost_7 : decode cX11_isLost 7 = .ok (.isub, 1) := by decide +kernel
theorem dX11_isLost_8 : decode cX11_isLost 8 = .ok (.istore_n 2, 1) := by decide +kernel
theorem dX11_isLost_9 : decode cX11_isLost 9 = .ok (.iload_n 2, 1) := by decide +kernel
theorem dX11_isLost_10 : decode cX11_isLost 10 = .ok (.ifCond .lt 38, 3) := by decide +kernel
theorem dX11_isLost_13 : decode cX11_isLost 13 = .ok (.iload_n 1, 1) := by decide +kernel
theorem dX11_isLost_14 : decode cX11_isLost 14 = .ok (.aload_n 0, 1) := by decide +kernel
theorem dX11_isLost_15 : decode cX11_isLost 15 = .ok (.getfield 122, 3) := by decide +kernel
theorem dX11_isLost_18 : decode cX11_isLost 18 = .ok (.iload_n 2, 1) := by decide +kernel
theorem dX11_isLost_19 : decode cX11_isLost 19 = .ok (.iaload, 1) := by decide +kernel
theorem dX11_isLost_20 : decode cX11_isLost 20 = .ok (.iload_n 2, 1) := by decide +kernel
theorem dX11_isLost_21 : decode cX11_isLost 21 = .ok (.ifCond .ne 7, 3) := by decide +kernel
theorem dX11_isLost_24 : decode cX11_isLost 24 = .ok (.iconst (-1), 1) := by decide +kernel
theorem dX11_isLost_25 : decode cX11_isLost 25 = .ok (.goto 11, 3) := by decide +kernel
theorem dX11_isLost_28 : decode cX11_isLost 28 = .ok (.aload_n 0, 1) := by decide +kernel
theorem dX11_isLost_29 : decode cX11_isLost 29 = .ok (.getfield 122, 3) := by decide +kernel
theorem dX11_isLost_32 : decode cX11_isLost 32 = .ok (.iload_n 2, 1) := by decide +kernel
theorem dX11_isLost_33 : decode cX11_isLost 33 = .ok (.iconst 1, 1) := by decide +kernel
theorem dX11_isLost_34 : decode cX11_isLost 34 = .ok (.isub, 1) := by decide +kernel
theorem dX11_isLost_35 : decode cX11_isLost 35 = .ok (.iaload, 1) := by decide +kernel
theorem dX11_isLost_36 : decode cX11_isLost 36 = .ok (.isub, 1) := by decide +kernel
theorem dX11_isLost_37 : decode cX11_isLost 37 = .ok (.iconst 1, 1) := by decide +kernel
theorem dX11_isLost_38 : decode cX11_isLost 38 = .ok (.isub, 1) := by decide +kernel
theorem dX11_isLost_39 : decode cX11_isLost 39 = .ok (.ixor, 1) := by decide +kernel
theorem dX11_isLost_40 : decode cX11_isLost 40 = .ok (.istore_n 1, 1) := by decide +kernel
theorem dX11_isLost_41 : decode cX11_isLost 41 = .ok (.iload_n 2, 1) := by decide +kernel
theorem dX11_isLost_42 : decode cX11_isLost 42 = .ok (.iconst 2, 1) := by decide +kernel
theorem dX11_isLost_43 : decode cX11_isLost 43 = .ok (.isub, 1) := by decide +kernel
theorem dX11_isLost_44 : decode cX11_isLost 44 = .ok (.istore_n 2, 1) := by decide +kernel
theorem dX11_isLost_45 : decode cX11_isLost 45 = .ok (.goto (-36), 3) := by decide +kernel
theorem dX11_isLost_48 : decode cX11_isLost 48 = .ok (.iload_n 1, 1) := by decide +kernel
theorem dX11_isLost_49 : decode cX11_isLost 49 = .ok (.ifCond .ne 7, 3) := by decide +kernel
theorem dX11_isLost_52 : decode cX11_isLost 52 = .ok (.iconst 1, 1) := by decide +kernel
theorem dX11_isLost_53 : decode cX11_isLost 53 = .ok (.goto 4, 3) := by decide +kernel
theorem dX11_isLost_56 : decode cX11_isLost 56 = .ok (.iconst 0, 1) := by decide +kernel
theorem dX11_isLost_57 : decode cX11_isLost 57 = .ok (.ireturn, 1) := by decide +kernel
def f_X11_isLost_36  (k9 : Int32 × Int32 × zHp → Option (Int32 × zHp)) (v2 : Int32) (s0 : Int32) (s1 : Int32) (s2 : Int32) (h : zHp) : Option (Int32 × zHp) := zlt (s2 ^^^ ((s1 - s0) - (1 : Int32))) fun x1 => zlt (v2 - (2 : Int32)) fun x2 => k9 (x1, x2, h)
set_option maxHeartbeats 4000000 in
set_option maxRecDepth 100000 in
theorem f_X11_isLost_36_s  (k9 : Int32 × Int32 × zHp → Option (Int32 × zHp)) (H9 : ∀ v : Int32 × Int32 × zHp, Sim wM mX11_isLost 0 rI 9 [(0, .ref 0), (1, .int v.1), (2, .int v.2.1)] [] v.2.2 (k9 v)) (v2 : Int32) (s0 : Int32) (s1 : Int32) (s2 : Int32) (h : zHp) : Sim wM mX11_isLost 0 rI 36 [(0, .ref 0), (2, .int v2)] [.int s0, .int s1, .int s2] h (f_X11_isLost_36 k9 v2 s0 s1 s2 h) := by
  unfold f_X11_isLost_36
  refine Sim.isub dX11_isLost_36 ?_
  refine Sim.iconst (v := (1 : Int32)) dX11_isLost_37 rfl ?_
  refine Sim.isub dX11_isLost_38 ?_
  refine Sim.ixor dX11_isLost_39 ?_
  refine Sim.lti (fun x1 => ?_)
  refine Sim.istore_n (L' := [(1, .int x1), (0, .ref 0), (2, .int v2)]) dX11_isLost_40 (Nat.le_of_ble_eq_true rfl) rfl ?_
  refine Sim.iload_n 2 dX11_isLost_41 rfl ?_
  refine Sim.iconst (v := (2 : Int32)) dX11_isLost_42 rfl ?_
  refine Sim.isub dX11_isLost_43 ?_
  refine Sim.lti (fun x2 => ?_)
  refine Sim.istore_n (L' := [(2, .int x2), (1, .int x1), (0, .ref 0)]) dX11_isLost_44 (Nat.le_of_ble_eq_true rfl) rfl ?_
  refine Sim.goto 9 dX11_isLost_45 rfl ?_
  refine Sim.locs [2, 1, 0] rfl ?_
  exact H9 (x1, x2, h)
def f_X11_isLost_9  (k9 : Int32 × Int32 × zHp → Option (Int32 × zHp)) (v1 : Int32) (v2 : Int32) (h : zHp) : Option (Int32 × zHp) := (if v2 < 0 then (if v1 = 0 then some ((1 : Int32), h) else some ((0 : Int32), h)) else zix v2 6 ((if v2 = 0 then f_X11_isLost_36 k9 v2 (-1 : Int32) (h 37 v2.toNatClampNeg) v1 h else zix (v2 - (1 : Int32)) 6 (f_X11_isLost_36 k9 v2 (h 37 (v2 - (1 : Int32)).toNatClampNeg) (h 37 v2.toNatClampNeg) v1 h))))
set_option maxHeartbeats 4000000 in
set_option maxRecDepth 100000 in
theorem f_X11_isLost_9_s  (k9 : Int32 × Int32 × zHp → Option (Int32 × zHp)) (H9 : ∀ v : Int32 × Int32 × zHp, Sim wM mX11_isLost 0 rI 9 [(0, .ref 0), (1, .int v.1), (2, .int v.2.1)] [] v.2.2 (k9 v)) (v1 : Int32) (v2 : Int32) (h : zHp) : Sim wM mX11_isLost 0 rI 9 [(0, .ref 0), (1, .int v1), (2, .int v2)] [] h (f_X11_isLost_9 k9 v1 v2 h) := by
  unfold f_X11_isLost_9
  refine Sim.iload_n 2 dX11_isLost_9 rfl ?_
  refine Sim.if_lt 48 dX11_isLost_10 rfl ?_ ?_
  · refine Sim.iload_n 1 dX11_isLost_48 rfl ?_
    refine Sim.if_ne 56 dX11_isLost_49 rfl ?_ ?_
    · refine Sim.iconst (v := (1 : Int32)) dX11_isLost_52 rfl ?_
      refine Sim.goto 57 dX11_isLost_53 rfl ?_
      exact Sim.nret dX11_isLost_57 rfl rfl
    · refine Sim.iconst (v := (0 : Int32)) dX11_isLost_56 rfl ?_
      exact Sim.nret dX11_isLost_57 rfl rfl
  · refine Sim.iload_n 1 dX11_isLost_13 rfl ?_
    refine Sim.aload_n 0 dX11_isLost_14 rfl ?_
    refine Sim.getR (j := 37) fl_X11_122 dX11_isLost_15 mR_64 ?_
    refine Sim.iload_n 2 dX11_isLost_18 rfl ?_
    refine Sim.iald (n := 6) dX11_isLost_19 mA_37 ?_
    refine Sim.iload_n 2 dX11_isLost_20 rfl ?_
    refine Sim.if_ne 28 dX11_isLost_21 rfl ?_ ?_
    · refine Sim.iconst (v := (-1 : Int32)) dX11_isLost_24 rfl ?_
      refine Sim.goto 36 dX11_isLost_25 rfl ?_
      refine Sim.locs [0, 2] rfl ?_
      exact f_X11_isLost_36_s k9 H9 v2 (-1 : Int32) (h 37 v2.toNatClampNeg) v1 h
    · refine Sim.aload_n 0 dX11_isLost_28 rfl ?_
      refine Sim.getR (j := 37) fl_X11_122 dX11_isLost_29 mR_64 ?_
      refine Sim.iload_n 2 dX11_isLost_32 rfl ?_
      refine Sim.iconst (v := (1 : Int32)) dX11_isLost_33 rfl ?_
      refine Sim.isub dX11_isLost_34 ?_
      refine Sim.iald (n := 6) dX11_isLost_35 mA_37 ?_
      refine Sim.locs [0, 2] rfl ?_
      exact f_X11_isLost_36_s k9 H9 v2 (h 37 (v2 - (1 : Int32)).toNatClampNeg) (h 37 v2.toNatClampNeg) v1 h
def f_X11_isLost_9_lp   (n : Nat) (v : Int32 × Int32 × zHp) : Option (Int32 × zHp) := zlp (fun k9 v => f_X11_isLost_9 k9 v.1 v.2.1 v.2.2) n v
theorem f_X11_isLost_9_ls  (n : Nat) (v : Int32 × Int32 × zHp) : Sim wM mX11_isLost 0 rI 9 [(0, .ref 0), (1, .int v.1), (2, .int v.2.1)] [] v.2.2 (f_X11_isLost_9_lp n v) :=
  Sim.lp (V := Int32 × Int32 × zHp) (Lf := fun v => [(0, .ref 0), (1, .int v.1), (2, .int v.2.1)]) (sf := fun v => []) (hf := fun v => v.2.2) (fun k9 H9 v => f_X11_isLost_9_s k9 H9 v.1 v.2.1 v.2.2) n v
def f_X11_isLost   (h : zHp) : Option (Int32 × zHp) := zlt ((h 0 62) - (1 : Int32)) fun x1 => f_X11_isLost_9_lp  zN ((0 : Int32), x1, h)
set_option maxHeartbeats 4000000 in
set_option maxRecDepth 100000 in
theorem s_X11_isLost   (h : zHp) : Fn wM mX11_isLost 0 rI [.ref 0] h (f_X11_isLost  h) := by
  refine Fn.of rfl (Nat.le_of_ble_eq_true rfl) ?_
  unfold f_X11_isLost
  refine Sim.iconst (v := (0 : Int32)) dX11_isLost_0 rfl ?_
  refine Sim.istore_n (L' := [(1, .int (0 : Int32)), (0, .ref 0)]) dX11_isLost_1 (Nat.le_of_ble_eq_true rfl) rfl ?_
  refine Sim.aload_n 1 dX11_isLost_2 rfl ?_
  refine Sim.getI fl_X11_496 dX11_isLost_3 mI_62 ?_
  refine Sim.iconst (v := (1 : Int32)) dX11_isLost_6 rfl ?_
  refine Sim.isub dX11_isLost_7 ?_
  refine Sim.lti (fun x1 => ?_)
  refine Sim.istore_n (L' := [(2, .int x1), (1, .int (0 : Int32)), (0, .ref 0)]) dX11_isLost_8 (Nat.le_of_ble_eq_true rfl) rfl ?_
  refine Sim.locs [2, 1, 0] rfl ?_
  exact f_X11_isLost_9_ls  zN ((0 : Int32), x1, h)
theorem mv_X11_isLost : zMV mX11_isLost 0 := ⟨⟨zTb_in 2017 (by decide +kernel) rfl, zTb_in 148 (by decide +kernel) rfl, ⟨by decide +kernel, by decide +kernel⟩, by decide +kernel⟩, zTb_in 2016 (by decide +kernel) rfl, zTb_in 131 (by decide +kernel) rfl⟩
-- ===== RockingPorchModel.slide()I
abbrev mX11_slide : zMt := (yX11_slide, cX11_slide, 6, some .int)
theorem ml_X11_502 : Cond.methodLink RX11 502 yX11_isLost ∈ zTb := zTb_in 2014 (by decide +kernel) rfl
theorem dX11_slide_0 : decode cX11_slide 0 = .ok (.aload_n 0, 1) := by decide +kernel
theorem dX11_slide_1 : decode cX11_slide 1 = .ok (.iconst 0, 1) := by decide +kernel
theorem dX11_slide_2 : decode cX11_slide 2 = .ok (.putfield 128, 3) := by decide +kernel
theorem dX11_slide_5 : decode cX11_slide 5 = .ok (.iconst 0, 1) := by decide +kernel
theorem dX11_slide_6 : decode cX11_slide 6 = .ok (.istore_n 1, 1) := by decide +kernel
theorem dX11_slide_7 : decode cX11_slide 7 = .ok (.iconst 0, 1) := by decide +kernel
theorem dX11_slide_8 : decode cX11_slide 8 = .ok (.istore_n 2, 1) := by decide +kernel
theorem dX11_slide_9 : decode cX11_slide 9 = .ok (.iload_n 2, 1) := by decide +kernel
theorem dX11_slide_10 : decode cX11_slide 10 = .ok (.bipush 40, 2) := by decide +kernel
theorem dX11_slide_12 : decode cX11_slide 12 = .ok (.if_icmp .gt 31, 3) := by decide +kernel
theorem dX11_slide_15 : decode cX11_slide 15 = .ok (.aload_n 0, 1) := by decide +kernel
theorem dX11_slide_16 : decode cX11_slide 16 = .ok (.iload_n 2, 1) := by decide +kernel
theorem dX11_slide_17 : decode cX11_slide 17 = .ok (.invokevirtual 499, 3) := by decide +kernel
theorem dX11_slide_20 : decode cX11_slide 20 = .ok (.ifCond .ne 6, 3) := by decide +kernel
theorem dX11_slide_23 : decode cX11_slide 23 = .ok (.goto 14, 3) := by decide +kernel
theorem dX11_slide_26 : decode cX11_slide 26 = .ok (.aload_n 0, 1) := by decide +kernel
theorem dX11_slide_27 : decode cX11_slide 27 = .ok (.getfield 122, 3) := by decide +kernel
theorem dX11_slide_30 : decode cX11_slide 30 = .ok (.iload_n 1, 1) := by decide +kernel
theorem dX11_slide_31 : decode cX11_slide 31 = .ok (.iload_n 2, 1) := by decide +kernel
theorem dX11_slide_32 : decode cX11_slide 32 = .ok (.iastore, 1) := by decide +kernel
theorem dX11_slide_33 : decode cX11_slide 33 = .ok (.iload_n 1, 1) := by decide +kernel
theorem dX11_slide_34 : decode cX11_slide 34 = .ok (.iconst 1, 1) := by decide +kernel
theorem dX11_slide_35 : decode cX11_slide 35 = .ok (.iadd, 1) := by decide +kernel
theorem dX11_slide_36 : decode cX11_slide 36 = .ok (.istore_n 1, 1) := by decide +kernel
theorem dX11_slide_37 : decode cX11_slide 37 = .ok (.iinc 2 1, 3) := by decide +kernel
theorem dX11_slide_40 : decode cX11_slide 40 = .ok (.goto (-31), 3) := by decide +kernel
theorem dX11_slide_43 : decode cX11_slide 43 = .ok (.iconst 0, 1) := by decide +kernel
theorem dX11_slide_44 : decode cX11_slide 44 = .ok (.istore_n 2, 1) := by decide +kernel
theorem dX11_slide_45 : decode cX11_slide 45 = .ok (.iload_n 2, 1) := by decide +kernel
theorem dX11_slide_46 : decode cX11_slide 46 = .ok (.aload_n 0, 1) := by decide +kernel
theorem dX11_slide_47 : decode cX11_slide 47 = .ok (.getfield 496, 3) := by decide +kernel
theorem dX11_slide_50 : decode cX11_slide 50 = .ok (.if_icmp .ge 86, 3) := by decide +kernel
theorem dX11_slide_53 : decode cX11_slide 53 = .ok (.aload_n 0, 1) := by decide +kernel
theorem dX11_slide_54 : decode cX11_slide 54 = .ok (.getfield 122, 3) := by decide +kernel
theorem dX11_slide_57 : decode cX11_slide 57 = .ok (.iload_n 2, 1) := by decide +kernel
theorem dX11_slide_58 : decode cX11_slide 58 = .ok (.iaload, 1) := by decide +kernel
theorem dX11_slide_59 : decode cX11_slide 59 = .ok (.istore_n 3, 1) := by decide +kernel
theorem dX11_slide_60 : decode cX11_slide 60 = .ok (.iload_n 3, 1) := by decide +kernel
theorem dX11_slide_61 : decode cX11_slide 61 = .ok (.iload_n 2, 1) := by decide +kernel
theorem dX11_slide_62 : decode cX11_slide 62 = .ok (.ifCond .ne 7, 3) := by decide +kernel
theorem dX11_slide_65 : decode cX11_slide 65 = .ok (.iconst 0, 1) := by decide +kernel
theorem dX11_slide_66 : decode cX11_slide 66 = .ok (.goto 13, 3) := by decide +kernel
theorem dX11_slide_69 : decode cX11_slide 69 = .ok (.aload_n 0, 1) := by decide +kernel
theorem dX11_slide_70 : decode cX11_slide 70 = .ok (.getfield 122, 3) := by decide +kernel
theorem dX11_slide_73 : decode cX11_slide 73 = .ok (.iload_n 2, 1) := by decide +kernel
theorem dX11_slide_74 : decode cX11_slide 74 = .ok (.iconst 1, 1) := by decide +kernel
theorem dX11_slide_75 : decode cX11_slide 75 = .ok (.isub, 1) := by decide +kernel
theorem dX11_slide_76 : decode cX11_slide 76 = .ok (.iaload, 1) := by decide +kernel
theorem dX11_slide_77 : decode cX11_slide 77 = .ok (.iconst 1, 1) := by decide +kernel
theorem dX11_slide_78 : decode cX11_slide 78 = .ok (.iadd, 1) := by decide +kernel
theorem dX11_slide_79 : decode cX11_slide 79 = .ok (.isub, 1) := by decide +kernel
theorem dX11_slide_80 : decode cX11_slide 80 = .ok (.istore 4, 2) := by decide +kernel
theorem dX11_slide_82 : decode cX11_slide 82 = .ok (.iconst 1, 1) := by decide +kernel
theorem dX11_slide_83 : decode cX11_slide 83 = .ok (.istore 5, 2) := by decide +kernel
theorem dX11_slide_85 : decode cX11_slide 85 = .ok (.iload 5, 2) := by decide +kernel
theorem dX11_slide_87 : decode cX11_slide 87 = .ok (.iload 4, 2) := by decide +kernel
theorem dX11_slide_89 : decode cX11_slide 89 = .ok (.if_icmp .gt 34, 3) := by decide +kernel
theorem dX11_slide_92 : decode cX11_slide 92 = .ok (.aload_n 0, 1) := by decide +kernel
theorem dX11_slide_93 : decode cX11_slide 93 = .ok (.getfield 122, 3) := by decide +kernel
theorem dX11_slide_96 : decode cX11_slide 96 = .ok (.iload_n 2, 1) := by decide +kernel
theorem dX11_slide_97 : decode cX11_slide 97 = .ok (.iload_n 3, 1) := by decide +kernel
theorem dX11_slide_98 : decode cX11_slide 98 = .ok (.iload 5, 2) := by decide +kernel
theorem dX11_slide_100 : decode cX11_slide 100 = .ok (.isub, 1) := by decide +kernel
theorem dX11_slide_101 : decode cX11_slide 101 = .ok (.iastore, 1) := by decide +kernel
theorem dX11_slide_102 : decode cX11_slide 102 = .ok (.aload_n 0, 1) := by decide +kernel
theorem dX11_slide_103 : decode cX11_slide 103 = .ok (.invokevirtual 502, 3) := by decide +kernel
theorem dX11_slide_106 : decode cX11_slide 106 = .ok (.ifCond .eq 11, 3) := by decide +kernel
theorem dX11_slide_109 : decode cX11_slide 109 = .ok (.bipush 100, 2) := by decide +kernel
theorem dX11_slide_111 : decode cX11_slide 111 = .ok (.iload_n 3, 1) := by decide +kernel
theorem dX11_slide_112 : decode cX11_slide 112 = .ok (.imul, 1) := by decide +kernel
theorem dX11_slide_113 : decode cX11_slide 113 = .ok (.iload 5, 2) := by decide +kernel
theorem dX11_slide_115 : decode cX11_slide 115 = .ok (.iadd, 1) := by decide +kernel
theorem dX11_slide_116 : decode cX11_slide 116 = .ok (.ireturn, 1) := by decide +kernel
theorem dX11_slide_117 : decode cX11_slide 117 = .ok (.iinc 5 1, 3) := by decide +kernel
theorem dX11_slide_120 : decode cX11_slide 120 = .ok (.goto (-35), 3) := by decide +kernel
theorem dX11_slide_123 : decode cX11_slide 123 = .ok (.aload_n 0, 1) := by decide +kernel
theorem dX11_slide_124 : decode cX11_slide 124 = .ok (.getfield 122, 3) := by decide +kernel
theorem dX11_slide_127 : decode cX11_slide 127 = .ok (.iload_n 2, 1) := by decide +kernel
theorem dX11_slide_128 : decode cX11_slide 128 = .ok (.iload_n 3, 1) := by decide +kernel
theorem dX11_slide_129 : decode cX11_slide 129 = .ok (.iastore, 1) := by decide +kernel
theorem dX11_slide_130 : decode cX11_slide 130 = .ok (.iinc 2 1, 3) := by decide +kernel
theorem dX11_slide_133 : decode cX11_slide 133 = .ok (.goto (-88), 3) := by decide +kernel
theorem dX11_slide_136 : decode cX11_slide 136 = .ok (.iconst (-1), 1) := by decide +kernel
theorem dX11_slide_137 : decode cX11_slide 137 = .ok (.ireturn, 1) := by decide +kernel
def f_X11_slide_85  (k45 : Int32 × zHp → Option (Int32 × zHp)) (k85 : Int32 × Int32 × Int32 × Int32 × zHp → Option (Int32 × zHp)) (v2 : Int32) (v3 : Int32) (v4 : Int32) (v5 : Int32) (h : zHp) : Option (Int32 × zHp) := (if v4 < v5 then zix v2 6 (zlt (zst h 37 v2.toNatClampNeg v3) fun h1 => k45 ((v2 + (1 : Int32)), h1)) else zix v2 6 (zlt (zst h 37 v2.toNatClampNeg (v3 - v5)) fun h2 => (f_X11_isLost h2).bind fun x3 => (if x3.1 = 0 then k85 (v2, v3, v4, (v5 + (1 : Int32)), x3.2) else some ((((100 : Int32) * v3) + v5), x3.2))))
set_option maxHeartbeats 4000000 in
set_option maxRecDepth 100000 in
theorem f_X11_slide_85_s  (k45 : Int32 × zHp → Option (Int32 × zHp)) (H45 : ∀ v : Int32 × zHp, Sim wM mX11_slide 1 rI 45 [(0, .ref 0), (2, .int v.1)] [] v.2 (k45 v)) (k85 : Int32 × Int32 × Int32 × Int32 × zHp → Option (Int32 × zHp)) (H85 : ∀ v : Int32 × Int32 × Int32 × Int32 × zHp, Sim wM mX11_slide 1 rI 85 [(0, .ref 0), (2, .int v.1), (3, .int v.2.1), (4, .int v.2.2.1), (5, .int v.2.2.2.1)] [] v.2.2.2.2 (k85 v)) (v2 : Int32) (v3 : Int32) (v4 : Int32) (v5 : Int32) (h : zHp) : Sim wM mX11_slide 1 rI 85 [(0, .ref 0), (2, .int v2), (3, .int v3), (4, .int v4), (5, .int v5)] [] h (f_X11_slide_85 k45 k85 v2 v3 v4 v5 h) := by
  unfold f_X11_slide_85
  refine Sim.iload 4 dX11_slide_85 rfl ?_
  refine Sim.iload 3 dX11_slide_87 rfl ?_
  refine Sim.icmp_gt 123 dX11_slide_89 rfl ?_ ?_
  · refine Sim.aload_n 0 dX11_slide_123 rfl ?_
    refine Sim.getR (j := 37) fl_X11_122 dX11_slide_124 mR_64 ?_
    refine Sim.iload_n 1 dX11_slide_127 rfl ?_
    refine Sim.iload_n 2 dX11_slide_128 rfl ?_
    refine Sim.iast (n := 6) dX11_slide_129 mA_37 ?_
    refine Sim.lth (fun h1 => ?_)
    refine Sim.iinc (L' := [(2, .int (v2 + (1 : Int32))), (0, .ref 0), (3, .int v3), (4, .int v4), (5, .int v5)]) 1 dX11_slide_130 rfl rfl (Nat.le_of_ble_eq_true rfl) rfl ?_
    refine Sim.goto 45 dX11_slide_133 rfl ?_
    refine Sim.locs [1, 0] rfl ?_
    exact H45 ((v2 + (1 : Int32)), h1)
  · refine Sim.aload_n 0 dX11_slide_92 rfl ?_
    refine Sim.getR (j := 37) fl_X11_122 dX11_slide_93 mR_64 ?_
    refine Sim.iload_n 1 dX11_slide_96 rfl ?_
    refine Sim.iload_n 2 dX11_slide_97 rfl ?_
    refine Sim.iload 4 dX11_slide_98 rfl ?_
    refine Sim.isub dX11_slide_100 ?_
    refine Sim.iast (n := 6) dX11_slide_101 mA_37 ?_
    refine Sim.lth (fun h2 => ?_)
    refine Sim.aload_n 0 dX11_slide_102 rfl ?_
    refine Sim.callV0I (d1 := 0) (s_X11_isLost h2) dX11_slide_103 ml_X11_502 mv_X11_isLost mC (Nat.le_of_ble_eq_true rfl) (Nat.le_of_ble_eq_true rfl) (Nat.le_of_ble_eq_true rfl) (fun x3 => ?_)
    refine Sim.if_eq 117 dX11_slide_106 rfl ?_ ?_
    · refine Sim.iinc (L' := [(5, .int (v5 + (1 : Int32))), (0, .ref 0), (2, .int v2), (3, .int v3), (4, .int v4)]) 4 dX11_slide_117 rfl rfl (Nat.le_of_ble_eq_true rfl) rfl ?_
      refine Sim.goto 85 dX11_slide_120 rfl ?_
      refine Sim.locs [1, 2, 3, 4, 0] rfl ?_
      exact H85 (v2, v3, v4, (v5 + (1 : Int32)), x3.2)
    · refine Sim.bipush (v := (100 : Int32)) dX11_slide_109 rfl ?_
      refine Sim.iload_n 2 dX11_slide_111 rfl ?_
      refine Sim.imul dX11_slide_112 ?_
      refine Sim.iload 4 dX11_slide_113 rfl ?_
      refine Sim.iadd dX11_slide_115 ?_
      exact Sim.iret dX11_slide_116 rfl
def f_X11_slide_85_lp  (k45 : Int32 × zHp → Option (Int32 × zHp)) (n : Nat) (v : Int32 × Int32 × Int32 × Int32 × zHp) : Option (Int32 × zHp) := zlp (fun k85 v => f_X11_slide_85 k45 k85 v.1 v.2.1 v.2.2.1 v.2.2.2.1 v.2.2.2.2) n v
theorem f_X11_slide_85_ls  (k45 : Int32 × zHp → Option (Int32 × zHp)) (H45 : ∀ v : Int32 × zHp, Sim wM mX11_slide 1 rI 45 [(0, .ref 0), (2, .int v.1)] [] v.2 (k45 v)) (n : Nat) (v : Int32 × Int32 × Int32 × Int32 × zHp) : Sim wM mX11_slide 1 rI 85 [(0, .ref 0), (2, .int v.1), (3, .int v.2.1), (4, .int v.2.2.1), (5, .int v.2.2.2.1)] [] v.2.2.2.2 (f_X11_slide_85_lp k45 n v) :=
  Sim.lp (V := Int32 × Int32 × Int32 × Int32 × zHp) (Lf := fun v => [(0, .ref 0), (2, .int v.1), (3, .int v.2.1), (4, .int v.2.2.1), (5, .int v.2.2.2.1)]) (sf := fun v => []) (hf := fun v => v.2.2.2.2) (fun k85 H85 v => f_X11_slide_85_s k45 H45 k85 H85 v.1 v.2.1 v.2.2.1 v.2.2.2.1 v.2.2.2.2) n v
def f_X11_slide_45  (k45 : Int32 × zHp → Option (Int32 × zHp)) (v2 : Int32) (h : zHp) : Option (Int32 × zHp) := (if v2 < (h 0 62) then zix v2 6 (zlt (h 37 v2.toNatClampNeg) fun x1 => (if v2 = 0 then zlt (x1 - (0 : Int32)) fun x2 => f_X11_slide_85_lp k45 zN (v2, x1, x2, (1 : Int32), h) else zix (v2 - (1 : Int32)) 6 (zlt (x1 - ((h 37 (v2 - (1 : Int32)).toNatClampNeg) + (1 : Int32))) fun x3 => f_X11_slide_85_lp k45 zN (v2, x1, x3, (1 : Int32), h)))) else some ((-1 : Int32), h))
set_option maxHeartbeats 4000000 in
set_option maxRecDepth 100000 in
theorem f_X11_slide_45_s  (k45 : Int32 × zHp → Option (Int32 × zHp)) (H45 : ∀ v : Int32 × zHp, Sim wM mX11_slide 1 rI 45 [(0, .ref 0), (2, .int v.1)] [] v.2 (k45 v)) (v2 : Int32) (h : zHp) : Sim wM mX11_slide 1 rI 45 [(0, .ref 0), (2, .int v2)] [] h (f_X11_slide_45 k45 v2 h) := by
  unfold f_X11_slide_45
  refine Sim.iload_n 1 dX11_slide_45 rfl ?_
  refine Sim.aload_n 0 dX11_slide_46 rfl ?_
  refine Sim.getI fl_X11_496 dX11_slide_47 mI_62 ?_
  refine Sim.icmp_ge 136 dX11_slide_50 rfl ?_ ?_
  · refine Sim.aload_n 0 dX11_slide_53 rfl ?_
    refine Sim.getR (j := 37) fl_X11_122 dX11_slide_54 mR_64 ?_
    refine Sim.iload_n 1 dX11_slide_57 rfl ?_
    refine Sim.iald (n := 6) dX11_slide_58 mA_37 ?_
    refine Sim.lti (fun x1 => ?_)
    refine Sim.istore_n (L' := [(3, .int x1), (0, .ref 0), (2, .int v2)]) dX11_slide_59 (Nat.le_of_ble_eq_true rfl) rfl ?_
    refine Sim.iload_n 0 dX11_slide_60 rfl ?_
    refine Sim.iload_n 2 dX11_slide_61 rfl ?_
    refine Sim.if_ne 69 dX11_slide_62 rfl ?_ ?_
    · refine Sim.iconst (v := (0 : Int32)) dX11_slide_65 rfl ?_
      refine Sim.goto 79 dX11_slide_66 rfl ?_
      refine Sim.isub dX11_slide_79 ?_
      refine Sim.lti (fun x2 => ?_)
      refine Sim.istore (L' := [(4, .int x2), (3, .int x1), (0, .ref 0), (2, .int v2)]) dX11_slide_80 (Nat.le_of_ble_eq_true rfl) rfl ?_
      refine Sim.iconst (v := (1 : Int32)) dX11_slide_82 rfl ?_
      refine Sim.istore (L' := [(5, .int (1 : Int32)), (4, .int x2), (3, .int x1), (0, .ref 0), (2, .int v2)]) dX11_slide_83 (Nat.le_of_ble_eq_true rfl) rfl ?_
      refine Sim.locs [3, 4, 2, 1, 0] rfl ?_
      exact f_X11_slide_85_ls k45 H45 zN (v2, x1, x2, (1 : Int32), h)
    · refine Sim.aload_n 1 dX11_slide_69 rfl ?_
      refine Sim.getR (j := 37) fl_X11_122 dX11_slide_70 mR_64 ?_
      refine Sim.iload_n 2 dX11_slide_73 rfl ?_
      refine Sim.iconst (v := (1 : Int32)) dX11_slide_74 rfl ?_
      refine Sim.isub dX11_slide_75 ?_
      refine Sim.iald (n := 6) dX11_slide_76 mA_37 ?_
      refine Sim.iconst (v := (1 : Int32)) dX11_slide_77 rfl ?_
      refine Sim.iadd dX11_slide_78 ?_
      refine Sim.isub dX11_slide_79 ?_
      refine Sim.lti (fun x3 => ?_)
      refine Sim.istore (L' := [(4, .int x3), (3, .int x1), (0, .ref 0), (2, .int v2)]) dX11_slide_80 (Nat.le_of_ble_eq_true rfl) rfl ?_
      refine Sim.iconst (v := (1 : Int32)) dX11_slide_82 rfl ?_
      refine Sim.istore (L' := [(5, .int (1 : Int32)), (4, .int x3), (3, .int x1), (0, .ref 0), (2, .int v2)]) dX11_slide_83 (Nat.le_of_ble_eq_true rfl) rfl ?_
      refine Sim.locs [3, 4, 2, 1, 0] rfl ?_
      exact f_X11_slide_85_ls k45 H45 zN (v2, x1, x3, (1 : Int32), h)
  · refine Sim.iconst (v := (-1 : Int32)) dX11_slide_136 rfl ?_
    exact Sim.iret dX11_slide_137 rfl
def f_X11_slide_45_lp   (n : Nat) (v : Int32 × zHp) : Option (Int32 × zHp) := zlp (fun k45 v => f_X11_slide_45 k45 v.1 v.2) n v
theorem f_X11_slide_45_ls  (n : Nat) (v : Int32 × zHp) : Sim wM mX11_slide 1 rI 45 [(0, .ref 0), (2, .int v.1)] [] v.2 (f_X11_slide_45_lp n v) :=
  Sim.lp (V := Int32 × zHp) (Lf := fun v => [(0, .ref 0), (2, .int v.1)]) (sf := fun v => []) (hf := fun v => v.2) (fun k45 H45 v => f_X11_slide_45_s k45 H45 v.1 v.2) n v
def f_X11_slide_9  (k9 : Int32 × Int32 × zHp → Option (Int32 × zHp)) (v1 : Int32) (v2 : Int32) (h : zHp) : Option (Int32 × zHp) := (if (40 : Int32) < v2 then f_X11_slide_45_lp  zN ((0 : Int32), h) else (f_X11_isCoin v2 h).bind fun x1 => (if x1.1 = 0 then k9 (v1, (v2 + (1 : Int32)), x1.2) else zix v1 6 (zlt (zst x1.2 37 v1.toNatClampNeg v2) fun h2 => zlt (v1 + (1 : Int32)) fun x3 => k9 (x3, (v2 + (1 : Int32)), h2))))
set_option maxHeartbeats 4000000 in
set_option maxRecDepth 100000 in
theorem f_X11_slide_9_s  (k9 : Int32 × Int32 × zHp → Option (Int32 × zHp)) (H9 : ∀ v : Int32 × Int32 × zHp, Sim wM mX11_slide 1 rI 9 [(0, .ref 0), (1, .int v.1), (2, .int v.2.1)] [] v.2.2 (k9 v)) (v1 : Int32) (v2 : Int32) (h : zHp) : Sim wM mX11_slide 1 rI 9 [(0, .ref 0), (1, .int v1), (2, .int v2)] [] h (f_X11_slide_9 k9 v1 v2 h) := by
  unfold f_X11_slide_9
  refine Sim.iload_n 2 dX11_slide_9 rfl ?_
  refine Sim.bipush (v := (40 : Int32)) dX11_slide_10 rfl ?_
  refine Sim.icmp_gt 43 dX11_slide_12 rfl ?_ ?_
  · refine Sim.iconst (v := (0 : Int32)) dX11_slide_43 rfl ?_
    refine Sim.istore_n (L' := [(2, .int (0 : Int32)), (0, .ref 0), (1, .int v1)]) dX11_slide_44 (Nat.le_of_ble_eq_true rfl) rfl ?_
    refine Sim.locs [1, 0] rfl ?_
    exact f_X11_slide_45_ls  zN ((0 : Int32), h)
  · refine Sim.aload_n 0 dX11_slide_15 rfl ?_
    refine Sim.iload_n 2 dX11_slide_16 rfl ?_
    refine Sim.callV1I (d1 := 0) (s_X11_isCoin v2 h) dX11_slide_17 ml_X11_499 mv_X11_isCoin mC (Nat.le_of_ble_eq_true rfl) (Nat.le_of_ble_eq_true rfl) (Nat.le_of_ble_eq_true rfl) (fun x1 => ?_)
    refine Sim.if_ne 26 dX11_slide_20 rfl ?_ ?_
    · refine Sim.goto 37 dX11_slide_23 rfl ?_
      refine Sim.iinc (L' := [(2, .int (v2 + (1 : Int32))), (0, .ref 0), (1, .int v1)]) 2 dX11_slide_37 rfl rfl (Nat.le_of_ble_eq_true rfl) rfl ?_
      refine Sim.goto 9 dX11_slide_40 rfl ?_
      refine Sim.locs [1, 2, 0] rfl ?_
      exact H9 (v1, (v2 + (1 : Int32)), x1.2)
    · refine Sim.aload_n 0 dX11_slide_26 rfl ?_
      refine Sim.getR (j := 37) fl_X11_122 dX11_slide_27 mR_64 ?_
      refine Sim.iload_n 1 dX11_slide_30 rfl ?_
      refine Sim.iload_n 2 dX11_slide_31 rfl ?_
      refine Sim.iast (n := 6) dX11_slide_32 mA_37 ?_
      refine Sim.lth (fun h2 => ?_)
      refine Sim.iload_n 1 dX11_slide_33 rfl ?_
      refine Sim.iconst (v := (1 : Int32)) dX11_slide_34 rfl ?_
      refine Sim.iadd dX11_slide_35 ?_
      refine Sim.lti (fun x3 => ?_)
      refine Sim.istore_n (L' := [(1, .int x3), (0, .ref 0), (2, .int v2)]) dX11_slide_36 (Nat.le_of_ble_eq_true rfl) rfl ?_
      refine Sim.iinc (L' := [(2, .int (v2 + (1 : Int32))), (1, .int x3), (0, .ref 0)]) 2 dX11_slide_37 rfl rfl (Nat.le_of_ble_eq_true rfl) rfl ?_
      refine Sim.goto 9 dX11_slide_40 rfl ?_
      refine Sim.locs [2, 1, 0] rfl ?_
      exact H9 (x3, (v2 + (1 : Int32)), h2)
def f_X11_slide_9_lp   (n : Nat) (v : Int32 × Int32 × zHp) : Option (Int32 × zHp) := zlp (fun k9 v => f_X11_slide_9 k9 v.1 v.2.1 v.2.2) n v
theorem f_X11_slide_9_ls  (n : Nat) (v : Int32 × Int32 × zHp) : Sim wM mX11_slide 1 rI 9 [(0, .ref 0), (1, .int v.1), (2, .int v.2.1)] [] v.2.2 (f_X11_slide_9_lp n v) :=
  Sim.lp (V := Int32 × Int32 × zHp) (Lf := fun v => [(0, .ref 0), (1, .int v.1), (2, .int v.2.1)]) (sf := fun v => []) (hf := fun v => v.2.2) (fun k9 H9 v => f_X11_slide_9_s k9 H9 v.1 v.2.1 v.2.2) n v
def f_X11_slide   (h : zHp) : Option (Int32 × zHp) := zlt (zst h 0 0 (0 : Int32)) fun h1 => f_X11_slide_9_lp  zN ((0 : Int32), (0 : Int32), h1)
set_option maxHeartbeats 4000000 in
set_option maxRecDepth 100000 in
theorem s_X11_slide   (h : zHp) : Fn wM mX11_slide 1 rI [.ref 0] h (f_X11_slide  h) := by
  refine Fn.of rfl (Nat.le_of_ble_eq_true rfl) ?_
  unfold f_X11_slide
  refine Sim.aload_n 0 dX11_slide_0 rfl ?_
  refine Sim.iconst (v := (0 : Int32)) dX11_slide_1 rfl ?_
  refine Sim.put fp_X11_128 dX11_slide_2 mI_0 rfl rfl ?_
  refine Sim.lth (fun h1 => ?_)
  refine Sim.iconst (v := (0 : Int32)) dX11_slide_5 rfl ?_
  refine Sim.istore_n (L' := [(1, .int (0 : Int32)), (0, .ref 0)]) dX11_slide_6 (Nat.le_of_ble_eq_true rfl) rfl ?_
  refine Sim.iconst (v := (0 : Int32)) dX11_slide_7 rfl ?_
  refine Sim.istore_n (L' := [(2, .int (0 : Int32)), (1, .int (0 : Int32)), (0, .ref 0)]) dX11_slide_8 (Nat.le_of_ble_eq_true rfl) rfl ?_
  refine Sim.locs [2, 1, 0] rfl ?_
  exact f_X11_slide_9_ls  zN ((0 : Int32), (0 : Int32), h1)
theorem mv_X11_slide : zMV mX11_slide 0 := ⟨⟨zTb_in 2013 (by decide +kernel) rfl, zTb_in 148 (by decide +kernel) rfl, ⟨by decide +kernel, by decide +kernel⟩, by decide +kernel⟩, zTb_in 2011 (by decide +kernel) rfl, zTb_in 2012 (by decide +kernel) rfl⟩
-- ===== RockingPorchModel.keeps(I)I
abbrev mX11_keeps : zMt := (yX11_keeps, cX11_keeps, 2, some .int)
theorem fl_X11_125 : zF RX11 125 11 68 := ⟨RX11, TX11, 69, rfl, Nat.le_of_ble_eq_true rfl, zTb_in 1367 (by decide +kernel) rfl, in_X11⟩
theorem fl_X11_505 : zF RX11 505 11 67 := ⟨RX11, TX11, 69, rfl, Nat.le_of_ble_eq_true rfl, zTb_in 1366 (by decide +kernel) rfl, in_X11⟩
theorem fl_X11_508 : zF RX11 508 11 65 := ⟨RX11, TX11, 69, rfl, Nat.le_of_ble_eq_true rfl, zTb_in 1364 (by decide +kernel) rfl, in_X11⟩
theorem fp_X11_505 : zFp RX11 505 11 67 .int := ⟨RX11, TX11, 69, tyX11, rfl, Nat.le_of_ble_eq_true rfl, zTb_in 1366 (by decide +kernel) rfl, in_X11, tyX11_ok, nmX11, rfl, rfl⟩
theorem dX11_keeps_0 : decode cX11_keeps 0 = .ok (.aload_n 0, 1) := by decide +kernel
theorem dX11_keeps_1 : decode cX11_keeps 1 = .ok (.aload_n 0, 1) := by decide +kernel
theorem dX11_keeps_2 : decode cX11_keeps 2 = .ok (.getfield 505, 3) := by decide +kernel
theorem dX11_keeps_5 : decode cX11_keeps 5 = .ok (.iconst 1, 1) := by decide +kernel
theorem dX11_keeps_6 : decode cX11_keeps 6 = .ok (.iadd, 1) := by decide +kernel
theorem dX11_keeps_7 : decode cX11_keeps 7 = .ok (.putfield 505, 3) := by decide +kernel
theorem dX11_keeps_10 : decode cX11_keeps 10 = .ok (.aload_n 0, 1) := by decide +kernel
theorem dX11_keeps_11 : decode cX11_keeps 11 = .ok (.getfield 508, 3) := by decide +kernel
theorem dX11_keeps_14 : decode cX11_keeps 14 = .ok (.ifCond .ne 15, 3) := by decide +kernel
theorem dX11_keeps_17 : decode cX11_keeps 17 = .ok (.aload_n 0, 1) := by decide +kernel
theorem dX11_keeps_18 : decode cX11_keeps 18 = .ok (.getfield 125, 3) := by decide +kernel
theorem dX11_keeps_21 : decode cX11_keeps 21 = .ok (.aload_n 0, 1) := by decide +kernel
theorem dX11_keeps_22 : decode cX11_keeps 22 = .ok (.getfield 505, 3) := by decide +kernel
theorem dX11_keeps_25 : decode cX11_keeps 25 = .ok (.iconst 1, 1) := by decide +kernel
theorem dX11_keeps_26 : decode cX11_keeps 26 = .ok (.isub, 1) := by decide +kernel
theorem dX11_keeps_27 : decode cX11_keeps 27 = .ok (.iaload, 1) := by decide +kernel
theorem dX11_keeps_28 : decode cX11_keeps 28 = .ok (.ireturn, 1) := by decide +kernel
theorem dX11_keeps_29 : decode cX11_keeps 29 = .ok (.aload_n 0, 1) := by decide +kernel
theorem dX11_keeps_30 : decode cX11_keeps 30 = .ok (.getfield 125, 3) := by decide +kernel
theorem dX11_keeps_33 : decode cX11_keeps 33 = .ok (.aload_n 0, 1) := by decide +kernel
theorem dX11_keeps_34 : decode cX11_keeps 34 = .ok (.getfield 505, 3) := by decide +kernel
theorem dX11_keeps_37 : decode cX11_keeps 37 = .ok (.iconst 1, 1) := by decide +kernel
theorem dX11_keeps_38 : decode cX11_keeps 38 = .ok (.isub, 1) := by decide +kernel
theorem dX11_keeps_39 : decode cX11_keeps 39 = .ok (.iload_n 1, 1) := by decide +kernel
theorem dX11_keeps_40 : decode cX11_keeps 40 = .ok (.iastore, 1) := by decide +kernel
theorem dX11_keeps_41 : decode cX11_keeps 41 = .ok (.iload_n 1, 1) := by decide +kernel
theorem dX11_keeps_42 : decode cX11_keeps 42 = .ok (.ireturn, 1) := by decide +kernel
def f_X11_keeps  (a1 : Int32) (h : zHp) : Option (Int32 × zHp) := zlt (zst h 0 67 ((h 0 67) + (1 : Int32))) fun h1 => (if (h1 0 65) = 0 then zix ((h1 0 67) - (1 : Int32)) 2200 (some ((h1 38 ((h1 0 67) - (1 : Int32)).toNatClampNeg), h1)) else zix ((h1 0 67) - (1 : Int32)) 2200 (zlt (zst h1 38 ((h1 0 67) - (1 : Int32)).toNatClampNeg a1) fun h2 => some (a1, h2)))
set_option maxHeartbeats 4000000 in
set_option maxRecDepth 100000 in
theorem s_X11_keeps  (a1 : Int32) (h : zHp) : Fn wM mX11_keeps 0 rI [.ref 0, .int a1] h (f_X11_keeps a1 h) := by
  refine Fn.of rfl (Nat.le_of_ble_eq_true rfl) ?_
  unfold f_X11_keeps
  refine Sim.aload_n 0 dX11_keeps_0 rfl ?_
  refine Sim.aload_n 0 dX11_keeps_1 rfl ?_
  refine Sim.getI fl_X11_505 dX11_keeps_2 mI_67 ?_
  refine Sim.iconst (v := (1 : Int32)) dX11_keeps_5 rfl ?_
  refine Sim.iadd dX11_keeps_6 ?_
  refine Sim.put fp_X11_505 dX11_keeps_7 mI_67 rfl rfl ?_
  refine Sim.lth (fun h1 => ?_)
  refine Sim.aload_n 0 dX11_keeps_10 rfl ?_
  refine Sim.getI fl_X11_508 dX11_keeps_11 mI_65 ?_
  refine Sim.if_ne 29 dX11_keeps_14 rfl ?_ ?_
  · refine Sim.aload_n 0 dX11_keeps_17 rfl ?_
    refine Sim.getR (j := 38) fl_X11_125 dX11_keeps_18 mR_68 ?_
    refine Sim.aload_n 0 dX11_keeps_21 rfl ?_
    refine Sim.getI fl_X11_505 dX11_keeps_22 mI_67 ?_
    refine Sim.iconst (v := (1 : Int32)) dX11_keeps_25 rfl ?_
    refine Sim.isub dX11_keeps_26 ?_
    refine Sim.iald (n := 2200) dX11_keeps_27 mA_38 ?_
    exact Sim.iret dX11_keeps_28 rfl
  · refine Sim.aload_n 0 dX11_keeps_29 rfl ?_
    refine Sim.getR (j := 38) fl_X11_125 dX11_keeps_30 mR_68 ?_
    refine Sim.aload_n 0 dX11_keeps_33 rfl ?_
    refine Sim.getI fl_X11_505 dX11_keeps_34 mI_67 ?_
    refine Sim.iconst (v := (1 : Int32)) dX11_keeps_37 rfl ?_
    refine Sim.isub dX11_keeps_38 ?_
    refine Sim.iload_n 1 dX11_keeps_39 rfl ?_
    refine Sim.iast (n := 2200) dX11_keeps_40 mA_38 ?_
    refine Sim.lth (fun h2 => ?_)
    refine Sim.iload_n 1 dX11_keeps_41 rfl ?_
    exact Sim.iret dX11_keeps_42 rfl
theorem mv_X11_keeps : zMV mX11_keeps 1 := ⟨⟨zTb_in 2025 (by decide +kernel) rfl, zTb_in 148 (by decide +kernel) rfl, ⟨by decide +kernel, by decide +kernel⟩, by decide +kernel⟩, zTb_in 2024 (by decide +kernel) rfl, zTb_in 132 (by decide +kernel) rfl⟩
