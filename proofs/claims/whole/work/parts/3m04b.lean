-- ===== RockingPorchModel.keepsLaw()V
abbrev mX11_keepsLaw : zMt := (yX11_keepsLaw, cX11_keepsLaw, 2, none)
theorem ml_X11_511 : Cond.methodLink RX11 511 yX11_keeps ∈ zTb := zTb_in 2022 (by decide +kernel) rfl
theorem dX11_keepsLaw_0 : decode cX11_keepsLaw 0 = .ok (.aload_n 0, 1) := by decide +kernel
theorem dX11_keepsLaw_1 : decode cX11_keepsLaw 1 = .ok (.getfield 34, 3) := by decide +kernel
theorem dX11_keepsLaw_4 : decode cX11_keepsLaw 4 = .ok (.iconst 0, 1) := by decide +kernel
theorem dX11_keepsLaw_5 : decode cX11_keepsLaw 5 = .ok (.aload_n 0, 1) := by decide +kernel
theorem dX11_keepsLaw_6 : decode cX11_keepsLaw 6 = .ok (.aload_n 0, 1) := by decide +kernel
theorem dX11_keepsLaw_7 : decode cX11_keepsLaw 7 = .ok (.getfield 34, 3) := by decide +kernel
theorem dX11_keepsLaw_10 : decode cX11_keepsLaw 10 = .ok (.iconst 0, 1) := by decide +kernel
theorem dX11_keepsLaw_11 : decode cX11_keepsLaw 11 = .ok (.iaload, 1) := by decide +kernel
theorem dX11_keepsLaw_12 : decode cX11_keepsLaw 12 = .ok (.invokevirtual 511, 3) := by decide +kernel
theorem dX11_keepsLaw_15 : decode cX11_keepsLaw 15 = .ok (.iastore, 1) := by decide +kernel
theorem dX11_keepsLaw_16 : decode cX11_keepsLaw 16 = .ok (.iconst 0, 1) := by decide +kernel
theorem dX11_keepsLaw_17 : decode cX11_keepsLaw 17 = .ok (.istore_n 1, 1) := by decide +kernel
theorem dX11_keepsLaw_18 : decode cX11_keepsLaw 18 = .ok (.iload_n 1, 1) := by decide +kernel
theorem dX11_keepsLaw_19 : decode cX11_keepsLaw 19 = .ok (.bipush 16, 2) := by decide +kernel
theorem dX11_keepsLaw_21 : decode cX11_keepsLaw 21 = .ok (.if_icmp .ge 73, 3) := by decide +kernel
theorem dX11_keepsLaw_24 : decode cX11_keepsLaw 24 = .ok (.aload_n 0, 1) := by decide +kernel
theorem dX11_keepsLaw_25 : decode cX11_keepsLaw 25 = .ok (.getfield 37, 3) := by decide +kernel
theorem dX11_keepsLaw_28 : decode cX11_keepsLaw 28 = .ok (.iload_n 1, 1) := by decide +kernel
theorem dX11_keepsLaw_29 : decode cX11_keepsLaw 29 = .ok (.aload_n 0, 1) := by decide +kernel
theorem dX11_keepsLaw_30 : decode cX11_keepsLaw 30 = .ok (.aload_n 0, 1) := by decide +kernel
theorem dX11_keepsLaw_31 : decode cX11_keepsLaw 31 = .ok (.getfield 37, 3) := by decide +kernel
theorem dX11_keepsLaw_34 : decode cX11_keepsLaw 34 = .ok (.iload_n 1, 1) := by decide +kernel
theorem dX11_keepsLaw_35 : decode cX11_keepsLaw 35 = .ok (.iaload, 1) := by decide +kernel
theorem dX11_keepsLaw_36 : decode cX11_keepsLaw 36 = .ok (.invokevirtual 511, 3) := by decide +kernel
theorem dX11_keepsLaw_39 : decode cX11_keepsLaw 39 = .ok (.iastore, 1) := by decide +kernel
theorem dX11_keepsLaw_40 : decode cX11_keepsLaw 40 = .ok (.aload_n 0, 1) := by decide +kernel
theorem dX11_keepsLaw_41 : decode cX11_keepsLaw 41 = .ok (.getfield 40, 3) := by decide +kernel
theorem dX11_keepsLaw_44 : decode cX11_keepsLaw 44 = .ok (.iload_n 1, 1) := by decide +kernel
theorem dX11_keepsLaw_45 : decode cX11_keepsLaw 45 = .ok (.aload_n 0, 1) := by decide +kernel
theorem dX11_keepsLaw_46 : decode cX11_keepsLaw 46 = .ok (.aload_n 0, 1) := by decide +kernel
theorem dX11_keepsLaw_47 : decode cX11_keepsLaw 47 = .ok (.getfield 40, 3) := by decide +kernel
theorem dX11_keepsLaw_50 : decode cX11_keepsLaw 50 = .ok (.iload_n 1, 1) := by decide +kernel
theorem dX11_keepsLaw_51 : decode cX11_keepsLaw 51 = .ok (.iaload, 1) := by decide +kernel
theorem dX11_keepsLaw_52 : decode cX11_keepsLaw 52 = .ok (.invokevirtual 511, 3) := by decide +kernel
theorem dX11_keepsLaw_55 : decode cX11_keepsLaw 55 = .ok (.iastore, 1) := by decide +kernel
theorem dX11_keepsLaw_56 : decode cX11_keepsLaw 56 = .ok (.aload_n 0, 1) := by decide +kernel
theorem dX11_keepsLaw_57 : decode cX11_keepsLaw 57 = .ok (.getfield 43, 3) := by decide +kernel
theorem dX11_keepsLaw_60 : decode cX11_keepsLaw 60 = .ok (.iload_n 1, 1) := by decide +kernel
theorem dX11_keepsLaw_61 : decode cX11_keepsLaw 61 = .ok (.aload_n 0, 1) := by decide +kernel
theorem dX11_keepsLaw_62 : decode cX11_keepsLaw 62 = .ok (.aload_n 0, 1) := by decide +kernel
theorem dX11_keepsLaw_63 : decode cX11_keepsLaw 63 = .ok (.getfield 43, 3) := by decide +kernel
theorem dX11_keepsLaw_66 : decode cX11_keepsLaw 66 = .ok (.iload_n 1, 1) := by decide +kernel
theorem dX11_keepsLaw_67 : decode cX11_keepsLaw 67 = .ok (.iaload, 1) := by decide +kernel
theorem dX11_keepsLaw_68 : decode cX11_keepsLaw 68 = .ok (.invokevirtual 511, 3) := by decide +kernel
theorem dX11_keepsLaw_71 : decode cX11_keepsLaw 71 = .ok (.iastore, 1) := by decide +kernel
theorem dX11_keepsLaw_72 : decode cX11_keepsLaw 72 = .ok (.aload_n 0, 1) := by decide +kernel
theorem dX11_keepsLaw_73 : decode cX11_keepsLaw 73 = .ok (.getfield 46, 3) := by decide +kernel
theorem dX11_keepsLaw_76 : decode cX11_keepsLaw 76 = .ok (.iload_n 1, 1) := by decide +kernel
theorem dX11_keepsLaw_77 : decode cX11_keepsLaw 77 = .ok (.aload_n 0, 1) := by decide +kernel
theorem dX11_keepsLaw_78 : decode cX11_keepsLaw 78 = .ok (.aload_n 0, 1) := by decide +kernel
theorem dX11_keepsLaw_79 : decode cX11_keepsLaw 79 = .ok (.getfield 46, 3) := by decide +kernel
theorem dX11_keepsLaw_82 : decode cX11_keepsLaw 82 = .ok (.iload_n 1, 1) := by decide +kernel
theorem dX11_keepsLaw_83 : decode cX11_keepsLaw 83 = .ok (.iaload, 1) := by decide +kernel
theorem dX11_keepsLaw_84 : decode cX11_keepsLaw 84 = .ok (.invokevirtual 511, 3) := by decide +kernel
theorem dX11_keepsLaw_87 : decode cX11_keepsLaw 87 = .ok (.iastore, 1) := by decide +kernel
theorem dX11_keepsLaw_88 : decode cX11_keepsLaw 88 = .ok (.iinc 1 1, 3) := by decide +kernel
theorem dX11_keepsLaw_91 : decode cX11_keepsLaw 91 = .ok (.goto (-73), 3) := by decide +kernel
theorem dX11_keepsLaw_94 : decode cX11_keepsLaw 94 = .ok (.iconst 0, 1) := by decide +kernel
theorem dX11_keepsLaw_95 : decode cX11_keepsLaw 95 = .ok (.istore_n 1, 1) := by decide +kernel
theorem dX11_keepsLaw_96 : decode cX11_keepsLaw 96 = .ok (.iload_n 1, 1) := by decide +kernel
theorem dX11_keepsLaw_97 : decode cX11_keepsLaw 97 = .ok (.sipush 400, 3) := by decide +kernel
theorem dX11_keepsLaw_100 : decode cX11_keepsLaw 100 = .ok (.if_icmp .ge 41, 3) := by decide +kernel
theorem dX11_keepsLaw_103 : decode cX11_keepsLaw 103 = .ok (.aload_n 0, 1) := by decide +kernel
theorem dX11_keepsLaw_104 : decode cX11_keepsLaw 104 = .ok (.getfield 49, 3) := by decide +kernel
theorem dX11_keepsLaw_107 : decode cX11_keepsLaw 107 = .ok (.iload_n 1, 1) := by decide +kernel
theorem dX11_keepsLaw_108 : decode cX11_keepsLaw 108 = .ok (.aload_n 0, 1) := by decide +kernel
theorem dX11_keepsLaw_109 : decode cX11_keepsLaw 109 = .ok (.aload_n 0, 1) := by decide +kernel
theorem dX11_keepsLaw_110 : decode cX11_keepsLaw 110 = .ok (.getfield 49, 3) := by decide +kernel
theorem dX11_keepsLaw_113 : decode cX11_keepsLaw 113 = .ok (.iload_n 1, 1) := by decide +kernel
theorem dX11_keepsLaw_114 : decode cX11_keepsLaw 114 = .ok (.iaload, 1) := by decide +kernel
theorem dX11_keepsLaw_115 : decode cX11_keepsLaw 115 = .ok (.invokevirtual 511, 3) := by decide +kernel
theorem dX11_keepsLaw_118 : decode cX11_keepsLaw 118 = .ok (.iastore, 1) := by decide +kernel
theorem dX11_keepsLaw_119 : decode cX11_keepsLaw 119 = .ok (.aload_n 0, 1) := by decide +kernel
theorem dX11_keepsLaw_120 : decode cX11_keepsLaw 120 = .ok (.getfield 52, 3) := by decide +kernel
theorem dX11_keepsLaw_123 : decode cX11_keepsLaw 123 = .ok (.iload_n 1, 1) := by decide +kernel
theorem dX11_keepsLaw_124 : decode cX11_keepsLaw 124 = .ok (.aload_n 0, 1) := by decide +kernel
theorem dX11_keepsLaw_125 : decode cX11_keepsLaw 125 = .ok (.aload_n 0, 1) := by decide +kernel
theorem dX11_keepsLaw_126 : decode cX11_keepsLaw 126 = .ok (.getfield 52, 3) := by decide +kernel
theorem dX11_keepsLaw_129 : decode cX11_keepsLaw 129 = .ok (.iload_n 1, 1) := by decide +kernel
theorem dX11_keepsLaw_130 : decode cX11_keepsLaw 130 = .ok (.iaload, 1) := by decide +kernel
theorem dX11_keepsLaw_131 : decode cX11_keepsLaw 131 = .ok (.invokevirtual 511, 3) := by decide +kernel
theorem dX11_keepsLaw_134 : decode cX11_keepsLaw 134 = .ok (.iastore, 1) := by decide +kernel
theorem dX11_keepsLaw_135 : decode cX11_keepsLaw 135 = .ok (.iinc 1 1, 3) := by decide +kernel
theorem dX11_keepsLaw_138 : decode cX11_keepsLaw 138 = .ok (.goto (-42), 3) := by decide +kernel
theorem dX11_keepsLaw_141 : decode cX11_keepsLaw 141 = .ok (.return_, 1) := by decide +kernel
def f_X11_keepsLaw_96  (k96 : Int32 × zHp → Option (zHp)) (v1 : Int32) (h : zHp) : Option (zHp) := (if v1 < (400 : Int32) then zix v1 1200 ((f_X11_keeps (h 14 v1.toNatClampNeg) h).bind fun x1 => zix v1 1200 (zlt (zst x1.2 14 v1.toNatClampNeg x1.1) fun h2 => zix v1 1200 ((f_X11_keeps (h2 15 v1.toNatClampNeg) h2).bind fun x3 => zix v1 1200 (zlt (zst x3.2 15 v1.toNatClampNeg x3.1) fun h4 => k96 ((v1 + (1 : Int32)), h4))))) else some h)
set_option maxHeartbeats 4000000 in
set_option maxRecDepth 100000 in
theorem f_X11_keepsLaw_96_s  (k96 : Int32 × zHp → Option (zHp)) (H96 : ∀ v : Int32 × zHp, Sim wM mX11_keepsLaw 1 rV 96 [(0, .ref 0), (1, .int v.1)] [] v.2 (k96 v)) (v1 : Int32) (h : zHp) : Sim wM mX11_keepsLaw 1 rV 96 [(0, .ref 0), (1, .int v1)] [] h (f_X11_keepsLaw_96 k96 v1 h) := by
  unfold f_X11_keepsLaw_96
  refine Sim.iload_n 1 dX11_keepsLaw_96 rfl ?_
  refine Sim.sipush (v := (400 : Int32)) dX11_keepsLaw_97 rfl ?_
  refine Sim.icmp_ge 141 dX11_keepsLaw_100 rfl ?_ ?_
  · refine Sim.aload_n 0 dX11_keepsLaw_103 rfl ?_
    refine Sim.getR (j := 14) fl_X11_49 dX11_keepsLaw_104 mR_23 ?_
    refine Sim.iload_n 1 dX11_keepsLaw_107 rfl ?_
    refine Sim.aload_n 0 dX11_keepsLaw_108 rfl ?_
    refine Sim.aload_n 0 dX11_keepsLaw_109 rfl ?_
    refine Sim.getR (j := 14) fl_X11_49 dX11_keepsLaw_110 mR_23 ?_
    refine Sim.iload_n 1 dX11_keepsLaw_113 rfl ?_
    refine Sim.iald (n := 1200) dX11_keepsLaw_114 mA_14 ?_
    refine Sim.callV1I (d1 := 0) (s_X11_keeps (h 14 v1.toNatClampNeg) h) dX11_keepsLaw_115 ml_X11_511 mv_X11_keeps mC (Nat.le_of_ble_eq_true rfl) (Nat.le_of_ble_eq_true rfl) (Nat.le_of_ble_eq_true rfl) (fun x1 => ?_)
    refine Sim.iast (n := 1200) dX11_keepsLaw_118 mA_14 ?_
    refine Sim.lth (fun h2 => ?_)
    refine Sim.aload_n 0 dX11_keepsLaw_119 rfl ?_
    refine Sim.getR (j := 15) fl_X11_52 dX11_keepsLaw_120 mR_24 ?_
    refine Sim.iload_n 1 dX11_keepsLaw_123 rfl ?_
    refine Sim.aload_n 0 dX11_keepsLaw_124 rfl ?_
    refine Sim.aload_n 0 dX11_keepsLaw_125 rfl ?_
    refine Sim.getR (j := 15) fl_X11_52 dX11_keepsLaw_126 mR_24 ?_
    refine Sim.iload_n 1 dX11_keepsLaw_129 rfl ?_
    refine Sim.iald (n := 1200) dX11_keepsLaw_130 mA_15 ?_
    refine Sim.callV1I (d1 := 0) (s_X11_keeps (h2 15 v1.toNatClampNeg) h2) dX11_keepsLaw_131 ml_X11_511 mv_X11_keeps mC (Nat.le_of_ble_eq_true rfl) (Nat.le_of_ble_eq_true rfl) (Nat.le_of_ble_eq_true rfl) (fun x3 => ?_)
    refine Sim.iast (n := 1200) dX11_keepsLaw_134 mA_15 ?_
    refine Sim.lth (fun h4 => ?_)
    refine Sim.iinc (L' := [(1, .int (v1 + (1 : Int32))), (0, .ref 0)]) 1 dX11_keepsLaw_135 rfl rfl (Nat.le_of_ble_eq_true rfl) rfl ?_
    refine Sim.goto 96 dX11_keepsLaw_138 rfl ?_
    refine Sim.locs [1, 0] rfl ?_
    exact H96 ((v1 + (1 : Int32)), h4)
  · exact Sim.vret dX11_keepsLaw_141 rfl
def f_X11_keepsLaw_96_lp   (n : Nat) (v : Int32 × zHp) : Option (zHp) := zlp (fun k96 v => f_X11_keepsLaw_96 k96 v.1 v.2) n v
theorem f_X11_keepsLaw_96_ls  (n : Nat) (v : Int32 × zHp) : Sim wM mX11_keepsLaw 1 rV 96 [(0, .ref 0), (1, .int v.1)] [] v.2 (f_X11_keepsLaw_96_lp n v) :=
  Sim.lp (V := Int32 × zHp) (Lf := fun v => [(0, .ref 0), (1, .int v.1)]) (sf := fun v => []) (hf := fun v => v.2) (fun k96 H96 v => f_X11_keepsLaw_96_s k96 H96 v.1 v.2) n v
def f_X11_keepsLaw_18  (k18 : Int32 × zHp → Option (zHp)) (v1 : Int32) (h : zHp) : Option (zHp) := (if v1 < (16 : Int32) then zix v1 48 ((f_X11_keeps (h 10 v1.toNatClampNeg) h).bind fun x1 => zix v1 48 (zlt (zst x1.2 10 v1.toNatClampNeg x1.1) fun h2 => zix v1 48 ((f_X11_keeps (h2 11 v1.toNatClampNeg) h2).bind fun x3 => zix v1 48 (zlt (zst x3.2 11 v1.toNatClampNeg x3.1) fun h4 => zix v1 48 ((f_X11_keeps (h4 12 v1.toNatClampNeg) h4).bind fun x5 => zix v1 48 (zlt (zst x5.2 12 v1.toNatClampNeg x5.1) fun h6 => zix v1 48 ((f_X11_keeps (h6 13 v1.toNatClampNeg) h6).bind fun x7 => zix v1 48 (zlt (zst x7.2 13 v1.toNatClampNeg x7.1) fun h8 => k18 ((v1 + (1 : Int32)), h8))))))))) else f_X11_keepsLaw_96_lp  zN ((0 : Int32), h))
set_option maxHeartbeats 4000000 in
set_option maxRecDepth 100000 in
theorem f_X11_keepsLaw_18_s  (k18 : Int32 × zHp → Option (zHp)) (H18 : ∀ v : Int32 × zHp, Sim wM mX11_keepsLaw 1 rV 18 [(0, .ref 0), (1, .int v.1)] [] v.2 (k18 v)) (v1 : Int32) (h : zHp) : Sim wM mX11_keepsLaw 1 rV 18 [(0, .ref 0), (1, .int v1)] [] h (f_X11_keepsLaw_18 k18 v1 h) := by
  unfold f_X11_keepsLaw_18
  refine Sim.iload_n 1 dX11_keepsLaw_18 rfl ?_
  refine Sim.bipush (v := (16 : Int32)) dX11_keepsLaw_19 rfl ?_
  refine Sim.icmp_ge 94 dX11_keepsLaw_21 rfl ?_ ?_
  · refine Sim.aload_n 0 dX11_keepsLaw_24 rfl ?_
    refine Sim.getR (j := 10) fl_X11_37 dX11_keepsLaw_25 mR_19 ?_
    refine Sim.iload_n 1 dX11_keepsLaw_28 rfl ?_
    refine Sim.aload_n 0 dX11_keepsLaw_29 rfl ?_
    refine Sim.aload_n 0 dX11_keepsLaw_30 rfl ?_
    refine Sim.getR (j := 10) fl_X11_37 dX11_keepsLaw_31 mR_19 ?_
    refine Sim.iload_n 1 dX11_keepsLaw_34 rfl ?_
    refine Sim.iald (n := 48) dX11_keepsLaw_35 mA_10 ?_
    refine Sim.callV1I (d1 := 0) (s_X11_keeps (h 10 v1.toNatClampNeg) h) dX11_keepsLaw_36 ml_X11_511 mv_X11_keeps mC (Nat.le_of_ble_eq_true rfl) (Nat.le_of_ble_eq_true rfl) (Nat.le_of_ble_eq_true rfl) (fun x1 => ?_)
    refine Sim.iast (n := 48) dX11_keepsLaw_39 mA_10 ?_
    refine Sim.lth (fun h2 => ?_)
    refine Sim.aload_n 0 dX11_keepsLaw_40 rfl ?_
    refine Sim.getR (j := 11) fl_X11_40 dX11_keepsLaw_41 mR_20 ?_
    refine Sim.iload_n 1 dX11_keepsLaw_44 rfl ?_
    refine Sim.aload_n 0 dX11_keepsLaw_45 rfl ?_
    refine Sim.aload_n 0 dX11_keepsLaw_46 rfl ?_
    refine Sim.getR (j := 11) fl_X11_40 dX11_keepsLaw_47 mR_20 ?_
    refine Sim.iload_n 1 dX11_keepsLaw_50 rfl ?_
    refine Sim.iald (n := 48) dX11_keepsLaw_51 mA_11 ?_
    refine Sim.callV1I (d1 := 0) (s_X11_keeps (h2 11 v1.toNatClampNeg) h2) dX11_keepsLaw_52 ml_X11_511 mv_X11_keeps mC (Nat.le_of_ble_eq_true rfl) (Nat.le_of_ble_eq_true rfl) (Nat.le_of_ble_eq_true rfl) (fun x3 => ?_)
    refine Sim.iast (n := 48) dX11_keepsLaw_55 mA_11 ?_
    refine Sim.lth (fun h4 => ?_)
    refine Sim.aload_n 0 dX11_keepsLaw_56 rfl ?_
    refine Sim.getR (j := 12) fl_X11_43 dX11_keepsLaw_57 mR_21 ?_
    refine Sim.iload_n 1 dX11_keepsLaw_60 rfl ?_
    refine Sim.aload_n 0 dX11_keepsLaw_61 rfl ?_
    refine Sim.aload_n 0 dX11_keepsLaw_62 rfl ?_
    refine Sim.getR (j := 12) fl_X11_43 dX11_keepsLaw_63 mR_21 ?_
    refine Sim.iload_n 1 dX11_keepsLaw_66 rfl ?_
    refine Sim.iald (n := 48) dX11_keepsLaw_67 mA_12 ?_
    refine Sim.callV1I (d1 := 0) (s_X11_keeps (h4 12 v1.toNatClampNeg) h4) dX11_keepsLaw_68 ml_X11_511 mv_X11_keeps mC (Nat.le_of_ble_eq_true rfl) (Nat.le_of_ble_eq_true rfl) (Nat.le_of_ble_eq_true rfl) (fun x5 => ?_)
    refine Sim.iast (n := 48) dX11_keepsLaw_71 mA_12 ?_
    refine Sim.lth (fun h6 => ?_)
    refine Sim.aload_n 0 dX11_keepsLaw_72 rfl ?_
    refine Sim.getR (j := 13) fl_X11_46 dX11_keepsLaw_73 mR_22 ?_
    refine Sim.iload_n 1 dX11_keepsLaw_76 rfl ?_
    refine Sim.aload_n 0 dX11_keepsLaw_77 rfl ?_
    refine Sim.aload_n 0 dX11_keepsLaw_78 rfl ?_
    refine Sim.getR (j := 13) fl_X11_46 dX11_keepsLaw_79 mR_22 ?_
    refine Sim.iload_n 1 dX11_keepsLaw_82 rfl ?_
    refine Sim.iald (n := 48) dX11_keepsLaw_83 mA_13 ?_
    refine Sim.callV1I (d1 := 0) (s_X11_keeps (h6 13 v1.toNatClampNeg) h6) dX11_keepsLaw_84 ml_X11_511 mv_X11_keeps mC (Nat.le_of_ble_eq_true rfl) (Nat.le_of_ble_eq_true rfl) (Nat.le_of_ble_eq_true rfl) (fun x7 => ?_)
    refine Sim.iast (n := 48) dX11_keepsLaw_87 mA_13 ?_
    refine Sim.lth (fun h8 => ?_)
    refine Sim.iinc (L' := [(1, .int (v1 + (1 : Int32))), (0, .ref 0)]) 1 dX11_keepsLaw_88 rfl rfl (Nat.le_of_ble_eq_true rfl) rfl ?_
    refine Sim.goto 18 dX11_keepsLaw_91 rfl ?_
    refine Sim.locs [1, 0] rfl ?_
    exact H18 ((v1 + (1 : Int32)), h8)
  · refine Sim.iconst (v := (0 : Int32)) dX11_keepsLaw_94 rfl ?_
    refine Sim.istore_n (L' := [(1, .int (0 : Int32)), (0, .ref 0)]) dX11_keepsLaw_95 (Nat.le_of_ble_eq_true rfl) rfl ?_
    refine Sim.locs [1, 0] rfl ?_
    exact f_X11_keepsLaw_96_ls  zN ((0 : Int32), h)
def f_X11_keepsLaw_18_lp   (n : Nat) (v : Int32 × zHp) : Option (zHp) := zlp (fun k18 v => f_X11_keepsLaw_18 k18 v.1 v.2) n v
theorem f_X11_keepsLaw_18_ls  (n : Nat) (v : Int32 × zHp) : Sim wM mX11_keepsLaw 1 rV 18 [(0, .ref 0), (1, .int v.1)] [] v.2 (f_X11_keepsLaw_18_lp n v) :=
  Sim.lp (V := Int32 × zHp) (Lf := fun v => [(0, .ref 0), (1, .int v.1)]) (sf := fun v => []) (hf := fun v => v.2) (fun k18 H18 v => f_X11_keepsLaw_18_s k18 H18 v.1 v.2) n v
def f_X11_keepsLaw   (h : zHp) : Option (zHp) := zix (0 : Int32) 2 ((f_X11_keeps (h 9 (0 : Int32).toNatClampNeg) h).bind fun x1 => zix (0 : Int32) 2 (zlt (zst x1.2 9 (0 : Int32).toNatClampNeg x1.1) fun h2 => f_X11_keepsLaw_18_lp  zN ((0 : Int32), h2)))
set_option maxHeartbeats 4000000 in
set_option maxRecDepth 100000 in
theorem s_X11_keepsLaw   (h : zHp) : Fn wM mX11_keepsLaw 1 rV [.ref 0] h (f_X11_keepsLaw  h) := by
  refine Fn.of rfl (Nat.le_of_ble_eq_true rfl) ?_
  unfold f_X11_keepsLaw
  refine Sim.aload_n 0 dX11_keepsLaw_0 rfl ?_
  refine Sim.getR (j := 9) fl_X11_34 dX11_keepsLaw_1 mR_18 ?_
  refine Sim.iconst (v := (0 : Int32)) dX11_keepsLaw_4 rfl ?_
  refine Sim.aload_n 0 dX11_keepsLaw_5 rfl ?_
  refine Sim.aload_n 0 dX11_keepsLaw_6 rfl ?_
  refine Sim.getR (j := 9) fl_X11_34 dX11_keepsLaw_7 mR_18 ?_
  refine Sim.iconst (v := (0 : Int32)) dX11_keepsLaw_10 rfl ?_
  refine Sim.iald (n := 2) dX11_keepsLaw_11 mA_9 ?_
  refine Sim.callV1I (d1 := 0) (s_X11_keeps (h 9 (0 : Int32).toNatClampNeg) h) dX11_keepsLaw_12 ml_X11_511 mv_X11_keeps mC (Nat.le_of_ble_eq_true rfl) (Nat.le_of_ble_eq_true rfl) (Nat.le_of_ble_eq_true rfl) (fun x1 => ?_)
  refine Sim.iast (n := 2) dX11_keepsLaw_15 mA_9 ?_
  refine Sim.lth (fun h2 => ?_)
  refine Sim.iconst (v := (0 : Int32)) dX11_keepsLaw_16 rfl ?_
  refine Sim.istore_n (L' := [(1, .int (0 : Int32)), (0, .ref 0)]) dX11_keepsLaw_17 (Nat.le_of_ble_eq_true rfl) rfl ?_
  refine Sim.locs [1, 0] rfl ?_
  exact f_X11_keepsLaw_18_ls  zN ((0 : Int32), h2)
theorem mv_X11_keepsLaw : zMV mX11_keepsLaw 0 := ⟨⟨zTb_in 2033 (by decide +kernel) rfl, zTb_in 148 (by decide +kernel) rfl, ⟨by decide +kernel, by decide +kernel⟩, by decide +kernel⟩, zTb_in 2032 (by decide +kernel) rfl, zTb_in 134 (by decide +kernel) rfl⟩
-- ===== RockingPorchModel.keepsTold()V
abbrev mX11_keepsTold : zMt := (yX11_keepsTold, cX11_keepsTold, 2, none)
theorem fl_X11_299 : zF RX11 299 11 38 := ⟨RX11, TX11, 69, rfl, Nat.le_of_ble_eq_true rfl, zTb_in 1337 (by decide +kernel) rfl, in_X11⟩
theorem dX11_keepsTold_0 : decode cX11_keepsTold 0 = .ok (.aload_n 0, 1) := by decide +kernel
theorem dX11_keepsTold_1 : decode cX11_keepsTold 1 = .ok (.aload_n 0, 1) := by decide +kernel
theorem dX11_keepsTold_2 : decode cX11_keepsTold 2 = .ok (.aload_n 0, 1) := by decide +kernel
theorem dX11_keepsTold_3 : decode cX11_keepsTold 3 = .ok (.getfield 140, 3) := by decide +kernel
theorem dX11_keepsTold_6 : decode cX11_keepsTold 6 = .ok (.invokevirtual 511, 3) := by decide +kernel
theorem dX11_keepsTold_9 : decode cX11_keepsTold 9 = .ok (.putfield 140, 3) := by decide +kernel
theorem dX11_keepsTold_12 : decode cX11_keepsTold 12 = .ok (.aload_n 0, 1) := by decide +kernel
theorem dX11_keepsTold_13 : decode cX11_keepsTold 13 = .ok (.aload_n 0, 1) := by decide +kernel
theorem dX11_keepsTold_14 : decode cX11_keepsTold 14 = .ok (.aload_n 0, 1) := by decide +kernel
theorem dX11_keepsTold_15 : decode cX11_keepsTold 15 = .ok (.getfield 143, 3) := by decide +kernel
theorem dX11_keepsTold_18 : decode cX11_keepsTold 18 = .ok (.invokevirtual 511, 3) := by decide +kernel
theorem dX11_keepsTold_21 : decode cX11_keepsTold 21 = .ok (.putfield 143, 3) := by decide +kernel
theorem dX11_keepsTold_24 : decode cX11_keepsTold 24 = .ok (.aload_n 0, 1) := by decide +kernel
theorem dX11_keepsTold_25 : decode cX11_keepsTold 25 = .ok (.aload_n 0, 1) := by decide +kernel
theorem dX11_keepsTold_26 : decode cX11_keepsTold 26 = .ok (.aload_n 0, 1) := by decide +kernel
theorem dX11_keepsTold_27 : decode cX11_keepsTold 27 = .ok (.getfield 302, 3) := by decide +kernel
theorem dX11_keepsTold_30 : decode cX11_keepsTold 30 = .ok (.invokevirtual 511, 3) := by decide +kernel
theorem dX11_keepsTold_33 : decode cX11_keepsTold 33 = .ok (.putfield 302, 3) := by decide +kernel
theorem dX11_keepsTold_36 : decode cX11_keepsTold 36 = .ok (.aload_n 0, 1) := by decide +kernel
theorem dX11_keepsTold_37 : decode cX11_keepsTold 37 = .ok (.aload_n 0, 1) := by decide +kernel
theorem dX11_keepsTold_38 : decode cX11_keepsTold 38 = .ok (.aload_n 0, 1) := by decide +kernel
theorem dX11_keepsTold_39 : decode cX11_keepsTold 39 = .ok (.getfield 305, 3) := by decide +kernel
theorem dX11_keepsTold_42 : decode cX11_keepsTold 42 = .ok (.invokevirtual 511, 3) := by decide +kernel
theorem dX11_keepsTold_45 : decode cX11_keepsTold 45 = .ok (.putfield 305, 3) := by decide +kernel
theorem dX11_keepsTold_48 : decode cX11_keepsTold 48 = .ok (.aload_n 0, 1) := by decide +kernel
theorem dX11_keepsTold_49 : decode cX11_keepsTold 49 = .ok (.aload_n 0, 1) := by decide +kernel
theorem dX11_keepsTold_50 : decode cX11_keepsTold 50 = .ok (.aload_n 0, 1) := by decide +kernel
theorem dX11_keepsTold_51 : decode cX11_keepsTold 51 = .ok (.getfield 299, 3) := by decide +kernel
theorem dX11_keepsTold_54 : decode cX11_keepsTold 54 = .ok (.invokevirtual 511, 3) := by decide +kernel
theorem dX11_keepsTold_57 : decode cX11_keepsTold 57 = .ok (.putfield 299, 3) := by decide +kernel
theorem dX11_keepsTold_60 : decode cX11_keepsTold 60 = .ok (.aload_n 0, 1) := by decide +kernel
theorem dX11_keepsTold_61 : decode cX11_keepsTold 61 = .ok (.aload_n 0, 1) := by decide +kernel
theorem dX11_keepsTold_62 : decode cX11_keepsTold 62 = .ok (.aload_n 0, 1) := by decide +kernel
theorem dX11_keepsTold_63 : decode cX11_keepsTold 63 = .ok (.getfield 421, 3) := by decide +kernel
theorem dX11_keepsTold_66 : decode cX11_keepsTold 66 = .ok (.invokevirtual 511, 3) := by decide +kernel
theorem dX11_keepsTold_69 : decode cX11_keepsTold 69 = .ok (.putfield 421, 3) := by decide +kernel
theorem dX11_keepsTold_72 : decode cX11_keepsTold 72 = .ok (.aload_n 0, 1) := by decide +kernel
theorem dX11_keepsTold_73 : decode cX11_keepsTold 73 = .ok (.aload_n 0, 1) := by decide +kernel
theorem dX11_keepsTold_74 : decode cX11_keepsTold 74 = .ok (.aload_n 0, 1) := by decide +kernel
theorem dX11_keepsTold_75 : decode cX11_keepsTold 75 = .ok (.getfield 430, 3) := by decide +kernel
theorem dX11_keepsTold_78 : decode cX11_keepsTold 78 = .ok (.invokevirtual 511, 3) := by decide +kernel
theorem dX11_keepsTold_81 : decode cX11_keepsTold 81 = .ok (.putfield 430, 3) := by decide +kernel
theorem dX11_keepsTold_84 : decode cX11_keepsTold 84 = .ok (.aload_n 0, 1) := by decide +kernel
theorem dX11_keepsTold_85 : decode cX11_keepsTold 85 = .ok (.aload_n 0, 1) := by decide +kernel
theorem dX11_keepsTold_86 : decode cX11_keepsTold 86 = .ok (.aload_n 0, 1) := by decide +kernel
theorem dX11_keepsTold_87 : decode cX11_keepsTold 87 = .ok (.getfield 443, 3) := by decide +kernel
theorem dX11_keepsTold_90 : decode cX11_keepsTold 90 = .ok (.invokevirtual 511, 3) := by decide +kernel
theorem dX11_keepsTold_93 : decode cX11_keepsTold 93 = .ok (.putfield 443, 3) := by decide +kernel
theorem dX11_keepsTold_96 : decode cX11_keepsTold 96 = .ok (.aload_n 0, 1) := by decide +kernel
theorem dX11_keepsTold_97 : decode cX11_keepsTold 97 = .ok (.aload_n 0, 1) := by decide +kernel
theorem dX11_keepsTold_98 : decode cX11_keepsTold 98 = .ok (.aload_n 0, 1) := by decide +kernel
theorem dX11_keepsTold_99 : decode cX11_keepsTold 99 = .ok (.getfield 472, 3) := by decide +kernel
theorem dX11_keepsTold_102 : decode cX11_keepsTold 102 = .ok (.invokevirtual 511, 3) := by decide +kernel
theorem dX11_keepsTold_105 : decode cX11_keepsTold 105 = .ok (.putfield 472, 3) := by decide +kernel
theorem dX11_keepsTold_108 : decode cX11_keepsTold 108 = .ok (.aload_n 0, 1) := by decide +kernel
theorem dX11_keepsTold_109 : decode cX11_keepsTold 109 = .ok (.aload_n 0, 1) := by decide +kernel
theorem dX11_keepsTold_110 : decode cX11_keepsTold 110 = .ok (.aload_n 0, 1) := by decide +kernel
theorem dX11_keepsTold_111 : decode cX11_keepsTold 111 = .ok (.getfield 490, 3) := by decide +kernel
theorem dX11_keepsTold_114 : decode cX11_keepsTold 114 = .ok (.invokevirtual 511, 3) := by decide +kernel
theorem dX11_keepsTold_117 : decode cX11_keepsTold 117 = .ok (.putfield 490, 3) := by decide +kernel
theorem dX11_keepsTold_120 : decode cX11_keepsTold 120 = .ok (.aload_n 0, 1) := by decide +kernel
theorem dX11_keepsTold_121 : decode cX11_keepsTold 121 = .ok (.aload_n 0, 1) := by decide +kernel
theorem dX11_keepsTold_122 : decode cX11_keepsTold 122 = .ok (.aload_n 0, 1) := by decide +kernel
theorem dX11_keepsTold_123 : decode cX11_keepsTold 123 = .ok (.getfield 496, 3) := by decide +kernel
theorem dX11_keepsTold_126 : decode cX11_keepsTold 126 = .ok (.invokevirtual 511, 3) := by decide +kernel
theorem dX11_keepsTold_129 : decode cX11_keepsTold 129 = .ok (.putfield 496, 3) := by decide +kernel
theorem dX11_keepsTold_132 : decode cX11_keepsTold 132 = .ok (.iconst 0, 1) := by decide +kernel
theorem dX11_keepsTold_133 : decode cX11_keepsTold 133 = .ok (.istore_n 1, 1) := by decide +kernel
theorem dX11_keepsTold_134 : decode cX11_keepsTold 134 = .ok (.iload_n 1, 1) := by decide +kernel
theorem dX11_keepsTold_135 : decode cX11_keepsTold 135 = .ok (.bipush 14, 2) := by decide +kernel
theorem dX11_keepsTold_137 : decode cX11_keepsTold 137 = .ok (.if_icmp .ge 41, 3) := by decide +kernel
theorem dX11_keepsTold_140 : decode cX11_keepsTold 140 = .ok (.aload_n 0, 1) := by decide +kernel
theorem dX11_keepsTold_141 : decode cX11_keepsTold 141 = .ok (.getfield 22, 3) := by decide +kernel
theorem dX11_keepsTold_144 : decode cX11_keepsTold 144 = .ok (.iload_n 1, 1) := by decide +kernel
theorem dX11_keepsTold_145 : decode cX11_keepsTold 145 = .ok (.aload_n 0, 1) := by decide +kernel
theorem dX11_keepsTold_146 : decode cX11_keepsTold 146 = .ok (.aload_n 0, 1) := by decide +kernel
theorem dX11_keepsTold_147 : decode cX11_keepsTold 147 = .ok (.getfield 22, 3) := by decide +kernel
theorem dX11_keepsTold_150 : decode cX11_keepsTold 150 = .ok (.iload_n 1, 1) := by decide +kernel
theorem dX11_keepsTold_151 : decode cX11_keepsTold 151 = .ok (.iaload, 1) := by decide +kernel
theorem dX11_keepsTold_152 : decode cX11_keepsTold 152 = .ok (.invokevirtual 511, 3) := by decide +kernel
theorem dX11_keepsTold_155 : decode cX11_keepsTold 155 = .ok (.iastore, 1) := by decide +kernel
theorem dX11_keepsTold_156 : decode cX11_keepsTold 156 = .ok (.aload_n 0, 1) := by decide +kernel
theorem dX11_keepsTold_157 : decode cX11_keepsTold 157 = .ok (.getfield 68, 3) := by decide +kernel
theorem dX11_keepsTold_160 : decode cX11_keepsTold 160 = .ok (.iload_n 1, 1) := by decide +kernel
theorem dX11_keepsTold_161 : decode cX11_keepsTold 161 = .ok (.aload_n 0, 1) := by decide +kernel
theorem dX11_keepsTold_162 : decode cX11_keepsTold 162 = .ok (.aload_n 0, 1) := by decide +kernel
theorem dX11_keepsTold_163 : decode cX11_keepsTold 163 = .ok (.getfield 68, 3) := by decide +kernel
theorem dX11_keepsTold_166 : decode cX11_keepsTold 166 = .ok (.iload_n 1, 1) := by decide +kernel
theorem dX11_keepsTold_167 : decode cX11_keepsTold 167 = .ok (.iaload, 1) := by decide +kernel
theorem dX11_keepsTold_168 : decode cX11_keepsTold 168 = .ok (.invokevirtual 511, 3) := by decide +kernel
theorem dX11_keepsTold_171 : decode cX11_keepsTold 171 = .ok (.iastore, 1) := by decide +kernel
theorem dX11_keepsTold_172 : decode cX11_keepsTold 172 = .ok (.iinc 1 1, 3) := by decide +kernel
theorem dX11_keepsTold_175 : decode cX11_keepsTold 175 = .ok (.goto (-41), 3) := by decide +kernel
theorem dX11_keepsTold_178 : decode cX11_keepsTold 178 = .ok (.iconst 0, 1) := by decide +kernel
theorem dX11_keepsTold_179 : decode cX11_keepsTold 179 = .ok (.istore_n 1, 1) := by decide +kernel
theorem dX11_keepsTold_180 : decode cX11_keepsTold 180 = .ok (.iload_n 1, 1) := by decide +kernel
theorem dX11_keepsTold_181 : decode cX11_keepsTold 181 = .ok (.bipush 10, 2) := by decide +kernel
theorem dX11_keepsTold_183 : decode cX11_keepsTold 183 = .ok (.if_icmp .ge 73, 3) := by decide +kernel
theorem dX11_keepsTold_186 : decode cX11_keepsTold 186 = .ok (.aload_n 0, 1) := by decide +kernel
theorem dX11_keepsTold_187 : decode cX11_keepsTold 187 = .ok (.getfield 19, 3) := by decide +kernel
theorem dX11_keepsTold_190 : decode cX11_keepsTold 190 = .ok (.iload_n 1, 1) := by decide +kernel
theorem dX11_keepsTold_191 : decode cX11_keepsTold 191 = .ok (.aload_n 0, 1) := by decide +kernel
theorem dX11_keepsTold_192 : decode cX11_keepsTold 192 = .ok (.aload_n 0, 1) := by decide +kernel
theorem dX11_keepsTold_193 : decode cX11_keepsTold 193 = .ok (.getfield 19, 3) := by decide +kernel
theorem dX11_keepsTold_196 : decode cX11_keepsTold 196 = .ok (.iload_n 1, 1) := by decide +kernel
theorem dX11_keepsTold_197 : decode cX11_keepsTold 197 = .ok (.iaload, 1) := by decide +kernel
theorem dX11_keepsTold_198 : decode cX11_keepsTold 198 = .ok (.invokevirtual 511, 3) := by decide +kernel
theorem dX11_keepsTold_201 : decode cX11_keepsTold 201 = .ok (.iastore, 1) := by decide +kernel
theorem dX11_keepsTold_202 : decode cX11_keepsTold 202 = .ok (.aload_n 0, 1) := by decide +kernel
theorem dX11_keepsTold_203 : decode cX11_keepsTold 203 = .ok (.getfield 83, 3) := by decide +kernel
theorem dX11_keepsTold_206 : decode cX11_keepsTold 206 = .ok (.iload_n 1, 1) := by decide +kernel
theorem dX11_keepsTold_207 : decode cX11_keepsTold 207 = .ok (.aload_n 0, 1) := by decide +kernel
theorem dX11_keepsTold_208 : decode cX11_keepsTold 208 = .ok (.aload_n 0, 1) := by decide +kernel
theorem dX11_keepsTold_209 : decode cX11_keepsTold 209 = .ok (.getfield 83, 3) := by decide +kernel
theorem dX11_keepsTold_212 : decode cX11_keepsTold 212 = .ok (.iload_n 1, 1) := by decide +kernel
theorem dX11_keepsTold_213 : decode cX11_keepsTold 213 = .ok (.iaload, 1) := by decide +kernel
theorem dX11_keepsTold_214 : decode cX11_keepsTold 214 = .ok (.invokevirtual 511, 3) := by decide +kernel
theorem dX11_keepsTold_217 : decode cX11_keepsTold 217 = .ok (.iastore, 1) := by decide +kernel
theorem dX11_keepsTold_218 : decode cX11_keepsTold 218 = .ok (.aload_n 0, 1) := by decide +kernel
theorem dX11_keepsTold_219 : decode cX11_keepsTold 219 = .ok (.getfield 86, 3) := by decide +kernel
theorem dX11_keepsTold_222 : decode cX11_keepsTold 222 = .ok (.iload_n 1, 1) := by decide +kernel
theorem dX11_keepsTold_223 : decode cX11_keepsTold 223 = .ok (.aload_n 0, 1) := by decide +kernel
theorem dX11_keepsTold_224 : decode cX11_keepsTold 224 = .ok (.aload_n 0, 1) := by decide +kernel
theorem dX11_keepsTold_225 : decode cX11_keepsTold 225 = .ok (.getfield 86, 3) := by decide +kernel
theorem dX11_keepsTold_228 : decode cX11_keepsTold 228 = .ok (.iload_n 1, 1) := by decide +kernel
theorem dX11_keepsTold_229 : decode cX11_keepsTold 229 = .ok (.iaload, 1) := by decide +kernel
theorem dX11_keepsTold_230 : decode cX11_keepsTold 230 = .ok (.invokevirtual 511, 3) := by decide +kernel
theorem dX11_keepsTold_233 : decode cX11_keepsTold 233 = .ok (.iastore, 1) := by decide +kernel
theorem dX11_keepsTold_234 : decode cX11_keepsTold 234 = .ok (.aload_n 0, 1) := by decide +kernel
theorem dX11_keepsTold_235 : decode cX11_keepsTold 235 = .ok (.getfield 116, 3) := by decide +kernel
theorem dX11_keepsTold_238 : decode cX11_keepsTold 238 = .ok (.iload_n 1, 1) := by decide +kernel
theorem dX11_keepsTold_239 : decode cX11_keepsTold 239 = .ok (.aload_n 0, 1) := by decide +kernel
theorem dX11_keepsTold_240 : decode cX11_keepsTold 240 = .ok (.aload_n 0, 1) := by decide +kernel
theorem dX11_keepsTold_241 : decode cX11_keepsTold 241 = .ok (.getfield 116, 3) := by decide +kernel
theorem dX11_keepsTold_244 : decode cX11_keepsTold 244 = .ok (.iload_n 1, 1) := by decide +kernel
theorem dX11_keepsTold_245 : decode cX11_keepsTold 245 = .ok (.iaload, 1) := by decide +kernel
theorem dX11_keepsTold_246 : decode cX11_keepsTold 246 = .ok (.invokevirtual 511, 3) := by decide +kernel
theorem dX11_keepsTold_249 : decode cX11_keepsTold 249 = .ok (.iastore, 1) := by decide +kernel
theorem dX11_keepsTold_250 : decode cX11_keepsTold 250 = .ok (.iinc 1 1, 3) := by decide +kernel
theorem dX11_keepsTold_253 : decode cX11_keepsTold 253 = .ok (.goto (-73), 3) := by decide +kernel
theorem dX11_keepsTold_256 : decode cX11_keepsTold 256 = .ok (.iconst 0, 1) := by decide +kernel
theorem dX11_keepsTold_257 : decode cX11_keepsTold 257 = .ok (.istore_n 1, 1) := by decide +kernel
theorem dX11_keepsTold_258 : decode cX11_keepsTold 258 = .ok (.iload_n 1, 1) := by decide +kernel
theorem dX11_keepsTold_259 : decode cX11_keepsTold 259 = .ok (.bipush 64, 2) := by decide +kernel
theorem dX11_keepsTold_261 : decode cX11_keepsTold 261 = .ok (.if_icmp .ge 25, 3) := by decide +kernel
theorem dX11_keepsTold_264 : decode cX11_keepsTold 264 = .ok (.aload_n 0, 1) := by decide +kernel
theorem dX11_keepsTold_265 : decode cX11_keepsTold 265 = .ok (.getfield 62, 3) := by decide +kernel
theorem dX11_keepsTold_268 : decode cX11_keepsTold 268 = .ok (.iload_n 1, 1) := by decide +kernel
theorem dX11_keepsTold_269 : decode cX11_keepsTold 269 = .ok (.aload_n 0, 1) := by decide +kernel
theorem dX11_keepsTold_270 : decode cX11_keepsTold 270 = .ok (.aload_n 0, 1) := by decide +kernel
theorem dX11_keepsTold_271 : decode cX11_keepsTold 271 = .ok (.getfield 62, 3) := by decide +kernel
theorem dX11_keepsTold_274 : decode cX11_keepsTold 274 = .ok (.iload_n 1, 1) := by decide +kernel
theorem dX11_keepsTold_275 : decode cX11_keepsTold 275 = .ok (.iaload, 1) := by decide +kernel
theorem dX11_keepsTold_276 : decode cX11_keepsTold 276 = .ok (.invokevirtual 511, 3) := by decide +kernel
theorem dX11_keepsTold_279 : decode cX11_keepsTold 279 = .ok (.iastore, 1) := by decide +kernel
theorem dX11_keepsTold_280 : decode cX11_keepsTold 280 = .ok (.iinc 1 1, 3) := by decide +kernel
theorem dX11_keepsTold_283 : decode cX11_keepsTold 283 = .ok (.goto (-25), 3) := by decide +kernel
theorem dX11_keepsTold_286 : decode cX11_keepsTold 286 = .ok (.iconst 0, 1) := by decide +kernel
theorem dX11_keepsTold_287 : decode cX11_keepsTold 287 = .ok (.istore_n 1, 1) := by decide +kernel
theorem dX11_keepsTold_288 : decode cX11_keepsTold 288 = .ok (.iload_n 1, 1) := by decide +kernel
theorem dX11_keepsTold_289 : decode cX11_keepsTold 289 = .ok (.bipush 48, 2) := by decide +kernel
theorem dX11_keepsTold_291 : decode cX11_keepsTold 291 = .ok (.if_icmp .ge 25, 3) := by decide +kernel
theorem dX11_keepsTold_294 : decode cX11_keepsTold 294 = .ok (.aload_n 0, 1) := by decide +kernel
theorem dX11_keepsTold_295 : decode cX11_keepsTold 295 = .ok (.getfield 65, 3) := by decide +kernel
theorem dX11_keepsTold_298 : decode cX11_keepsTold 298 = .ok (.iload_n 1, 1) := by decide +kernel
theorem dX11_keepsTold_299 : decode cX11_keepsTold 299 = .ok (.aload_n 0, 1) := by decide +kernel
theorem dX11_keepsTold_300 : decode cX11_keepsTold 300 = .ok (.aload_n 0, 1) := by decide +kernel
theorem dX11_keepsTold_301 : decode cX11_keepsTold 301 = .ok (.getfield 65, 3) := by decide +kernel
theorem dX11_keepsTold_304 : decode cX11_keepsTold 304 = .ok (.iload_n 1, 1) := by decide +kernel
theorem dX11_keepsTold_305 : decode cX11_keepsTold 305 = .ok (.iaload, 1) := by decide +kernel
theorem dX11_keepsTold_306 : decode cX11_keepsTold 306 = .ok (.invokevirtual 511, 3) := by decide +kernel
theorem dX11_keepsTold_309 : decode cX11_keepsTold 309 = .ok (.iastore, 1) := by decide +kernel
theorem dX11_keepsTold_310 : decode cX11_keepsTold 310 = .ok (.iinc 1 1, 3) := by decide +kernel
theorem dX11_keepsTold_313 : decode cX11_keepsTold 313 = .ok (.goto (-25), 3) := by decide +kernel
theorem dX11_keepsTold_316 : decode cX11_keepsTold 316 = .ok (.iconst 0, 1) := by decide +kernel
theorem dX11_keepsTold_317 : decode cX11_keepsTold 317 = .ok (.istore_n 1, 1) := by decide +kernel
theorem dX11_keepsTold_318 : decode cX11_keepsTold 318 = .ok (.iload_n 1, 1) := by decide +kernel
theorem dX11_keepsTold_319 : decode cX11_keepsTold 319 = .ok (.iconst 4, 1) := by decide +kernel
theorem dX11_keepsTold_320 : decode cX11_keepsTold 320 = .ok (.if_icmp .ge 41, 3) := by decide +kernel
theorem dX11_keepsTold_323 : decode cX11_keepsTold 323 = .ok (.aload_n 0, 1) := by decide +kernel
theorem dX11_keepsTold_324 : decode cX11_keepsTold 324 = .ok (.getfield 77, 3) := by decide +kernel
theorem dX11_keepsTold_327 : decode cX11_keepsTold 327 = .ok (.iload_n 1, 1) := by decide +kernel
theorem dX11_keepsTold_328 : decode cX11_keepsTold 328 = .ok (.aload_n 0, 1) := by decide +kernel
theorem dX11_keepsTold_329 : decode cX11_keepsTold 329 = .ok (.aload_n 0, 1) := by decide +kernel
theorem dX11_keepsTold_330 : decode cX11_keepsTold 330 = .ok (.getfield 77, 3) := by decide +kernel
theorem dX11_keepsTold_333 : decode cX11_keepsTold 333 = .ok (.iload_n 1, 1) := by decide +kernel
theorem dX11_keepsTold_334 : decode cX11_keepsTold 334 = .ok (.iaload, 1) := by decide +kernel
theorem dX11_keepsTold_335 : decode cX11_keepsTold 335 = .ok (.invokevirtual 511, 3) := by decide +kernel
theorem dX11_keepsTold_338 : decode cX11_keepsTold 338 = .ok (.iastore, 1) := by decide +kernel
theorem dX11_keepsTold_339 : decode cX11_keepsTold 339 = .ok (.aload_n 0, 1) := by decide +kernel
theorem dX11_keepsTold_340 : decode cX11_keepsTold 340 = .ok (.getfield 80, 3) := by decide +kernel
theorem dX11_keepsTold_343 : decode cX11_keepsTold 343 = .ok (.iload_n 1, 1) := by decide +kernel
theorem dX11_keepsTold_344 : decode cX11_keepsTold 344 = .ok (.aload_n 0, 1) := by decide +kernel
theorem dX11_keepsTold_345 : decode cX11_keepsTold 345 = .ok (.aload_n 0, 1) := by decide +kernel
theorem dX11_keepsTold_346 : decode cX11_keepsTold 346 = .ok (.getfield 80, 3) := by decide +kernel
theorem dX11_keepsTold_349 : decode cX11_keepsTold 349 = .ok (.iload_n 1, 1) := by decide +kernel
theorem dX11_keepsTold_350 : decode cX11_keepsTold 350 = .ok (.iaload, 1) := by decide +kernel
theorem dX11_keepsTold_351 : decode cX11_keepsTold 351 = .ok (.invokevirtual 511, 3) := by decide +kernel
theorem dX11_keepsTold_354 : decode cX11_keepsTold 354 = .ok (.iastore, 1) := by decide +kernel
theorem dX11_keepsTold_355 : decode cX11_keepsTold 355 = .ok (.iinc 1 1, 3) := by decide +kernel
theorem dX11_keepsTold_358 : decode cX11_keepsTold 358 = .ok (.goto (-40), 3) := by decide +kernel
theorem dX11_keepsTold_361 : decode cX11_keepsTold 361 = .ok (.iconst 0, 1) := by decide +kernel
theorem dX11_keepsTold_362 : decode cX11_keepsTold 362 = .ok (.istore_n 1, 1) := by decide +kernel
theorem dX11_keepsTold_363 : decode cX11_keepsTold 363 = .ok (.iload_n 1, 1) := by decide +kernel
theorem dX11_keepsTold_364 : decode cX11_keepsTold 364 = .ok (.bipush 8, 2) := by decide +kernel
theorem dX11_keepsTold_366 : decode cX11_keepsTold 366 = .ok (.if_icmp .ge 41, 3) := by decide +kernel
theorem dX11_keepsTold_369 : decode cX11_keepsTold 369 = .ok (.aload_n 0, 1) := by decide +kernel
theorem dX11_keepsTold_370 : decode cX11_keepsTold 370 = .ok (.getfield 92, 3) := by decide +kernel
theorem dX11_keepsTold_373 : decode cX11_keepsTold 373 = .ok (.iload_n 1, 1) := by decide +kernel
theorem dX11_keepsTold_374 : decode cX11_keepsTold 374 = .ok (.aload_n 0, 1) := by decide +kernel
theorem dX11_keepsTold_375 : decode cX11_keepsTold 375 = .ok (.aload_n 0, 1) := by decide +kernel
theorem dX11_keepsTold_376 : decode cX11_keepsTold 376 = .ok (.getfield 92, 3) := by decide +kernel
theorem dX11_keepsTold_379 : decode cX11_keepsTold 379 = .ok (.iload_n 1, 1) := by decide +kernel
theorem dX11_keepsTold_380 : decode cX11_keepsTold 380 = .ok (.iaload, 1) := by decide +kernel
theorem dX11_keepsTold_381 : decode cX11_keepsTold 381 = .ok (.invokevirtual 511, 3) := by decide +kernel
theorem dX11_keepsTold_384 : decode cX11_keepsTold 384 = .ok (.iastore, 1) := by decide +kernel
theorem dX11_keepsTold_385 : decode cX11_keepsTold 385 = .ok (.aload_n 0, 1) := by decide +kernel
theorem dX11_keepsTold_386 : decode cX11_keepsTold 386 = .ok (.getfield 95, 3) := by decide +kernel
theorem dX11_keepsTold_389 : decode cX11_keepsTold 389 = .ok (.iload_n 1, 1) := by decide +kernel
theorem dX11_keepsTold_390 : decode cX11_keepsTold 390 = .ok (.aload_n 0, 1) := by decide +kernel
theorem dX11_keepsTold_391 : decode cX11_keepsTold 391 = .ok (.aload_n 0, 1) := by decide +kernel
theorem dX11_keepsTold_392 : decode cX11_keepsTold 392 = .ok (.getfield 95, 3) := by decide +kernel
theorem dX11_keepsTold_395 : decode cX11_keepsTold 395 = .ok (.iload_n 1, 1) := by decide +kernel
theorem dX11_keepsTold_396 : decode cX11_keepsTold 396 = .ok (.iaload, 1) := by decide +kernel
theorem dX11_keepsTold_397 : decode cX11_keepsTold 397 = .ok (.invokevirtual 511, 3) := by decide +kernel
theorem dX11_keepsTold_400 : decode cX11_keepsTold 400 = .ok (.iastore, 1) := by decide +kernel
theorem dX11_keepsTold_401 : decode cX11_keepsTold 401 = .ok (.iinc 1 1, 3) := by decide +kernel
theorem dX11_keepsTold_404 : decode cX11_keepsTold 404 = .ok (.goto (-41), 3) := by decide +kernel
theorem dX11_keepsTold_407 : decode cX11_keepsTold 407 = .ok (.iconst 0, 1) := by decide +kernel
theorem dX11_keepsTold_408 : decode cX11_keepsTold 408 = .ok (.istore_n 1, 1) := by decide +kernel
theorem dX11_keepsTold_409 : decode cX11_keepsTold 409 = .ok (.iload_n 1, 1) := by decide +kernel
theorem dX11_keepsTold_410 : decode cX11_keepsTold 410 = .ok (.bipush 36, 2) := by decide +kernel
theorem dX11_keepsTold_412 : decode cX11_keepsTold 412 = .ok (.if_icmp .ge 25, 3) := by decide +kernel
theorem dX11_keepsTold_415 : decode cX11_keepsTold 415 = .ok (.aload_n 0, 1) := by decide +kernel
theorem dX11_keepsTold_416 : decode cX11_keepsTold 416 = .ok (.getfield 98, 3) := by decide +kernel
theorem dX11_keepsTold_419 : decode cX11_keepsTold 419 = .ok (.iload_n 1, 1) := by decide +kernel
theorem dX11_keepsTold_420 : decode cX11_keepsTold 420 = .ok (.aload_n 0, 1) := by decide +kernel
theorem dX11_keepsTold_421 : decode cX11_keepsTold 421 = .ok (.aload_n 0, 1) := by decide +kernel
theorem dX11_keepsTold_422 : decode cX11_keepsTold 422 = .ok (.getfield 98, 3) := by decide +kernel
theorem dX11_keepsTold_425 : decode cX11_keepsTold 425 = .ok (.iload_n 1, 1) := by decide +kernel
theorem dX11_keepsTold_426 : decode cX11_keepsTold 426 = .ok (.iaload, 1) := by decide +kernel
theorem dX11_keepsTold_427 : decode cX11_keepsTold 427 = .ok (.invokevirtual 511, 3) := by decide +kernel
theorem dX11_keepsTold_430 : decode cX11_keepsTold 430 = .ok (.iastore, 1) := by decide +kernel
theorem dX11_keepsTold_431 : decode cX11_keepsTold 431 = .ok (.iinc 1 1, 3) := by decide +kernel
theorem dX11_keepsTold_434 : decode cX11_keepsTold 434 = .ok (.goto (-25), 3) := by decide +kernel
theorem dX11_keepsTold_437 : decode cX11_keepsTold 437 = .ok (.iconst 0, 1) := by decide +kernel
theorem dX11_keepsTold_438 : decode cX11_keepsTold 438 = .ok (.istore_n 1, 1) := by decide +kernel
theorem dX11_keepsTold_439 : decode cX11_keepsTold 439 = .ok (.iload_n 1, 1) := by decide +kernel
theorem dX11_keepsTold_440 : decode cX11_keepsTold 440 = .ok (.bipush 9, 2) := by decide +kernel
theorem dX11_keepsTold_442 : decode cX11_keepsTold 442 = .ok (.if_icmp .ge 25, 3) := by decide +kernel
theorem dX11_keepsTold_445 : decode cX11_keepsTold 445 = .ok (.aload_n 0, 1) := by decide +kernel
theorem dX11_keepsTold_446 : decode cX11_keepsTold 446 = .ok (.getfield 107, 3) := by decide +kernel
theorem dX11_keepsTold_449 : decode cX11_keepsTold 449 = .ok (.iload_n 1, 1) := by decide +kernel
theorem dX11_keepsTold_450 : decode cX11_keepsTold 450 = .ok (.aload_n 0, 1) := by decide +kernel
theorem dX11_keepsTold_451 : decode cX11_keepsTold 451 = .ok (.aload_n 0, 1) := by decide +kernel
theorem dX11_keepsTold_452 : decode cX11_keepsTold 452 = .ok (.getfield 107, 3) := by decide +kernel
theorem dX11_keepsTold_455 : decode cX11_keepsTold 455 = .ok (.iload_n 1, 1) := by decide +kernel
theorem dX11_keepsTold_456 : decode cX11_keepsTold 456 = .ok (.iaload, 1) := by decide +kernel
theorem dX11_keepsTold_457 : decode cX11_keepsTold 457 = .ok (.invokevirtual 511, 3) := by decide +kernel
theorem dX11_keepsTold_460 : decode cX11_keepsTold 460 = .ok (.iastore, 1) := by decide +kernel
theorem dX11_keepsTold_461 : decode cX11_keepsTold 461 = .ok (.iinc 1 1, 3) := by decide +kernel
theorem dX11_keepsTold_464 : decode cX11_keepsTold 464 = .ok (.goto (-25), 3) := by decide +kernel
theorem dX11_keepsTold_467 : decode cX11_keepsTold 467 = .ok (.iconst 0, 1) := by decide +kernel
theorem dX11_keepsTold_468 : decode cX11_keepsTold 468 = .ok (.istore_n 1, 1) := by decide +kernel
theorem dX11_keepsTold_469 : decode cX11_keepsTold 469 = .ok (.iload_n 1, 1) := by decide +kernel
theorem dX11_keepsTold_470 : decode cX11_keepsTold 470 = .ok (.bipush 6, 2) := by decide +kernel
theorem dX11_keepsTold_472 : decode cX11_keepsTold 472 = .ok (.if_icmp .ge 25, 3) := by decide +kernel
theorem dX11_keepsTold_475 : decode cX11_keepsTold 475 = .ok (.aload_n 0, 1) := by decide +kernel
theorem dX11_keepsTold_476 : decode cX11_keepsTold 476 = .ok (.getfield 119, 3) := by decide +kernel
theorem dX11_keepsTold_479 : decode cX11_keepsTold 479 = .ok (.iload_n 1, 1) := by decide +kernel
theorem dX11_keepsTold_480 : decode cX11_keepsTold 480 = .ok (.aload_n 0, 1) := by decide +kernel
theorem dX11_keepsTold_481 : decode cX11_keepsTold 481 = .ok (.aload_n 0, 1) := by decide +kernel
theorem dX11_keepsTold_482 : decode cX11_keepsTold 482 = .ok (.getfield 119, 3) := by decide +kernel
theorem dX11_keepsTold_485 : decode cX11_keepsTold 485 = .ok (.iload_n 1, 1) := by decide +kernel
theorem dX11_keepsTold_486 : decode cX11_keepsTold 486 = .ok (.iaload, 1) := by decide +kernel
theorem dX11_keepsTold_487 : decode cX11_keepsTold 487 = .ok (.invokevirtual 511, 3) := by decide +kernel
theorem dX11_keepsTold_490 : decode cX11_keepsTold 490 = .ok (.iastore, 1) := by decide +kernel
theorem dX11_keepsTold_491 : decode cX11_keepsTold 491 = .ok (.iinc 1 1, 3) := by decide +kernel
theorem dX11_keepsTold_494 : decode cX11_keepsTold 494 = .ok (.goto (-25), 3) := by decide +kernel
theorem dX11_keepsTold_497 : decode cX11_keepsTold 497 = .ok (.return_, 1) := by decide +kernel
def f_X11_keepsTold_469  (k469 : Int32 × zHp → Option (zHp)) (v1 : Int32) (h : zHp) : Option (zHp) := (if v1 < (6 : Int32) then zix v1 6 ((f_X11_keeps (h 36 v1.toNatClampNeg) h).bind fun x1 => zix v1 6 (zlt (zst x1.2 36 v1.toNatClampNeg x1.1) fun h2 => k469 ((v1 + (1 : Int32)), h2))) else some h)
set_option maxHeartbeats 4000000 in
set_option maxRecDepth 100000 in
theorem f_X11_keepsTold_469_s  (k469 : Int32 × zHp → Option (zHp)) (H469 : ∀ v : Int32 × zHp, Sim wM mX11_keepsTold 1 rV 469 [(0, .ref 0), (1, .int v.1)] [] v.2 (k469 v)) (v1 : Int32) (h : zHp) : Sim wM mX11_keepsTold 1 rV 469 [(0, .ref 0), (1, .int v1)] [] h (f_X11_keepsTold_469 k469 v1 h) := by
  unfold f_X11_keepsTold_469
  refine Sim.iload_n 1 dX11_keepsTold_469 rfl ?_
  refine Sim.bipush (v := (6 : Int32)) dX11_keepsTold_470 rfl ?_
  refine Sim.icmp_ge 497 dX11_keepsTold_472 rfl ?_ ?_
  · refine Sim.aload_n 0 dX11_keepsTold_475 rfl ?_
    refine Sim.getR (j := 36) fl_X11_119 dX11_keepsTold_476 mR_63 ?_
    refine Sim.iload_n 1 dX11_keepsTold_479 rfl ?_
    refine Sim.aload_n 0 dX11_keepsTold_480 rfl ?_
    refine Sim.aload_n 0 dX11_keepsTold_481 rfl ?_
    refine Sim.getR (j := 36) fl_X11_119 dX11_keepsTold_482 mR_63 ?_
    refine Sim.iload_n 1 dX11_keepsTold_485 rfl ?_
    refine Sim.iald (n := 6) dX11_keepsTold_486 mA_36 ?_
    refine Sim.callV1I (d1 := 0) (s_X11_keeps (h 36 v1.toNatClampNeg) h) dX11_keepsTold_487 ml_X11_511 mv_X11_keeps mC (Nat.le_of_ble_eq_true rfl) (Nat.le_of_ble_eq_true rfl) (Nat.le_of_ble_eq_true rfl) (fun x1 => ?_)
    refine Sim.iast (n := 6) dX11_keepsTold_490 mA_36 ?_
    refine Sim.lth (fun h2 => ?_)
    refine Sim.iinc (L' := [(1, .int (v1 + (1 : Int32))), (0, .ref 0)]) 1 dX11_keepsTold_491 rfl rfl (Nat.le_of_ble_eq_true rfl) rfl ?_
    refine Sim.goto 469 dX11_keepsTold_494 rfl ?_
    refine Sim.locs [1, 0] rfl ?_
    exact H469 ((v1 + (1 : Int32)), h2)
  · exact Sim.vret dX11_keepsTold_497 rfl
def f_X11_keepsTold_469_lp   (n : Nat) (v : Int32 × zHp) : Option (zHp) := zlp (fun k469 v => f_X11_keepsTold_469 k469 v.1 v.2) n v
theorem f_X11_keepsTold_469_ls  (n : Nat) (v : Int32 × zHp) : Sim wM mX11_keepsTold 1 rV 469 [(0, .ref 0), (1, .int v.1)] [] v.2 (f_X11_keepsTold_469_lp n v) :=
  Sim.lp (V := Int32 × zHp) (Lf := fun v => [(0, .ref 0), (1, .int v.1)]) (sf := fun v => []) (hf := fun v => v.2) (fun k469 H469 v => f_X11_keepsTold_469_s k469 H469 v.1 v.2) n v
def f_X11_keepsTold_439  (k439 : Int32 × zHp → Option (zHp)) (v1 : Int32) (h : zHp) : Option (zHp) := (if v1 < (9 : Int32) then zix v1 9 ((f_X11_keeps (h 32 v1.toNatClampNeg) h).bind fun x1 => zix v1 9 (zlt (zst x1.2 32 v1.toNatClampNeg x1.1) fun h2 => k439 ((v1 + (1 : Int32)), h2))) else f_X11_keepsTold_469_lp  zN ((0 : Int32), h))
set_option maxHeartbeats 4000000 in
set_option maxRecDepth 100000 in
theorem f_X11_keepsTold_439_s  (k439 : Int32 × zHp → Option (zHp)) (H439 : ∀ v : Int32 × zHp, Sim wM mX11_keepsTold 1 rV 439 [(0, .ref 0), (1, .int v.1)] [] v.2 (k439 v)) (v1 : Int32) (h : zHp) : Sim wM mX11_keepsTold 1 rV 439 [(0, .ref 0), (1, .int v1)] [] h (f_X11_keepsTold_439 k439 v1 h) := by
  unfold f_X11_keepsTold_439
  refine Sim.iload_n 1 dX11_keepsTold_439 rfl ?_
  refine Sim.bipush (v := (9 : Int32)) dX11_keepsTold_440 rfl ?_
  refine Sim.icmp_ge 467 dX11_keepsTold_442 rfl ?_ ?_
  · refine Sim.aload_n 0 dX11_keepsTold_445 rfl ?_
    refine Sim.getR (j := 32) fl_X11_107 dX11_keepsTold_446 mR_57 ?_
    refine Sim.iload_n 1 dX11_keepsTold_449 rfl ?_
    refine Sim.aload_n 0 dX11_keepsTold_450 rfl ?_
    refine Sim.aload_n 0 dX11_keepsTold_451 rfl ?_
    refine Sim.getR (j := 32) fl_X11_107 dX11_keepsTold_452 mR_57 ?_
    refine Sim.iload_n 1 dX11_keepsTold_455 rfl ?_
    refine Sim.iald (n := 9) dX11_keepsTold_456 mA_32 ?_
    refine Sim.callV1I (d1 := 0) (s_X11_keeps (h 32 v1.toNatClampNeg) h) dX11_keepsTold_457 ml_X11_511 mv_X11_keeps mC (Nat.le_of_ble_eq_true rfl) (Nat.le_of_ble_eq_true rfl) (Nat.le_of_ble_eq_true rfl) (fun x1 => ?_)
    refine Sim.iast (n := 9) dX11_keepsTold_460 mA_32 ?_
    refine Sim.lth (fun h2 => ?_)
    refine Sim.iinc (L' := [(1, .int (v1 + (1 : Int32))), (0, .ref 0)]) 1 dX11_keepsTold_461 rfl rfl (Nat.le_of_ble_eq_true rfl) rfl ?_
    refine Sim.goto 439 dX11_keepsTold_464 rfl ?_
    refine Sim.locs [1, 0] rfl ?_
    exact H439 ((v1 + (1 : Int32)), h2)
  · refine Sim.iconst (v := (0 : Int32)) dX11_keepsTold_467 rfl ?_
    refine Sim.istore_n (L' := [(1, .int (0 : Int32)), (0, .ref 0)]) dX11_keepsTold_468 (Nat.le_of_ble_eq_true rfl) rfl ?_
    refine Sim.locs [1, 0] rfl ?_
    exact f_X11_keepsTold_469_ls  zN ((0 : Int32), h)
def f_X11_keepsTold_439_lp   (n : Nat) (v : Int32 × zHp) : Option (zHp) := zlp (fun k439 v => f_X11_keepsTold_439 k439 v.1 v.2) n v
theorem f_X11_keepsTold_439_ls  (n : Nat) (v : Int32 × zHp) : Sim wM mX11_keepsTold 1 rV 439 [(0, .ref 0), (1, .int v.1)] [] v.2 (f_X11_keepsTold_439_lp n v) :=
  Sim.lp (V := Int32 × zHp) (Lf := fun v => [(0, .ref 0), (1, .int v.1)]) (sf := fun v => []) (hf := fun v => v.2) (fun k439 H439 v => f_X11_keepsTold_439_s k439 H439 v.1 v.2) n v
def f_X11_keepsTold_409  (k409 : Int32 × zHp → Option (zHp)) (v1 : Int32) (h : zHp) : Option (zHp) := (if v1 < (36 : Int32) then zix v1 36 ((f_X11_keeps (h 29 v1.toNatClampNeg) h).bind fun x1 => zix v1 36 (zlt (zst x1.2 29 v1.toNatClampNeg x1.1) fun h2 => k409 ((v1 + (1 : Int32)), h2))) else f_X11_keepsTold_439_lp  zN ((0 : Int32), h))
set_option maxHeartbeats 4000000 in
set_option maxRecDepth 100000 in
theorem f_X11_keepsTold_409_s  (k409 : Int32 × zHp → Option (zHp)) (H409 : ∀ v : Int32 × zHp, Sim wM mX11_keepsTold 1 rV 409 [(0, .ref 0), (1, .int v.1)] [] v.2 (k409 v)) (v1 : Int32) (h : zHp) : Sim wM mX11_keepsTold 1 rV 409 [(0, .ref 0), (1, .int v1)] [] h (f_X11_keepsTold_409 k409 v1 h) := by
  unfold f_X11_keepsTold_409
  refine Sim.iload_n 1 dX11_keepsTold_409 rfl ?_
  refine Sim.bipush (v := (36 : Int32)) dX11_keepsTold_410 rfl ?_
  refine Sim.icmp_ge 437 dX11_keepsTold_412 rfl ?_ ?_
  · refine Sim.aload_n 0 dX11_keepsTold_415 rfl ?_
    refine Sim.getR (j := 29) fl_X11_98 dX11_keepsTold_416 mR_52 ?_
    refine Sim.iload_n 1 dX11_keepsTold_419 rfl ?_
    refine Sim.aload_n 0 dX11_keepsTold_420 rfl ?_
    refine Sim.aload_n 0 dX11_keepsTold_421 rfl ?_
    refine Sim.getR (j := 29) fl_X11_98 dX11_keepsTold_422 mR_52 ?_
    refine Sim.iload_n 1 dX11_keepsTold_425 rfl ?_
    refine Sim.iald (n := 36) dX11_keepsTold_426 mA_29 ?_
    refine Sim.callV1I (d1 := 0) (s_X11_keeps (h 29 v1.toNatClampNeg) h) dX11_keepsTold_427 ml_X11_511 mv_X11_keeps mC (Nat.le_of_ble_eq_true rfl) (Nat.le_of_ble_eq_true rfl) (Nat.le_of_ble_eq_true rfl) (fun x1 => ?_)
    refine Sim.iast (n := 36) dX11_keepsTold_430 mA_29 ?_
    refine Sim.lth (fun h2 => ?_)
    refine Sim.iinc (L' := [(1, .int (v1 + (1 : Int32))), (0, .ref 0)]) 1 dX11_keepsTold_431 rfl rfl (Nat.le_of_ble_eq_true rfl) rfl ?_
    refine Sim.goto 409 dX11_keepsTold_434 rfl ?_
    refine Sim.locs [1, 0] rfl ?_
    exact H409 ((v1 + (1 : Int32)), h2)
  · refine Sim.iconst (v := (0 : Int32)) dX11_keepsTold_437 rfl ?_
    refine Sim.istore_n (L' := [(1, .int (0 : Int32)), (0, .ref 0)]) dX11_keepsTold_438 (Nat.le_of_ble_eq_true rfl) rfl ?_
    refine Sim.locs [1, 0] rfl ?_
    exact f_X11_keepsTold_439_ls  zN ((0 : Int32), h)
def f_X11_keepsTold_409_lp   (n : Nat) (v : Int32 × zHp) : Option (zHp) := zlp (fun k409 v => f_X11_keepsTold_409 k409 v.1 v.2) n v
theorem f_X11_keepsTold_409_ls  (n : Nat) (v : Int32 × zHp) : Sim wM mX11_keepsTold 1 rV 409 [(0, .ref 0), (1, .int v.1)] [] v.2 (f_X11_keepsTold_409_lp n v) :=
  Sim.lp (V := Int32 × zHp) (Lf := fun v => [(0, .ref 0), (1, .int v.1)]) (sf := fun v => []) (hf := fun v => v.2) (fun k409 H409 v => f_X11_keepsTold_409_s k409 H409 v.1 v.2) n v
def f_X11_keepsTold_363  (k363 : Int32 × zHp → Option (zHp)) (v1 : Int32) (h : zHp) : Option (zHp) := (if v1 < (8 : Int32) then zix v1 8 ((f_X11_keeps (h 27 v1.toNatClampNeg) h).bind fun x1 => zix v1 8 (zlt (zst x1.2 27 v1.toNatClampNeg x1.1) fun h2 => zix v1 8 ((f_X11_keeps (h2 28 v1.toNatClampNeg) h2).bind fun x3 => zix v1 8 (zlt (zst x3.2 28 v1.toNatClampNeg x3.1) fun h4 => k363 ((v1 + (1 : Int32)), h4))))) else f_X11_keepsTold_409_lp  zN ((0 : Int32), h))
set_option maxHeartbeats 4000000 in
set_option maxRecDepth 100000 in
theorem f_X11_keepsTold_363_s  (k363 : Int32 × zHp → Option (zHp)) (H363 : ∀ v : Int32 × zHp, Sim wM mX11_keepsTold 1 rV 363 [(0, .ref 0), (1, .int v.1)] [] v.2 (k363 v)) (v1 : Int32) (h : zHp) : Sim wM mX11_keepsTold 1 rV 363 [(0, .ref 0), (1, .int v1)] [] h (f_X11_keepsTold_363 k363 v1 h) := by
  unfold f_X11_keepsTold_363
  refine Sim.iload_n 1 dX11_keepsTold_363 rfl ?_
  refine Sim.bipush (v := (8 : Int32)) dX11_keepsTold_364 rfl ?_
  refine Sim.icmp_ge 407 dX11_keepsTold_366 rfl ?_ ?_
  · refine Sim.aload_n 0 dX11_keepsTold_369 rfl ?_
    refine Sim.getR (j := 27) fl_X11_92 dX11_keepsTold_370 mR_50 ?_
    refine Sim.iload_n 1 dX11_keepsTold_373 rfl ?_
    refine Sim.aload_n 0 dX11_keepsTold_374 rfl ?_
    refine Sim.aload_n 0 dX11_keepsTold_375 rfl ?_
    refine Sim.getR (j := 27) fl_X11_92 dX11_keepsTold_376 mR_50 ?_
    refine Sim.iload_n 1 dX11_keepsTold_379 rfl ?_
    refine Sim.iald (n := 8) dX11_keepsTold_380 mA_27 ?_
    refine Sim.callV1I (d1 := 0) (s_X11_keeps (h 27 v1.toNatClampNeg) h) dX11_keepsTold_381 ml_X11_511 mv_X11_keeps mC (Nat.le_of_ble_eq_true rfl) (Nat.le_of_ble_eq_true rfl) (Nat.le_of_ble_eq_true rfl) (fun x1 => ?_)
    refine Sim.iast (n := 8) dX11_keepsTold_384 mA_27 ?_
    refine Sim.lth (fun h2 => ?_)
    refine Sim.aload_n 0 dX11_keepsTold_385 rfl ?_
    refine Sim.getR (j := 28) fl_X11_95 dX11_keepsTold_386 mR_51 ?_
    refine Sim.iload_n 1 dX11_keepsTold_389 rfl ?_
    refine Sim.aload_n 0 dX11_keepsTold_390 rfl ?_
    refine Sim.aload_n 0 dX11_keepsTold_391 rfl ?_
    refine Sim.getR (j := 28) fl_X11_95 dX11_keepsTold_392 mR_51 ?_
    refine Sim.iload_n 1 dX11_keepsTold_395 rfl ?_
    refine Sim.iald (n := 8) dX11_keepsTold_396 mA_28 ?_
    refine Sim.callV1I (d1 := 0) (s_X11_keeps (h2 28 v1.toNatClampNeg) h2) dX11_keepsTold_397 ml_X11_511 mv_X11_keeps mC (Nat.le_of_ble_eq_true rfl) (Nat.le_of_ble_eq_true rfl) (Nat.le_of_ble_eq_true rfl) (fun x3 => ?_)
    refine Sim.iast (n := 8) dX11_keepsTold_400 mA_28 ?_
    refine Sim.lth (fun h4 => ?_)
    refine Sim.iinc (L' := [(1, .int (v1 + (1 : Int32))), (0, .ref 0)]) 1 dX11_keepsTold_401 rfl rfl (Nat.le_of_ble_eq_true rfl) rfl ?_
    refine Sim.goto 363 dX11_keepsTold_404 rfl ?_
    refine Sim.locs [1, 0] rfl ?_
    exact H363 ((v1 + (1 : Int32)), h4)
  · refine Sim.iconst (v := (0 : Int32)) dX11_keepsTold_407 rfl ?_
    refine Sim.istore_n (L' := [(1, .int (0 : Int32)), (0, .ref 0)]) dX11_keepsTold_408 (Nat.le_of_ble_eq_true rfl) rfl ?_
    refine Sim.locs [1, 0] rfl ?_
    exact f_X11_keepsTold_409_ls  zN ((0 : Int32), h)
def f_X11_keepsTold_363_lp   (n : Nat) (v : Int32 × zHp) : Option (zHp) := zlp (fun k363 v => f_X11_keepsTold_363 k363 v.1 v.2) n v
theorem f_X11_keepsTold_363_ls  (n : Nat) (v : Int32 × zHp) : Sim wM mX11_keepsTold 1 rV 363 [(0, .ref 0), (1, .int v.1)] [] v.2 (f_X11_keepsTold_363_lp n v) :=
  Sim.lp (V := Int32 × zHp) (Lf := fun v => [(0, .ref 0), (1, .int v.1)]) (sf := fun v => []) (hf := fun v => v.2) (fun k363 H363 v => f_X11_keepsTold_363_s k363 H363 v.1 v.2) n v
def f_X11_keepsTold_318  (k318 : Int32 × zHp → Option (zHp)) (v1 : Int32) (h : zHp) : Option (zHp) := (if v1 < (4 : Int32) then zix v1 4 ((f_X11_keeps (h 22 v1.toNatClampNeg) h).bind fun x1 => zix v1 4 (zlt (zst x1.2 22 v1.toNatClampNeg x1.1) fun h2 => zix v1 4 ((f_X11_keeps (h2 23 v1.toNatClampNeg) h2).bind fun x3 => zix v1 4 (zlt (zst x3.2 23 v1.toNatClampNeg x3.1) fun h4 => k318 ((v1 + (1 : Int32)), h4))))) else f_X11_keepsTold_363_lp  zN ((0 : Int32), h))
set_option maxHeartbeats 4000000 in
set_option maxRecDepth 100000 in
theorem f_X11_keepsTold_318_s  (k318 : Int32 × zHp → Option (zHp)) (H318 : ∀ v : Int32 × zHp, Sim wM mX11_keepsTold 1 rV 318 [(0, .ref 0), (1, .int v.1)] [] v.2 (k318 v)) (v1 : Int32) (h : zHp) : Sim wM mX11_keepsTold 1 rV 318 [(0, .ref 0), (1, .int v1)] [] h (f_X11_keepsTold_318 k318 v1 h) := by
  unfold f_X11_keepsTold_318
  refine Sim.iload_n 1 dX11_keepsTold_318 rfl ?_
  refine Sim.iconst (v := (4 : Int32)) dX11_keepsTold_319 rfl ?_
  refine Sim.icmp_ge 361 dX11_keepsTold_320 rfl ?_ ?_
  · refine Sim.aload_n 0 dX11_keepsTold_323 rfl ?_
    refine Sim.getR (j := 22) fl_X11_77 dX11_keepsTold_324 mR_43 ?_
    refine Sim.iload_n 1 dX11_keepsTold_327 rfl ?_
    refine Sim.aload_n 0 dX11_keepsTold_328 rfl ?_
    refine Sim.aload_n 0 dX11_keepsTold_329 rfl ?_
    refine Sim.getR (j := 22) fl_X11_77 dX11_keepsTold_330 mR_43 ?_
    refine Sim.iload_n 1 dX11_keepsTold_333 rfl ?_
    refine Sim.iald (n := 4) dX11_keepsTold_334 mA_22 ?_
    refine Sim.callV1I (d1 := 0) (s_X11_keeps (h 22 v1.toNatClampNeg) h) dX11_keepsTold_335 ml_X11_511 mv_X11_keeps mC (Nat.le_of_ble_eq_true rfl) (Nat.le_of_ble_eq_true rfl) (Nat.le_of_ble_eq_true rfl) (fun x1 => ?_)
    refine Sim.iast (n := 4) dX11_keepsTold_338 mA_22 ?_
    refine Sim.lth (fun h2 => ?_)
    refine Sim.aload_n 0 dX11_keepsTold_339 rfl ?_
    refine Sim.getR (j := 23) fl_X11_80 dX11_keepsTold_340 mR_44 ?_
    refine Sim.iload_n 1 dX11_keepsTold_343 rfl ?_
    refine Sim.aload_n 0 dX11_keepsTold_344 rfl ?_
    refine Sim.aload_n 0 dX11_keepsTold_345 rfl ?_
    refine Sim.getR (j := 23) fl_X11_80 dX11_keepsTold_346 mR_44 ?_
    refine Sim.iload_n 1 dX11_keepsTold_349 rfl ?_
    refine Sim.iald (n := 4) dX11_keepsTold_350 mA_23 ?_
    refine Sim.callV1I (d1 := 0) (s_X11_keeps (h2 23 v1.toNatClampNeg) h2) dX11_keepsTold_351 ml_X11_511 mv_X11_keeps mC (Nat.le_of_ble_eq_true rfl) (Nat.le_of_ble_eq_true rfl) (Nat.le_of_ble_eq_true rfl) (fun x3 => ?_)
    refine Sim.iast (n := 4) dX11_keepsTold_354 mA_23 ?_
    refine Sim.lth (fun h4 => ?_)
    refine Sim.iinc (L' := [(1, .int (v1 + (1 : Int32))), (0, .ref 0)]) 1 dX11_keepsTold_355 rfl rfl (Nat.le_of_ble_eq_true rfl) rfl ?_
    refine Sim.goto 318 dX11_keepsTold_358 rfl ?_
    refine Sim.locs [1, 0] rfl ?_
    exact H318 ((v1 + (1 : Int32)), h4)
  · refine Sim.iconst (v := (0 : Int32)) dX11_keepsTold_361 rfl ?_
    refine Sim.istore_n (L' := [(1, .int (0 : Int32)), (0, .ref 0)]) dX11_keepsTold_362 (Nat.le_of_ble_eq_true rfl) rfl ?_
    refine Sim.locs [1, 0] rfl ?_
    exact f_X11_keepsTold_363_ls  zN ((0 : Int32), h)
def f_X11_keepsTold_318_lp   (n : Nat) (v : Int32 × zHp) : Option (zHp) := zlp (fun k318 v => f_X11_keepsTold_318 k318 v.1 v.2) n v
theorem f_X11_keepsTold_318_ls  (n : Nat) (v : Int32 × zHp) : Sim wM mX11_keepsTold 1 rV 318 [(0, .ref 0), (1, .int v.1)] [] v.2 (f_X11_keepsTold_318_lp n v) :=
  Sim.lp (V := Int32 × zHp) (Lf := fun v => [(0, .ref 0), (1, .int v.1)]) (sf := fun v => []) (hf := fun v => v.2) (fun k318 H318 v => f_X11_keepsTold_318_s k318 H318 v.1 v.2) n v
def f_X11_keepsTold_288  (k288 : Int32 × zHp → Option (zHp)) (v1 : Int32) (h : zHp) : Option (zHp) := (if v1 < (48 : Int32) then zix v1 96 ((f_X11_keeps (h 18 v1.toNatClampNeg) h).bind fun x1 => zix v1 96 (zlt (zst x1.2 18 v1.toNatClampNeg x1.1) fun h2 => k288 ((v1 + (1 : Int32)), h2))) else f_X11_keepsTold_318_lp  zN ((0 : Int32), h))
set_option maxHeartbeats 4000000 in
set_option maxRecDepth 100000 in
theorem f_X11_keepsTold_288_s  (k288 : Int32 × zHp → Option (zHp)) (H288 : ∀ v : Int32 × zHp, Sim wM mX11_keepsTold 1 rV 288 [(0, .ref 0), (1, .int v.1)] [] v.2 (k288 v)) (v1 : Int32) (h : zHp) : Sim wM mX11_keepsTold 1 rV 288 [(0, .ref 0), (1, .int v1)] [] h (f_X11_keepsTold_288 k288 v1 h) := by
  unfold f_X11_keepsTold_288
  refine Sim.iload_n 1 dX11_keepsTold_288 rfl ?_
  refine Sim.bipush (v := (48 : Int32)) dX11_keepsTold_289 rfl ?_
  refine Sim.icmp_ge 316 dX11_keepsTold_291 rfl ?_ ?_
  · refine Sim.aload_n 0 dX11_keepsTold_294 rfl ?_
    refine Sim.getR (j := 18) fl_X11_65 dX11_keepsTold_295 mR_37 ?_
    refine Sim.iload_n 1 dX11_keepsTold_298 rfl ?_
    refine Sim.aload_n 0 dX11_keepsTold_299 rfl ?_
    refine Sim.aload_n 0 dX11_keepsTold_300 rfl ?_
    refine Sim.getR (j := 18) fl_X11_65 dX11_keepsTold_301 mR_37 ?_
    refine Sim.iload_n 1 dX11_keepsTold_304 rfl ?_
    refine Sim.iald (n := 96) dX11_keepsTold_305 mA_18 ?_
    refine Sim.callV1I (d1 := 0) (s_X11_keeps (h 18 v1.toNatClampNeg) h) dX11_keepsTold_306 ml_X11_511 mv_X11_keeps mC (Nat.le_of_ble_eq_true rfl) (Nat.le_of_ble_eq_true rfl) (Nat.le_of_ble_eq_true rfl) (fun x1 => ?_)
    refine Sim.iast (n := 96) dX11_keepsTold_309 mA_18 ?_
    refine Sim.lth (fun h2 => ?_)
    refine Sim.iinc (L' := [(1, .int (v1 + (1 : Int32))), (0, .ref 0)]) 1 dX11_keepsTold_310 rfl rfl (Nat.le_of_ble_eq_true rfl) rfl ?_
    refine Sim.goto 288 dX11_keepsTold_313 rfl ?_
    refine Sim.locs [1, 0] rfl ?_
    exact H288 ((v1 + (1 : Int32)), h2)
  · refine Sim.iconst (v := (0 : Int32)) dX11_keepsTold_316 rfl ?_
    refine Sim.istore_n (L' := [(1, .int (0 : Int32)), (0, .ref 0)]) dX11_keepsTold_317 (Nat.le_of_ble_eq_true rfl) rfl ?_
    refine Sim.locs [1, 0] rfl ?_
    exact f_X11_keepsTold_318_ls  zN ((0 : Int32), h)
def f_X11_keepsTold_288_lp   (n : Nat) (v : Int32 × zHp) : Option (zHp) := zlp (fun k288 v => f_X11_keepsTold_288 k288 v.1 v.2) n v
theorem f_X11_keepsTold_288_ls  (n : Nat) (v : Int32 × zHp) : Sim wM mX11_keepsTold 1 rV 288 [(0, .ref 0), (1, .int v.1)] [] v.2 (f_X11_keepsTold_288_lp n v) :=
  Sim.lp (V := Int32 × zHp) (Lf := fun v => [(0, .ref 0), (1, .int v.1)]) (sf := fun v => []) (hf := fun v => v.2) (fun k288 H288 v => f_X11_keepsTold_288_s k288 H288 v.1 v.2) n v
def f_X11_keepsTold_258  (k258 : Int32 × zHp → Option (zHp)) (v1 : Int32) (h : zHp) : Option (zHp) := (if v1 < (64 : Int32) then zix v1 128 ((f_X11_keeps (h 17 v1.toNatClampNeg) h).bind fun x1 => zix v1 128 (zlt (zst x1.2 17 v1.toNatClampNeg x1.1) fun h2 => k258 ((v1 + (1 : Int32)), h2))) else f_X11_keepsTold_288_lp  zN ((0 : Int32), h))
set_option maxHeartbeats 4000000 in
set_option maxRecDepth 100000 in
theorem f_X11_keepsTold_258_s  (k258 : Int32 × zHp → Option (zHp)) (H258 : ∀ v : Int32 × zHp, Sim wM mX11_keepsTold 1 rV 258 [(0, .ref 0), (1, .int v.1)] [] v.2 (k258 v)) (v1 : Int32) (h : zHp) : Sim wM mX11_keepsTold 1 rV 258 [(0, .ref 0), (1, .int v1)] [] h (f_X11_keepsTold_258 k258 v1 h) := by
  unfold f_X11_keepsTold_258
  refine Sim.iload_n 1 dX11_keepsTold_258 rfl ?_
  refine Sim.bipush (v := (64 : Int32)) dX11_keepsTold_259 rfl ?_
  refine Sim.icmp_ge 286 dX11_keepsTold_261 rfl ?_ ?_
  · refine Sim.aload_n 0 dX11_keepsTold_264 rfl ?_
    refine Sim.getR (j := 17) fl_X11_62 dX11_keepsTold_265 mR_35 ?_
    refine Sim.iload_n 1 dX11_keepsTold_268 rfl ?_
    refine Sim.aload_n 0 dX11_keepsTold_269 rfl ?_
    refine Sim.aload_n 0 dX11_keepsTold_270 rfl ?_
    refine Sim.getR (j := 17) fl_X11_62 dX11_keepsTold_271 mR_35 ?_
    refine Sim.iload_n 1 dX11_keepsTold_274 rfl ?_
    refine Sim.iald (n := 128) dX11_keepsTold_275 mA_17 ?_
    refine Sim.callV1I (d1 := 0) (s_X11_keeps (h 17 v1.toNatClampNeg) h) dX11_keepsTold_276 ml_X11_511 mv_X11_keeps mC (Nat.le_of_ble_eq_true rfl) (Nat.le_of_ble_eq_true rfl) (Nat.le_of_ble_eq_true rfl) (fun x1 => ?_)
    refine Sim.iast (n := 128) dX11_keepsTold_279 mA_17 ?_
    refine Sim.lth (fun h2 => ?_)
    refine Sim.iinc (L' := [(1, .int (v1 + (1 : Int32))), (0, .ref 0)]) 1 dX11_keepsTold_280 rfl rfl (Nat.le_of_ble_eq_true rfl) rfl ?_
    refine Sim.goto 258 dX11_keepsTold_283 rfl ?_
    refine Sim.locs [1, 0] rfl ?_
    exact H258 ((v1 + (1 : Int32)), h2)
  · refine Sim.iconst (v := (0 : Int32)) dX11_keepsTold_286 rfl ?_
    refine Sim.istore_n (L' := [(1, .int (0 : Int32)), (0, .ref 0)]) dX11_keepsTold_287 (Nat.le_of_ble_eq_true rfl) rfl ?_
    refine Sim.locs [1, 0] rfl ?_
    exact f_X11_keepsTold_288_ls  zN ((0 : Int32), h)
def f_X11_keepsTold_258_lp   (n : Nat) (v : Int32 × zHp) : Option (zHp) := zlp (fun k258 v => f_X11_keepsTold_258 k258 v.1 v.2) n v
theorem f_X11_keepsTold_258_ls  (n : Nat) (v : Int32 × zHp) : Sim wM mX11_keepsTold 1 rV 258 [(0, .ref 0), (1, .int v.1)] [] v.2 (f_X11_keepsTold_258_lp n v) :=
  Sim.lp (V := Int32 × zHp) (Lf := fun v => [(0, .ref 0), (1, .int v.1)]) (sf := fun v => []) (hf := fun v => v.2) (fun k258 H258 v => f_X11_keepsTold_258_s k258 H258 v.1 v.2) n v
def f_X11_keepsTold_180  (k180 : Int32 × zHp → Option (zHp)) (v1 : Int32) (h : zHp) : Option (zHp) := (if v1 < (10 : Int32) then zix v1 10 ((f_X11_keeps (h 4 v1.toNatClampNeg) h).bind fun x1 => zix v1 10 (zlt (zst x1.2 4 v1.toNatClampNeg x1.1) fun h2 => zix v1 10 ((f_X11_keeps (h2 24 v1.toNatClampNeg) h2).bind fun x3 => zix v1 10 (zlt (zst x3.2 24 v1.toNatClampNeg x3.1) fun h4 => zix v1 10 ((f_X11_keeps (h4 25 v1.toNatClampNeg) h4).bind fun x5 => zix v1 10 (zlt (zst x5.2 25 v1.toNatClampNeg x5.1) fun h6 => zix v1 10 ((f_X11_keeps (h6 35 v1.toNatClampNeg) h6).bind fun x7 => zix v1 10 (zlt (zst x7.2 35 v1.toNatClampNeg x7.1) fun h8 => k180 ((v1 + (1 : Int32)), h8))))))))) else f_X11_keepsTold_258_lp  zN ((0 : Int32), h))
set_option maxHeartbeats 4000000 in
set_option maxRecDepth 100000 in
theorem f_X11_keepsTold_180_s  (k180 : Int32 × zHp → Option (zHp)) (H180 : ∀ v : Int32 × zHp, Sim wM mX11_keepsTold 1 rV 180 [(0, .ref 0), (1, .int v.1)] [] v.2 (k180 v)) (v1 : Int32) (h : zHp) : Sim wM mX11_keepsTold 1 rV 180 [(0, .ref 0), (1, .int v1)] [] h (f_X11_keepsTold_180 k180 v1 h) := by
  unfold f_X11_keepsTold_180
  refine Sim.iload_n 1 dX11_keepsTold_180 rfl ?_
  refine Sim.bipush (v := (10 : Int32)) dX11_keepsTold_181 rfl ?_
  refine Sim.icmp_ge 256 dX11_keepsTold_183 rfl ?_ ?_
  · refine Sim.aload_n 0 dX11_keepsTold_186 rfl ?_
    refine Sim.getR (j := 4) fl_X11_19 dX11_keepsTold_187 mR_8 ?_
    refine Sim.iload_n 1 dX11_keepsTold_190 rfl ?_
    refine Sim.aload_n 0 dX11_keepsTold_191 rfl ?_
    refine Sim.aload_n 0 dX11_keepsTold_192 rfl ?_
    refine Sim.getR (j := 4) fl_X11_19 dX11_keepsTold_193 mR_8 ?_
    refine Sim.iload_n 1 dX11_keepsTold_196 rfl ?_
    refine Sim.iald (n := 10) dX11_keepsTold_197 mA_4 ?_
    refine Sim.callV1I (d1 := 0) (s_X11_keeps (h 4 v1.toNatClampNeg) h) dX11_keepsTold_198 ml_X11_511 mv_X11_keeps mC (Nat.le_of_ble_eq_true rfl) (Nat.le_of_ble_eq_true rfl) (Nat.le_of_ble_eq_true rfl) (fun x1 => ?_)
    refine Sim.iast (n := 10) dX11_keepsTold_201 mA_4 ?_
    refine Sim.lth (fun h2 => ?_)
    refine Sim.aload_n 0 dX11_keepsTold_202 rfl ?_
    refine Sim.getR (j := 24) fl_X11_83 dX11_keepsTold_203 mR_46 ?_
    refine Sim.iload_n 1 dX11_keepsTold_206 rfl ?_
    refine Sim.aload_n 0 dX11_keepsTold_207 rfl ?_
    refine Sim.aload_n 0 dX11_keepsTold_208 rfl ?_
    refine Sim.getR (j := 24) fl_X11_83 dX11_keepsTold_209 mR_46 ?_
    refine Sim.iload_n 1 dX11_keepsTold_212 rfl ?_
    refine Sim.iald (n := 10) dX11_keepsTold_213 mA_24 ?_
    refine Sim.callV1I (d1 := 0) (s_X11_keeps (h2 24 v1.toNatClampNeg) h2) dX11_keepsTold_214 ml_X11_511 mv_X11_keeps mC (Nat.le_of_ble_eq_true rfl) (Nat.le_of_ble_eq_true rfl) (Nat.le_of_ble_eq_true rfl) (fun x3 => ?_)
    refine Sim.iast (n := 10) dX11_keepsTold_217 mA_24 ?_
    refine Sim.lth (fun h4 => ?_)
    refine Sim.aload_n 0 dX11_keepsTold_218 rfl ?_
    refine Sim.getR (j := 25) fl_X11_86 dX11_keepsTold_219 mR_47 ?_
    refine Sim.iload_n 1 dX11_keepsTold_222 rfl ?_
    refine Sim.aload_n 0 dX11_keepsTold_223 rfl ?_
    refine Sim.aload_n 0 dX11_keepsTold_224 rfl ?_
    refine Sim.getR (j := 25) fl_X11_86 dX11_keepsTold_225 mR_47 ?_
    refine Sim.iload_n 1 dX11_keepsTold_228 rfl ?_
    refine Sim.iald (n := 10) dX11_keepsTold_229 mA_25 ?_
    refine Sim.callV1I (d1 := 0) (s_X11_keeps (h4 25 v1.toNatClampNeg) h4) dX11_keepsTold_230 ml_X11_511 mv_X11_keeps mC (Nat.le_of_ble_eq_true rfl) (Nat.le_of_ble_eq_true rfl) (Nat.le_of_ble_eq_true rfl) (fun x5 => ?_)
    refine Sim.iast (n := 10) dX11_keepsTold_233 mA_25 ?_
    refine Sim.lth (fun h6 => ?_)
    refine Sim.aload_n 0 dX11_keepsTold_234 rfl ?_
    refine Sim.getR (j := 35) fl_X11_116 dX11_keepsTold_235 mR_61 ?_
    refine Sim.iload_n 1 dX11_keepsTold_238 rfl ?_
    refine Sim.aload_n 0 dX11_keepsTold_239 rfl ?_
    refine Sim.aload_n 0 dX11_keepsTold_240 rfl ?_
    refine Sim.getR (j := 35) fl_X11_116 dX11_keepsTold_241 mR_61 ?_
    refine Sim.iload_n 1 dX11_keepsTold_244 rfl ?_
    refine Sim.iald (n := 10) dX11_keepsTold_245 mA_35 ?_
    refine Sim.callV1I (d1 := 0) (s_X11_keeps (h6 35 v1.toNatClampNeg) h6) dX11_keepsTold_246 ml_X11_511 mv_X11_keeps mC (Nat.le_of_ble_eq_true rfl) (Nat.le_of_ble_eq_true rfl) (Nat.le_of_ble_eq_true rfl) (fun x7 => ?_)
    refine Sim.iast (n := 10) dX11_keepsTold_249 mA_35 ?_
    refine Sim.lth (fun h8 => ?_)
    refine Sim.iinc (L' := [(1, .int (v1 + (1 : Int32))), (0, .ref 0)]) 1 dX11_keepsTold_250 rfl rfl (Nat.le_of_ble_eq_true rfl) rfl ?_
    refine Sim.goto 180 dX11_keepsTold_253 rfl ?_
    refine Sim.locs [1, 0] rfl ?_
    exact H180 ((v1 + (1 : Int32)), h8)
  · refine Sim.iconst (v := (0 : Int32)) dX11_keepsTold_256 rfl ?_
    refine Sim.istore_n (L' := [(1, .int (0 : Int32)), (0, .ref 0)]) dX11_keepsTold_257 (Nat.le_of_ble_eq_true rfl) rfl ?_
    refine Sim.locs [1, 0] rfl ?_
    exact f_X11_keepsTold_258_ls  zN ((0 : Int32), h)
def f_X11_keepsTold_180_lp   (n : Nat) (v : Int32 × zHp) : Option (zHp) := zlp (fun k180 v => f_X11_keepsTold_180 k180 v.1 v.2) n v
theorem f_X11_keepsTold_180_ls  (n : Nat) (v : Int32 × zHp) : Sim wM mX11_keepsTold 1 rV 180 [(0, .ref 0), (1, .int v.1)] [] v.2 (f_X11_keepsTold_180_lp n v) :=
  Sim.lp (V := Int32 × zHp) (Lf := fun v => [(0, .ref 0), (1, .int v.1)]) (sf := fun v => []) (hf := fun v => v.2) (fun k180 H180 v => f_X11_keepsTold_180_s k180 H180 v.1 v.2) n v
def f_X11_keepsTold_134  (k134 : Int32 × zHp → Option (zHp)) (v1 : Int32) (h : zHp) : Option (zHp) := (if v1 < (14 : Int32) then zix v1 14 ((f_X11_keeps (h 5 v1.toNatClampNeg) h).bind fun x1 => zix v1 14 (zlt (zst x1.2 5 v1.toNatClampNeg x1.1) fun h2 => zix v1 28 ((f_X11_keeps (h2 19 v1.toNatClampNeg) h2).bind fun x3 => zix v1 28 (zlt (zst x3.2 19 v1.toNatClampNeg x3.1) fun h4 => k134 ((v1 + (1 : Int32)), h4))))) else f_X11_keepsTold_180_lp  zN ((0 : Int32), h))
set_option maxHeartbeats 4000000 in
set_option maxRecDepth 100000 in
theorem f_X11_keepsTold_134_s  (k134 : Int32 × zHp → Option (zHp)) (H134 : ∀ v : Int32 × zHp, Sim wM mX11_keepsTold 1 rV 134 [(0, .ref 0), (1, .int v.1)] [] v.2 (k134 v)) (v1 : Int32) (h : zHp) : Sim wM mX11_keepsTold 1 rV 134 [(0, .ref 0), (1, .int v1)] [] h (f_X11_keepsTold_134 k134 v1 h) := by
  unfold f_X11_keepsTold_134
  refine Sim.iload_n 1 dX11_keepsTold_134 rfl ?_
  refine Sim.bipush (v := (14 : Int32)) dX11_keepsTold_135 rfl ?_
  refine Sim.icmp_ge 178 dX11_keepsTold_137 rfl ?_ ?_
  · refine Sim.aload_n 0 dX11_keepsTold_140 rfl ?_
    refine Sim.getR (j := 5) fl_X11_22 dX11_keepsTold_141 mR_9 ?_
    refine Sim.iload_n 1 dX11_keepsTold_144 rfl ?_
    refine Sim.aload_n 0 dX11_keepsTold_145 rfl ?_
    refine Sim.aload_n 0 dX11_keepsTold_146 rfl ?_
    refine Sim.getR (j := 5) fl_X11_22 dX11_keepsTold_147 mR_9 ?_
    refine Sim.iload_n 1 dX11_keepsTold_150 rfl ?_
    refine Sim.iald (n := 14) dX11_keepsTold_151 mA_5 ?_
    refine Sim.callV1I (d1 := 0) (s_X11_keeps (h 5 v1.toNatClampNeg) h) dX11_keepsTold_152 ml_X11_511 mv_X11_keeps mC (Nat.le_of_ble_eq_true rfl) (Nat.le_of_ble_eq_true rfl) (Nat.le_of_ble_eq_true rfl) (fun x1 => ?_)
    refine Sim.iast (n := 14) dX11_keepsTold_155 mA_5 ?_
    refine Sim.lth (fun h2 => ?_)
    refine Sim.aload_n 0 dX11_keepsTold_156 rfl ?_
    refine Sim.getR (j := 19) fl_X11_68 dX11_keepsTold_157 mR_39 ?_
    refine Sim.iload_n 1 dX11_keepsTold_160 rfl ?_
    refine Sim.aload_n 0 dX11_keepsTold_161 rfl ?_
    refine Sim.aload_n 0 dX11_keepsTold_162 rfl ?_
    refine Sim.getR (j := 19) fl_X11_68 dX11_keepsTold_163 mR_39 ?_
    refine Sim.iload_n 1 dX11_keepsTold_166 rfl ?_
    refine Sim.iald (n := 28) dX11_keepsTold_167 mA_19 ?_
    refine Sim.callV1I (d1 := 0) (s_X11_keeps (h2 19 v1.toNatClampNeg) h2) dX11_keepsTold_168 ml_X11_511 mv_X11_keeps mC (Nat.le_of_ble_eq_true rfl) (Nat.le_of_ble_eq_true rfl) (Nat.le_of_ble_eq_true rfl) (fun x3 => ?_)
    refine Sim.iast (n := 28) dX11_keepsTold_171 mA_19 ?_
    refine Sim.lth (fun h4 => ?_)
    refine Sim.iinc (L' := [(1, .int (v1 + (1 : Int32))), (0, .ref 0)]) 1 dX11_keepsTold_172 rfl rfl (Nat.le_of_ble_eq_true rfl) rfl ?_
    refine Sim.goto 134 dX11_keepsTold_175 rfl ?_
    refine Sim.locs [1, 0] rfl ?_
    exact H134 ((v1 + (1 : Int32)), h4)
  · refine Sim.iconst (v := (0 : Int32)) dX11_keepsTold_178 rfl ?_
    refine Sim.istore_n (L' := [(1, .int (0 : Int32)), (0, .ref 0)]) dX11_keepsTold_179 (Nat.le_of_ble_eq_true rfl) rfl ?_
    refine Sim.locs [1, 0] rfl ?_
    exact f_X11_keepsTold_180_ls  zN ((0 : Int32), h)
def f_X11_keepsTold_134_lp   (n : Nat) (v : Int32 × zHp) : Option (zHp) := zlp (fun k134 v => f_X11_keepsTold_134 k134 v.1 v.2) n v
theorem f_X11_keepsTold_134_ls  (n : Nat) (v : Int32 × zHp) : Sim wM mX11_keepsTold 1 rV 134 [(0, .ref 0), (1, .int v.1)] [] v.2 (f_X11_keepsTold_134_lp n v) :=
  Sim.lp (V := Int32 × zHp) (Lf := fun v => [(0, .ref 0), (1, .int v.1)]) (sf := fun v => []) (hf := fun v => v.2) (fun k134 H134 v => f_X11_keepsTold_134_s k134 H134 v.1 v.2) n v
def f_X11_keepsTold   (h : zHp) : Option (zHp) := (f_X11_keeps (h 0 6) h).bind fun x1 => zlt (zst x1.2 0 6 x1.1) fun h2 => (f_X11_keeps (h2 0 7) h2).bind fun x3 => zlt (zst x3.2 0 7 x3.1) fun h4 => (f_X11_keeps (h4 0 34) h4).bind fun x5 => zlt (zst x5.2 0 34 x5.1) fun h6 => (f_X11_keeps (h6 0 36) h6).bind fun x7 => zlt (zst x7.2 0 36 x7.1) fun h8 => (f_X11_keeps (h8 0 38) h8).bind fun x9 => zlt (zst x9.2 0 38 x9.1) fun h10 => (f_X11_keeps (h10 0 42) h10).bind fun x11 => zlt (zst x11.2 0 42 x11.1) fun h12 => (f_X11_keeps (h12 0 45) h12).bind fun x13 => zlt (zst x13.2 0 45 x13.1) fun h14 => (f_X11_keeps (h14 0 49) h14).bind fun x15 => zlt (zst x15.2 0 49 x15.1) fun h16 => (f_X11_keeps (h16 0 56) h16).bind fun x17 => zlt (zst x17.2 0 56 x17.1) fun h18 => (f_X11_keeps (h18 0 60) h18).bind fun x19 => zlt (zst x19.2 0 60 x19.1) fun h20 => (f_X11_keeps (h20 0 62) h20).bind fun x21 => zlt (zst x21.2 0 62 x21.1) fun h22 => f_X11_keepsTold_134_lp  zN ((0 : Int32), h22)
set_option maxHeartbeats 4000000 in
set_option maxRecDepth 100000 in
theorem s_X11_keepsTold   (h : zHp) : Fn wM mX11_keepsTold 1 rV [.ref 0] h (f_X11_keepsTold  h) := by
  refine Fn.of rfl (Nat.le_of_ble_eq_true rfl) ?_
  unfold f_X11_keepsTold
  refine Sim.aload_n 0 dX11_keepsTold_0 rfl ?_
  refine Sim.aload_n 0 dX11_keepsTold_1 rfl ?_
  refine Sim.aload_n 0 dX11_keepsTold_2 rfl ?_
  refine Sim.getI fl_X11_140 dX11_keepsTold_3 mI_6 ?_
  refine Sim.callV1I (d1 := 0) (s_X11_keeps (h 0 6) h) dX11_keepsTold_6 ml_X11_511 mv_X11_keeps mC (Nat.le_of_ble_eq_true rfl) (Nat.le_of_ble_eq_true rfl) (Nat.le_of_ble_eq_true rfl) (fun x1 => ?_)
  refine Sim.put fp_X11_140 dX11_keepsTold_9 mI_6 rfl rfl ?_
  refine Sim.lth (fun h2 => ?_)
  refine Sim.aload_n 0 dX11_keepsTold_12 rfl ?_
  refine Sim.aload_n 0 dX11_keepsTold_13 rfl ?_
  refine Sim.aload_n 0 dX11_keepsTold_14 rfl ?_
  refine Sim.getI fl_X11_143 dX11_keepsTold_15 mI_7 ?_
  refine Sim.callV1I (d1 := 0) (s_X11_keeps (h2 0 7) h2) dX11_keepsTold_18 ml_X11_511 mv_X11_keeps mC (Nat.le_of_ble_eq_true rfl) (Nat.le_of_ble_eq_true rfl) (Nat.le_of_ble_eq_true rfl) (fun x3 => ?_)
  refine Sim.put fp_X11_143 dX11_keepsTold_21 mI_7 rfl rfl ?_
  refine Sim.lth (fun h4 => ?_)
  refine Sim.aload_n 0 dX11_keepsTold_24 rfl ?_
  refine Sim.aload_n 0 dX11_keepsTold_25 rfl ?_
  refine Sim.aload_n 0 dX11_keepsTold_26 rfl ?_
  refine Sim.getI fl_X11_302 dX11_keepsTold_27 mI_34 ?_
  refine Sim.callV1I (d1 := 0) (s_X11_keeps (h4 0 34) h4) dX11_keepsTold_30 ml_X11_511 mv_X11_keeps mC (Nat.le_of_ble_eq_true rfl) (Nat.le_of_ble_eq_true rfl) (Nat.le_of_ble_eq_true rfl) (fun x5 => ?_)
  refine Sim.put fp_X11_302 dX11_keepsTold_33 mI_34 rfl rfl ?_
  refine Sim.lth (fun h6 => ?_)
  refine Sim.aload_n 0 dX11_keepsTold_36 rfl ?_
  refine Sim.aload_n 0 dX11_keepsTold_37 rfl ?_
  refine Sim.aload_n 0 dX11_keepsTold_38 rfl ?_
  refine Sim.getI fl_X11_305 dX11_keepsTold_39 mI_36 ?_
  refine Sim.callV1I (d1 := 0) (s_X11_keeps (h6 0 36) h6) dX11_keepsTold_42 ml_X11_511 mv_X11_keeps mC (Nat.le_of_ble_eq_true rfl) (Nat.le_of_ble_eq_true rfl) (Nat.le_of_ble_eq_true rfl) (fun x7 => ?_)
  refine Sim.put fp_X11_305 dX11_keepsTold_45 mI_36 rfl rfl ?_
  refine Sim.lth (fun h8 => ?_)
  refine Sim.aload_n 0 dX11_keepsTold_48 rfl ?_
  refine Sim.aload_n 0 dX11_keepsTold_49 rfl ?_
  refine Sim.aload_n 0 dX11_keepsTold_50 rfl ?_
  refine Sim.getI fl_X11_299 dX11_keepsTold_51 mI_38 ?_
  refine Sim.callV1I (d1 := 0) (s_X11_keeps (h8 0 38) h8) dX11_keepsTold_54 ml_X11_511 mv_X11_keeps mC (Nat.le_of_ble_eq_true rfl) (Nat.le_of_ble_eq_true rfl) (Nat.le_of_ble_eq_true rfl) (fun x9 => ?_)
  refine Sim.put fp_X11_299 dX11_keepsTold_57 mI_38 rfl rfl ?_
  refine Sim.lth (fun h10 => ?_)
  refine Sim.aload_n 0 dX11_keepsTold_60 rfl ?_
  refine Sim.aload_n 0 dX11_keepsTold_61 rfl ?_
  refine Sim.aload_n 0 dX11_keepsTold_62 rfl ?_
  refine Sim.getI fl_X11_421 dX11_keepsTold_63 mI_42 ?_
  refine Sim.callV1I (d1 := 0) (s_X11_keeps (h10 0 42) h10) dX11_keepsTold_66 ml_X11_511 mv_X11_keeps mC (Nat.le_of_ble_eq_true rfl) (Nat.le_of_ble_eq_true rfl) (Nat.le_of_ble_eq_true rfl) (fun x11 => ?_)
  refine Sim.put fp_X11_421 dX11_keepsTold_69 mI_42 rfl rfl ?_
  refine Sim.lth (fun h12 => ?_)
  refine Sim.aload_n 0 dX11_keepsTold_72 rfl ?_
  refine Sim.aload_n 0 dX11_keepsTold_73 rfl ?_
  refine Sim.aload_n 0 dX11_keepsTold_74 rfl ?_
  refine Sim.getI fl_X11_430 dX11_keepsTold_75 mI_45 ?_
  refine Sim.callV1I (d1 := 0) (s_X11_keeps (h12 0 45) h12) dX11_keepsTold_78 ml_X11_511 mv_X11_keeps mC (Nat.le_of_ble_eq_true rfl) (Nat.le_of_ble_eq_true rfl) (Nat.le_of_ble_eq_true rfl) (fun x13 => ?_)
  refine Sim.put fp_X11_430 dX11_keepsTold_81 mI_45 rfl rfl ?_
  refine Sim.lth (fun h14 => ?_)
  refine Sim.aload_n 0 dX11_keepsTold_84 rfl ?_
  refine Sim.aload_n 0 dX11_keepsTold_85 rfl ?_
  refine Sim.aload_n 0 dX11_keepsTold_86 rfl ?_
  refine Sim.getI fl_X11_443 dX11_keepsTold_87 mI_49 ?_
  refine Sim.callV1I (d1 := 0) (s_X11_keeps (h14 0 49) h14) dX11_keepsTold_90 ml_X11_511 mv_X11_keeps mC (Nat.le_of_ble_eq_true rfl) (Nat.le_of_ble_eq_true rfl) (Nat.le_of_ble_eq_true rfl) (fun x15 => ?_)
  refine Sim.put fp_X11_443 dX11_keepsTold_93 mI_49 rfl rfl ?_
  refine Sim.lth (fun h16 => ?_)
  refine Sim.aload_n 0 dX11_keepsTold_96 rfl ?_
  refine Sim.aload_n 0 dX11_keepsTold_97 rfl ?_
  refine Sim.aload_n 0 dX11_keepsTold_98 rfl ?_
  refine Sim.getI fl_X11_472 dX11_keepsTold_99 mI_56 ?_
  refine Sim.callV1I (d1 := 0) (s_X11_keeps (h16 0 56) h16) dX11_keepsTold_102 ml_X11_511 mv_X11_keeps mC (Nat.le_of_ble_eq_true rfl) (Nat.le_of_ble_eq_true rfl) (Nat.le_of_ble_eq_true rfl) (fun x17 => ?_)
  refine Sim.put fp_X11_472 dX11_keepsTold_105 mI_56 rfl rfl ?_
  refine Sim.lth (fun h18 => ?_)
  refine Sim.aload_n 0 dX11_keepsTold_108 rfl ?_
  refine Sim.aload_n 0 dX11_keepsTold_109 rfl ?_
  refine Sim.aload_n 0 dX11_keepsTold_110 rfl ?_
  refine Sim.getI fl_X11_490 dX11_keepsTold_111 mI_60 ?_
  refine Sim.callV1I (d1 := 0) (s_X11_keeps (h18 0 60) h18) dX11_keepsTold_114 ml_X11_511 mv_X11_keeps mC (Nat.le_of_ble_eq_true rfl) (Nat.le_of_ble_eq_true rfl) (Nat.le_of_ble_eq_true rfl) (fun x19 => ?_)
  refine Sim.put fp_X11_490 dX11_keepsTold_117 mI_60 rfl rfl ?_
  refine Sim.lth (fun h20 => ?_)
  refine Sim.aload_n 0 dX11_keepsTold_120 rfl ?_
  refine Sim.aload_n 0 dX11_keepsTold_121 rfl ?_
  refine Sim.aload_n 0 dX11_keepsTold_122 rfl ?_
  refine Sim.getI fl_X11_496 dX11_keepsTold_123 mI_62 ?_
  refine Sim.callV1I (d1 := 0) (s_X11_keeps (h20 0 62) h20) dX11_keepsTold_126 ml_X11_511 mv_X11_keeps mC (Nat.le_of_ble_eq_true rfl) (Nat.le_of_ble_eq_true rfl) (Nat.le_of_ble_eq_true rfl) (fun x21 => ?_)
  refine Sim.put fp_X11_496 dX11_keepsTold_129 mI_62 rfl rfl ?_
  refine Sim.lth (fun h22 => ?_)
  refine Sim.iconst (v := (0 : Int32)) dX11_keepsTold_132 rfl ?_
  refine Sim.istore_n (L' := [(1, .int (0 : Int32)), (0, .ref 0)]) dX11_keepsTold_133 (Nat.le_of_ble_eq_true rfl) rfl ?_
  refine Sim.locs [1, 0] rfl ?_
  exact f_X11_keepsTold_134_ls  zN ((0 : Int32), h22)
theorem mv_X11_keepsTold : zMV mX11_keepsTold 0 := ⟨⟨zTb_in 2029 (by decide +kernel) rfl, zTb_in 148 (by decide +kernel) rfl, ⟨by decide +kernel, by decide +kernel⟩, by decide +kernel⟩, zTb_in 2028 (by decide +kernel) rfl, zTb_in 133 (by decide +kernel) rfl⟩
-- ===== RockingPorchModel.image(Z)Z
abbrev mX11_image : zMt := (yX11_image, cX11_image, 3, some .boolean)
theorem fl_X11_514 : zF RX11 514 11 66 := ⟨RX11, TX11, 69, rfl, Nat.le_of_ble_eq_true rfl, zTb_in 1365 (by decide +kernel) rfl, in_X11⟩
theorem fp_X11_508 : zFp RX11 508 11 65 .boolean := ⟨RX11, TX11, 69, tyX11, rfl, Nat.le_of_ble_eq_true rfl, zTb_in 1364 (by decide +kernel) rfl, in_X11, tyX11_ok, nmX11, rfl, rfl⟩
theorem fp_X11_514 : zFp RX11 514 11 66 .boolean := ⟨RX11, TX11, 69, tyX11, rfl, Nat.le_of_ble_eq_true rfl, zTb_in 1365 (by decide +kernel) rfl, in_X11, tyX11_ok, nmX11, rfl, rfl⟩
theorem ml_X11_517 : Cond.methodLink RX11 517 yX11_keepsTold ∈ zTb := zTb_in 2026 (by decide +kernel) rfl
theorem ml_X11_520 : Cond.methodLink RX11 520 yX11_keepsLaw ∈ zTb := zTb_in 2030 (by decide +kernel) rfl
theorem dX11_image_0 : decode cX11_image 0 = .ok (.aload_n 0, 1) := by decide +kernel
theorem dX11_image_1 : decode cX11_image 1 = .ok (.iconst 0, 1) := by decide +kernel
theorem dX11_image_2 : decode cX11_image 2 = .ok (.putfield 128, 3) := by decide +kernel
theorem dX11_image_5 : decode cX11_image 5 = .ok (.iload_n 1, 1) := by decide +kernel
theorem dX11_image_6 : decode cX11_image 6 = .ok (.ifCond .ne 12, 3) := by decide +kernel
theorem dX11_image_9 : decode cX11_image 9 = .ok (.aload_n 0, 1) := by decide +kernel
theorem dX11_image_10 : decode cX11_image 10 = .ok (.getfield 514, 3) := by decide +kernel
theorem dX11_image_13 : decode cX11_image 13 = .ok (.ifCond .ne 5, 3) := by decide +kernel
theorem dX11_image_16 : decode cX11_image 16 = .ok (.iconst 0, 1) := by decide +kernel
theorem dX11_image_17 : decode cX11_image 17 = .ok (.ireturn, 1) := by decide +kernel
theorem dX11_image_18 : decode cX11_image 18 = .ok (.aload_n 0, 1) := by decide +kernel
theorem dX11_image_19 : decode cX11_image 19 = .ok (.iload_n 1, 1) := by decide +kernel
theorem dX11_image_20 : decode cX11_image 20 = .ok (.putfield 508, 3) := by decide +kernel
theorem dX11_image_23 : decode cX11_image 23 = .ok (.aload_n 0, 1) := by decide +kernel
theorem dX11_image_24 : decode cX11_image 24 = .ok (.iconst 1, 1) := by decide +kernel
theorem dX11_image_25 : decode cX11_image 25 = .ok (.putfield 514, 3) := by decide +kernel
theorem dX11_image_28 : decode cX11_image 28 = .ok (.aload_n 0, 1) := by decide +kernel
theorem dX11_image_29 : decode cX11_image 29 = .ok (.iconst 0, 1) := by decide +kernel
theorem dX11_image_30 : decode cX11_image 30 = .ok (.putfield 505, 3) := by decide +kernel
theorem dX11_image_33 : decode cX11_image 33 = .ok (.iconst 0, 1) := by decide +kernel
theorem dX11_image_34 : decode cX11_image 34 = .ok (.istore_n 2, 1) := by decide +kernel
theorem dX11_image_35 : decode cX11_image 35 = .ok (.iload_n 2, 1) := by decide +kernel
theorem dX11_image_36 : decode cX11_image 36 = .ok (.bipush 77, 2) := by decide +kernel
theorem dX11_image_38 : decode cX11_image 38 = .ok (.if_icmp .ge 25, 3) := by decide +kernel
theorem dX11_image_41 : decode cX11_image 41 = .ok (.aload_n 0, 1) := by decide +kernel
theorem dX11_image_42 : decode cX11_image 42 = .ok (.getfield 7, 3) := by decide +kernel
theorem dX11_image_45 : decode cX11_image 45 = .ok (.iload_n 2, 1) := by decide +kernel
theorem dX11_image_46 : decode cX11_image 46 = .ok (.aload_n 0, 1) := by decide +kernel
theorem dX11_image_47 : decode cX11_image 47 = .ok (.aload_n 0, 1) := by decide +kernel
theorem dX11_image_48 : decode cX11_image 48 = .ok (.getfield 7, 3) := by decide +kernel
theorem dX11_image_51 : decode cX11_image 51 = .ok (.iload_n 2, 1) := by decide +kernel
theorem dX11_image_52 : decode cX11_image 52 = .ok (.iaload, 1) := by decide +kernel
theorem dX11_image_53 : decode cX11_image 53 = .ok (.invokevirtual 511, 3) := by decide +kernel
theorem dX11_image_56 : decode cX11_image 56 = .ok (.iastore, 1) := by decide +kernel
theorem dX11_image_57 : decode cX11_image 57 = .ok (.iinc 2 1, 3) := by decide +kernel
theorem dX11_image_60 : decode cX11_image 60 = .ok (.goto (-25), 3) := by decide +kernel
theorem dX11_image_63 : decode cX11_image 63 = .ok (.aload_n 0, 1) := by decide +kernel
theorem dX11_image_64 : decode cX11_image 64 = .ok (.invokevirtual 517, 3) := by decide +kernel
theorem dX11_image_67 : decode cX11_image 67 = .ok (.iconst 0, 1) := by decide +kernel
theorem dX11_image_68 : decode cX11_image 68 = .ok (.istore_n 2, 1) := by decide +kernel
theorem dX11_image_69 : decode cX11_image 69 = .ok (.iload_n 2, 1) := by decide +kernel
theorem dX11_image_70 : decode cX11_image 70 = .ok (.sipush 600, 3) := by decide +kernel
theorem dX11_image_73 : decode cX11_image 73 = .ok (.if_icmp .ge 25, 3) := by decide +kernel
theorem dX11_image_76 : decode cX11_image 76 = .ok (.aload_n 0, 1) := by decide +kernel
theorem dX11_image_77 : decode cX11_image 77 = .ok (.getfield 25, 3) := by decide +kernel
theorem dX11_image_80 : decode cX11_image 80 = .ok (.iload_n 2, 1) := by decide +kernel
theorem dX11_image_81 : decode cX11_image 81 = .ok (.aload_n 0, 1) := by decide +kernel
theorem dX11_image_82 : decode cX11_image 82 = .ok (.aload_n 0, 1) := by decide +kernel
theorem dX11_image_83 : decode cX11_image 83 = .ok (.getfield 25, 3) := by decide +kernel
theorem dX11_image_86 : decode cX11_image 86 = .ok (.iload_n 2, 1) := by decide +kernel
theorem dX11_image_87 : decode cX11_image 87 = .ok (.iaload, 1) := by decide +kernel
theorem dX11_image_88 : decode cX11_image 88 = .ok (.invokevirtual 511, 3) := by decide +kernel
theorem dX11_image_91 : decode cX11_image 91 = .ok (.iastore, 1) := by decide +kernel
theorem dX11_image_92 : decode cX11_image 92 = .ok (.iinc 2 1, 3) := by decide +kernel
theorem dX11_image_95 : decode cX11_image 95 = .ok (.goto (-26), 3) := by decide +kernel
theorem dX11_image_98 : decode cX11_image 98 = .ok (.aload_n 0, 1) := by decide +kernel
theorem dX11_image_99 : decode cX11_image 99 = .ok (.invokevirtual 520, 3) := by decide +kernel
theorem dX11_image_102 : decode cX11_image 102 = .ok (.iload_n 1, 1) := by decide +kernel
theorem dX11_image_103 : decode cX11_image 103 = .ok (.ifCond .ne 8, 3) := by decide +kernel
theorem dX11_image_106 : decode cX11_image 106 = .ok (.aload_n 0, 1) := by decide +kernel
theorem dX11_image_107 : decode cX11_image 107 = .ok (.iconst 0, 1) := by decide +kernel
theorem dX11_image_108 : decode cX11_image 108 = .ok (.putfield 131, 3) := by decide +kernel
theorem dX11_image_111 : decode cX11_image 111 = .ok (.iconst 1, 1) := by decide +kernel
theorem dX11_image_112 : decode cX11_image 112 = .ok (.ireturn, 1) := by decide +kernel
def f_X11_image_69  (k69 : Int32 × Int32 × zHp → Option (Int32 × zHp)) (v1 : Int32) (v2 : Int32) (h : zHp) : Option (Int32 × zHp) := (if v2 < (600 : Int32) then zix v2 600 ((f_X11_keeps (h 6 v2.toNatClampNeg) h).bind fun x1 => zix v2 600 (zlt (zst x1.2 6 v2.toNatClampNeg x1.1) fun h2 => k69 (v1, (v2 + (1 : Int32)), h2))) else (f_X11_keepsLaw h).bind fun x3 => (if v1 = 0 then zlt (zst x3 0 3 (0 : Int32)) fun h4 => some ((1 : Int32), h4) else some ((1 : Int32), x3)))
set_option maxHeartbeats 4000000 in
set_option maxRecDepth 100000 in
theorem f_X11_image_69_s  (k69 : Int32 × Int32 × zHp → Option (Int32 × zHp)) (H69 : ∀ v : Int32 × Int32 × zHp, Sim wM mX11_image 2 rI 69 [(0, .ref 0), (1, .int v.1), (2, .int v.2.1)] [] v.2.2 (k69 v)) (v1 : Int32) (v2 : Int32) (h : zHp) : Sim wM mX11_image 2 rI 69 [(0, .ref 0), (1, .int v1), (2, .int v2)] [] h (f_X11_image_69 k69 v1 v2 h) := by
  unfold f_X11_image_69
  refine Sim.iload_n 2 dX11_image_69 rfl ?_
  refine Sim.sipush (v := (600 : Int32)) dX11_image_70 rfl ?_
  refine Sim.icmp_ge 98 dX11_image_73 rfl ?_ ?_
  · refine Sim.aload_n 0 dX11_image_76 rfl ?_
    refine Sim.getR (j := 6) fl_X11_25 dX11_image_77 mR_10 ?_
    refine Sim.iload_n 2 dX11_image_80 rfl ?_
    refine Sim.aload_n 0 dX11_image_81 rfl ?_
    refine Sim.aload_n 0 dX11_image_82 rfl ?_
    refine Sim.getR (j := 6) fl_X11_25 dX11_image_83 mR_10 ?_
    refine Sim.iload_n 2 dX11_image_86 rfl ?_
    refine Sim.iald (n := 600) dX11_image_87 mA_6 ?_
    refine Sim.callV1I (d1 := 0) (s_X11_keeps (h 6 v2.toNatClampNeg) h) dX11_image_88 ml_X11_511 mv_X11_keeps mC (Nat.le_of_ble_eq_true rfl) (Nat.le_of_ble_eq_true rfl) (Nat.le_of_ble_eq_true rfl) (fun x1 => ?_)
    refine Sim.iast (n := 600) dX11_image_91 mA_6 ?_
    refine Sim.lth (fun h2 => ?_)
    refine Sim.iinc (L' := [(2, .int (v2 + (1 : Int32))), (0, .ref 0), (1, .int v1)]) 2 dX11_image_92 rfl rfl (Nat.le_of_ble_eq_true rfl) rfl ?_
    refine Sim.goto 69 dX11_image_95 rfl ?_
    refine Sim.locs [1, 2, 0] rfl ?_
    exact H69 (v1, (v2 + (1 : Int32)), h2)
  · refine Sim.aload_n 0 dX11_image_98 rfl ?_
    refine Sim.callV0U (d1 := 1) (s_X11_keepsLaw h) dX11_image_99 ml_X11_520 mv_X11_keepsLaw mC (Nat.le_of_ble_eq_true rfl) (Nat.le_of_ble_eq_true rfl) (Nat.le_of_ble_eq_true rfl) (fun x3 => ?_)
    refine Sim.iload_n 1 dX11_image_102 rfl ?_
    refine Sim.if_ne 111 dX11_image_103 rfl ?_ ?_
    · refine Sim.aload_n 0 dX11_image_106 rfl ?_
      refine Sim.iconst (v := (0 : Int32)) dX11_image_107 rfl ?_
      refine Sim.put fp_X11_131 dX11_image_108 mI_3 rfl rfl ?_
      refine Sim.lth (fun h4 => ?_)
      refine Sim.iconst (v := (1 : Int32)) dX11_image_111 rfl ?_
      exact Sim.nret dX11_image_112 rfl rfl
    · refine Sim.iconst (v := (1 : Int32)) dX11_image_111 rfl ?_
      exact Sim.nret dX11_image_112 rfl rfl
def f_X11_image_69_lp   (n : Nat) (v : Int32 × Int32 × zHp) : Option (Int32 × zHp) := zlp (fun k69 v => f_X11_image_69 k69 v.1 v.2.1 v.2.2) n v
theorem f_X11_image_69_ls  (n : Nat) (v : Int32 × Int32 × zHp) : Sim wM mX11_image 2 rI 69 [(0, .ref 0), (1, .int v.1), (2, .int v.2.1)] [] v.2.2 (f_X11_image_69_lp n v) :=
  Sim.lp (V := Int32 × Int32 × zHp) (Lf := fun v => [(0, .ref 0), (1, .int v.1), (2, .int v.2.1)]) (sf := fun v => []) (hf := fun v => v.2.2) (fun k69 H69 v => f_X11_image_69_s k69 H69 v.1 v.2.1 v.2.2) n v
def f_X11_image_35  (k35 : Int32 × Int32 × zHp → Option (Int32 × zHp)) (v1 : Int32) (v2 : Int32) (h : zHp) : Option (Int32 × zHp) := (if v2 < (77 : Int32) then zix v2 77 ((f_X11_keeps (h 1 v2.toNatClampNeg) h).bind fun x1 => zix v2 77 (zlt (zst x1.2 1 v2.toNatClampNeg x1.1) fun h2 => k35 (v1, (v2 + (1 : Int32)), h2))) else (f_X11_keepsTold h).bind fun x3 => f_X11_image_69_lp  zN (v1, (0 : Int32), x3))
set_option maxHeartbeats 4000000 in
set_option maxRecDepth 100000 in
theorem f_X11_image_35_s  (k35 : Int32 × Int32 × zHp → Option (Int32 × zHp)) (H35 : ∀ v : Int32 × Int32 × zHp, Sim wM mX11_image 2 rI 35 [(0, .ref 0), (1, .int v.1), (2, .int v.2.1)] [] v.2.2 (k35 v)) (v1 : Int32) (v2 : Int32) (h : zHp) : Sim wM mX11_image 2 rI 35 [(0, .ref 0), (1, .int v1), (2, .int v2)] [] h (f_X11_image_35 k35 v1 v2 h) := by
  unfold f_X11_image_35
  refine Sim.iload_n 2 dX11_image_35 rfl ?_
  refine Sim.bipush (v := (77 : Int32)) dX11_image_36 rfl ?_
  refine Sim.icmp_ge 63 dX11_image_38 rfl ?_ ?_
  · refine Sim.aload_n 0 dX11_image_41 rfl ?_
    refine Sim.getR (j := 1) fl_X11_7 dX11_image_42 mR_1 ?_
    refine Sim.iload_n 2 dX11_image_45 rfl ?_
    refine Sim.aload_n 0 dX11_image_46 rfl ?_
    refine Sim.aload_n 0 dX11_image_47 rfl ?_
    refine Sim.getR (j := 1) fl_X11_7 dX11_image_48 mR_1 ?_
    refine Sim.iload_n 2 dX11_image_51 rfl ?_
    refine Sim.iald (n := 77) dX11_image_52 mA_1 ?_
    refine Sim.callV1I (d1 := 0) (s_X11_keeps (h 1 v2.toNatClampNeg) h) dX11_image_53 ml_X11_511 mv_X11_keeps mC (Nat.le_of_ble_eq_true rfl) (Nat.le_of_ble_eq_true rfl) (Nat.le_of_ble_eq_true rfl) (fun x1 => ?_)
    refine Sim.iast (n := 77) dX11_image_56 mA_1 ?_
    refine Sim.lth (fun h2 => ?_)
    refine Sim.iinc (L' := [(2, .int (v2 + (1 : Int32))), (0, .ref 0), (1, .int v1)]) 2 dX11_image_57 rfl rfl (Nat.le_of_ble_eq_true rfl) rfl ?_
    refine Sim.goto 35 dX11_image_60 rfl ?_
    refine Sim.locs [1, 2, 0] rfl ?_
    exact H35 (v1, (v2 + (1 : Int32)), h2)
  · refine Sim.aload_n 0 dX11_image_63 rfl ?_
    refine Sim.callV0U (d1 := 1) (s_X11_keepsTold h) dX11_image_64 ml_X11_517 mv_X11_keepsTold mC (Nat.le_of_ble_eq_true rfl) (Nat.le_of_ble_eq_true rfl) (Nat.le_of_ble_eq_true rfl) (fun x3 => ?_)
    refine Sim.iconst (v := (0 : Int32)) dX11_image_67 rfl ?_
    refine Sim.istore_n (L' := [(2, .int (0 : Int32)), (0, .ref 0), (1, .int v1)]) dX11_image_68 (Nat.le_of_ble_eq_true rfl) rfl ?_
    refine Sim.locs [1, 2, 0] rfl ?_
    exact f_X11_image_69_ls  zN (v1, (0 : Int32), x3)
def f_X11_image_35_lp   (n : Nat) (v : Int32 × Int32 × zHp) : Option (Int32 × zHp) := zlp (fun k35 v => f_X11_image_35 k35 v.1 v.2.1 v.2.2) n v
theorem f_X11_image_35_ls  (n : Nat) (v : Int32 × Int32 × zHp) : Sim wM mX11_image 2 rI 35 [(0, .ref 0), (1, .int v.1), (2, .int v.2.1)] [] v.2.2 (f_X11_image_35_lp n v) :=
  Sim.lp (V := Int32 × Int32 × zHp) (Lf := fun v => [(0, .ref 0), (1, .int v.1), (2, .int v.2.1)]) (sf := fun v => []) (hf := fun v => v.2.2) (fun k35 H35 v => f_X11_image_35_s k35 H35 v.1 v.2.1 v.2.2) n v
def f_X11_image_18   (v1 : Int32) (h : zHp) : Option (Int32 × zHp) := zzb v1 (zlt (zst h 0 65 v1) fun h1 => zlt (zst h1 0 66 (1 : Int32)) fun h2 => zlt (zst h2 0 67 (0 : Int32)) fun h3 => f_X11_image_35_lp  zN (v1, (0 : Int32), h3))
set_option maxHeartbeats 4000000 in
set_option maxRecDepth 100000 in
theorem f_X11_image_18_s  (v1 : Int32) (h : zHp) : Sim wM mX11_image 2 rI 18 [(0, .ref 0), (1, .int v1)] [] h (f_X11_image_18 v1 h) := by
  unfold f_X11_image_18
  refine Sim.aload_n 0 dX11_image_18 rfl ?_
  refine Sim.iload_n 1 dX11_image_19 rfl ?_
  refine Sim.putZ fp_X11_508 dX11_image_20 mI_65 ?_
  refine Sim.lth (fun h1 => ?_)
  refine Sim.aload_n 0 dX11_image_23 rfl ?_
  refine Sim.iconst (v := (1 : Int32)) dX11_image_24 rfl ?_
  refine Sim.put fp_X11_514 dX11_image_25 mI_66 rfl rfl ?_
  refine Sim.lth (fun h2 => ?_)
  refine Sim.aload_n 0 dX11_image_28 rfl ?_
  refine Sim.iconst (v := (0 : Int32)) dX11_image_29 rfl ?_
  refine Sim.put fp_X11_505 dX11_image_30 mI_67 rfl rfl ?_
  refine Sim.lth (fun h3 => ?_)
  refine Sim.iconst (v := (0 : Int32)) dX11_image_33 rfl ?_
  refine Sim.istore_n (L' := [(2, .int (0 : Int32)), (0, .ref 0), (1, .int v1)]) dX11_image_34 (Nat.le_of_ble_eq_true rfl) rfl ?_
  refine Sim.locs [1, 2, 0] rfl ?_
  exact f_X11_image_35_ls  zN (v1, (0 : Int32), h3)
def f_X11_image  (a1 : Int32) (h : zHp) : Option (Int32 × zHp) := zlt (zst h 0 0 (0 : Int32)) fun h1 => (if a1 = 0 then (if (h1 0 66) = 0 then some ((0 : Int32), h1) else f_X11_image_18 a1 h1) else f_X11_image_18 a1 h1)
set_option maxHeartbeats 4000000 in
set_option maxRecDepth 100000 in
theorem s_X11_image  (a1 : Int32) (h : zHp) : Fn wM mX11_image 2 rI [.ref 0, .int a1] h (f_X11_image a1 h) := by
  refine Fn.of rfl (Nat.le_of_ble_eq_true rfl) ?_
  unfold f_X11_image
  refine Sim.aload_n 0 dX11_image_0 rfl ?_
  refine Sim.iconst (v := (0 : Int32)) dX11_image_1 rfl ?_
  refine Sim.put fp_X11_128 dX11_image_2 mI_0 rfl rfl ?_
  refine Sim.lth (fun h1 => ?_)
  refine Sim.iload_n 1 dX11_image_5 rfl ?_
  refine Sim.if_ne 18 dX11_image_6 rfl ?_ ?_
  · refine Sim.aload_n 0 dX11_image_9 rfl ?_
    refine Sim.getI fl_X11_514 dX11_image_10 mI_66 ?_
    refine Sim.if_ne 18 dX11_image_13 rfl ?_ ?_
    · refine Sim.iconst (v := (0 : Int32)) dX11_image_16 rfl ?_
      exact Sim.nret dX11_image_17 rfl rfl
    · exact f_X11_image_18_s a1 h1
  · exact f_X11_image_18_s a1 h1
theorem mv_X11_image : zMV mX11_image 1 := ⟨⟨zTb_in 2021 (by decide +kernel) rfl, zTb_in 148 (by decide +kernel) rfl, ⟨by decide +kernel, by decide +kernel⟩, by decide +kernel⟩, zTb_in 2019 (by decide +kernel) rfl, zTb_in 2020 (by decide +kernel) rfl⟩
-- ===== RockingPorchModel.rockSet()I
abbrev mX11_rockSet : zMt := (yX11_rockSet, cX11_rockSet, 3, some .int)
theorem dX11_rockSet_0 : decode cX11_rockSet 0 = .ok (.iconst 0, 1) := by decide +kernel
theorem dX11_rockSet_1 : decode cX11_rockSet 1 = .ok (.istore_n 1, 1) := by decide +kernel
theorem dX11_rockSet_2 : decode cX11_rockSet 2 = .ok (.iconst 0, 1) := by decide +kernel
theorem dX11_rockSet_3 : decode cX11_rockSet 3 = .ok (.istore_n 2, 1) := by decide +kernel
theorem dX11_rockSet_4 : decode cX11_rockSet 4 = .ok (.iload_n 2, 1) := by decide +kernel
theorem dX11_rockSet_5 : decode cX11_rockSet 5 = .ok (.aload_n 0, 1) := by decide +kernel
theorem dX11_rockSet_6 : decode cX11_rockSet 6 = .ok (.getfield 140, 3) := by decide +kernel
theorem dX11_rockSet_9 : decode cX11_rockSet 9 = .ok (.if_icmp .ge 23, 3) := by decide +kernel
theorem dX11_rockSet_12 : decode cX11_rockSet 12 = .ok (.aload_n 0, 1) := by decide +kernel
theorem dX11_rockSet_13 : decode cX11_rockSet 13 = .ok (.iload_n 2, 1) := by decide +kernel
theorem dX11_rockSet_14 : decode cX11_rockSet 14 = .ok (.invokevirtual 146, 3) := by decide +kernel
theorem dX11_rockSet_17 : decode cX11_rockSet 17 = .ok (.ifCond .eq 9, 3) := by decide +kernel
theorem dX11_rockSet_20 : decode cX11_rockSet 20 = .ok (.iload_n 1, 1) := by decide +kernel
theorem dX11_rockSet_21 : decode cX11_rockSet 21 = .ok (.iconst 1, 1) := by decide +kernel
theorem dX11_rockSet_22 : decode cX11_rockSet 22 = .ok (.iload_n 2, 1) := by decide +kernel
theorem dX11_rockSet_23 : decode cX11_rockSet 23 = .ok (.ishl, 1) := by decide +kernel
theorem dX11_rockSet_24 : decode cX11_rockSet 24 = .ok (.ior, 1) := by decide +kernel
theorem dX11_rockSet_25 : decode cX11_rockSet 25 = .ok (.istore_n 1, 1) := by decide +kernel
theorem dX11_rockSet_26 : decode cX11_rockSet 26 = .ok (.iinc 2 1, 3) := by decide +kernel
theorem dX11_rockSet_29 : decode cX11_rockSet 29 = .ok (.goto (-25), 3) := by decide +kernel
theorem dX11_rockSet_32 : decode cX11_rockSet 32 = .ok (.iload_n 1, 1) := by decide +kernel
theorem dX11_rockSet_33 : decode cX11_rockSet 33 = .ok (.ireturn, 1) := by decide +kernel
def f_X11_rockSet_4  (k4 : Int32 × Int32 × zHp → Option (Int32 × zHp)) (v1 : Int32) (v2 : Int32) (h : zHp) : Option (Int32 × zHp) := (if v2 < (h 0 6) then (f_X11_doesRock v2 h).bind fun x1 => (if x1.1 = 0 then k4 (v1, (v2 + (1 : Int32)), x1.2) else zlt (v1 ||| ((1 : Int32) <<< (v2 &&& 31))) fun x2 => k4 (x2, (v2 + (1 : Int32)), x1.2)) else some (v1, h))
set_option maxHeartbeats 4000000 in
set_option maxRecDepth 100000 in
theorem f_X11_rockSet_4_s  (k4 : Int32 × Int32 × zHp → Option (Int32 × zHp)) (H4 : ∀ v : Int32 × Int32 × zHp, Sim wM mX11_rockSet 1 rI 4 [(0, .ref 0), (1, .int v.1), (2, .int v.2.1)] [] v.2.2 (k4 v)) (v1 : Int32) (v2 : Int32) (h : zHp) : Sim wM mX11_rockSet 1 rI 4 [(0, .ref 0), (1, .int v1), (2, .int v2)] [] h (f_X11_rockSet_4 k4 v1 v2 h) := by
  unfold f_X11_rockSet_4
  refine Sim.iload_n 2 dX11_rockSet_4 rfl ?_
  refine Sim.aload_n 0 dX11_rockSet_5 rfl ?_
  refine Sim.getI fl_X11_140 dX11_rockSet_6 mI_6 ?_
  refine Sim.icmp_ge 32 dX11_rockSet_9 rfl ?_ ?_
  · refine Sim.aload_n 0 dX11_rockSet_12 rfl ?_
    refine Sim.iload_n 2 dX11_rockSet_13 rfl ?_
    refine Sim.callV1I (d1 := 0) (s_X11_doesRock v2 h) dX11_rockSet_14 ml_X11_146 mv_X11_doesRock mC (Nat.le_of_ble_eq_true rfl) (Nat.le_of_ble_eq_true rfl) (Nat.le_of_ble_eq_true rfl) (fun x1 => ?_)
    refine Sim.if_eq 26 dX11_rockSet_17 rfl ?_ ?_
    · refine Sim.iinc (L' := [(2, .int (v2 + (1 : Int32))), (0, .ref 0), (1, .int v1)]) 2 dX11_rockSet_26 rfl rfl (Nat.le_of_ble_eq_true rfl) rfl ?_
      refine Sim.goto 4 dX11_rockSet_29 rfl ?_
      refine Sim.locs [1, 2, 0] rfl ?_
      exact H4 (v1, (v2 + (1 : Int32)), x1.2)
    · refine Sim.iload_n 1 dX11_rockSet_20 rfl ?_
      refine Sim.iconst (v := (1 : Int32)) dX11_rockSet_21 rfl ?_
      refine Sim.iload_n 2 dX11_rockSet_22 rfl ?_
      refine Sim.ishl dX11_rockSet_23 ?_
      refine Sim.ior dX11_rockSet_24 ?_
      refine Sim.lti (fun x2 => ?_)
      refine Sim.istore_n (L' := [(1, .int x2), (0, .ref 0), (2, .int v2)]) dX11_rockSet_25 (Nat.le_of_ble_eq_true rfl) rfl ?_
      refine Sim.iinc (L' := [(2, .int (v2 + (1 : Int32))), (1, .int x2), (0, .ref 0)]) 2 dX11_rockSet_26 rfl rfl (Nat.le_of_ble_eq_true rfl) rfl ?_
      refine Sim.goto 4 dX11_rockSet_29 rfl ?_
      refine Sim.locs [2, 1, 0] rfl ?_
      exact H4 (x2, (v2 + (1 : Int32)), x1.2)
  · refine Sim.iload_n 1 dX11_rockSet_32 rfl ?_
    exact Sim.iret dX11_rockSet_33 rfl
def f_X11_rockSet_4_lp   (n : Nat) (v : Int32 × Int32 × zHp) : Option (Int32 × zHp) := zlp (fun k4 v => f_X11_rockSet_4 k4 v.1 v.2.1 v.2.2) n v
theorem f_X11_rockSet_4_ls  (n : Nat) (v : Int32 × Int32 × zHp) : Sim wM mX11_rockSet 1 rI 4 [(0, .ref 0), (1, .int v.1), (2, .int v.2.1)] [] v.2.2 (f_X11_rockSet_4_lp n v) :=
  Sim.lp (V := Int32 × Int32 × zHp) (Lf := fun v => [(0, .ref 0), (1, .int v.1), (2, .int v.2.1)]) (sf := fun v => []) (hf := fun v => v.2.2) (fun k4 H4 v => f_X11_rockSet_4_s k4 H4 v.1 v.2.1 v.2.2) n v
def f_X11_rockSet   (h : zHp) : Option (Int32 × zHp) := f_X11_rockSet_4_lp  zN ((0 : Int32), (0 : Int32), h)
set_option maxHeartbeats 4000000 in
set_option maxRecDepth 100000 in
theorem s_X11_rockSet   (h : zHp) : Fn wM mX11_rockSet 1 rI [.ref 0] h (f_X11_rockSet  h) := by
  refine Fn.of rfl (Nat.le_of_ble_eq_true rfl) ?_
  unfold f_X11_rockSet
  refine Sim.iconst (v := (0 : Int32)) dX11_rockSet_0 rfl ?_
  refine Sim.istore_n (L' := [(1, .int (0 : Int32)), (0, .ref 0)]) dX11_rockSet_1 (Nat.le_of_ble_eq_true rfl) rfl ?_
  refine Sim.iconst (v := (0 : Int32)) dX11_rockSet_2 rfl ?_
  refine Sim.istore_n (L' := [(2, .int (0 : Int32)), (1, .int (0 : Int32)), (0, .ref 0)]) dX11_rockSet_3 (Nat.le_of_ble_eq_true rfl) rfl ?_
  refine Sim.locs [2, 1, 0] rfl ?_
  exact f_X11_rockSet_4_ls  zN ((0 : Int32), (0 : Int32), h)
theorem mv_X11_rockSet : zMV mX11_rockSet 0 := ⟨⟨zTb_in 2041 (by decide +kernel) rfl, zTb_in 148 (by decide +kernel) rfl, ⟨by decide +kernel, by decide +kernel⟩, by decide +kernel⟩, zTb_in 2040 (by decide +kernel) rfl, zTb_in 135 (by decide +kernel) rfl⟩
-- ===== RockingPorchModel.look(I)I
abbrev mX11_look : zMt := (yX11_look, cX11_look, 2, some .int)
theorem ct_X11_526 : Cond.constant RX11 526 (-100000 : Int32) ∈ zTb := zTb_in 2042 (by decide +kernel) rfl
theorem ml_X11_523 : Cond.methodLink RX11 523 yX11_rockSet ∈ zTb := zTb_in 2038 (by decide +kernel) rfl
theorem dX11_look_0 : decode cX11_look 0 = .ok (.aload_n 0, 1) := by decide +kernel
theorem dX11_look_1 : decode cX11_look 1 = .ok (.iconst 0, 1) := by decide +kernel
theorem dX11_look_2 : decode cX11_look 2 = .ok (.putfield 128, 3) := by decide +kernel
theorem dX11_look_5 : decode cX11_look 5 = .ok (.iload_n 1, 1) := by decide +kernel
theorem dX11_look_6 : decode cX11_look 6 = .ok (.ifCond .ne 8, 3) := by decide +kernel
theorem dX11_look_9 : decode cX11_look 9 = .ok (.aload_n 0, 1) := by decide +kernel
theorem dX11_look_10 : decode cX11_look 10 = .ok (.getfield 140, 3) := by decide +kernel
theorem dX11_look_13 : decode cX11_look 13 = .ok (.ireturn, 1) := by decide +kernel
theorem dX11_look_14 : decode cX11_look 14 = .ok (.iload_n 1, 1) := by decide +kernel
theorem dX11_look_15 : decode cX11_look 15 = .ok (.iconst 1, 1) := by decide +kernel
theorem dX11_look_16 : decode cX11_look 16 = .ok (.if_icmp .ne 8, 3) := by decide +kernel
theorem dX11_look_19 : decode cX11_look 19 = .ok (.aload_n 0, 1) := by decide +kernel
theorem dX11_look_20 : decode cX11_look 20 = .ok (.getfield 143, 3) := by decide +kernel
theorem dX11_look_23 : decode cX11_look 23 = .ok (.ireturn, 1) := by decide +kernel
theorem dX11_look_24 : decode cX11_look 24 = .ok (.iload_n 1, 1) := by decide +kernel
theorem dX11_look_25 : decode cX11_look 25 = .ok (.iconst 2, 1) := by decide +kernel
theorem dX11_look_26 : decode cX11_look 26 = .ok (.if_icmp .ne 8, 3) := by decide +kernel
theorem dX11_look_29 : decode cX11_look 29 = .ok (.aload_n 0, 1) := by decide +kernel
theorem dX11_look_30 : decode cX11_look 30 = .ok (.invokevirtual 523, 3) := by decide +kernel
theorem dX11_look_33 : decode cX11_look 33 = .ok (.ireturn, 1) := by decide +kernel
theorem dX11_look_34 : decode cX11_look 34 = .ok (.iload_n 1, 1) := by decide +kernel
theorem dX11_look_35 : decode cX11_look 35 = .ok (.iconst 3, 1) := by decide +kernel
theorem dX11_look_36 : decode cX11_look 36 = .ok (.if_icmp .ne 8, 3) := by decide +kernel
theorem dX11_look_39 : decode cX11_look 39 = .ok (.aload_n 0, 1) := by decide +kernel
theorem dX11_look_40 : decode cX11_look 40 = .ok (.invokevirtual 415, 3) := by decide +kernel
theorem dX11_look_43 : decode cX11_look 43 = .ok (.ireturn, 1) := by decide +kernel
theorem dX11_look_44 : decode cX11_look 44 = .ok (.iload_n 1, 1) := by decide +kernel
theorem dX11_look_45 : decode cX11_look 45 = .ok (.iconst 4, 1) := by decide +kernel
theorem dX11_look_46 : decode cX11_look 46 = .ok (.if_icmp .ne 19, 3) := by decide +kernel
theorem dX11_look_49 : decode cX11_look 49 = .ok (.iconst 1, 1) := by decide +kernel
theorem dX11_look_50 : decode cX11_look 50 = .ok (.aload_n 0, 1) := by decide +kernel
theorem dX11_look_51 : decode cX11_look 51 = .ok (.getfield 143, 3) := by decide +kernel
theorem dX11_look_54 : decode cX11_look 54 = .ok (.ishl, 1) := by decide +kernel
theorem dX11_look_55 : decode cX11_look 55 = .ok (.iconst 1, 1) := by decide +kernel
theorem dX11_look_56 : decode cX11_look 56 = .ok (.isub, 1) := by decide +kernel
theorem dX11_look_57 : decode cX11_look 57 = .ok (.aload_n 0, 1) := by decide +kernel
theorem dX11_look_58 : decode cX11_look 58 = .ok (.invokevirtual 326, 3) := by decide +kernel
theorem dX11_look_61 : decode cX11_look 61 = .ok (.iconst (-1), 1) := by decide +kernel
theorem dX11_look_62 : decode cX11_look 62 = .ok (.ixor, 1) := by decide +kernel
theorem dX11_look_63 : decode cX11_look 63 = .ok (.iand, 1) := by decide +kernel
theorem dX11_look_64 : decode cX11_look 64 = .ok (.ireturn, 1) := by decide +kernel
theorem dX11_look_65 : decode cX11_look 65 = .ok (.iload_n 1, 1) := by decide +kernel
theorem dX11_look_66 : decode cX11_look 66 = .ok (.iconst 5, 1) := by decide +kernel
theorem dX11_look_67 : decode cX11_look 67 = .ok (.if_icmp .ne 10, 3) := by decide +kernel
theorem dX11_look_70 : decode cX11_look 70 = .ok (.aload_n 0, 1) := by decide +kernel
theorem dX11_look_71 : decode cX11_look 71 = .ok (.getfield 7, 3) := by decide +kernel
theorem dX11_look_74 : decode cX11_look 74 = .ok (.iconst 3, 1) := by decide +kernel
theorem dX11_look_75 : decode cX11_look 75 = .ok (.iaload, 1) := by decide +kernel
theorem dX11_look_76 : decode cX11_look 76 = .ok (.ireturn, 1) := by decide +kernel
theorem dX11_look_77 : decode cX11_look 77 = .ok (.iload_n 1, 1) := by decide +kernel
theorem dX11_look_78 : decode cX11_look 78 = .ok (.bipush 6, 2) := by decide +kernel
theorem dX11_look_80 : decode cX11_look 80 = .ok (.if_icmp .ne 10, 3) := by decide +kernel
theorem dX11_look_83 : decode cX11_look 83 = .ok (.aload_n 0, 1) := by decide +kernel
theorem dX11_look_84 : decode cX11_look 84 = .ok (.getfield 7, 3) := by decide +kernel
theorem dX11_look_87 : decode cX11_look 87 = .ok (.iconst 4, 1) := by decide +kernel
theorem dX11_look_88 : decode cX11_look 88 = .ok (.iaload, 1) := by decide +kernel
theorem dX11_look_89 : decode cX11_look 89 = .ok (.ireturn, 1) := by decide +kernel
theorem dX11_look_90 : decode cX11_look 90 = .ok (.iload_n 1, 1) := by decide +kernel
theorem dX11_look_91 : decode cX11_look 91 = .ok (.bipush 7, 2) := by decide +kernel
theorem dX11_look_93 : decode cX11_look 93 = .ok (.if_icmp .ne 10, 3) := by decide +kernel
theorem dX11_look_96 : decode cX11_look 96 = .ok (.aload_n 0, 1) := by decide +kernel
theorem dX11_look_97 : decode cX11_look 97 = .ok (.getfield 7, 3) := by decide +kernel
theorem dX11_look_100 : decode cX11_look 100 = .ok (.iconst 0, 1) := by decide +kernel
theorem dX11_look_101 : decode cX11_look 101 = .ok (.iaload, 1) := by decide +kernel
theorem dX11_look_102 : decode cX11_look 102 = .ok (.ireturn, 1) := by decide +kernel
theorem dX11_look_103 : decode cX11_look 103 = .ok (.iload_n 1, 1) := by decide +kernel
theorem dX11_look_104 : decode cX11_look 104 = .ok (.bipush 8, 2) := by decide +kernel
theorem dX11_look_106 : decode cX11_look 106 = .ok (.if_icmp .ne 10, 3) := by decide +kernel
theorem dX11_look_109 : decode cX11_look 109 = .ok (.aload_n 0, 1) := by decide +kernel
theorem dX11_look_110 : decode cX11_look 110 = .ok (.getfield 7, 3) := by decide +kernel
theorem dX11_look_113 : decode cX11_look 113 = .ok (.iconst 2, 1) := by decide +kernel
theorem dX11_look_114 : decode cX11_look 114 = .ok (.iaload, 1) := by decide +kernel
theorem dX11_look_115 : decode cX11_look 115 = .ok (.ireturn, 1) := by decide +kernel
theorem dX11_look_116 : decode cX11_look 116 = .ok (.iload_n 1, 1) := by decide +kernel
theorem dX11_look_117 : decode cX11_look 117 = .ok (.bipush 9, 2) := by decide +kernel
theorem dX11_look_119 : decode cX11_look 119 = .ok (.if_icmp .ne 10, 3) := by decide +kernel
theorem dX11_look_122 : decode cX11_look 122 = .ok (.aload_n 0, 1) := by decide +kernel
theorem dX11_look_123 : decode cX11_look 123 = .ok (.getfield 7, 3) := by decide +kernel
theorem dX11_look_126 : decode cX11_look 126 = .ok (.iconst 1, 1) := by decide +kernel
theorem dX11_look_127 : decode cX11_look 127 = .ok (.iaload, 1) := by decide +kernel
theorem dX11_look_128 : decode cX11_look 128 = .ok (.ireturn, 1) := by decide +kernel
theorem dX11_look_129 : decode cX11_look 129 = .ok (.iload_n 1, 1) := by decide +kernel
theorem dX11_look_130 : decode cX11_look 130 = .ok (.bipush 10, 2) := by decide +kernel
theorem dX11_look_132 : decode cX11_look 132 = .ok (.if_icmp .ne 10, 3) := by decide +kernel
theorem dX11_look_135 : decode cX11_look 135 = .ok (.aload_n 0, 1) := by decide +kernel
theorem dX11_look_136 : decode cX11_look 136 = .ok (.getfield 34, 3) := by decide +kernel
theorem dX11_look_139 : decode cX11_look 139 = .ok (.iconst 0, 1) := by decide +kernel
theorem dX11_look_140 : decode cX11_look 140 = .ok (.iaload, 1) := by decide +kernel
theorem dX11_look_141 : decode cX11_look 141 = .ok (.ireturn, 1) := by decide +kernel
theorem dX11_look_142 : decode cX11_look 142 = .ok (.iload_n 1, 1) := by decide +kernel
theorem dX11_look_143 : decode cX11_look 143 = .ok (.bipush 11, 2) := by decide +kernel
theorem dX11_look_145 : decode cX11_look 145 = .ok (.if_icmp .ne 8, 3) := by decide +kernel
theorem dX11_look_148 : decode cX11_look 148 = .ok (.aload_n 0, 1) := by decide +kernel
theorem dX11_look_149 : decode cX11_look 149 = .ok (.getfield 302, 3) := by decide +kernel
theorem dX11_look_152 : decode cX11_look 152 = .ok (.ireturn, 1) := by decide +kernel
theorem dX11_look_153 : decode cX11_look 153 = .ok (.iload_n 1, 1) := by decide +kernel
theorem dX11_look_154 : decode cX11_look 154 = .ok (.bipush 12, 2) := by decide +kernel
theorem dX11_look_156 : decode cX11_look 156 = .ok (.if_icmp .ne 8, 3) := by decide +kernel
theorem dX11_look_159 : decode cX11_look 159 = .ok (.aload_n 0, 1) := by decide +kernel
theorem dX11_look_160 : decode cX11_look 160 = .ok (.getfield 305, 3) := by decide +kernel
theorem dX11_look_163 : decode cX11_look 163 = .ok (.ireturn, 1) := by decide +kernel
theorem dX11_look_164 : decode cX11_look 164 = .ok (.iload_n 1, 1) := by decide +kernel
theorem dX11_look_165 : decode cX11_look 165 = .ok (.bipush 13, 2) := by decide +kernel
theorem dX11_look_167 : decode cX11_look 167 = .ok (.if_icmp .ne 8, 3) := by decide +kernel
theorem dX11_look_170 : decode cX11_look 170 = .ok (.aload_n 0, 1) := by decide +kernel
theorem dX11_look_171 : decode cX11_look 171 = .ok (.getfield 299, 3) := by decide +kernel
theorem dX11_look_174 : decode cX11_look 174 = .ok (.ireturn, 1) := by decide +kernel
theorem dX11_look_175 : decode cX11_look 175 = .ok (.iload_n 1, 1) := by decide +kernel
theorem dX11_look_176 : decode cX11_look 176 = .ok (.bipush 14, 2) := by decide +kernel
theorem dX11_look_178 : decode cX11_look 178 = .ok (.if_icmp .ne 10, 3) := by decide +kernel
theorem dX11_look_181 : decode cX11_look 181 = .ok (.aload_n 0, 1) := by decide +kernel
theorem dX11_look_182 : decode cX11_look 182 = .ok (.getfield 131, 3) := by decide +kernel
theorem dX11_look_185 : decode cX11_look 185 = .ok (.goto 6, 3) := by decide +kernel
theorem dX11_look_188 : decode cX11_look 188 = .ok (.ldc_w 526, 3) := by decide +kernel
theorem dX11_look_191 : decode cX11_look 191 = .ok (.ireturn, 1) := by decide +kernel
def f_X11_look  (a1 : Int32) (h : zHp) : Option (Int32 × zHp) := zlt (zst h 0 0 (0 : Int32)) fun h1 => (if a1 = 0 then some ((h1 0 6), h1) else (if a1 = (1 : Int32) then some ((h1 0 7), h1) else (if a1 = (2 : Int32) then (f_X11_rockSet h1).bind fun x2 => some (x2.1, x2.2) else (if a1 = (3 : Int32) then (f_X11_freeSet h1).bind fun x3 => some (x3.1, x3.2) else (if a1 = (4 : Int32) then (f_X11_hereSet h1).bind fun x4 => some (((((1 : Int32) <<< ((h1 0 7) &&& 31)) - (1 : Int32)) &&& (x4.1 ^^^ (-1 : Int32))), x4.2) else (if a1 = (5 : Int32) then zix (3 : Int32) 77 (some ((h1 1 (3 : Int32).toNatClampNeg), h1)) else (if a1 = (6 : Int32) then zix (4 : Int32) 77 (some ((h1 1 (4 : Int32).toNatClampNeg), h1)) else (if a1 = (7 : Int32) then zix (0 : Int32) 77 (some ((h1 1 (0 : Int32).toNatClampNeg), h1)) else (if a1 = (8 : Int32) then zix (2 : Int32) 77 (some ((h1 1 (2 : Int32).toNatClampNeg), h1)) else (if a1 = (9 : Int32) then zix (1 : Int32) 77 (some ((h1 1 (1 : Int32).toNatClampNeg), h1)) else (if a1 = (10 : Int32) then zix (0 : Int32) 2 (some ((h1 9 (0 : Int32).toNatClampNeg), h1)) else (if a1 = (11 : Int32) then some ((h1 0 34), h1) else (if a1 = (12 : Int32) then some ((h1 0 36), h1) else (if a1 = (13 : Int32) then some ((h1 0 38), h1) else (if a1 = (14 : Int32) then some ((h1 0 3), h1) else some ((-100000 : Int32), h1))))))))))))))))
set_option maxHeartbeats 4000000 in
set_option maxRecDepth 100000 in
theorem s_X11_look  (a1 : Int32) (h : zHp) : Fn wM mX11_look 3 rI [.ref 0, .int a1] h (f_X11_look a1 h) := by
  refine Fn.of rfl (Nat.le_of_ble_eq_true rfl) ?_
  unfold f_X11_look
  refine Sim.aload_n 0 dX11_look_0 rfl ?_
  refine Sim.iconst (v := (0 : Int32)) dX11_look_1 rfl ?_
  refine Sim.put fp_X11_128 dX11_look_2 mI_0 rfl rfl ?_
  refine Sim.lth (fun h1 => ?_)
  refine Sim.iload_n 1 dX11_look_5 rfl ?_
  refine Sim.if_ne 14 dX11_look_6 rfl ?_ ?_
  · refine Sim.aload_n 0 dX11_look_9 rfl ?_
    refine Sim.getI fl_X11_140 dX11_look_10 mI_6 ?_
    exact Sim.iret dX11_look_13 rfl
  · refine Sim.iload_n 1 dX11_look_14 rfl ?_
    refine Sim.iconst (v := (1 : Int32)) dX11_look_15 rfl ?_
    refine Sim.icmp_ne 24 dX11_look_16 rfl ?_ ?_
    · refine Sim.aload_n 0 dX11_look_19 rfl ?_
      refine Sim.getI fl_X11_143 dX11_look_20 mI_7 ?_
      exact Sim.iret dX11_look_23 rfl
    · refine Sim.iload_n 1 dX11_look_24 rfl ?_
      refine Sim.iconst (v := (2 : Int32)) dX11_look_25 rfl ?_
      refine Sim.icmp_ne 34 dX11_look_26 rfl ?_ ?_
      · refine Sim.aload_n 0 dX11_look_29 rfl ?_
        refine Sim.callV0I (d1 := 1) (s_X11_rockSet h1) dX11_look_30 ml_X11_523 mv_X11_rockSet mC (Nat.le_of_ble_eq_true rfl) (Nat.le_of_ble_eq_true rfl) (Nat.le_of_ble_eq_true rfl) (fun x2 => ?_)
        exact Sim.iret dX11_look_33 rfl
      · refine Sim.iload_n 1 dX11_look_34 rfl ?_
        refine Sim.iconst (v := (3 : Int32)) dX11_look_35 rfl ?_
        refine Sim.icmp_ne 44 dX11_look_36 rfl ?_ ?_
        · refine Sim.aload_n 0 dX11_look_39 rfl ?_
          refine Sim.callV0I (d1 := 2) (s_X11_freeSet h1) dX11_look_40 ml_X11_415 mv_X11_freeSet mC (Nat.le_of_ble_eq_true rfl) (Nat.le_of_ble_eq_true rfl) (Nat.le_of_ble_eq_true rfl) (fun x3 => ?_)
          exact Sim.iret dX11_look_43 rfl
        · refine Sim.iload_n 1 dX11_look_44 rfl ?_
          refine Sim.iconst (v := (4 : Int32)) dX11_look_45 rfl ?_
          refine Sim.icmp_ne 65 dX11_look_46 rfl ?_ ?_
          · refine Sim.iconst (v := (1 : Int32)) dX11_look_49 rfl ?_
            refine Sim.aload_n 0 dX11_look_50 rfl ?_
            refine Sim.getI fl_X11_143 dX11_look_51 mI_7 ?_
            refine Sim.ishl dX11_look_54 ?_
            refine Sim.iconst (v := (1 : Int32)) dX11_look_55 rfl ?_
            refine Sim.isub dX11_look_56 ?_
            refine Sim.aload_n 0 dX11_look_57 rfl ?_
            refine Sim.callV0I (d1 := 0) (s_X11_hereSet h1) dX11_look_58 ml_X11_326 mv_X11_hereSet mC (Nat.le_of_ble_eq_true rfl) (Nat.le_of_ble_eq_true rfl) (Nat.le_of_ble_eq_true rfl) (fun x4 => ?_)
            refine Sim.iconst (v := (-1 : Int32)) dX11_look_61 rfl ?_
            refine Sim.ixor dX11_look_62 ?_
            refine Sim.iand dX11_look_63 ?_
            exact Sim.iret dX11_look_64 rfl
          · refine Sim.iload_n 1 dX11_look_65 rfl ?_
            refine Sim.iconst (v := (5 : Int32)) dX11_look_66 rfl ?_
            refine Sim.icmp_ne 77 dX11_look_67 rfl ?_ ?_
            · refine Sim.aload_n 0 dX11_look_70 rfl ?_
              refine Sim.getR (j := 1) fl_X11_7 dX11_look_71 mR_1 ?_
              refine Sim.iconst (v := (3 : Int32)) dX11_look_74 rfl ?_
              refine Sim.iald (n := 77) dX11_look_75 mA_1 ?_
              exact Sim.iret dX11_look_76 rfl
            · refine Sim.iload_n 1 dX11_look_77 rfl ?_
              refine Sim.bipush (v := (6 : Int32)) dX11_look_78 rfl ?_
              refine Sim.icmp_ne 90 dX11_look_80 rfl ?_ ?_
              · refine Sim.aload_n 0 dX11_look_83 rfl ?_
                refine Sim.getR (j := 1) fl_X11_7 dX11_look_84 mR_1 ?_
                refine Sim.iconst (v := (4 : Int32)) dX11_look_87 rfl ?_
                refine Sim.iald (n := 77) dX11_look_88 mA_1 ?_
                exact Sim.iret dX11_look_89 rfl
              · refine Sim.iload_n 1 dX11_look_90 rfl ?_
                refine Sim.bipush (v := (7 : Int32)) dX11_look_91 rfl ?_
                refine Sim.icmp_ne 103 dX11_look_93 rfl ?_ ?_
                · refine Sim.aload_n 0 dX11_look_96 rfl ?_
                  refine Sim.getR (j := 1) fl_X11_7 dX11_look_97 mR_1 ?_
                  refine Sim.iconst (v := (0 : Int32)) dX11_look_100 rfl ?_
                  refine Sim.iald (n := 77) dX11_look_101 mA_1 ?_
                  exact Sim.iret dX11_look_102 rfl
                · refine Sim.iload_n 1 dX11_look_103 rfl ?_
                  refine Sim.bipush (v := (8 : Int32)) dX11_look_104 rfl ?_
                  refine Sim.icmp_ne 116 dX11_look_106 rfl ?_ ?_
                  · refine Sim.aload_n 0 dX11_look_109 rfl ?_
                    refine Sim.getR (j := 1) fl_X11_7 dX11_look_110 mR_1 ?_
                    refine Sim.iconst (v := (2 : Int32)) dX11_look_113 rfl ?_
                    refine Sim.iald (n := 77) dX11_look_114 mA_1 ?_
                    exact Sim.iret dX11_look_115 rfl
                  · refine Sim.iload_n 1 dX11_look_116 rfl ?_
                    refine Sim.bipush (v := (9 : Int32)) dX11_look_117 rfl ?_
                    refine Sim.icmp_ne 129 dX11_look_119 rfl ?_ ?_
                    · refine Sim.aload_n 0 dX11_look_122 rfl ?_
                      refine Sim.getR (j := 1) fl_X11_7 dX11_look_123 mR_1 ?_
                      refine Sim.iconst (v := (1 : Int32)) dX11_look_126 rfl ?_
                      refine Sim.iald (n := 77) dX11_look_127 mA_1 ?_
                      exact Sim.iret dX11_look_128 rfl
                    · refine Sim.iload_n 1 dX11_look_129 rfl ?_
                      refine Sim.bipush (v := (10 : Int32)) dX11_look_130 rfl ?_
                      refine Sim.icmp_ne 142 dX11_look_132 rfl ?_ ?_
                      · refine Sim.aload_n 0 dX11_look_135 rfl ?_
                        refine Sim.getR (j := 9) fl_X11_34 dX11_look_136 mR_18 ?_
                        refine Sim.iconst (v := (0 : Int32)) dX11_look_139 rfl ?_
                        refine Sim.iald (n := 2) dX11_look_140 mA_9 ?_
                        exact Sim.iret dX11_look_141 rfl
                      · refine Sim.iload_n 1 dX11_look_142 rfl ?_
                        refine Sim.bipush (v := (11 : Int32)) dX11_look_143 rfl ?_
                        refine Sim.icmp_ne 153 dX11_look_145 rfl ?_ ?_
                        · refine Sim.aload_n 0 dX11_look_148 rfl ?_
                          refine Sim.getI fl_X11_302 dX11_look_149 mI_34 ?_
                          exact Sim.iret dX11_look_152 rfl
                        · refine Sim.iload_n 1 dX11_look_153 rfl ?_
                          refine Sim.bipush (v := (12 : Int32)) dX11_look_154 rfl ?_
                          refine Sim.icmp_ne 164 dX11_look_156 rfl ?_ ?_
                          · refine Sim.aload_n 0 dX11_look_159 rfl ?_
                            refine Sim.getI fl_X11_305 dX11_look_160 mI_36 ?_
                            exact Sim.iret dX11_look_163 rfl
                          · refine Sim.iload_n 1 dX11_look_164 rfl ?_
                            refine Sim.bipush (v := (13 : Int32)) dX11_look_165 rfl ?_
                            refine Sim.icmp_ne 175 dX11_look_167 rfl ?_ ?_
                            · refine Sim.aload_n 0 dX11_look_170 rfl ?_
                              refine Sim.getI fl_X11_299 dX11_look_171 mI_38 ?_
                              exact Sim.iret dX11_look_174 rfl
                            · refine Sim.iload_n 1 dX11_look_175 rfl ?_
                              refine Sim.bipush (v := (14 : Int32)) dX11_look_176 rfl ?_
                              refine Sim.icmp_ne 188 dX11_look_178 rfl ?_ ?_
                              · refine Sim.aload_n 0 dX11_look_181 rfl ?_
                                refine Sim.getI fl_X11_131 dX11_look_182 mI_3 ?_
                                refine Sim.goto 191 dX11_look_185 rfl ?_
                                exact Sim.iret dX11_look_191 rfl
                              · refine Sim.ldc_w (v := (-100000 : Int32)) dX11_look_188 ct_X11_526 ?_
                                exact Sim.iret dX11_look_191 rfl
theorem mv_X11_look : zMV mX11_look 1 := ⟨⟨zTb_in 2037 (by decide +kernel) rfl, zTb_in 148 (by decide +kernel) rfl, ⟨by decide +kernel, by decide +kernel⟩, by decide +kernel⟩, zTb_in 2035 (by decide +kernel) rfl, zTb_in 2036 (by decide +kernel) rfl⟩
