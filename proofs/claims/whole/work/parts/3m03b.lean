-- ===== RockingPorchModel.seated(II)I
abbrev mX11_seated : zMt := (yX11_seated, cX11_seated, 5, some .int)
theorem ml_X11_439 : Cond.methodLink RX11 439 yX11_ordersFrom ∈ zTb := zTb_in 1889 (by decide +kernel) rfl
theorem dX11_seated_0 : decode cX11_seated 0 = .ok (.aload_n 0, 1) := by decide +kernel
theorem dX11_seated_1 : decode cX11_seated 1 = .ok (.iconst 0, 1) := by decide +kernel
theorem dX11_seated_2 : decode cX11_seated 2 = .ok (.putfield 128, 3) := by decide +kernel
theorem dX11_seated_5 : decode cX11_seated 5 = .ok (.aload_n 0, 1) := by decide +kernel
theorem dX11_seated_6 : decode cX11_seated 6 = .ok (.iload_n 1, 1) := by decide +kernel
theorem dX11_seated_7 : decode cX11_seated 7 = .ok (.iconst 1, 1) := by decide +kernel
theorem dX11_seated_8 : decode cX11_seated 8 = .ok (.bipush 7, 2) := by decide +kernel
theorem dX11_seated_10 : decode cX11_seated 10 = .ok (.invokevirtual 154, 3) := by decide +kernel
theorem dX11_seated_13 : decode cX11_seated 13 = .ok (.ifCond .eq 13, 3) := by decide +kernel
theorem dX11_seated_16 : decode cX11_seated 16 = .ok (.aload_n 0, 1) := by decide +kernel
theorem dX11_seated_17 : decode cX11_seated 17 = .ok (.iload_n 2, 1) := by decide +kernel
theorem dX11_seated_18 : decode cX11_seated 18 = .ok (.iconst 0, 1) := by decide +kernel
theorem dX11_seated_19 : decode cX11_seated 19 = .ok (.iconst 1, 1) := by decide +kernel
theorem dX11_seated_20 : decode cX11_seated 20 = .ok (.invokevirtual 154, 3) := by decide +kernel
theorem dX11_seated_23 : decode cX11_seated 23 = .ok (.ifCond .ne 5, 3) := by decide +kernel
theorem dX11_seated_26 : decode cX11_seated 26 = .ok (.iconst (-1), 1) := by decide +kernel
theorem dX11_seated_27 : decode cX11_seated 27 = .ok (.ireturn, 1) := by decide +kernel
theorem dX11_seated_28 : decode cX11_seated 28 = .ok (.iconst 0, 1) := by decide +kernel
theorem dX11_seated_29 : decode cX11_seated 29 = .ok (.istore_n 3, 1) := by decide +kernel
theorem dX11_seated_30 : decode cX11_seated 30 = .ok (.iconst 0, 1) := by decide +kernel
theorem dX11_seated_31 : decode cX11_seated 31 = .ok (.istore 4, 2) := by decide +kernel
theorem dX11_seated_33 : decode cX11_seated 33 = .ok (.iload 4, 2) := by decide +kernel
theorem dX11_seated_35 : decode cX11_seated 35 = .ok (.iload_n 1, 1) := by decide +kernel
theorem dX11_seated_36 : decode cX11_seated 36 = .ok (.if_icmp .ge 29, 3) := by decide +kernel
theorem dX11_seated_39 : decode cX11_seated 39 = .ok (.iload_n 3, 1) := by decide +kernel
theorem dX11_seated_40 : decode cX11_seated 40 = .ok (.aload_n 0, 1) := by decide +kernel
theorem dX11_seated_41 : decode cX11_seated 41 = .ok (.iload_n 1, 1) := by decide +kernel
theorem dX11_seated_42 : decode cX11_seated 42 = .ok (.iload 4, 2) := by decide +kernel
theorem dX11_seated_44 : decode cX11_seated 44 = .ok (.iload_n 2, 1) := by decide +kernel
theorem dX11_seated_45 : decode cX11_seated 45 = .ok (.iconst 1, 1) := by decide +kernel
theorem dX11_seated_46 : decode cX11_seated 46 = .ok (.if_icmp .ne 7, 3) := by decide +kernel
theorem dX11_seated_49 : decode cX11_seated 49 = .ok (.iconst 1, 1) := by decide +kernel
theorem dX11_seated_50 : decode cX11_seated 50 = .ok (.goto 4, 3) := by decide +kernel
theorem dX11_seated_53 : decode cX11_seated 53 = .ok (.iconst 0, 1) := by decide +kernel
theorem dX11_seated_54 : decode cX11_seated 54 = .ok (.invokevirtual 439, 3) := by decide +kernel
theorem dX11_seated_57 : decode cX11_seated 57 = .ok (.iadd, 1) := by decide +kernel
theorem dX11_seated_58 : decode cX11_seated 58 = .ok (.istore_n 3, 1) := by decide +kernel
theorem dX11_seated_59 : decode cX11_seated 59 = .ok (.iinc 4 1, 3) := by decide +kernel
theorem dX11_seated_62 : decode cX11_seated 62 = .ok (.goto (-29), 3) := by decide +kernel
theorem dX11_seated_65 : decode cX11_seated 65 = .ok (.iload_n 3, 1) := by decide +kernel
theorem dX11_seated_66 : decode cX11_seated 66 = .ok (.ireturn, 1) := by decide +kernel
def f_X11_seated_54  (k33 : Int32 × Int32 × Int32 × Int32 × zHp → Option (Int32 × zHp)) (v1 : Int32) (v2 : Int32) (v4 : Int32) (s0 : Int32) (s1 : Int32) (s2 : Int32) (s4 : Int32) (h : zHp) : Option (Int32 × zHp) := (f_X11_ordersFrom s2 s1 s0 h).bind fun x1 => zlt (s4 + x1.1) fun x2 => k33 (v1, v2, x2, (v4 + (1 : Int32)), x1.2)
set_option maxHeartbeats 4000000 in
set_option maxRecDepth 100000 in
theorem f_X11_seated_54_s  (k33 : Int32 × Int32 × Int32 × Int32 × zHp → Option (Int32 × zHp)) (H33 : ∀ v : Int32 × Int32 × Int32 × Int32 × zHp, Sim wM mX11_seated 2 rI 33 [(0, .ref 0), (1, .int v.1), (2, .int v.2.1), (3, .int v.2.2.1), (4, .int v.2.2.2.1)] [] v.2.2.2.2 (k33 v)) (v1 : Int32) (v2 : Int32) (v4 : Int32) (s0 : Int32) (s1 : Int32) (s2 : Int32) (s4 : Int32) (h : zHp) : Sim wM mX11_seated 2 rI 54 [(0, .ref 0), (1, .int v1), (2, .int v2), (4, .int v4)] [.int s0, .int s1, .int s2, .ref 0, .int s4] h (f_X11_seated_54 k33 v1 v2 v4 s0 s1 s2 s4 h) := by
  unfold f_X11_seated_54
  refine Sim.callV3I (d1 := 1) (s_X11_ordersFrom s2 s1 s0 h) dX11_seated_54 ml_X11_439 mv_X11_ordersFrom mC (Nat.le_of_ble_eq_true rfl) (Nat.le_of_ble_eq_true rfl) (Nat.le_of_ble_eq_true rfl) (fun x1 => ?_)
  refine Sim.iadd dX11_seated_57 ?_
  refine Sim.lti (fun x2 => ?_)
  refine Sim.istore_n (L' := [(3, .int x2), (0, .ref 0), (1, .int v1), (2, .int v2), (4, .int v4)]) dX11_seated_58 (Nat.le_of_ble_eq_true rfl) rfl ?_
  refine Sim.iinc (L' := [(4, .int (v4 + (1 : Int32))), (3, .int x2), (0, .ref 0), (1, .int v1), (2, .int v2)]) 4 dX11_seated_59 rfl rfl (Nat.le_of_ble_eq_true rfl) rfl ?_
  refine Sim.goto 33 dX11_seated_62 rfl ?_
  refine Sim.locs [2, 3, 4, 1, 0] rfl ?_
  exact H33 (v1, v2, x2, (v4 + (1 : Int32)), x1.2)
def f_X11_seated_33  (k33 : Int32 × Int32 × Int32 × Int32 × zHp → Option (Int32 × zHp)) (v1 : Int32) (v2 : Int32) (v3 : Int32) (v4 : Int32) (h : zHp) : Option (Int32 × zHp) := (if v4 < v1 then (if v2 = (1 : Int32) then f_X11_seated_54 k33 v1 v2 v4 (1 : Int32) v4 v1 v3 h else f_X11_seated_54 k33 v1 v2 v4 (0 : Int32) v4 v1 v3 h) else some (v3, h))
set_option maxHeartbeats 4000000 in
set_option maxRecDepth 100000 in
theorem f_X11_seated_33_s  (k33 : Int32 × Int32 × Int32 × Int32 × zHp → Option (Int32 × zHp)) (H33 : ∀ v : Int32 × Int32 × Int32 × Int32 × zHp, Sim wM mX11_seated 2 rI 33 [(0, .ref 0), (1, .int v.1), (2, .int v.2.1), (3, .int v.2.2.1), (4, .int v.2.2.2.1)] [] v.2.2.2.2 (k33 v)) (v1 : Int32) (v2 : Int32) (v3 : Int32) (v4 : Int32) (h : zHp) : Sim wM mX11_seated 2 rI 33 [(0, .ref 0), (1, .int v1), (2, .int v2), (3, .int v3), (4, .int v4)] [] h (f_X11_seated_33 k33 v1 v2 v3 v4 h) := by
  unfold f_X11_seated_33
  refine Sim.iload 4 dX11_seated_33 rfl ?_
  refine Sim.iload_n 1 dX11_seated_35 rfl ?_
  refine Sim.icmp_ge 65 dX11_seated_36 rfl ?_ ?_
  · refine Sim.iload_n 3 dX11_seated_39 rfl ?_
    refine Sim.aload_n 0 dX11_seated_40 rfl ?_
    refine Sim.iload_n 1 dX11_seated_41 rfl ?_
    refine Sim.iload 4 dX11_seated_42 rfl ?_
    refine Sim.iload_n 2 dX11_seated_44 rfl ?_
    refine Sim.iconst (v := (1 : Int32)) dX11_seated_45 rfl ?_
    refine Sim.icmp_ne 53 dX11_seated_46 rfl ?_ ?_
    · refine Sim.iconst (v := (1 : Int32)) dX11_seated_49 rfl ?_
      refine Sim.goto 54 dX11_seated_50 rfl ?_
      refine Sim.locs [0, 1, 2, 4] rfl ?_
      exact f_X11_seated_54_s k33 H33 v1 v2 v4 (1 : Int32) v4 v1 v3 h
    · refine Sim.iconst (v := (0 : Int32)) dX11_seated_53 rfl ?_
      refine Sim.locs [0, 1, 2, 4] rfl ?_
      exact f_X11_seated_54_s k33 H33 v1 v2 v4 (0 : Int32) v4 v1 v3 h
  · refine Sim.iload_n 3 dX11_seated_65 rfl ?_
    exact Sim.iret dX11_seated_66 rfl
def f_X11_seated_33_lp   (n : Nat) (v : Int32 × Int32 × Int32 × Int32 × zHp) : Option (Int32 × zHp) := zlp (fun k33 v => f_X11_seated_33 k33 v.1 v.2.1 v.2.2.1 v.2.2.2.1 v.2.2.2.2) n v
theorem f_X11_seated_33_ls  (n : Nat) (v : Int32 × Int32 × Int32 × Int32 × zHp) : Sim wM mX11_seated 2 rI 33 [(0, .ref 0), (1, .int v.1), (2, .int v.2.1), (3, .int v.2.2.1), (4, .int v.2.2.2.1)] [] v.2.2.2.2 (f_X11_seated_33_lp n v) :=
  Sim.lp (V := Int32 × Int32 × Int32 × Int32 × zHp) (Lf := fun v => [(0, .ref 0), (1, .int v.1), (2, .int v.2.1), (3, .int v.2.2.1), (4, .int v.2.2.2.1)]) (sf := fun v => []) (hf := fun v => v.2.2.2.2) (fun k33 H33 v => f_X11_seated_33_s k33 H33 v.1 v.2.1 v.2.2.1 v.2.2.2.1 v.2.2.2.2) n v
def f_X11_seated  (a1 : Int32) (a2 : Int32) (h : zHp) : Option (Int32 × zHp) := zlt (zst h 0 0 (0 : Int32)) fun h1 => (f_X11_isIn a1 (1 : Int32) (7 : Int32) h1).bind fun x2 => (if x2.1 = 0 then some ((-1 : Int32), x2.2) else (f_X11_isIn a2 (0 : Int32) (1 : Int32) x2.2).bind fun x3 => (if x3.1 = 0 then some ((-1 : Int32), x3.2) else f_X11_seated_33_lp  zN (a1, a2, (0 : Int32), (0 : Int32), x3.2)))
set_option maxHeartbeats 4000000 in
set_option maxRecDepth 100000 in
theorem s_X11_seated  (a1 : Int32) (a2 : Int32) (h : zHp) : Fn wM mX11_seated 2 rI [.ref 0, .int a1, .int a2] h (f_X11_seated a1 a2 h) := by
  refine Fn.of rfl (Nat.le_of_ble_eq_true rfl) ?_
  unfold f_X11_seated
  refine Sim.aload_n 0 dX11_seated_0 rfl ?_
  refine Sim.iconst (v := (0 : Int32)) dX11_seated_1 rfl ?_
  refine Sim.put fp_X11_128 dX11_seated_2 mI_0 rfl rfl ?_
  refine Sim.lth (fun h1 => ?_)
  refine Sim.aload_n 0 dX11_seated_5 rfl ?_
  refine Sim.iload_n 1 dX11_seated_6 rfl ?_
  refine Sim.iconst (v := (1 : Int32)) dX11_seated_7 rfl ?_
  refine Sim.bipush (v := (7 : Int32)) dX11_seated_8 rfl ?_
  refine Sim.callV3I (d1 := 0) (s_X11_isIn a1 (1 : Int32) (7 : Int32) h1) dX11_seated_10 ml_X11_154 mv_X11_isIn mC (Nat.le_of_ble_eq_true rfl) (Nat.le_of_ble_eq_true rfl) (Nat.le_of_ble_eq_true rfl) (fun x2 => ?_)
  refine Sim.if_eq 26 dX11_seated_13 rfl ?_ ?_
  · refine Sim.iconst (v := (-1 : Int32)) dX11_seated_26 rfl ?_
    exact Sim.iret dX11_seated_27 rfl
  · refine Sim.aload_n 0 dX11_seated_16 rfl ?_
    refine Sim.iload_n 2 dX11_seated_17 rfl ?_
    refine Sim.iconst (v := (0 : Int32)) dX11_seated_18 rfl ?_
    refine Sim.iconst (v := (1 : Int32)) dX11_seated_19 rfl ?_
    refine Sim.callV3I (d1 := 0) (s_X11_isIn a2 (0 : Int32) (1 : Int32) x2.2) dX11_seated_20 ml_X11_154 mv_X11_isIn mC (Nat.le_of_ble_eq_true rfl) (Nat.le_of_ble_eq_true rfl) (Nat.le_of_ble_eq_true rfl) (fun x3 => ?_)
    refine Sim.if_ne 28 dX11_seated_23 rfl ?_ ?_
    · refine Sim.iconst (v := (-1 : Int32)) dX11_seated_26 rfl ?_
      exact Sim.iret dX11_seated_27 rfl
    · refine Sim.iconst (v := (0 : Int32)) dX11_seated_28 rfl ?_
      refine Sim.istore_n (L' := [(3, .int (0 : Int32)), (0, .ref 0), (1, .int a1), (2, .int a2)]) dX11_seated_29 (Nat.le_of_ble_eq_true rfl) rfl ?_
      refine Sim.iconst (v := (0 : Int32)) dX11_seated_30 rfl ?_
      refine Sim.istore (L' := [(4, .int (0 : Int32)), (3, .int (0 : Int32)), (0, .ref 0), (1, .int a1), (2, .int a2)]) dX11_seated_31 (Nat.le_of_ble_eq_true rfl) rfl ?_
      refine Sim.locs [2, 3, 4, 1, 0] rfl ?_
      exact f_X11_seated_33_ls  zN (a1, a2, (0 : Int32), (0 : Int32), x3.2)
theorem mv_X11_seated : zMV mX11_seated 2 := ⟨⟨zTb_in 1888 (by decide +kernel) rfl, zTb_in 148 (by decide +kernel) rfl, ⟨by decide +kernel, by decide +kernel⟩, by decide +kernel⟩, zTb_in 1886 (by decide +kernel) rfl, zTb_in 1887 (by decide +kernel) rfl⟩
-- ===== RockingPorchModel.point(II)I
abbrev mX11_point : zMt := (yX11_point, cX11_point, 4, some .int)
theorem fl_X11_443 : zF RX11 443 11 49 := ⟨RX11, TX11, 69, rfl, Nat.le_of_ble_eq_true rfl, zTb_in 1348 (by decide +kernel) rfl, in_X11⟩
theorem fl_X11_92 : zF RX11 92 11 50 := ⟨RX11, TX11, 69, rfl, Nat.le_of_ble_eq_true rfl, zTb_in 1349 (by decide +kernel) rfl, in_X11⟩
theorem fl_X11_95 : zF RX11 95 11 51 := ⟨RX11, TX11, 69, rfl, Nat.le_of_ble_eq_true rfl, zTb_in 1350 (by decide +kernel) rfl, in_X11⟩
theorem fp_X11_443 : zFp RX11 443 11 49 .int := ⟨RX11, TX11, 69, tyX11, rfl, Nat.le_of_ble_eq_true rfl, zTb_in 1348 (by decide +kernel) rfl, in_X11, tyX11_ok, nmX11, rfl, rfl⟩
theorem dX11_point_0 : decode cX11_point 0 = .ok (.aload_n 0, 1) := by decide +kernel
theorem dX11_point_1 : decode cX11_point 1 = .ok (.iconst 0, 1) := by decide +kernel
theorem dX11_point_2 : decode cX11_point 2 = .ok (.putfield 128, 3) := by decide +kernel
theorem dX11_point_5 : decode cX11_point 5 = .ok (.iload_n 1, 1) := by decide +kernel
theorem dX11_point_6 : decode cX11_point 6 = .ok (.iconst (-1), 1) := by decide +kernel
theorem dX11_point_7 : decode cX11_point 7 = .ok (.if_icmp .ne 10, 3) := by decide +kernel
theorem dX11_point_10 : decode cX11_point 10 = .ok (.aload_n 0, 1) := by decide +kernel
theorem dX11_point_11 : decode cX11_point 11 = .ok (.iconst 0, 1) := by decide +kernel
theorem dX11_point_12 : decode cX11_point 12 = .ok (.putfield 443, 3) := by decide +kernel
theorem dX11_point_15 : decode cX11_point 15 = .ok (.iconst 0, 1) := by decide +kernel
theorem dX11_point_16 : decode cX11_point 16 = .ok (.ireturn, 1) := by decide +kernel
theorem dX11_point_17 : decode cX11_point 17 = .ok (.aload_n 0, 1) := by decide +kernel
theorem dX11_point_18 : decode cX11_point 18 = .ok (.iload_n 1, 1) := by decide +kernel
theorem dX11_point_19 : decode cX11_point 19 = .ok (.iconst 0, 1) := by decide +kernel
theorem dX11_point_20 : decode cX11_point 20 = .ok (.bipush 20, 2) := by decide +kernel
theorem dX11_point_22 : decode cX11_point 22 = .ok (.invokevirtual 154, 3) := by decide +kernel
theorem dX11_point_25 : decode cX11_point 25 = .ok (.ifCond .eq 23, 3) := by decide +kernel
theorem dX11_point_28 : decode cX11_point 28 = .ok (.aload_n 0, 1) := by decide +kernel
theorem dX11_point_29 : decode cX11_point 29 = .ok (.iload_n 2, 1) := by decide +kernel
theorem dX11_point_30 : decode cX11_point 30 = .ok (.iconst 0, 1) := by decide +kernel
theorem dX11_point_31 : decode cX11_point 31 = .ok (.bipush 20, 2) := by decide +kernel
theorem dX11_point_33 : decode cX11_point 33 = .ok (.invokevirtual 154, 3) := by decide +kernel
theorem dX11_point_36 : decode cX11_point 36 = .ok (.ifCond .eq 12, 3) := by decide +kernel
theorem dX11_point_39 : decode cX11_point 39 = .ok (.aload_n 0, 1) := by decide +kernel
theorem dX11_point_40 : decode cX11_point 40 = .ok (.getfield 443, 3) := by decide +kernel
theorem dX11_point_43 : decode cX11_point 43 = .ok (.bipush 8, 2) := by decide +kernel
theorem dX11_point_45 : decode cX11_point 45 = .ok (.if_icmp .ne 5, 3) := by decide +kernel
theorem dX11_point_48 : decode cX11_point 48 = .ok (.iconst (-1), 1) := by decide +kernel
theorem dX11_point_49 : decode cX11_point 49 = .ok (.ireturn, 1) := by decide +kernel
theorem dX11_point_50 : decode cX11_point 50 = .ok (.iconst 0, 1) := by decide +kernel
theorem dX11_point_51 : decode cX11_point 51 = .ok (.istore_n 3, 1) := by decide +kernel
theorem dX11_point_52 : decode cX11_point 52 = .ok (.iload_n 3, 1) := by decide +kernel
theorem dX11_point_53 : decode cX11_point 53 = .ok (.aload_n 0, 1) := by decide +kernel
theorem dX11_point_54 : decode cX11_point 54 = .ok (.getfield 443, 3) := by decide +kernel
theorem dX11_point_57 : decode cX11_point 57 = .ok (.if_icmp .ge 31, 3) := by decide +kernel
theorem dX11_point_60 : decode cX11_point 60 = .ok (.aload_n 0, 1) := by decide +kernel
theorem dX11_point_61 : decode cX11_point 61 = .ok (.getfield 92, 3) := by decide +kernel
theorem dX11_point_64 : decode cX11_point 64 = .ok (.iload_n 3, 1) := by decide +kernel
theorem dX11_point_65 : decode cX11_point 65 = .ok (.iaload, 1) := by decide +kernel
theorem dX11_point_66 : decode cX11_point 66 = .ok (.iload_n 1, 1) := by decide +kernel
theorem dX11_point_67 : decode cX11_point 67 = .ok (.if_icmp .ne 15, 3) := by decide +kernel
theorem dX11_point_70 : decode cX11_point 70 = .ok (.aload_n 0, 1) := by decide +kernel
theorem dX11_point_71 : decode cX11_point 71 = .ok (.getfield 95, 3) := by decide +kernel
theorem dX11_point_74 : decode cX11_point 74 = .ok (.iload_n 3, 1) := by decide +kernel
theorem dX11_point_75 : decode cX11_point 75 = .ok (.iaload, 1) := by decide +kernel
theorem dX11_point_76 : decode cX11_point 76 = .ok (.iload_n 2, 1) := by decide +kernel
theorem dX11_point_77 : decode cX11_point 77 = .ok (.if_icmp .ne 5, 3) := by decide +kernel
theorem dX11_point_80 : decode cX11_point 80 = .ok (.iconst (-1), 1) := by decide +kernel
theorem dX11_point_81 : decode cX11_point 81 = .ok (.ireturn, 1) := by decide +kernel
theorem dX11_point_82 : decode cX11_point 82 = .ok (.iinc 3 1, 3) := by decide +kernel
theorem dX11_point_85 : decode cX11_point 85 = .ok (.goto (-33), 3) := by decide +kernel
theorem dX11_point_88 : decode cX11_point 88 = .ok (.aload_n 0, 1) := by decide +kernel
theorem dX11_point_89 : decode cX11_point 89 = .ok (.getfield 92, 3) := by decide +kernel
theorem dX11_point_92 : decode cX11_point 92 = .ok (.aload_n 0, 1) := by decide +kernel
theorem dX11_point_93 : decode cX11_point 93 = .ok (.getfield 443, 3) := by decide +kernel
theorem dX11_point_96 : decode cX11_point 96 = .ok (.iload_n 1, 1) := by decide +kernel
theorem dX11_point_97 : decode cX11_point 97 = .ok (.iastore, 1) := by decide +kernel
theorem dX11_point_98 : decode cX11_point 98 = .ok (.aload_n 0, 1) := by decide +kernel
theorem dX11_point_99 : decode cX11_point 99 = .ok (.getfield 95, 3) := by decide +kernel
theorem dX11_point_102 : decode cX11_point 102 = .ok (.aload_n 0, 1) := by decide +kernel
theorem dX11_point_103 : decode cX11_point 103 = .ok (.getfield 443, 3) := by decide +kernel
theorem dX11_point_106 : decode cX11_point 106 = .ok (.iload_n 2, 1) := by decide +kernel
theorem dX11_point_107 : decode cX11_point 107 = .ok (.iastore, 1) := by decide +kernel
theorem dX11_point_108 : decode cX11_point 108 = .ok (.aload_n 0, 1) := by decide +kernel
theorem dX11_point_109 : decode cX11_point 109 = .ok (.aload_n 0, 1) := by decide +kernel
theorem dX11_point_110 : decode cX11_point 110 = .ok (.getfield 443, 3) := by decide +kernel
theorem dX11_point_113 : decode cX11_point 113 = .ok (.iconst 1, 1) := by decide +kernel
theorem dX11_point_114 : decode cX11_point 114 = .ok (.iadd, 1) := by decide +kernel
theorem dX11_point_115 : decode cX11_point 115 = .ok (.putfield 443, 3) := by decide +kernel
theorem dX11_point_118 : decode cX11_point 118 = .ok (.aload_n 0, 1) := by decide +kernel
theorem dX11_point_119 : decode cX11_point 119 = .ok (.getfield 443, 3) := by decide +kernel
theorem dX11_point_122 : decode cX11_point 122 = .ok (.ireturn, 1) := by decide +kernel
def f_X11_point_52  (k52 : Int32 × Int32 × Int32 × zHp → Option (Int32 × zHp)) (v1 : Int32) (v2 : Int32) (v3 : Int32) (h : zHp) : Option (Int32 × zHp) := (if v3 < (h 0 49) then zix v3 8 ((if (h 27 v3.toNatClampNeg) = v1 then zix v3 8 ((if (h 28 v3.toNatClampNeg) = v2 then some ((-1 : Int32), h) else k52 (v1, v2, (v3 + (1 : Int32)), h))) else k52 (v1, v2, (v3 + (1 : Int32)), h))) else zix (h 0 49) 8 (zlt (zst h 27 (h 0 49).toNatClampNeg v1) fun h1 => zix (h1 0 49) 8 (zlt (zst h1 28 (h1 0 49).toNatClampNeg v2) fun h2 => zlt (zst h2 0 49 ((h2 0 49) + (1 : Int32))) fun h3 => some ((h3 0 49), h3))))
set_option maxHeartbeats 4000000 in
set_option maxRecDepth 100000 in
theorem f_X11_point_52_s  (k52 : Int32 × Int32 × Int32 × zHp → Option (Int32 × zHp)) (H52 : ∀ v : Int32 × Int32 × Int32 × zHp, Sim wM mX11_point 1 rI 52 [(0, .ref 0), (1, .int v.1), (2, .int v.2.1), (3, .int v.2.2.1)] [] v.2.2.2 (k52 v)) (v1 : Int32) (v2 : Int32) (v3 : Int32) (h : zHp) : Sim wM mX11_point 1 rI 52 [(0, .ref 0), (1, .int v1), (2, .int v2), (3, .int v3)] [] h (f_X11_point_52 k52 v1 v2 v3 h) := by
  unfold f_X11_point_52
  refine Sim.iload_n 3 dX11_point_52 rfl ?_
  refine Sim.aload_n 0 dX11_point_53 rfl ?_
  refine Sim.getI fl_X11_443 dX11_point_54 mI_49 ?_
  refine Sim.icmp_ge 88 dX11_point_57 rfl ?_ ?_
  · refine Sim.aload_n 0 dX11_point_60 rfl ?_
    refine Sim.getR (j := 27) fl_X11_92 dX11_point_61 mR_50 ?_
    refine Sim.iload_n 3 dX11_point_64 rfl ?_
    refine Sim.iald (n := 8) dX11_point_65 mA_27 ?_
    refine Sim.iload_n 1 dX11_point_66 rfl ?_
    refine Sim.icmp_ne 82 dX11_point_67 rfl ?_ ?_
    · refine Sim.aload_n 0 dX11_point_70 rfl ?_
      refine Sim.getR (j := 28) fl_X11_95 dX11_point_71 mR_51 ?_
      refine Sim.iload_n 3 dX11_point_74 rfl ?_
      refine Sim.iald (n := 8) dX11_point_75 mA_28 ?_
      refine Sim.iload_n 2 dX11_point_76 rfl ?_
      refine Sim.icmp_ne 82 dX11_point_77 rfl ?_ ?_
      · refine Sim.iconst (v := (-1 : Int32)) dX11_point_80 rfl ?_
        exact Sim.iret dX11_point_81 rfl
      · refine Sim.iinc (L' := [(3, .int (v3 + (1 : Int32))), (0, .ref 0), (1, .int v1), (2, .int v2)]) 3 dX11_point_82 rfl rfl (Nat.le_of_ble_eq_true rfl) rfl ?_
        refine Sim.goto 52 dX11_point_85 rfl ?_
        refine Sim.locs [1, 2, 3, 0] rfl ?_
        exact H52 (v1, v2, (v3 + (1 : Int32)), h)
    · refine Sim.iinc (L' := [(3, .int (v3 + (1 : Int32))), (0, .ref 0), (1, .int v1), (2, .int v2)]) 3 dX11_point_82 rfl rfl (Nat.le_of_ble_eq_true rfl) rfl ?_
      refine Sim.goto 52 dX11_point_85 rfl ?_
      refine Sim.locs [1, 2, 3, 0] rfl ?_
      exact H52 (v1, v2, (v3 + (1 : Int32)), h)
  · refine Sim.aload_n 0 dX11_point_88 rfl ?_
    refine Sim.getR (j := 27) fl_X11_92 dX11_point_89 mR_50 ?_
    refine Sim.aload_n 0 dX11_point_92 rfl ?_
    refine Sim.getI fl_X11_443 dX11_point_93 mI_49 ?_
    refine Sim.iload_n 1 dX11_point_96 rfl ?_
    refine Sim.iast (n := 8) dX11_point_97 mA_27 ?_
    refine Sim.lth (fun h1 => ?_)
    refine Sim.aload_n 0 dX11_point_98 rfl ?_
    refine Sim.getR (j := 28) fl_X11_95 dX11_point_99 mR_51 ?_
    refine Sim.aload_n 0 dX11_point_102 rfl ?_
    refine Sim.getI fl_X11_443 dX11_point_103 mI_49 ?_
    refine Sim.iload_n 2 dX11_point_106 rfl ?_
    refine Sim.iast (n := 8) dX11_point_107 mA_28 ?_
    refine Sim.lth (fun h2 => ?_)
    refine Sim.aload_n 0 dX11_point_108 rfl ?_
    refine Sim.aload_n 0 dX11_point_109 rfl ?_
    refine Sim.getI fl_X11_443 dX11_point_110 mI_49 ?_
    refine Sim.iconst (v := (1 : Int32)) dX11_point_113 rfl ?_
    refine Sim.iadd dX11_point_114 ?_
    refine Sim.put fp_X11_443 dX11_point_115 mI_49 rfl rfl ?_
    refine Sim.lth (fun h3 => ?_)
    refine Sim.aload_n 0 dX11_point_118 rfl ?_
    refine Sim.getI fl_X11_443 dX11_point_119 mI_49 ?_
    exact Sim.iret dX11_point_122 rfl
def f_X11_point_52_lp   (n : Nat) (v : Int32 × Int32 × Int32 × zHp) : Option (Int32 × zHp) := zlp (fun k52 v => f_X11_point_52 k52 v.1 v.2.1 v.2.2.1 v.2.2.2) n v
theorem f_X11_point_52_ls  (n : Nat) (v : Int32 × Int32 × Int32 × zHp) : Sim wM mX11_point 1 rI 52 [(0, .ref 0), (1, .int v.1), (2, .int v.2.1), (3, .int v.2.2.1)] [] v.2.2.2 (f_X11_point_52_lp n v) :=
  Sim.lp (V := Int32 × Int32 × Int32 × zHp) (Lf := fun v => [(0, .ref 0), (1, .int v.1), (2, .int v.2.1), (3, .int v.2.2.1)]) (sf := fun v => []) (hf := fun v => v.2.2.2) (fun k52 H52 v => f_X11_point_52_s k52 H52 v.1 v.2.1 v.2.2.1 v.2.2.2) n v
def f_X11_point  (a1 : Int32) (a2 : Int32) (h : zHp) : Option (Int32 × zHp) := zlt (zst h 0 0 (0 : Int32)) fun h1 => (if a1 = (-1 : Int32) then zlt (zst h1 0 49 (0 : Int32)) fun h2 => some ((0 : Int32), h2) else (f_X11_isIn a1 (0 : Int32) (20 : Int32) h1).bind fun x3 => (if x3.1 = 0 then some ((-1 : Int32), x3.2) else (f_X11_isIn a2 (0 : Int32) (20 : Int32) x3.2).bind fun x4 => (if x4.1 = 0 then some ((-1 : Int32), x4.2) else (if (x4.2 0 49) = (8 : Int32) then some ((-1 : Int32), x4.2) else f_X11_point_52_lp  zN (a1, a2, (0 : Int32), x4.2)))))
set_option maxHeartbeats 4000000 in
set_option maxRecDepth 100000 in
theorem s_X11_point  (a1 : Int32) (a2 : Int32) (h : zHp) : Fn wM mX11_point 1 rI [.ref 0, .int a1, .int a2] h (f_X11_point a1 a2 h) := by
  refine Fn.of rfl (Nat.le_of_ble_eq_true rfl) ?_
  unfold f_X11_point
  refine Sim.aload_n 0 dX11_point_0 rfl ?_
  refine Sim.iconst (v := (0 : Int32)) dX11_point_1 rfl ?_
  refine Sim.put fp_X11_128 dX11_point_2 mI_0 rfl rfl ?_
  refine Sim.lth (fun h1 => ?_)
  refine Sim.iload_n 1 dX11_point_5 rfl ?_
  refine Sim.iconst (v := (-1 : Int32)) dX11_point_6 rfl ?_
  refine Sim.icmp_ne 17 dX11_point_7 rfl ?_ ?_
  · refine Sim.aload_n 0 dX11_point_10 rfl ?_
    refine Sim.iconst (v := (0 : Int32)) dX11_point_11 rfl ?_
    refine Sim.put fp_X11_443 dX11_point_12 mI_49 rfl rfl ?_
    refine Sim.lth (fun h2 => ?_)
    refine Sim.iconst (v := (0 : Int32)) dX11_point_15 rfl ?_
    exact Sim.iret dX11_point_16 rfl
  · refine Sim.aload_n 0 dX11_point_17 rfl ?_
    refine Sim.iload_n 1 dX11_point_18 rfl ?_
    refine Sim.iconst (v := (0 : Int32)) dX11_point_19 rfl ?_
    refine Sim.bipush (v := (20 : Int32)) dX11_point_20 rfl ?_
    refine Sim.callV3I (d1 := 0) (s_X11_isIn a1 (0 : Int32) (20 : Int32) h1) dX11_point_22 ml_X11_154 mv_X11_isIn mC (Nat.le_of_ble_eq_true rfl) (Nat.le_of_ble_eq_true rfl) (Nat.le_of_ble_eq_true rfl) (fun x3 => ?_)
    refine Sim.if_eq 48 dX11_point_25 rfl ?_ ?_
    · refine Sim.iconst (v := (-1 : Int32)) dX11_point_48 rfl ?_
      exact Sim.iret dX11_point_49 rfl
    · refine Sim.aload_n 0 dX11_point_28 rfl ?_
      refine Sim.iload_n 2 dX11_point_29 rfl ?_
      refine Sim.iconst (v := (0 : Int32)) dX11_point_30 rfl ?_
      refine Sim.bipush (v := (20 : Int32)) dX11_point_31 rfl ?_
      refine Sim.callV3I (d1 := 0) (s_X11_isIn a2 (0 : Int32) (20 : Int32) x3.2) dX11_point_33 ml_X11_154 mv_X11_isIn mC (Nat.le_of_ble_eq_true rfl) (Nat.le_of_ble_eq_true rfl) (Nat.le_of_ble_eq_true rfl) (fun x4 => ?_)
      refine Sim.if_eq 48 dX11_point_36 rfl ?_ ?_
      · refine Sim.iconst (v := (-1 : Int32)) dX11_point_48 rfl ?_
        exact Sim.iret dX11_point_49 rfl
      · refine Sim.aload_n 0 dX11_point_39 rfl ?_
        refine Sim.getI fl_X11_443 dX11_point_40 mI_49 ?_
        refine Sim.bipush (v := (8 : Int32)) dX11_point_43 rfl ?_
        refine Sim.icmp_ne 50 dX11_point_45 rfl ?_ ?_
        · refine Sim.iconst (v := (-1 : Int32)) dX11_point_48 rfl ?_
          exact Sim.iret dX11_point_49 rfl
        · refine Sim.iconst (v := (0 : Int32)) dX11_point_50 rfl ?_
          refine Sim.istore_n (L' := [(3, .int (0 : Int32)), (0, .ref 0), (1, .int a1), (2, .int a2)]) dX11_point_51 (Nat.le_of_ble_eq_true rfl) rfl ?_
          refine Sim.locs [1, 2, 3, 0] rfl ?_
          exact f_X11_point_52_ls  zN (a1, a2, (0 : Int32), x4.2)
theorem mv_X11_point : zMV mX11_point 2 := ⟨⟨zTb_in 1904 (by decide +kernel) rfl, zTb_in 148 (by decide +kernel) rfl, ⟨by decide +kernel, by decide +kernel⟩, by decide +kernel⟩, zTb_in 1902 (by decide +kernel) rfl, zTb_in 1903 (by decide +kernel) rfl⟩
-- ===== RockingPorchModel.sideOf(III)I
abbrev mX11_sideOf : zMt := (yX11_sideOf, cX11_sideOf, 4, some .int)
theorem dX11_sideOf_0 : decode cX11_sideOf 0 = .ok (.aload_n 0, 1) := by decide +kernel
theorem dX11_sideOf_1 : decode cX11_sideOf 1 = .ok (.getfield 92, 3) := by decide +kernel
theorem dX11_sideOf_4 : decode cX11_sideOf 4 = .ok (.iload_n 2, 1) := by decide +kernel
theorem dX11_sideOf_5 : decode cX11_sideOf 5 = .ok (.iaload, 1) := by decide +kernel
theorem dX11_sideOf_6 : decode cX11_sideOf 6 = .ok (.aload_n 0, 1) := by decide +kernel
theorem dX11_sideOf_7 : decode cX11_sideOf 7 = .ok (.getfield 92, 3) := by decide +kernel
theorem dX11_sideOf_10 : decode cX11_sideOf 10 = .ok (.iload_n 1, 1) := by decide +kernel
theorem dX11_sideOf_11 : decode cX11_sideOf 11 = .ok (.iaload, 1) := by decide +kernel
theorem dX11_sideOf_12 : decode cX11_sideOf 12 = .ok (.isub, 1) := by decide +kernel
theorem dX11_sideOf_13 : decode cX11_sideOf 13 = .ok (.aload_n 0, 1) := by decide +kernel
theorem dX11_sideOf_14 : decode cX11_sideOf 14 = .ok (.getfield 95, 3) := by decide +kernel
theorem dX11_sideOf_17 : decode cX11_sideOf 17 = .ok (.iload_n 3, 1) := by decide +kernel
theorem dX11_sideOf_18 : decode cX11_sideOf 18 = .ok (.iaload, 1) := by decide +kernel
theorem dX11_sideOf_19 : decode cX11_sideOf 19 = .ok (.aload_n 0, 1) := by decide +kernel
theorem dX11_sideOf_20 : decode cX11_sideOf 20 = .ok (.getfield 95, 3) := by decide +kernel
theorem dX11_sideOf_23 : decode cX11_sideOf 23 = .ok (.iload_n 1, 1) := by decide +kernel
theorem dX11_sideOf_24 : decode cX11_sideOf 24 = .ok (.iaload, 1) := by decide +kernel
theorem dX11_sideOf_25 : decode cX11_sideOf 25 = .ok (.isub, 1) := by decide +kernel
theorem dX11_sideOf_26 : decode cX11_sideOf 26 = .ok (.imul, 1) := by decide +kernel
theorem dX11_sideOf_27 : decode cX11_sideOf 27 = .ok (.aload_n 0, 1) := by decide +kernel
theorem dX11_sideOf_28 : decode cX11_sideOf 28 = .ok (.getfield 92, 3) := by decide +kernel
theorem dX11_sideOf_31 : decode cX11_sideOf 31 = .ok (.iload_n 3, 1) := by decide +kernel
theorem dX11_sideOf_32 : decode cX11_sideOf 32 = .ok (.iaload, 1) := by decide +kernel
theorem dX11_sideOf_33 : decode cX11_sideOf 33 = .ok (.aload_n 0, 1) := by decide +kernel
theorem dX11_sideOf_34 : decode cX11_sideOf 34 = .ok (.getfield 92, 3) := by decide +kernel
theorem dX11_sideOf_37 : decode cX11_sideOf 37 = .ok (.iload_n 1, 1) := by decide +kernel
theorem dX11_sideOf_38 : decode cX11_sideOf 38 = .ok (.iaload, 1) := by decide +kernel
theorem dX11_sideOf_39 : decode cX11_sideOf 39 = .ok (.isub, 1) := by decide +kernel
theorem dX11_sideOf_40 : decode cX11_sideOf 40 = .ok (.aload_n 0, 1) := by decide +kernel
theorem dX11_sideOf_41 : decode cX11_sideOf 41 = .ok (.getfield 95, 3) := by decide +kernel
theorem dX11_sideOf_44 : decode cX11_sideOf 44 = .ok (.iload_n 2, 1) := by decide +kernel
theorem dX11_sideOf_45 : decode cX11_sideOf 45 = .ok (.iaload, 1) := by decide +kernel
theorem dX11_sideOf_46 : decode cX11_sideOf 46 = .ok (.aload_n 0, 1) := by decide +kernel
theorem dX11_sideOf_47 : decode cX11_sideOf 47 = .ok (.getfield 95, 3) := by decide +kernel
theorem dX11_sideOf_50 : decode cX11_sideOf 50 = .ok (.iload_n 1, 1) := by decide +kernel
theorem dX11_sideOf_51 : decode cX11_sideOf 51 = .ok (.iaload, 1) := by decide +kernel
theorem dX11_sideOf_52 : decode cX11_sideOf 52 = .ok (.isub, 1) := by decide +kernel
theorem dX11_sideOf_53 : decode cX11_sideOf 53 = .ok (.imul, 1) := by decide +kernel
theorem dX11_sideOf_54 : decode cX11_sideOf 54 = .ok (.isub, 1) := by decide +kernel
theorem dX11_sideOf_55 : decode cX11_sideOf 55 = .ok (.ireturn, 1) := by decide +kernel
def f_X11_sideOf  (a1 : Int32) (a2 : Int32) (a3 : Int32) (h : zHp) : Option (Int32 × zHp) := zix a2 8 (zix a1 8 (zix a3 8 (zix a1 8 (zix a3 8 (zix a1 8 (zix a2 8 (zix a1 8 (some (((((h 27 a2.toNatClampNeg) - (h 27 a1.toNatClampNeg)) * ((h 28 a3.toNatClampNeg) - (h 28 a1.toNatClampNeg))) - (((h 27 a3.toNatClampNeg) - (h 27 a1.toNatClampNeg)) * ((h 28 a2.toNatClampNeg) - (h 28 a1.toNatClampNeg)))), h)))))))))
set_option maxHeartbeats 4000000 in
set_option maxRecDepth 100000 in
theorem s_X11_sideOf  (a1 : Int32) (a2 : Int32) (a3 : Int32) (h : zHp) : Fn wM mX11_sideOf 0 rI [.ref 0, .int a1, .int a2, .int a3] h (f_X11_sideOf a1 a2 a3 h) := by
  refine Fn.of rfl (Nat.le_of_ble_eq_true rfl) ?_
  unfold f_X11_sideOf
  refine Sim.aload_n 0 dX11_sideOf_0 rfl ?_
  refine Sim.getR (j := 27) fl_X11_92 dX11_sideOf_1 mR_50 ?_
  refine Sim.iload_n 2 dX11_sideOf_4 rfl ?_
  refine Sim.iald (n := 8) dX11_sideOf_5 mA_27 ?_
  refine Sim.aload_n 0 dX11_sideOf_6 rfl ?_
  refine Sim.getR (j := 27) fl_X11_92 dX11_sideOf_7 mR_50 ?_
  refine Sim.iload_n 1 dX11_sideOf_10 rfl ?_
  refine Sim.iald (n := 8) dX11_sideOf_11 mA_27 ?_
  refine Sim.isub dX11_sideOf_12 ?_
  refine Sim.aload_n 0 dX11_sideOf_13 rfl ?_
  refine Sim.getR (j := 28) fl_X11_95 dX11_sideOf_14 mR_51 ?_
  refine Sim.iload_n 3 dX11_sideOf_17 rfl ?_
  refine Sim.iald (n := 8) dX11_sideOf_18 mA_28 ?_
  refine Sim.aload_n 0 dX11_sideOf_19 rfl ?_
  refine Sim.getR (j := 28) fl_X11_95 dX11_sideOf_20 mR_51 ?_
  refine Sim.iload_n 1 dX11_sideOf_23 rfl ?_
  refine Sim.iald (n := 8) dX11_sideOf_24 mA_28 ?_
  refine Sim.isub dX11_sideOf_25 ?_
  refine Sim.imul dX11_sideOf_26 ?_
  refine Sim.aload_n 0 dX11_sideOf_27 rfl ?_
  refine Sim.getR (j := 27) fl_X11_92 dX11_sideOf_28 mR_50 ?_
  refine Sim.iload_n 3 dX11_sideOf_31 rfl ?_
  refine Sim.iald (n := 8) dX11_sideOf_32 mA_27 ?_
  refine Sim.aload_n 0 dX11_sideOf_33 rfl ?_
  refine Sim.getR (j := 27) fl_X11_92 dX11_sideOf_34 mR_50 ?_
  refine Sim.iload_n 1 dX11_sideOf_37 rfl ?_
  refine Sim.iald (n := 8) dX11_sideOf_38 mA_27 ?_
  refine Sim.isub dX11_sideOf_39 ?_
  refine Sim.aload_n 0 dX11_sideOf_40 rfl ?_
  refine Sim.getR (j := 28) fl_X11_95 dX11_sideOf_41 mR_51 ?_
  refine Sim.iload_n 2 dX11_sideOf_44 rfl ?_
  refine Sim.iald (n := 8) dX11_sideOf_45 mA_28 ?_
  refine Sim.aload_n 0 dX11_sideOf_46 rfl ?_
  refine Sim.getR (j := 28) fl_X11_95 dX11_sideOf_47 mR_51 ?_
  refine Sim.iload_n 1 dX11_sideOf_50 rfl ?_
  refine Sim.iald (n := 8) dX11_sideOf_51 mA_28 ?_
  refine Sim.isub dX11_sideOf_52 ?_
  refine Sim.imul dX11_sideOf_53 ?_
  refine Sim.isub dX11_sideOf_54 ?_
  exact Sim.iret dX11_sideOf_55 rfl
theorem mv_X11_sideOf : zMV mX11_sideOf 3 := ⟨⟨zTb_in 1913 (by decide +kernel) rfl, zTb_in 148 (by decide +kernel) rfl, ⟨by decide +kernel, by decide +kernel⟩, by decide +kernel⟩, zTb_in 1912 (by decide +kernel) rfl, zTb_in 117 (by decide +kernel) rfl⟩
-- ===== RockingPorchModel.squareApart(II)I
abbrev mX11_squareApart : zMt := (yX11_squareApart, cX11_squareApart, 3, some .int)
theorem dX11_squareApart_0 : decode cX11_squareApart 0 = .ok (.aload_n 0, 1) := by decide +kernel
theorem dX11_squareApart_1 : decode cX11_squareApart 1 = .ok (.getfield 92, 3) := by decide +kernel
theorem dX11_squareApart_4 : decode cX11_squareApart 4 = .ok (.iload_n 1, 1) := by decide +kernel
theorem dX11_squareApart_5 : decode cX11_squareApart 5 = .ok (.iaload, 1) := by decide +kernel
theorem dX11_squareApart_6 : decode cX11_squareApart 6 = .ok (.aload_n 0, 1) := by decide +kernel
theorem dX11_squareApart_7 : decode cX11_squareApart 7 = .ok (.getfield 92, 3) := by decide +kernel
theorem dX11_squareApart_10 : decode cX11_squareApart 10 = .ok (.iload_n 2, 1) := by decide +kernel
theorem dX11_squareApart_11 : decode cX11_squareApart 11 = .ok (.iaload, 1) := by decide +kernel
theorem dX11_squareApart_12 : decode cX11_squareApart 12 = .ok (.isub, 1) := by decide +kernel
theorem dX11_squareApart_13 : decode cX11_squareApart 13 = .ok (.aload_n 0, 1) := by decide +kernel
theorem dX11_squareApart_14 : decode cX11_squareApart 14 = .ok (.getfield 92, 3) := by decide +kernel
theorem dX11_squareApart_17 : decode cX11_squareApart 17 = .ok (.iload_n 1, 1) := by decide +kernel
theorem dX11_squareApart_18 : decode cX11_squareApart 18 = .ok (.iaload, 1) := by decide +kernel
theorem dX11_squareApart_19 : decode cX11_squareApart 19 = .ok (.aload_n 0, 1) := by decide +kernel
theorem dX11_squareApart_20 : decode cX11_squareApart 20 = .ok (.getfield 92, 3) := by decide +kernel
theorem dX11_squareApart_23 : decode cX11_squareApart 23 = .ok (.iload_n 2, 1) := by decide +kernel
theorem dX11_squareApart_24 : decode cX11_squareApart 24 = .ok (.iaload, 1) := by decide +kernel
theorem dX11_squareApart_25 : decode cX11_squareApart 25 = .ok (.isub, 1) := by decide +kernel
theorem dX11_squareApart_26 : decode cX11_squareApart 26 = .ok (.imul, 1) := by decide +kernel
theorem dX11_squareApart_27 : decode cX11_squareApart 27 = .ok (.aload_n 0, 1) := by decide +kernel
theorem dX11_squareApart_28 : decode cX11_squareApart 28 = .ok (.getfield 95, 3) := by decide +kernel
theorem dX11_squareApart_31 : decode cX11_squareApart 31 = .ok (.iload_n 1, 1) := by decide +kernel
theorem dX11_squareApart_32 : decode cX11_squareApart 32 = .ok (.iaload, 1) := by decide +kernel
theorem dX11_squareApart_33 : decode cX11_squareApart 33 = .ok (.aload_n 0, 1) := by decide +kernel
theorem dX11_squareApart_34 : decode cX11_squareApart 34 = .ok (.getfield 95, 3) := by decide +kernel
theorem dX11_squareApart_37 : decode cX11_squareApart 37 = .ok (.iload_n 2, 1) := by decide +kernel
theorem dX11_squareApart_38 : decode cX11_squareApart 38 = .ok (.iaload, 1) := by decide +kernel
theorem dX11_squareApart_39 : decode cX11_squareApart 39 = .ok (.isub, 1) := by decide +kernel
theorem dX11_squareApart_40 : decode cX11_squareApart 40 = .ok (.aload_n 0, 1) := by decide +kernel
theorem dX11_squareApart_41 : decode cX11_squareApart 41 = .ok (.getfield 95, 3) := by decide +kernel
theorem dX11_squareApart_44 : decode cX11_squareApart 44 = .ok (.iload_n 1, 1) := by decide +kernel
theorem dX11_squareApart_45 : decode cX11_squareApart 45 = .ok (.iaload, 1) := by decide +kernel
theorem dX11_squareApart_46 : decode cX11_squareApart 46 = .ok (.aload_n 0, 1) := by decide +kernel
theorem dX11_squareApart_47 : decode cX11_squareApart 47 = .ok (.getfield 95, 3) := by decide +kernel
theorem dX11_squareApart_50 : decode cX11_squareApart 50 = .ok (.iload_n 2, 1) := by decide +kernel
theorem dX11_squareApart_51 : decode cX11_squareApart 51 = .ok (.iaload, 1) := by decide +kernel
theorem dX11_squareApart_52 : decode cX11_squareApart 52 = .ok (.isub, 1) := by decide +kernel
theorem dX11_squareApart_53 : decode cX11_squareApart 53 = .ok (.imul, 1) := by decide +kernel
theorem dX11_squareApart_54 : decode cX11_squareApart 54 = .ok (.iadd, 1) := by decide +kernel
theorem dX11_squareApart_55 : decode cX11_squareApart 55 = .ok (.ireturn, 1) := by decide +kernel
def f_X11_squareApart  (a1 : Int32) (a2 : Int32) (h : zHp) : Option (Int32 × zHp) := zix a1 8 (zix a2 8 (zix a1 8 (zix a2 8 (zix a1 8 (zix a2 8 (zix a1 8 (zix a2 8 (some (((((h 27 a1.toNatClampNeg) - (h 27 a2.toNatClampNeg)) * ((h 27 a1.toNatClampNeg) - (h 27 a2.toNatClampNeg))) + (((h 28 a1.toNatClampNeg) - (h 28 a2.toNatClampNeg)) * ((h 28 a1.toNatClampNeg) - (h 28 a2.toNatClampNeg)))), h)))))))))
set_option maxHeartbeats 4000000 in
set_option maxRecDepth 100000 in
theorem s_X11_squareApart  (a1 : Int32) (a2 : Int32) (h : zHp) : Fn wM mX11_squareApart 0 rI [.ref 0, .int a1, .int a2] h (f_X11_squareApart a1 a2 h) := by
  refine Fn.of rfl (Nat.le_of_ble_eq_true rfl) ?_
  unfold f_X11_squareApart
  refine Sim.aload_n 0 dX11_squareApart_0 rfl ?_
  refine Sim.getR (j := 27) fl_X11_92 dX11_squareApart_1 mR_50 ?_
  refine Sim.iload_n 1 dX11_squareApart_4 rfl ?_
  refine Sim.iald (n := 8) dX11_squareApart_5 mA_27 ?_
  refine Sim.aload_n 0 dX11_squareApart_6 rfl ?_
  refine Sim.getR (j := 27) fl_X11_92 dX11_squareApart_7 mR_50 ?_
  refine Sim.iload_n 2 dX11_squareApart_10 rfl ?_
  refine Sim.iald (n := 8) dX11_squareApart_11 mA_27 ?_
  refine Sim.isub dX11_squareApart_12 ?_
  refine Sim.aload_n 0 dX11_squareApart_13 rfl ?_
  refine Sim.getR (j := 27) fl_X11_92 dX11_squareApart_14 mR_50 ?_
  refine Sim.iload_n 1 dX11_squareApart_17 rfl ?_
  refine Sim.iald (n := 8) dX11_squareApart_18 mA_27 ?_
  refine Sim.aload_n 0 dX11_squareApart_19 rfl ?_
  refine Sim.getR (j := 27) fl_X11_92 dX11_squareApart_20 mR_50 ?_
  refine Sim.iload_n 2 dX11_squareApart_23 rfl ?_
  refine Sim.iald (n := 8) dX11_squareApart_24 mA_27 ?_
  refine Sim.isub dX11_squareApart_25 ?_
  refine Sim.imul dX11_squareApart_26 ?_
  refine Sim.aload_n 0 dX11_squareApart_27 rfl ?_
  refine Sim.getR (j := 28) fl_X11_95 dX11_squareApart_28 mR_51 ?_
  refine Sim.iload_n 1 dX11_squareApart_31 rfl ?_
  refine Sim.iald (n := 8) dX11_squareApart_32 mA_28 ?_
  refine Sim.aload_n 0 dX11_squareApart_33 rfl ?_
  refine Sim.getR (j := 28) fl_X11_95 dX11_squareApart_34 mR_51 ?_
  refine Sim.iload_n 2 dX11_squareApart_37 rfl ?_
  refine Sim.iald (n := 8) dX11_squareApart_38 mA_28 ?_
  refine Sim.isub dX11_squareApart_39 ?_
  refine Sim.aload_n 0 dX11_squareApart_40 rfl ?_
  refine Sim.getR (j := 28) fl_X11_95 dX11_squareApart_41 mR_51 ?_
  refine Sim.iload_n 1 dX11_squareApart_44 rfl ?_
  refine Sim.iald (n := 8) dX11_squareApart_45 mA_28 ?_
  refine Sim.aload_n 0 dX11_squareApart_46 rfl ?_
  refine Sim.getR (j := 28) fl_X11_95 dX11_squareApart_47 mR_51 ?_
  refine Sim.iload_n 2 dX11_squareApart_50 rfl ?_
  refine Sim.iald (n := 8) dX11_squareApart_51 mA_28 ?_
  refine Sim.isub dX11_squareApart_52 ?_
  refine Sim.imul dX11_squareApart_53 ?_
  refine Sim.iadd dX11_squareApart_54 ?_
  exact Sim.iret dX11_squareApart_55 rfl
theorem mv_X11_squareApart : zMV mX11_squareApart 2 := ⟨⟨zTb_in 1917 (by decide +kernel) rfl, zTb_in 148 (by decide +kernel) rfl, ⟨by decide +kernel, by decide +kernel⟩, by decide +kernel⟩, zTb_in 1916 (by decide +kernel) rfl, zTb_in 118 (by decide +kernel) rfl⟩
-- ===== RockingPorchModel.line(I)I
abbrev mX11_line : zMt := (yX11_line, cX11_line, 9, some .int)
theorem ct_X11_446 : Cond.constant RX11 446 (100000000 : Int32) ∈ zTb := zTb_in 1909 (by decide +kernel) rfl
theorem ml_X11_447 : Cond.methodLink RX11 447 yX11_sideOf ∈ zTb := zTb_in 1910 (by decide +kernel) rfl
theorem ml_X11_450 : Cond.methodLink RX11 450 yX11_squareApart ∈ zTb := zTb_in 1914 (by decide +kernel) rfl
theorem ml_X11_453 : Cond.methodLink RX11 453 yX11_lesser ∈ zTb := zTb_in 1918 (by decide +kernel) rfl
theorem dX11_line_0 : decode cX11_line 0 = .ok (.aload_n 0, 1) := by decide +kernel
theorem dX11_line_1 : decode cX11_line 1 = .ok (.iconst 0, 1) := by decide +kernel
theorem dX11_line_2 : decode cX11_line 2 = .ok (.putfield 128, 3) := by decide +kernel
theorem dX11_line_5 : decode cX11_line 5 = .ok (.aload_n 0, 1) := by decide +kernel
theorem dX11_line_6 : decode cX11_line 6 = .ok (.iload_n 1, 1) := by decide +kernel
theorem dX11_line_7 : decode cX11_line 7 = .ok (.iconst 0, 1) := by decide +kernel
theorem dX11_line_8 : decode cX11_line 8 = .ok (.iconst 2, 1) := by decide +kernel
theorem dX11_line_9 : decode cX11_line 9 = .ok (.invokevirtual 154, 3) := by decide +kernel
theorem dX11_line_12 : decode cX11_line 12 = .ok (.ifCond .ne 5, 3) := by decide +kernel
theorem dX11_line_15 : decode cX11_line 15 = .ok (.iconst (-1), 1) := by decide +kernel
theorem dX11_line_16 : decode cX11_line 16 = .ok (.ireturn, 1) := by decide +kernel
theorem dX11_line_17 : decode cX11_line 17 = .ok (.aload_n 0, 1) := by decide +kernel
theorem dX11_line_18 : decode cX11_line 18 = .ok (.getfield 443, 3) := by decide +kernel
theorem dX11_line_21 : decode cX11_line 21 = .ok (.iconst 2, 1) := by decide +kernel
theorem dX11_line_22 : decode cX11_line 22 = .ok (.if_icmp .ge 16, 3) := by decide +kernel
theorem dX11_line_25 : decode cX11_line 25 = .ok (.iload_n 1, 1) := by decide +kernel
theorem dX11_line_26 : decode cX11_line 26 = .ok (.ifCond .ne 10, 3) := by decide +kernel
theorem dX11_line_29 : decode cX11_line 29 = .ok (.aload_n 0, 1) := by decide +kernel
theorem dX11_line_30 : decode cX11_line 30 = .ok (.getfield 443, 3) := by decide +kernel
theorem dX11_line_33 : decode cX11_line 33 = .ok (.goto 4, 3) := by decide +kernel
theorem dX11_line_36 : decode cX11_line 36 = .ok (.iconst (-1), 1) := by decide +kernel
theorem dX11_line_37 : decode cX11_line 37 = .ok (.ireturn, 1) := by decide +kernel
theorem dX11_line_38 : decode cX11_line 38 = .ok (.iconst 0, 1) := by decide +kernel
theorem dX11_line_39 : decode cX11_line 39 = .ok (.istore_n 2, 1) := by decide +kernel
theorem dX11_line_40 : decode cX11_line 40 = .ok (.ldc_w 446, 3) := by decide +kernel
theorem dX11_line_43 : decode cX11_line 43 = .ok (.istore_n 3, 1) := by decide +kernel
theorem dX11_line_44 : decode cX11_line 44 = .ok (.iconst 0, 1) := by decide +kernel
theorem dX11_line_45 : decode cX11_line 45 = .ok (.istore 4, 2) := by decide +kernel
theorem dX11_line_47 : decode cX11_line 47 = .ok (.iconst 0, 1) := by decide +kernel
theorem dX11_line_48 : decode cX11_line 48 = .ok (.istore 5, 2) := by decide +kernel
theorem dX11_line_50 : decode cX11_line 50 = .ok (.iload 5, 2) := by decide +kernel
theorem dX11_line_52 : decode cX11_line 52 = .ok (.aload_n 0, 1) := by decide +kernel
theorem dX11_line_53 : decode cX11_line 53 = .ok (.getfield 443, 3) := by decide +kernel
theorem dX11_line_56 : decode cX11_line 56 = .ok (.if_icmp .ge 103, 3) := by decide +kernel
theorem dX11_line_59 : decode cX11_line 59 = .ok (.iconst 0, 1) := by decide +kernel
theorem dX11_line_60 : decode cX11_line 60 = .ok (.istore 6, 2) := by decide +kernel
theorem dX11_line_62 : decode cX11_line 62 = .ok (.iload 6, 2) := by decide +kernel
theorem dX11_line_64 : decode cX11_line 64 = .ok (.iload 5, 2) := by decide +kernel
theorem dX11_line_66 : decode cX11_line 66 = .ok (.if_icmp .ge 87, 3) := by decide +kernel
theorem dX11_line_69 : decode cX11_line 69 = .ok (.iconst 0, 1) := by decide +kernel
theorem dX11_line_70 : decode cX11_line 70 = .ok (.istore 7, 2) := by decide +kernel
theorem dX11_line_72 : decode cX11_line 72 = .ok (.iconst 0, 1) := by decide +kernel
theorem dX11_line_73 : decode cX11_line 73 = .ok (.istore 8, 2) := by decide +kernel
theorem dX11_line_75 : decode cX11_line 75 = .ok (.iload 8, 2) := by decide +kernel
theorem dX11_line_77 : decode cX11_line 77 = .ok (.aload_n 0, 1) := by decide +kernel
theorem dX11_line_78 : decode cX11_line 78 = .ok (.getfield 443, 3) := by decide +kernel
theorem dX11_line_81 : decode cX11_line 81 = .ok (.if_icmp .ge 28, 3) := by decide +kernel
theorem dX11_line_84 : decode cX11_line 84 = .ok (.aload_n 0, 1) := by decide +kernel
theorem dX11_line_85 : decode cX11_line 85 = .ok (.iload 5, 2) := by decide +kernel
theorem dX11_line_87 : decode cX11_line 87 = .ok (.iload 6, 2) := by decide +kernel
theorem dX11_line_89 : decode cX11_line 89 = .ok (.iload 8, 2) := by decide +kernel
theorem dX11_line_91 : decode cX11_line 91 = .ok (.invokevirtual 447, 3) := by decide +kernel
theorem dX11_line_94 : decode cX11_line 94 = .ok (.ifCond .ne 9, 3) := by decide +kernel
theorem dX11_line_97 : decode cX11_line 97 = .ok (.iload 7, 2) := by decide +kernel
theorem dX11_line_99 : decode cX11_line 99 = .ok (.iconst 1, 1) := by decide +kernel
theorem dX11_line_100 : decode cX11_line 100 = .ok (.iadd, 1) := by decide +kernel
theorem dX11_line_101 : decode cX11_line 101 = .ok (.istore 7, 2) := by decide +kernel
theorem dX11_line_103 : decode cX11_line 103 = .ok (.iinc 8 1, 3) := by decide +kernel
theorem dX11_line_106 : decode cX11_line 106 = .ok (.goto (-31), 3) := by decide +kernel
theorem dX11_line_109 : decode cX11_line 109 = .ok (.aload_n 0, 1) := by decide +kernel
theorem dX11_line_110 : decode cX11_line 110 = .ok (.iload_n 2, 1) := by decide +kernel
theorem dX11_line_111 : decode cX11_line 111 = .ok (.iload 7, 2) := by decide +kernel
theorem dX11_line_113 : decode cX11_line 113 = .ok (.invokevirtual 394, 3) := by decide +kernel
theorem dX11_line_116 : decode cX11_line 116 = .ok (.istore_n 2, 1) := by decide +kernel
theorem dX11_line_117 : decode cX11_line 117 = .ok (.aload_n 0, 1) := by decide +kernel
theorem dX11_line_118 : decode cX11_line 118 = .ok (.iload_n 3, 1) := by decide +kernel
theorem dX11_line_119 : decode cX11_line 119 = .ok (.aload_n 0, 1) := by decide +kernel
theorem dX11_line_120 : decode cX11_line 120 = .ok (.iload 5, 2) := by decide +kernel
theorem dX11_line_122 : decode cX11_line 122 = .ok (.iload 6, 2) := by decide +kernel
theorem dX11_line_124 : decode cX11_line 124 = .ok (.invokevirtual 450, 3) := by decide +kernel
theorem dX11_line_127 : decode cX11_line 127 = .ok (.invokevirtual 453, 3) := by decide +kernel
theorem dX11_line_130 : decode cX11_line 130 = .ok (.istore_n 3, 1) := by decide +kernel
theorem dX11_line_131 : decode cX11_line 131 = .ok (.aload_n 0, 1) := by decide +kernel
theorem dX11_line_132 : decode cX11_line 132 = .ok (.iload 4, 2) := by decide +kernel
theorem dX11_line_134 : decode cX11_line 134 = .ok (.aload_n 0, 1) := by decide +kernel
theorem dX11_line_135 : decode cX11_line 135 = .ok (.iload 5, 2) := by decide +kernel
theorem dX11_line_137 : decode cX11_line 137 = .ok (.iload 6, 2) := by decide +kernel
theorem dX11_line_139 : decode cX11_line 139 = .ok (.invokevirtual 450, 3) := by decide +kernel
theorem dX11_line_142 : decode cX11_line 142 = .ok (.invokevirtual 394, 3) := by decide +kernel
theorem dX11_line_145 : decode cX11_line 145 = .ok (.istore 4, 2) := by decide +kernel
theorem dX11_line_147 : decode cX11_line 147 = .ok (.iinc 6 1, 3) := by decide +kernel
theorem dX11_line_150 : decode cX11_line 150 = .ok (.goto (-88), 3) := by decide +kernel
theorem dX11_line_153 : decode cX11_line 153 = .ok (.iinc 5 1, 3) := by decide +kernel
theorem dX11_line_156 : decode cX11_line 156 = .ok (.goto (-106), 3) := by decide +kernel
theorem dX11_line_159 : decode cX11_line 159 = .ok (.iload_n 1, 1) := by decide +kernel
theorem dX11_line_160 : decode cX11_line 160 = .ok (.ifCond .ne 7, 3) := by decide +kernel
theorem dX11_line_163 : decode cX11_line 163 = .ok (.iload_n 2, 1) := by decide +kernel
theorem dX11_line_164 : decode cX11_line 164 = .ok (.goto 14, 3) := by decide +kernel
theorem dX11_line_167 : decode cX11_line 167 = .ok (.iload_n 1, 1) := by decide +kernel
theorem dX11_line_168 : decode cX11_line 168 = .ok (.iconst 1, 1) := by decide +kernel
theorem dX11_line_169 : decode cX11_line 169 = .ok (.if_icmp .ne 7, 3) := by decide +kernel
theorem dX11_line_172 : decode cX11_line 172 = .ok (.iload_n 3, 1) := by decide +kernel
theorem dX11_line_173 : decode cX11_line 173 = .ok (.goto 5, 3) := by decide +kernel
theorem dX11_line_176 : decode cX11_line 176 = .ok (.iload 4, 2) := by decide +kernel
theorem dX11_line_178 : decode cX11_line 178 = .ok (.ireturn, 1) := by decide +kernel
def f_X11_line_75  (k50 : Int32 × Int32 × Int32 × Int32 × Int32 × zHp → Option (Int32 × zHp)) (k62 : Int32 × Int32 × Int32 × Int32 × Int32 × Int32 × zHp → Option (Int32 × zHp)) (k75 : Int32 × Int32 × Int32 × Int32 × Int32 × Int32 × Int32 × Int32 × zHp → Option (Int32 × zHp)) (v1 : Int32) (v2 : Int32) (v3 : Int32) (v4 : Int32) (v5 : Int32) (v6 : Int32) (v7 : Int32) (v8 : Int32) (h : zHp) : Option (Int32 × zHp) := (if v8 < (h 0 49) then (f_X11_sideOf v5 v6 v8 h).bind fun x1 => (if x1.1 = 0 then zlt (v7 + (1 : Int32)) fun x2 => k75 (v1, v2, v3, v4, v5, v6, x2, (v8 + (1 : Int32)), x1.2) else k75 (v1, v2, v3, v4, v5, v6, v7, (v8 + (1 : Int32)), x1.2)) else (f_X11_greater v2 v7 h).bind fun x3 => (f_X11_squareApart v5 v6 x3.2).bind fun x4 => (f_X11_lesser v3 x4.1 x4.2).bind fun x5 => (f_X11_squareApart v5 v6 x5.2).bind fun x6 => (f_X11_greater v4 x6.1 x6.2).bind fun x7 => k62 (v1, x3.1, x5.1, x7.1, v5, (v6 + (1 : Int32)), x7.2))
set_option maxHeartbeats 4000000 in
set_option maxRecDepth 100000 in
theorem f_X11_line_75_s  (k50 : Int32 × Int32 × Int32 × Int32 × Int32 × zHp → Option (Int32 × zHp)) (H50 : ∀ v : Int32 × Int32 × Int32 × Int32 × Int32 × zHp, Sim wM mX11_line 1 rI 50 [(0, .ref 0), (1, .int v.1), (2, .int v.2.1), (3, .int v.2.2.1), (4, .int v.2.2.2.1), (5, .int v.2.2.2.2.1)] [] v.2.2.2.2.2 (k50 v)) (k62 : Int32 × Int32 × Int32 × Int32 × Int32 × Int32 × zHp → Option (Int32 × zHp)) (H62 : ∀ v : Int32 × Int32 × Int32 × Int32 × Int32 × Int32 × zHp, Sim wM mX11_line 1 rI 62 [(0, .ref 0), (1, .int v.1), (2, .int v.2.1), (3, .int v.2.2.1), (4, .int v.2.2.2.1), (5, .int v.2.2.2.2.1), (6, .int v.2.2.2.2.2.1)] [] v.2.2.2.2.2.2 (k62 v)) (k75 : Int32 × Int32 × Int32 × Int32 × Int32 × Int32 × Int32 × Int32 × zHp → Option (Int32 × zHp)) (H75 : ∀ v : Int32 × Int32 × Int32 × Int32 × Int32 × Int32 × Int32 × Int32 × zHp, Sim wM mX11_line 1 rI 75 [(0, .ref 0), (1, .int v.1), (2, .int v.2.1), (3, .int v.2.2.1), (4, .int v.2.2.2.1), (5, .int v.2.2.2.2.1), (6, .int v.2.2.2.2.2.1), (7, .int v.2.2.2.2.2.2.1), (8, .int v.2.2.2.2.2.2.2.1)] [] v.2.2.2.2.2.2.2.2 (k75 v)) (v1 : Int32) (v2 : Int32) (v3 : Int32) (v4 : Int32) (v5 : Int32) (v6 : Int32) (v7 : Int32) (v8 : Int32) (h : zHp) : Sim wM mX11_line 1 rI 75 [(0, .ref 0), (1, .int v1), (2, .int v2), (3, .int v3), (4, .int v4), (5, .int v5), (6, .int v6), (7, .int v7), (8, .int v8)] [] h (f_X11_line_75 k50 k62 k75 v1 v2 v3 v4 v5 v6 v7 v8 h) := by
  unfold f_X11_line_75
  refine Sim.iload 8 dX11_line_75 rfl ?_
  refine Sim.aload_n 0 dX11_line_77 rfl ?_
  refine Sim.getI fl_X11_443 dX11_line_78 mI_49 ?_
  refine Sim.icmp_ge 109 dX11_line_81 rfl ?_ ?_
  · refine Sim.aload_n 0 dX11_line_84 rfl ?_
    refine Sim.iload 5 dX11_line_85 rfl ?_
    refine Sim.iload 6 dX11_line_87 rfl ?_
    refine Sim.iload 8 dX11_line_89 rfl ?_
    refine Sim.callV3I (d1 := 0) (s_X11_sideOf v5 v6 v8 h) dX11_line_91 ml_X11_447 mv_X11_sideOf mC (Nat.le_of_ble_eq_true rfl) (Nat.le_of_ble_eq_true rfl) (Nat.le_of_ble_eq_true rfl) (fun x1 => ?_)
    refine Sim.if_ne 103 dX11_line_94 rfl ?_ ?_
    · refine Sim.iload 7 dX11_line_97 rfl ?_
      refine Sim.iconst (v := (1 : Int32)) dX11_line_99 rfl ?_
      refine Sim.iadd dX11_line_100 ?_
      refine Sim.lti (fun x2 => ?_)
      refine Sim.istore (L' := [(7, .int x2), (0, .ref 0), (1, .int v1), (2, .int v2), (3, .int v3), (4, .int v4), (5, .int v5), (6, .int v6), (8, .int v8)]) dX11_line_101 (Nat.le_of_ble_eq_true rfl) rfl ?_
      refine Sim.iinc (L' := [(8, .int (v8 + (1 : Int32))), (7, .int x2), (0, .ref 0), (1, .int v1), (2, .int v2), (3, .int v3), (4, .int v4), (5, .int v5), (6, .int v6)]) 8 dX11_line_103 rfl rfl (Nat.le_of_ble_eq_true rfl) rfl ?_
      refine Sim.goto 75 dX11_line_106 rfl ?_
      refine Sim.locs [2, 3, 4, 5, 6, 7, 8, 1, 0] rfl ?_
      exact H75 (v1, v2, v3, v4, v5, v6, x2, (v8 + (1 : Int32)), x1.2)
    · refine Sim.iinc (L' := [(8, .int (v8 + (1 : Int32))), (0, .ref 0), (1, .int v1), (2, .int v2), (3, .int v3), (4, .int v4), (5, .int v5), (6, .int v6), (7, .int v7)]) 8 dX11_line_103 rfl rfl (Nat.le_of_ble_eq_true rfl) rfl ?_
      refine Sim.goto 75 dX11_line_106 rfl ?_
      refine Sim.locs [1, 2, 3, 4, 5, 6, 7, 8, 0] rfl ?_
      exact H75 (v1, v2, v3, v4, v5, v6, v7, (v8 + (1 : Int32)), x1.2)
  · refine Sim.aload_n 0 dX11_line_109 rfl ?_
    refine Sim.iload_n 2 dX11_line_110 rfl ?_
    refine Sim.iload 7 dX11_line_111 rfl ?_
    refine Sim.callV2I (d1 := 0) (s_X11_greater v2 v7 h) dX11_line_113 ml_X11_394 mv_X11_greater mC (Nat.le_of_ble_eq_true rfl) (Nat.le_of_ble_eq_true rfl) (Nat.le_of_ble_eq_true rfl) (fun x3 => ?_)
    refine Sim.istore_n (L' := [(2, .int x3.1), (0, .ref 0), (1, .int v1), (3, .int v3), (4, .int v4), (5, .int v5), (6, .int v6), (7, .int v7), (8, .int v8)]) dX11_line_116 (Nat.le_of_ble_eq_true rfl) rfl ?_
    refine Sim.aload_n 1 dX11_line_117 rfl ?_
    refine Sim.iload_n 3 dX11_line_118 rfl ?_
    refine Sim.aload_n 1 dX11_line_119 rfl ?_
    refine Sim.iload 5 dX11_line_120 rfl ?_
    refine Sim.iload 6 dX11_line_122 rfl ?_
    refine Sim.callV2I (d1 := 0) (s_X11_squareApart v5 v6 x3.2) dX11_line_124 ml_X11_450 mv_X11_squareApart mC (Nat.le_of_ble_eq_true rfl) (Nat.le_of_ble_eq_true rfl) (Nat.le_of_ble_eq_true rfl) (fun x4 => ?_)
    refine Sim.callV2I (d1 := 0) (s_X11_lesser v3 x4.1 x4.2) dX11_line_127 ml_X11_453 mv_X11_lesser mC (Nat.le_of_ble_eq_true rfl) (Nat.le_of_ble_eq_true rfl) (Nat.le_of_ble_eq_true rfl) (fun x5 => ?_)
    refine Sim.istore_n (L' := [(3, .int x5.1), (2, .int x3.1), (0, .ref 0), (1, .int v1), (4, .int v4), (5, .int v5), (6, .int v6), (7, .int v7), (8, .int v8)]) dX11_line_130 (Nat.le_of_ble_eq_true rfl) rfl ?_
    refine Sim.aload_n 2 dX11_line_131 rfl ?_
    refine Sim.iload 4 dX11_line_132 rfl ?_
    refine Sim.aload_n 2 dX11_line_134 rfl ?_
    refine Sim.iload 5 dX11_line_135 rfl ?_
    refine Sim.iload 6 dX11_line_137 rfl ?_
    refine Sim.callV2I (d1 := 0) (s_X11_squareApart v5 v6 x5.2) dX11_line_139 ml_X11_450 mv_X11_squareApart mC (Nat.le_of_ble_eq_true rfl) (Nat.le_of_ble_eq_true rfl) (Nat.le_of_ble_eq_true rfl) (fun x6 => ?_)
    refine Sim.callV2I (d1 := 0) (s_X11_greater v4 x6.1 x6.2) dX11_line_142 ml_X11_394 mv_X11_greater mC (Nat.le_of_ble_eq_true rfl) (Nat.le_of_ble_eq_true rfl) (Nat.le_of_ble_eq_true rfl) (fun x7 => ?_)
    refine Sim.istore (L' := [(4, .int x7.1), (3, .int x5.1), (2, .int x3.1), (0, .ref 0), (1, .int v1), (5, .int v5), (6, .int v6), (7, .int v7), (8, .int v8)]) dX11_line_145 (Nat.le_of_ble_eq_true rfl) rfl ?_
    refine Sim.iinc (L' := [(6, .int (v6 + (1 : Int32))), (4, .int x7.1), (3, .int x5.1), (2, .int x3.1), (0, .ref 0), (1, .int v1), (5, .int v5), (7, .int v7), (8, .int v8)]) 6 dX11_line_147 rfl rfl (Nat.le_of_ble_eq_true rfl) rfl ?_
    refine Sim.goto 62 dX11_line_150 rfl ?_
    refine Sim.locs [4, 5, 3, 2, 1, 6, 0] rfl ?_
    exact H62 (v1, x3.1, x5.1, x7.1, v5, (v6 + (1 : Int32)), x7.2)
def f_X11_line_75_lp  (k50 : Int32 × Int32 × Int32 × Int32 × Int32 × zHp → Option (Int32 × zHp)) (k62 : Int32 × Int32 × Int32 × Int32 × Int32 × Int32 × zHp → Option (Int32 × zHp)) (n : Nat) (v : Int32 × Int32 × Int32 × Int32 × Int32 × Int32 × Int32 × Int32 × zHp) : Option (Int32 × zHp) := zlp (fun k75 v => f_X11_line_75 k50 k62 k75 v.1 v.2.1 v.2.2.1 v.2.2.2.1 v.2.2.2.2.1 v.2.2.2.2.2.1 v.2.2.2.2.2.2.1 v.2.2.2.2.2.2.2.1 v.2.2.2.2.2.2.2.2) n v
theorem f_X11_line_75_ls  (k50 : Int32 × Int32 × Int32 × Int32 × Int32 × zHp → Option (Int32 × zHp)) (H50 : ∀ v : Int32 × Int32 × Int32 × Int32 × Int32 × zHp, Sim wM mX11_line 1 rI 50 [(0, .ref 0), (1, .int v.1), (2, .int v.2.1), (3, .int v.2.2.1), (4, .int v.2.2.2.1), (5, .int v.2.2.2.2.1)] [] v.2.2.2.2.2 (k50 v)) (k62 : Int32 × Int32 × Int32 × Int32 × Int32 × Int32 × zHp → Option (Int32 × zHp)) (H62 : ∀ v : Int32 × Int32 × Int32 × Int32 × Int32 × Int32 × zHp, Sim wM mX11_line 1 rI 62 [(0, .ref 0), (1, .int v.1), (2, .int v.2.1), (3, .int v.2.2.1), (4, .int v.2.2.2.1), (5, .int v.2.2.2.2.1), (6, .int v.2.2.2.2.2.1)] [] v.2.2.2.2.2.2 (k62 v)) (n : Nat) (v : Int32 × Int32 × Int32 × Int32 × Int32 × Int32 × Int32 × Int32 × zHp) : Sim wM mX11_line 1 rI 75 [(0, .ref 0), (1, .int v.1), (2, .int v.2.1), (3, .int v.2.2.1), (4, .int v.2.2.2.1), (5, .int v.2.2.2.2.1), (6, .int v.2.2.2.2.2.1), (7, .int v.2.2.2.2.2.2.1), (8, .int v.2.2.2.2.2.2.2.1)] [] v.2.2.2.2.2.2.2.2 (f_X11_line_75_lp k50 k62 n v) :=
  Sim.lp (V := Int32 × Int32 × Int32 × Int32 × Int32 × Int32 × Int32 × Int32 × zHp) (Lf := fun v => [(0, .ref 0), (1, .int v.1), (2, .int v.2.1), (3, .int v.2.2.1), (4, .int v.2.2.2.1), (5, .int v.2.2.2.2.1), (6, .int v.2.2.2.2.2.1), (7, .int v.2.2.2.2.2.2.1), (8, .int v.2.2.2.2.2.2.2.1)]) (sf := fun v => []) (hf := fun v => v.2.2.2.2.2.2.2.2) (fun k75 H75 v => f_X11_line_75_s k50 H50 k62 H62 k75 H75 v.1 v.2.1 v.2.2.1 v.2.2.2.1 v.2.2.2.2.1 v.2.2.2.2.2.1 v.2.2.2.2.2.2.1 v.2.2.2.2.2.2.2.1 v.2.2.2.2.2.2.2.2) n v
def f_X11_line_62  (k50 : Int32 × Int32 × Int32 × Int32 × Int32 × zHp → Option (Int32 × zHp)) (k62 : Int32 × Int32 × Int32 × Int32 × Int32 × Int32 × zHp → Option (Int32 × zHp)) (v1 : Int32) (v2 : Int32) (v3 : Int32) (v4 : Int32) (v5 : Int32) (v6 : Int32) (h : zHp) : Option (Int32 × zHp) := (if v6 < v5 then f_X11_line_75_lp k50 k62 zN (v1, v2, v3, v4, v5, v6, (0 : Int32), (0 : Int32), h) else k50 (v1, v2, v3, v4, (v5 + (1 : Int32)), h))
set_option maxHeartbeats 4000000 in
set_option maxRecDepth 100000 in
theorem f_X11_line_62_s  (k50 : Int32 × Int32 × Int32 × Int32 × Int32 × zHp → Option (Int32 × zHp)) (H50 : ∀ v : Int32 × Int32 × Int32 × Int32 × Int32 × zHp, Sim wM mX11_line 1 rI 50 [(0, .ref 0), (1, .int v.1), (2, .int v.2.1), (3, .int v.2.2.1), (4, .int v.2.2.2.1), (5, .int v.2.2.2.2.1)] [] v.2.2.2.2.2 (k50 v)) (k62 : Int32 × Int32 × Int32 × Int32 × Int32 × Int32 × zHp → Option (Int32 × zHp)) (H62 : ∀ v : Int32 × Int32 × Int32 × Int32 × Int32 × Int32 × zHp, Sim wM mX11_line 1 rI 62 [(0, .ref 0), (1, .int v.1), (2, .int v.2.1), (3, .int v.2.2.1), (4, .int v.2.2.2.1), (5, .int v.2.2.2.2.1), (6, .int v.2.2.2.2.2.1)] [] v.2.2.2.2.2.2 (k62 v)) (v1 : Int32) (v2 : Int32) (v3 : Int32) (v4 : Int32) (v5 : Int32) (v6 : Int32) (h : zHp) : Sim wM mX11_line 1 rI 62 [(0, .ref 0), (1, .int v1), (2, .int v2), (3, .int v3), (4, .int v4), (5, .int v5), (6, .int v6)] [] h (f_X11_line_62 k50 k62 v1 v2 v3 v4 v5 v6 h) := by
  unfold f_X11_line_62
  refine Sim.iload 6 dX11_line_62 rfl ?_
  refine Sim.iload 5 dX11_line_64 rfl ?_
  refine Sim.icmp_ge 153 dX11_line_66 rfl ?_ ?_
  · refine Sim.iconst (v := (0 : Int32)) dX11_line_69 rfl ?_
    refine Sim.istore (L' := [(7, .int (0 : Int32)), (0, .ref 0), (1, .int v1), (2, .int v2), (3, .int v3), (4, .int v4), (5, .int v5), (6, .int v6)]) dX11_line_70 (Nat.le_of_ble_eq_true rfl) rfl ?_
    refine Sim.iconst (v := (0 : Int32)) dX11_line_72 rfl ?_
    refine Sim.istore (L' := [(8, .int (0 : Int32)), (7, .int (0 : Int32)), (0, .ref 0), (1, .int v1), (2, .int v2), (3, .int v3), (4, .int v4), (5, .int v5), (6, .int v6)]) dX11_line_73 (Nat.le_of_ble_eq_true rfl) rfl ?_
    refine Sim.locs [2, 3, 4, 5, 6, 7, 8, 1, 0] rfl ?_
    exact f_X11_line_75_ls k50 H50 k62 H62 zN (v1, v2, v3, v4, v5, v6, (0 : Int32), (0 : Int32), h)
  · refine Sim.iinc (L' := [(5, .int (v5 + (1 : Int32))), (0, .ref 0), (1, .int v1), (2, .int v2), (3, .int v3), (4, .int v4), (6, .int v6)]) 5 dX11_line_153 rfl rfl (Nat.le_of_ble_eq_true rfl) rfl ?_
    refine Sim.goto 50 dX11_line_156 rfl ?_
    refine Sim.locs [1, 2, 3, 4, 5, 0] rfl ?_
    exact H50 (v1, v2, v3, v4, (v5 + (1 : Int32)), h)
def f_X11_line_62_lp  (k50 : Int32 × Int32 × Int32 × Int32 × Int32 × zHp → Option (Int32 × zHp)) (n : Nat) (v : Int32 × Int32 × Int32 × Int32 × Int32 × Int32 × zHp) : Option (Int32 × zHp) := zlp (fun k62 v => f_X11_line_62 k50 k62 v.1 v.2.1 v.2.2.1 v.2.2.2.1 v.2.2.2.2.1 v.2.2.2.2.2.1 v.2.2.2.2.2.2) n v
theorem f_X11_line_62_ls  (k50 : Int32 × Int32 × Int32 × Int32 × Int32 × zHp → Option (Int32 × zHp)) (H50 : ∀ v : Int32 × Int32 × Int32 × Int32 × Int32 × zHp, Sim wM mX11_line 1 rI 50 [(0, .ref 0), (1, .int v.1), (2, .int v.2.1), (3, .int v.2.2.1), (4, .int v.2.2.2.1), (5, .int v.2.2.2.2.1)] [] v.2.2.2.2.2 (k50 v)) (n : Nat) (v : Int32 × Int32 × Int32 × Int32 × Int32 × Int32 × zHp) : Sim wM mX11_line 1 rI 62 [(0, .ref 0), (1, .int v.1), (2, .int v.2.1), (3, .int v.2.2.1), (4, .int v.2.2.2.1), (5, .int v.2.2.2.2.1), (6, .int v.2.2.2.2.2.1)] [] v.2.2.2.2.2.2 (f_X11_line_62_lp k50 n v) :=
  Sim.lp (V := Int32 × Int32 × Int32 × Int32 × Int32 × Int32 × zHp) (Lf := fun v => [(0, .ref 0), (1, .int v.1), (2, .int v.2.1), (3, .int v.2.2.1), (4, .int v.2.2.2.1), (5, .int v.2.2.2.2.1), (6, .int v.2.2.2.2.2.1)]) (sf := fun v => []) (hf := fun v => v.2.2.2.2.2.2) (fun k62 H62 v => f_X11_line_62_s k50 H50 k62 H62 v.1 v.2.1 v.2.2.1 v.2.2.2.1 v.2.2.2.2.1 v.2.2.2.2.2.1 v.2.2.2.2.2.2) n v
def f_X11_line_50  (k50 : Int32 × Int32 × Int32 × Int32 × Int32 × zHp → Option (Int32 × zHp)) (v1 : Int32) (v2 : Int32) (v3 : Int32) (v4 : Int32) (v5 : Int32) (h : zHp) : Option (Int32 × zHp) := (if v5 < (h 0 49) then f_X11_line_62_lp k50 zN (v1, v2, v3, v4, v5, (0 : Int32), h) else (if v1 = 0 then some (v2, h) else (if v1 = (1 : Int32) then some (v3, h) else some (v4, h))))
set_option maxHeartbeats 4000000 in
set_option maxRecDepth 100000 in
theorem f_X11_line_50_s  (k50 : Int32 × Int32 × Int32 × Int32 × Int32 × zHp → Option (Int32 × zHp)) (H50 : ∀ v : Int32 × Int32 × Int32 × Int32 × Int32 × zHp, Sim wM mX11_line 1 rI 50 [(0, .ref 0), (1, .int v.1), (2, .int v.2.1), (3, .int v.2.2.1), (4, .int v.2.2.2.1), (5, .int v.2.2.2.2.1)] [] v.2.2.2.2.2 (k50 v)) (v1 : Int32) (v2 : Int32) (v3 : Int32) (v4 : Int32) (v5 : Int32) (h : zHp) : Sim wM mX11_line 1 rI 50 [(0, .ref 0), (1, .int v1), (2, .int v2), (3, .int v3), (4, .int v4), (5, .int v5)] [] h (f_X11_line_50 k50 v1 v2 v3 v4 v5 h) := by
  unfold f_X11_line_50
  refine Sim.iload 5 dX11_line_50 rfl ?_
  refine Sim.aload_n 0 dX11_line_52 rfl ?_
  refine Sim.getI fl_X11_443 dX11_line_53 mI_49 ?_
  refine Sim.icmp_ge 159 dX11_line_56 rfl ?_ ?_
  · refine Sim.iconst (v := (0 : Int32)) dX11_line_59 rfl ?_
    refine Sim.istore (L' := [(6, .int (0 : Int32)), (0, .ref 0), (1, .int v1), (2, .int v2), (3, .int v3), (4, .int v4), (5, .int v5)]) dX11_line_60 (Nat.le_of_ble_eq_true rfl) rfl ?_
    refine Sim.locs [1, 2, 3, 4, 5, 6, 0] rfl ?_
    exact f_X11_line_62_ls k50 H50 zN (v1, v2, v3, v4, v5, (0 : Int32), h)
  · refine Sim.iload_n 1 dX11_line_159 rfl ?_
    refine Sim.if_ne 167 dX11_line_160 rfl ?_ ?_
    · refine Sim.iload_n 2 dX11_line_163 rfl ?_
      refine Sim.goto 178 dX11_line_164 rfl ?_
      exact Sim.iret dX11_line_178 rfl
    · refine Sim.iload_n 1 dX11_line_167 rfl ?_
      refine Sim.iconst (v := (1 : Int32)) dX11_line_168 rfl ?_
      refine Sim.icmp_ne 176 dX11_line_169 rfl ?_ ?_
      · refine Sim.iload_n 3 dX11_line_172 rfl ?_
        refine Sim.goto 178 dX11_line_173 rfl ?_
        exact Sim.iret dX11_line_178 rfl
      · refine Sim.iload 4 dX11_line_176 rfl ?_
        exact Sim.iret dX11_line_178 rfl
def f_X11_line_50_lp   (n : Nat) (v : Int32 × Int32 × Int32 × Int32 × Int32 × zHp) : Option (Int32 × zHp) := zlp (fun k50 v => f_X11_line_50 k50 v.1 v.2.1 v.2.2.1 v.2.2.2.1 v.2.2.2.2.1 v.2.2.2.2.2) n v
theorem f_X11_line_50_ls  (n : Nat) (v : Int32 × Int32 × Int32 × Int32 × Int32 × zHp) : Sim wM mX11_line 1 rI 50 [(0, .ref 0), (1, .int v.1), (2, .int v.2.1), (3, .int v.2.2.1), (4, .int v.2.2.2.1), (5, .int v.2.2.2.2.1)] [] v.2.2.2.2.2 (f_X11_line_50_lp n v) :=
  Sim.lp (V := Int32 × Int32 × Int32 × Int32 × Int32 × zHp) (Lf := fun v => [(0, .ref 0), (1, .int v.1), (2, .int v.2.1), (3, .int v.2.2.1), (4, .int v.2.2.2.1), (5, .int v.2.2.2.2.1)]) (sf := fun v => []) (hf := fun v => v.2.2.2.2.2) (fun k50 H50 v => f_X11_line_50_s k50 H50 v.1 v.2.1 v.2.2.1 v.2.2.2.1 v.2.2.2.2.1 v.2.2.2.2.2) n v
def f_X11_line  (a1 : Int32) (h : zHp) : Option (Int32 × zHp) := zlt (zst h 0 0 (0 : Int32)) fun h1 => (f_X11_isIn a1 (0 : Int32) (2 : Int32) h1).bind fun x2 => (if x2.1 = 0 then some ((-1 : Int32), x2.2) else (if (x2.2 0 49) < (2 : Int32) then (if a1 = 0 then some ((x2.2 0 49), x2.2) else some ((-1 : Int32), x2.2)) else f_X11_line_50_lp  zN (a1, (0 : Int32), (100000000 : Int32), (0 : Int32), (0 : Int32), x2.2)))
set_option maxHeartbeats 4000000 in
set_option maxRecDepth 100000 in
theorem s_X11_line  (a1 : Int32) (h : zHp) : Fn wM mX11_line 1 rI [.ref 0, .int a1] h (f_X11_line a1 h) := by
  refine Fn.of rfl (Nat.le_of_ble_eq_true rfl) ?_
  unfold f_X11_line
  refine Sim.aload_n 0 dX11_line_0 rfl ?_
  refine Sim.iconst (v := (0 : Int32)) dX11_line_1 rfl ?_
  refine Sim.put fp_X11_128 dX11_line_2 mI_0 rfl rfl ?_
  refine Sim.lth (fun h1 => ?_)
  refine Sim.aload_n 0 dX11_line_5 rfl ?_
  refine Sim.iload_n 1 dX11_line_6 rfl ?_
  refine Sim.iconst (v := (0 : Int32)) dX11_line_7 rfl ?_
  refine Sim.iconst (v := (2 : Int32)) dX11_line_8 rfl ?_
  refine Sim.callV3I (d1 := 0) (s_X11_isIn a1 (0 : Int32) (2 : Int32) h1) dX11_line_9 ml_X11_154 mv_X11_isIn mC (Nat.le_of_ble_eq_true rfl) (Nat.le_of_ble_eq_true rfl) (Nat.le_of_ble_eq_true rfl) (fun x2 => ?_)
  refine Sim.if_ne 17 dX11_line_12 rfl ?_ ?_
  · refine Sim.iconst (v := (-1 : Int32)) dX11_line_15 rfl ?_
    exact Sim.iret dX11_line_16 rfl
  · refine Sim.aload_n 0 dX11_line_17 rfl ?_
    refine Sim.getI fl_X11_443 dX11_line_18 mI_49 ?_
    refine Sim.iconst (v := (2 : Int32)) dX11_line_21 rfl ?_
    refine Sim.icmp_ge 38 dX11_line_22 rfl ?_ ?_
    · refine Sim.iload_n 1 dX11_line_25 rfl ?_
      refine Sim.if_ne 36 dX11_line_26 rfl ?_ ?_
      · refine Sim.aload_n 0 dX11_line_29 rfl ?_
        refine Sim.getI fl_X11_443 dX11_line_30 mI_49 ?_
        refine Sim.goto 37 dX11_line_33 rfl ?_
        exact Sim.iret dX11_line_37 rfl
      · refine Sim.iconst (v := (-1 : Int32)) dX11_line_36 rfl ?_
        exact Sim.iret dX11_line_37 rfl
    · refine Sim.iconst (v := (0 : Int32)) dX11_line_38 rfl ?_
      refine Sim.istore_n (L' := [(2, .int (0 : Int32)), (0, .ref 0), (1, .int a1)]) dX11_line_39 (Nat.le_of_ble_eq_true rfl) rfl ?_
      refine Sim.ldc_w (v := (100000000 : Int32)) dX11_line_40 ct_X11_446 ?_
      refine Sim.istore_n (L' := [(3, .int (100000000 : Int32)), (2, .int (0 : Int32)), (0, .ref 0), (1, .int a1)]) dX11_line_43 (Nat.le_of_ble_eq_true rfl) rfl ?_
      refine Sim.iconst (v := (0 : Int32)) dX11_line_44 rfl ?_
      refine Sim.istore (L' := [(4, .int (0 : Int32)), (3, .int (100000000 : Int32)), (2, .int (0 : Int32)), (0, .ref 0), (1, .int a1)]) dX11_line_45 (Nat.le_of_ble_eq_true rfl) rfl ?_
      refine Sim.iconst (v := (0 : Int32)) dX11_line_47 rfl ?_
      refine Sim.istore (L' := [(5, .int (0 : Int32)), (4, .int (0 : Int32)), (3, .int (100000000 : Int32)), (2, .int (0 : Int32)), (0, .ref 0), (1, .int a1)]) dX11_line_48 (Nat.le_of_ble_eq_true rfl) rfl ?_
      refine Sim.locs [4, 5, 3, 2, 1, 0] rfl ?_
      exact f_X11_line_50_ls  zN (a1, (0 : Int32), (100000000 : Int32), (0 : Int32), (0 : Int32), x2.2)
theorem mv_X11_line : zMV mX11_line 1 := ⟨⟨zTb_in 1908 (by decide +kernel) rfl, zTb_in 148 (by decide +kernel) rfl, ⟨by decide +kernel, by decide +kernel⟩, by decide +kernel⟩, zTb_in 1906 (by decide +kernel) rfl, zTb_in 1907 (by decide +kernel) rfl⟩
-- ===== RockingPorchModel.full(IIZ)Z
abbrev mX11_full : zMt := (yX11_full, cX11_full, 4, some .boolean)
theorem fl_X11_98 : zF RX11 98 11 52 := ⟨RX11, TX11, 69, rfl, Nat.le_of_ble_eq_true rfl, zTb_in 1351 (by decide +kernel) rfl, in_X11⟩
theorem dX11_full_0 : decode cX11_full 0 = .ok (.aload_n 0, 1) := by decide +kernel
theorem dX11_full_1 : decode cX11_full 1 = .ok (.iconst 0, 1) := by decide +kernel
theorem dX11_full_2 : decode cX11_full 2 = .ok (.putfield 128, 3) := by decide +kernel
theorem dX11_full_5 : decode cX11_full 5 = .ok (.aload_n 0, 1) := by decide +kernel
theorem dX11_full_6 : decode cX11_full 6 = .ok (.iload_n 1, 1) := by decide +kernel
theorem dX11_full_7 : decode cX11_full 7 = .ok (.iconst 0, 1) := by decide +kernel
theorem dX11_full_8 : decode cX11_full 8 = .ok (.iconst 5, 1) := by decide +kernel
theorem dX11_full_9 : decode cX11_full 9 = .ok (.invokevirtual 154, 3) := by decide +kernel
theorem dX11_full_12 : decode cX11_full 12 = .ok (.ifCond .eq 13, 3) := by decide +kernel
theorem dX11_full_15 : decode cX11_full 15 = .ok (.aload_n 0, 1) := by decide +kernel
theorem dX11_full_16 : decode cX11_full 16 = .ok (.iload_n 2, 1) := by decide +kernel
theorem dX11_full_17 : decode cX11_full 17 = .ok (.iconst 0, 1) := by decide +kernel
theorem dX11_full_18 : decode cX11_full 18 = .ok (.iconst 5, 1) := by decide +kernel
theorem dX11_full_19 : decode cX11_full 19 = .ok (.invokevirtual 154, 3) := by decide +kernel
theorem dX11_full_22 : decode cX11_full 22 = .ok (.ifCond .ne 5, 3) := by decide +kernel
theorem dX11_full_25 : decode cX11_full 25 = .ok (.iconst 0, 1) := by decide +kernel
theorem dX11_full_26 : decode cX11_full 26 = .ok (.ireturn, 1) := by decide +kernel
theorem dX11_full_27 : decode cX11_full 27 = .ok (.aload_n 0, 1) := by decide +kernel
theorem dX11_full_28 : decode cX11_full 28 = .ok (.getfield 98, 3) := by decide +kernel
theorem dX11_full_31 : decode cX11_full 31 = .ok (.bipush 6, 2) := by decide +kernel
theorem dX11_full_33 : decode cX11_full 33 = .ok (.iload_n 2, 1) := by decide +kernel
theorem dX11_full_34 : decode cX11_full 34 = .ok (.imul, 1) := by decide +kernel
theorem dX11_full_35 : decode cX11_full 35 = .ok (.iload_n 1, 1) := by decide +kernel
theorem dX11_full_36 : decode cX11_full 36 = .ok (.iadd, 1) := by decide +kernel
theorem dX11_full_37 : decode cX11_full 37 = .ok (.iload_n 3, 1) := by decide +kernel
theorem dX11_full_38 : decode cX11_full 38 = .ok (.ifCond .eq 7, 3) := by decide +kernel
theorem dX11_full_41 : decode cX11_full 41 = .ok (.iconst 1, 1) := by decide +kernel
theorem dX11_full_42 : decode cX11_full 42 = .ok (.goto 4, 3) := by decide +kernel
theorem dX11_full_45 : decode cX11_full 45 = .ok (.iconst 0, 1) := by decide +kernel
theorem dX11_full_46 : decode cX11_full 46 = .ok (.iastore, 1) := by decide +kernel
theorem dX11_full_47 : decode cX11_full 47 = .ok (.iconst 1, 1) := by decide +kernel
theorem dX11_full_48 : decode cX11_full 48 = .ok (.ireturn, 1) := by decide +kernel
def f_X11_full  (a1 : Int32) (a2 : Int32) (a3 : Int32) (h : zHp) : Option (Int32 × zHp) := zlt (zst h 0 0 (0 : Int32)) fun h1 => (f_X11_isIn a1 (0 : Int32) (5 : Int32) h1).bind fun x2 => (if x2.1 = 0 then some ((0 : Int32), x2.2) else (f_X11_isIn a2 (0 : Int32) (5 : Int32) x2.2).bind fun x3 => (if x3.1 = 0 then some ((0 : Int32), x3.2) else (if a3 = 0 then zix (((6 : Int32) * a2) + a1) 36 (zlt (zst x3.2 29 (((6 : Int32) * a2) + a1).toNatClampNeg (0 : Int32)) fun h4 => some ((1 : Int32), h4)) else zix (((6 : Int32) * a2) + a1) 36 (zlt (zst x3.2 29 (((6 : Int32) * a2) + a1).toNatClampNeg (1 : Int32)) fun h5 => some ((1 : Int32), h5)))))
set_option maxHeartbeats 4000000 in
set_option maxRecDepth 100000 in
theorem s_X11_full  (a1 : Int32) (a2 : Int32) (a3 : Int32) (h : zHp) : Fn wM mX11_full 1 rI [.ref 0, .int a1, .int a2, .int a3] h (f_X11_full a1 a2 a3 h) := by
  refine Fn.of rfl (Nat.le_of_ble_eq_true rfl) ?_
  unfold f_X11_full
  refine Sim.aload_n 0 dX11_full_0 rfl ?_
  refine Sim.iconst (v := (0 : Int32)) dX11_full_1 rfl ?_
  refine Sim.put fp_X11_128 dX11_full_2 mI_0 rfl rfl ?_
  refine Sim.lth (fun h1 => ?_)
  refine Sim.aload_n 0 dX11_full_5 rfl ?_
  refine Sim.iload_n 1 dX11_full_6 rfl ?_
  refine Sim.iconst (v := (0 : Int32)) dX11_full_7 rfl ?_
  refine Sim.iconst (v := (5 : Int32)) dX11_full_8 rfl ?_
  refine Sim.callV3I (d1 := 0) (s_X11_isIn a1 (0 : Int32) (5 : Int32) h1) dX11_full_9 ml_X11_154 mv_X11_isIn mC (Nat.le_of_ble_eq_true rfl) (Nat.le_of_ble_eq_true rfl) (Nat.le_of_ble_eq_true rfl) (fun x2 => ?_)
  refine Sim.if_eq 25 dX11_full_12 rfl ?_ ?_
  · refine Sim.iconst (v := (0 : Int32)) dX11_full_25 rfl ?_
    exact Sim.nret dX11_full_26 rfl rfl
  · refine Sim.aload_n 0 dX11_full_15 rfl ?_
    refine Sim.iload_n 2 dX11_full_16 rfl ?_
    refine Sim.iconst (v := (0 : Int32)) dX11_full_17 rfl ?_
    refine Sim.iconst (v := (5 : Int32)) dX11_full_18 rfl ?_
    refine Sim.callV3I (d1 := 0) (s_X11_isIn a2 (0 : Int32) (5 : Int32) x2.2) dX11_full_19 ml_X11_154 mv_X11_isIn mC (Nat.le_of_ble_eq_true rfl) (Nat.le_of_ble_eq_true rfl) (Nat.le_of_ble_eq_true rfl) (fun x3 => ?_)
    refine Sim.if_ne 27 dX11_full_22 rfl ?_ ?_
    · refine Sim.iconst (v := (0 : Int32)) dX11_full_25 rfl ?_
      exact Sim.nret dX11_full_26 rfl rfl
    · refine Sim.aload_n 0 dX11_full_27 rfl ?_
      refine Sim.getR (j := 29) fl_X11_98 dX11_full_28 mR_52 ?_
      refine Sim.bipush (v := (6 : Int32)) dX11_full_31 rfl ?_
      refine Sim.iload_n 2 dX11_full_33 rfl ?_
      refine Sim.imul dX11_full_34 ?_
      refine Sim.iload_n 1 dX11_full_35 rfl ?_
      refine Sim.iadd dX11_full_36 ?_
      refine Sim.iload_n 3 dX11_full_37 rfl ?_
      refine Sim.if_eq 45 dX11_full_38 rfl ?_ ?_
      · refine Sim.iconst (v := (0 : Int32)) dX11_full_45 rfl ?_
        refine Sim.iast (n := 36) dX11_full_46 mA_29 ?_
        refine Sim.lth (fun h4 => ?_)
        refine Sim.iconst (v := (1 : Int32)) dX11_full_47 rfl ?_
        exact Sim.nret dX11_full_48 rfl rfl
      · refine Sim.iconst (v := (1 : Int32)) dX11_full_41 rfl ?_
        refine Sim.goto 46 dX11_full_42 rfl ?_
        refine Sim.iast (n := 36) dX11_full_46 mA_29 ?_
        refine Sim.lth (fun h5 => ?_)
        refine Sim.iconst (v := (1 : Int32)) dX11_full_47 rfl ?_
        exact Sim.nret dX11_full_48 rfl rfl
theorem mv_X11_full : zMV mX11_full 3 := ⟨⟨zTb_in 1925 (by decide +kernel) rfl, zTb_in 148 (by decide +kernel) rfl, ⟨by decide +kernel, by decide +kernel⟩, by decide +kernel⟩, zTb_in 1923 (by decide +kernel) rfl, zTb_in 1924 (by decide +kernel) rfl⟩
-- ===== RockingPorchModel.hasRoom(IIII)Z
abbrev mX11_hasRoom : zMt := (yX11_hasRoom, cX11_hasRoom, 7, some .boolean)
theorem dX11_hasRoom_0 : decode cX11_hasRoom 0 = .ok (.iload_n 2, 1) := by decide +kernel
theorem dX11_hasRoom_1 : decode cX11_hasRoom 1 = .ok (.istore 5, 2) := by decide +kernel
theorem dX11_hasRoom_3 : decode cX11_hasRoom 3 = .ok (.iload 5, 2) := by decide +kernel
theorem dX11_hasRoom_5 : decode cX11_hasRoom 5 = .ok (.iload 4, 2) := by decide +kernel
theorem dX11_hasRoom_7 : decode cX11_hasRoom 7 = .ok (.if_icmp .gt 43, 3) := by decide +kernel
theorem dX11_hasRoom_10 : decode cX11_hasRoom 10 = .ok (.iload_n 1, 1) := by decide +kernel
theorem dX11_hasRoom_11 : decode cX11_hasRoom 11 = .ok (.istore 6, 2) := by decide +kernel
theorem dX11_hasRoom_13 : decode cX11_hasRoom 13 = .ok (.iload 6, 2) := by decide +kernel
theorem dX11_hasRoom_15 : decode cX11_hasRoom 15 = .ok (.iload_n 3, 1) := by decide +kernel
theorem dX11_hasRoom_16 : decode cX11_hasRoom 16 = .ok (.if_icmp .gt 28, 3) := by decide +kernel
theorem dX11_hasRoom_19 : decode cX11_hasRoom 19 = .ok (.aload_n 0, 1) := by decide +kernel
theorem dX11_hasRoom_20 : decode cX11_hasRoom 20 = .ok (.getfield 98, 3) := by decide +kernel
theorem dX11_hasRoom_23 : decode cX11_hasRoom 23 = .ok (.bipush 6, 2) := by decide +kernel
theorem dX11_hasRoom_25 : decode cX11_hasRoom 25 = .ok (.iload 5, 2) := by decide +kernel
theorem dX11_hasRoom_27 : decode cX11_hasRoom 27 = .ok (.imul, 1) := by decide +kernel
theorem dX11_hasRoom_28 : decode cX11_hasRoom 28 = .ok (.iload 6, 2) := by decide +kernel
theorem dX11_hasRoom_30 : decode cX11_hasRoom 30 = .ok (.iadd, 1) := by decide +kernel
theorem dX11_hasRoom_31 : decode cX11_hasRoom 31 = .ok (.iaload, 1) := by decide +kernel
theorem dX11_hasRoom_32 : decode cX11_hasRoom 32 = .ok (.iconst 1, 1) := by decide +kernel
theorem dX11_hasRoom_33 : decode cX11_hasRoom 33 = .ok (.if_icmp .ne 5, 3) := by decide +kernel
theorem dX11_hasRoom_36 : decode cX11_hasRoom 36 = .ok (.iconst 0, 1) := by decide +kernel
theorem dX11_hasRoom_37 : decode cX11_hasRoom 37 = .ok (.ireturn, 1) := by decide +kernel
theorem dX11_hasRoom_38 : decode cX11_hasRoom 38 = .ok (.iinc 6 1, 3) := by decide +kernel
theorem dX11_hasRoom_41 : decode cX11_hasRoom 41 = .ok (.goto (-28), 3) := by decide +kernel
theorem dX11_hasRoom_44 : decode cX11_hasRoom 44 = .ok (.iinc 5 1, 3) := by decide +kernel
theorem dX11_hasRoom_47 : decode cX11_hasRoom 47 = .ok (.goto (-44), 3) := by decide +kernel
theorem dX11_hasRoom_50 : decode cX11_hasRoom 50 = .ok (.iconst 1, 1) := by decide +kernel
theorem dX11_hasRoom_51 : decode cX11_hasRoom 51 = .ok (.ireturn, 1) := by decide +kernel
def f_X11_hasRoom_13  (k3 : Int32 × Int32 × Int32 × Int32 × zHp → Option (Int32 × zHp)) (k13 : Int32 × Int32 × Int32 × Int32 × Int32 × zHp → Option (Int32 × zHp)) (v1 : Int32) (v3 : Int32) (v4 : Int32) (v5 : Int32) (v6 : Int32) (h : zHp) : Option (Int32 × zHp) := (if v3 < v6 then k3 (v1, v3, v4, (v5 + (1 : Int32)), h) else zix (((6 : Int32) * v5) + v6) 36 ((if (h 29 (((6 : Int32) * v5) + v6).toNatClampNeg) = (1 : Int32) then some ((0 : Int32), h) else k13 (v1, v3, v4, v5, (v6 + (1 : Int32)), h))))
set_option maxHeartbeats 4000000 in
set_option maxRecDepth 100000 in
theorem f_X11_hasRoom_13_s  (k3 : Int32 × Int32 × Int32 × Int32 × zHp → Option (Int32 × zHp)) (H3 : ∀ v : Int32 × Int32 × Int32 × Int32 × zHp, Sim wM mX11_hasRoom 0 rI 3 [(0, .ref 0), (1, .int v.1), (3, .int v.2.1), (4, .int v.2.2.1), (5, .int v.2.2.2.1)] [] v.2.2.2.2 (k3 v)) (k13 : Int32 × Int32 × Int32 × Int32 × Int32 × zHp → Option (Int32 × zHp)) (H13 : ∀ v : Int32 × Int32 × Int32 × Int32 × Int32 × zHp, Sim wM mX11_hasRoom 0 rI 13 [(0, .ref 0), (1, .int v.1), (3, .int v.2.1), (4, .int v.2.2.1), (5, .int v.2.2.2.1), (6, .int v.2.2.2.2.1)] [] v.2.2.2.2.2 (k13 v)) (v1 : Int32) (v3 : Int32) (v4 : Int32) (v5 : Int32) (v6 : Int32) (h : zHp) : Sim wM mX11_hasRoom 0 rI 13 [(0, .ref 0), (1, .int v1), (3, .int v3), (4, .int v4), (5, .int v5), (6, .int v6)] [] h (f_X11_hasRoom_13 k3 k13 v1 v3 v4 v5 v6 h) := by
  unfold f_X11_hasRoom_13
  refine Sim.iload 5 dX11_hasRoom_13 rfl ?_
  refine Sim.iload_n 2 dX11_hasRoom_15 rfl ?_
  refine Sim.icmp_gt 44 dX11_hasRoom_16 rfl ?_ ?_
  · refine Sim.iinc (L' := [(5, .int (v5 + (1 : Int32))), (0, .ref 0), (1, .int v1), (3, .int v3), (4, .int v4), (6, .int v6)]) 4 dX11_hasRoom_44 rfl rfl (Nat.le_of_ble_eq_true rfl) rfl ?_
    refine Sim.goto 3 dX11_hasRoom_47 rfl ?_
    refine Sim.locs [1, 2, 3, 4, 0] rfl ?_
    exact H3 (v1, v3, v4, (v5 + (1 : Int32)), h)
  · refine Sim.aload_n 0 dX11_hasRoom_19 rfl ?_
    refine Sim.getR (j := 29) fl_X11_98 dX11_hasRoom_20 mR_52 ?_
    refine Sim.bipush (v := (6 : Int32)) dX11_hasRoom_23 rfl ?_
    refine Sim.iload 4 dX11_hasRoom_25 rfl ?_
    refine Sim.imul dX11_hasRoom_27 ?_
    refine Sim.iload 5 dX11_hasRoom_28 rfl ?_
    refine Sim.iadd dX11_hasRoom_30 ?_
    refine Sim.iald (n := 36) dX11_hasRoom_31 mA_29 ?_
    refine Sim.iconst (v := (1 : Int32)) dX11_hasRoom_32 rfl ?_
    refine Sim.icmp_ne 38 dX11_hasRoom_33 rfl ?_ ?_
    · refine Sim.iconst (v := (0 : Int32)) dX11_hasRoom_36 rfl ?_
      exact Sim.nret dX11_hasRoom_37 rfl rfl
    · refine Sim.iinc (L' := [(6, .int (v6 + (1 : Int32))), (0, .ref 0), (1, .int v1), (3, .int v3), (4, .int v4), (5, .int v5)]) 5 dX11_hasRoom_38 rfl rfl (Nat.le_of_ble_eq_true rfl) rfl ?_
      refine Sim.goto 13 dX11_hasRoom_41 rfl ?_
      refine Sim.locs [1, 2, 3, 4, 5, 0] rfl ?_
      exact H13 (v1, v3, v4, v5, (v6 + (1 : Int32)), h)
def f_X11_hasRoom_13_lp  (k3 : Int32 × Int32 × Int32 × Int32 × zHp → Option (Int32 × zHp)) (n : Nat) (v : Int32 × Int32 × Int32 × Int32 × Int32 × zHp) : Option (Int32 × zHp) := zlp (fun k13 v => f_X11_hasRoom_13 k3 k13 v.1 v.2.1 v.2.2.1 v.2.2.2.1 v.2.2.2.2.1 v.2.2.2.2.2) n v
theorem f_X11_hasRoom_13_ls  (k3 : Int32 × Int32 × Int32 × Int32 × zHp → Option (Int32 × zHp)) (H3 : ∀ v : Int32 × Int32 × Int32 × Int32 × zHp, Sim wM mX11_hasRoom 0 rI 3 [(0, .ref 0), (1, .int v.1), (3, .int v.2.1), (4, .int v.2.2.1), (5, .int v.2.2.2.1)] [] v.2.2.2.2 (k3 v)) (n : Nat) (v : Int32 × Int32 × Int32 × Int32 × Int32 × zHp) : Sim wM mX11_hasRoom 0 rI 13 [(0, .ref 0), (1, .int v.1), (3, .int v.2.1), (4, .int v.2.2.1), (5, .int v.2.2.2.1), (6, .int v.2.2.2.2.1)] [] v.2.2.2.2.2 (f_X11_hasRoom_13_lp k3 n v) :=
  Sim.lp (V := Int32 × Int32 × Int32 × Int32 × Int32 × zHp) (Lf := fun v => [(0, .ref 0), (1, .int v.1), (3, .int v.2.1), (4, .int v.2.2.1), (5, .int v.2.2.2.1), (6, .int v.2.2.2.2.1)]) (sf := fun v => []) (hf := fun v => v.2.2.2.2.2) (fun k13 H13 v => f_X11_hasRoom_13_s k3 H3 k13 H13 v.1 v.2.1 v.2.2.1 v.2.2.2.1 v.2.2.2.2.1 v.2.2.2.2.2) n v
def f_X11_hasRoom_3  (k3 : Int32 × Int32 × Int32 × Int32 × zHp → Option (Int32 × zHp)) (v1 : Int32) (v3 : Int32) (v4 : Int32) (v5 : Int32) (h : zHp) : Option (Int32 × zHp) := (if v4 < v5 then some ((1 : Int32), h) else f_X11_hasRoom_13_lp k3 zN (v1, v3, v4, v5, v1, h))
set_option maxHeartbeats 4000000 in
set_option maxRecDepth 100000 in
theorem f_X11_hasRoom_3_s  (k3 : Int32 × Int32 × Int32 × Int32 × zHp → Option (Int32 × zHp)) (H3 : ∀ v : Int32 × Int32 × Int32 × Int32 × zHp, Sim wM mX11_hasRoom 0 rI 3 [(0, .ref 0), (1, .int v.1), (3, .int v.2.1), (4, .int v.2.2.1), (5, .int v.2.2.2.1)] [] v.2.2.2.2 (k3 v)) (v1 : Int32) (v3 : Int32) (v4 : Int32) (v5 : Int32) (h : zHp) : Sim wM mX11_hasRoom 0 rI 3 [(0, .ref 0), (1, .int v1), (3, .int v3), (4, .int v4), (5, .int v5)] [] h (f_X11_hasRoom_3 k3 v1 v3 v4 v5 h) := by
  unfold f_X11_hasRoom_3
  refine Sim.iload 4 dX11_hasRoom_3 rfl ?_
  refine Sim.iload 3 dX11_hasRoom_5 rfl ?_
  refine Sim.icmp_gt 50 dX11_hasRoom_7 rfl ?_ ?_
  · refine Sim.iconst (v := (1 : Int32)) dX11_hasRoom_50 rfl ?_
    exact Sim.nret dX11_hasRoom_51 rfl rfl
  · refine Sim.iload_n 1 dX11_hasRoom_10 rfl ?_
    refine Sim.istore (L' := [(6, .int v1), (0, .ref 0), (1, .int v1), (3, .int v3), (4, .int v4), (5, .int v5)]) dX11_hasRoom_11 (Nat.le_of_ble_eq_true rfl) rfl ?_
    refine Sim.locs [1, 2, 3, 4, 5, 0] rfl ?_
    exact f_X11_hasRoom_13_ls k3 H3 zN (v1, v3, v4, v5, v1, h)
def f_X11_hasRoom_3_lp   (n : Nat) (v : Int32 × Int32 × Int32 × Int32 × zHp) : Option (Int32 × zHp) := zlp (fun k3 v => f_X11_hasRoom_3 k3 v.1 v.2.1 v.2.2.1 v.2.2.2.1 v.2.2.2.2) n v
theorem f_X11_hasRoom_3_ls  (n : Nat) (v : Int32 × Int32 × Int32 × Int32 × zHp) : Sim wM mX11_hasRoom 0 rI 3 [(0, .ref 0), (1, .int v.1), (3, .int v.2.1), (4, .int v.2.2.1), (5, .int v.2.2.2.1)] [] v.2.2.2.2 (f_X11_hasRoom_3_lp n v) :=
  Sim.lp (V := Int32 × Int32 × Int32 × Int32 × zHp) (Lf := fun v => [(0, .ref 0), (1, .int v.1), (3, .int v.2.1), (4, .int v.2.2.1), (5, .int v.2.2.2.1)]) (sf := fun v => []) (hf := fun v => v.2.2.2.2) (fun k3 H3 v => f_X11_hasRoom_3_s k3 H3 v.1 v.2.1 v.2.2.1 v.2.2.2.1 v.2.2.2.2) n v
def f_X11_hasRoom  (a1 : Int32) (a2 : Int32) (a3 : Int32) (a4 : Int32) (h : zHp) : Option (Int32 × zHp) := f_X11_hasRoom_3_lp  zN (a1, a3, a4, a2, h)
set_option maxHeartbeats 4000000 in
set_option maxRecDepth 100000 in
theorem s_X11_hasRoom  (a1 : Int32) (a2 : Int32) (a3 : Int32) (a4 : Int32) (h : zHp) : Fn wM mX11_hasRoom 0 rI [.ref 0, .int a1, .int a2, .int a3, .int a4] h (f_X11_hasRoom a1 a2 a3 a4 h) := by
  refine Fn.of rfl (Nat.le_of_ble_eq_true rfl) ?_
  unfold f_X11_hasRoom
  refine Sim.iload_n 2 dX11_hasRoom_0 rfl ?_
  refine Sim.istore (L' := [(5, .int a2), (0, .ref 0), (1, .int a1), (2, .int a2), (3, .int a3), (4, .int a4)]) dX11_hasRoom_1 (Nat.le_of_ble_eq_true rfl) rfl ?_
  refine Sim.locs [1, 2, 4, 5, 0] rfl ?_
  exact f_X11_hasRoom_3_ls  zN (a1, a3, a4, a2, h)
theorem mv_X11_hasRoom : zMV mX11_hasRoom 4 := ⟨⟨zTb_in 1933 (by decide +kernel) rfl, zTb_in 148 (by decide +kernel) rfl, ⟨by decide +kernel, by decide +kernel⟩, by decide +kernel⟩, zTb_in 1932 (by decide +kernel) rfl, zTb_in 120 (by decide +kernel) rfl⟩
-- ===== RockingPorchModel.rug(I)I
abbrev mX11_rug : zMt := (yX11_rug, cX11_rug, 6, some .int)
theorem ml_X11_456 : Cond.methodLink RX11 456 yX11_hasRoom ∈ zTb := zTb_in 1930 (by decide +kernel) rfl
theorem dX11_rug_0 : decode cX11_rug 0 = .ok (.aload_n 0, 1) := by decide +kernel
theorem dX11_rug_1 : decode cX11_rug 1 = .ok (.iconst 0, 1) := by decide +kernel
theorem dX11_rug_2 : decode cX11_rug 2 = .ok (.putfield 128, 3) := by decide +kernel
theorem dX11_rug_5 : decode cX11_rug 5 = .ok (.aload_n 0, 1) := by decide +kernel
theorem dX11_rug_6 : decode cX11_rug 6 = .ok (.iload_n 1, 1) := by decide +kernel
theorem dX11_rug_7 : decode cX11_rug 7 = .ok (.iconst 0, 1) := by decide +kernel
theorem dX11_rug_8 : decode cX11_rug 8 = .ok (.iconst 1, 1) := by decide +kernel
theorem dX11_rug_9 : decode cX11_rug 9 = .ok (.invokevirtual 154, 3) := by decide +kernel
theorem dX11_rug_12 : decode cX11_rug 12 = .ok (.ifCond .ne 5, 3) := by decide +kernel
theorem dX11_rug_15 : decode cX11_rug 15 = .ok (.iconst (-1), 1) := by decide +kernel
theorem dX11_rug_16 : decode cX11_rug 16 = .ok (.ireturn, 1) := by decide +kernel
theorem dX11_rug_17 : decode cX11_rug 17 = .ok (.iconst 0, 1) := by decide +kernel
theorem dX11_rug_18 : decode cX11_rug 18 = .ok (.istore_n 2, 1) := by decide +kernel
theorem dX11_rug_19 : decode cX11_rug 19 = .ok (.iconst 0, 1) := by decide +kernel
theorem dX11_rug_20 : decode cX11_rug 20 = .ok (.istore_n 3, 1) := by decide +kernel
theorem dX11_rug_21 : decode cX11_rug 21 = .ok (.iconst 0, 1) := by decide +kernel
theorem dX11_rug_22 : decode cX11_rug 22 = .ok (.istore 4, 2) := by decide +kernel
theorem dX11_rug_24 : decode cX11_rug 24 = .ok (.iload 4, 2) := by decide +kernel
theorem dX11_rug_26 : decode cX11_rug 26 = .ok (.bipush 36, 2) := by decide +kernel
theorem dX11_rug_28 : decode cX11_rug 28 = .ok (.if_icmp .ge 106, 3) := by decide +kernel
theorem dX11_rug_31 : decode cX11_rug 31 = .ok (.iload 4, 2) := by decide +kernel
theorem dX11_rug_33 : decode cX11_rug 33 = .ok (.istore 5, 2) := by decide +kernel
theorem dX11_rug_35 : decode cX11_rug 35 = .ok (.iload 5, 2) := by decide +kernel
theorem dX11_rug_37 : decode cX11_rug 37 = .ok (.bipush 36, 2) := by decide +kernel
theorem dX11_rug_39 : decode cX11_rug 39 = .ok (.if_icmp .ge 89, 3) := by decide +kernel
theorem dX11_rug_42 : decode cX11_rug 42 = .ok (.iload 5, 2) := by decide +kernel
theorem dX11_rug_44 : decode cX11_rug 44 = .ok (.bipush 6, 2) := by decide +kernel
theorem dX11_rug_46 : decode cX11_rug 46 = .ok (.irem, 1) := by decide +kernel
theorem dX11_rug_47 : decode cX11_rug 47 = .ok (.iload 4, 2) := by decide +kernel
theorem dX11_rug_49 : decode cX11_rug 49 = .ok (.bipush 6, 2) := by decide +kernel
theorem dX11_rug_51 : decode cX11_rug 51 = .ok (.irem, 1) := by decide +kernel
theorem dX11_rug_52 : decode cX11_rug 52 = .ok (.if_icmp .lt 70, 3) := by decide +kernel
theorem dX11_rug_55 : decode cX11_rug 55 = .ok (.aload_n 0, 1) := by decide +kernel
theorem dX11_rug_56 : decode cX11_rug 56 = .ok (.iload 4, 2) := by decide +kernel
theorem dX11_rug_58 : decode cX11_rug 58 = .ok (.bipush 6, 2) := by decide +kernel
theorem dX11_rug_60 : decode cX11_rug 60 = .ok (.irem, 1) := by decide +kernel
theorem dX11_rug_61 : decode cX11_rug 61 = .ok (.iload 4, 2) := by decide +kernel
theorem dX11_rug_63 : decode cX11_rug 63 = .ok (.bipush 6, 2) := by decide +kernel
theorem dX11_rug_65 : decode cX11_rug 65 = .ok (.idiv, 1) := by decide +kernel
theorem dX11_rug_66 : decode cX11_rug 66 = .ok (.iload 5, 2) := by decide +kernel
theorem dX11_rug_68 : decode cX11_rug 68 = .ok (.bipush 6, 2) := by decide +kernel
theorem dX11_rug_70 : decode cX11_rug 70 = .ok (.irem, 1) := by decide +kernel
theorem dX11_rug_71 : decode cX11_rug 71 = .ok (.iload 5, 2) := by decide +kernel
theorem dX11_rug_73 : decode cX11_rug 73 = .ok (.bipush 6, 2) := by decide +kernel
theorem dX11_rug_75 : decode cX11_rug 75 = .ok (.idiv, 1) := by decide +kernel
theorem dX11_rug_76 : decode cX11_rug 76 = .ok (.invokevirtual 456, 3) := by decide +kernel
theorem dX11_rug_79 : decode cX11_rug 79 = .ok (.ifCond .ne 6, 3) := by decide +kernel
theorem dX11_rug_82 : decode cX11_rug 82 = .ok (.goto 40, 3) := by decide +kernel
theorem dX11_rug_85 : decode cX11_rug 85 = .ok (.iload_n 2, 1) := by decide +kernel
theorem dX11_rug_86 : decode cX11_rug 86 = .ok (.iconst 1, 1) := by decide +kernel
theorem dX11_rug_87 : decode cX11_rug 87 = .ok (.iadd, 1) := by decide +kernel
theorem dX11_rug_88 : decode cX11_rug 88 = .ok (.istore_n 2, 1) := by decide +kernel
theorem dX11_rug_89 : decode cX11_rug 89 = .ok (.aload_n 0, 1) := by decide +kernel
theorem dX11_rug_90 : decode cX11_rug 90 = .ok (.iload_n 3, 1) := by decide +kernel
theorem dX11_rug_91 : decode cX11_rug 91 = .ok (.iload 5, 2) := by decide +kernel
theorem dX11_rug_93 : decode cX11_rug 93 = .ok (.bipush 6, 2) := by decide +kernel
theorem dX11_rug_95 : decode cX11_rug 95 = .ok (.irem, 1) := by decide +kernel
theorem dX11_rug_96 : decode cX11_rug 96 = .ok (.iload 4, 2) := by decide +kernel
theorem dX11_rug_98 : decode cX11_rug 98 = .ok (.bipush 6, 2) := by decide +kernel
theorem dX11_rug_100 : decode cX11_rug 100 = .ok (.irem, 1) := by decide +kernel
theorem dX11_rug_101 : decode cX11_rug 101 = .ok (.isub, 1) := by decide +kernel
theorem dX11_rug_102 : decode cX11_rug 102 = .ok (.iconst 1, 1) := by decide +kernel
theorem dX11_rug_103 : decode cX11_rug 103 = .ok (.iadd, 1) := by decide +kernel
theorem dX11_rug_104 : decode cX11_rug 104 = .ok (.iload 5, 2) := by decide +kernel
theorem dX11_rug_106 : decode cX11_rug 106 = .ok (.bipush 6, 2) := by decide +kernel
theorem dX11_rug_108 : decode cX11_rug 108 = .ok (.idiv, 1) := by decide +kernel
theorem dX11_rug_109 : decode cX11_rug 109 = .ok (.iload 4, 2) := by decide +kernel
theorem dX11_rug_111 : decode cX11_rug 111 = .ok (.bipush 6, 2) := by decide +kernel
theorem dX11_rug_113 : decode cX11_rug 113 = .ok (.idiv, 1) := by decide +kernel
theorem dX11_rug_114 : decode cX11_rug 114 = .ok (.isub, 1) := by decide +kernel
theorem dX11_rug_115 : decode cX11_rug 115 = .ok (.iconst 1, 1) := by decide +kernel
theorem dX11_rug_116 : decode cX11_rug 116 = .ok (.iadd, 1) := by decide +kernel
theorem dX11_rug_117 : decode cX11_rug 117 = .ok (.imul, 1) := by decide +kernel
theorem dX11_rug_118 : decode cX11_rug 118 = .ok (.invokevirtual 394, 3) := by decide +kernel
theorem dX11_rug_121 : decode cX11_rug 121 = .ok (.istore_n 3, 1) := by decide +kernel
theorem dX11_rug_122 : decode cX11_rug 122 = .ok (.iinc 5 1, 3) := by decide +kernel
theorem dX11_rug_125 : decode cX11_rug 125 = .ok (.goto (-90), 3) := by decide +kernel
theorem dX11_rug_128 : decode cX11_rug 128 = .ok (.iinc 4 1, 3) := by decide +kernel
theorem dX11_rug_131 : decode cX11_rug 131 = .ok (.goto (-107), 3) := by decide +kernel
theorem dX11_rug_134 : decode cX11_rug 134 = .ok (.iload_n 1, 1) := by decide +kernel
theorem dX11_rug_135 : decode cX11_rug 135 = .ok (.ifCond .ne 7, 3) := by decide +kernel
theorem dX11_rug_138 : decode cX11_rug 138 = .ok (.iload_n 2, 1) := by decide +kernel
theorem dX11_rug_139 : decode cX11_rug 139 = .ok (.goto 4, 3) := by decide +kernel
theorem dX11_rug_142 : decode cX11_rug 142 = .ok (.iload_n 3, 1) := by decide +kernel
theorem dX11_rug_143 : decode cX11_rug 143 = .ok (.ireturn, 1) := by decide +kernel
def f_X11_rug_35  (k24 : Int32 × Int32 × Int32 × Int32 × zHp → Option (Int32 × zHp)) (k35 : Int32 × Int32 × Int32 × Int32 × Int32 × zHp → Option (Int32 × zHp)) (v1 : Int32) (v2 : Int32) (v3 : Int32) (v4 : Int32) (v5 : Int32) (h : zHp) : Option (Int32 × zHp) := (if v5 < (36 : Int32) then (if (v5 - v5 / (6 : Int32) * (6 : Int32)) < (v4 - v4 / (6 : Int32) * (6 : Int32)) then k35 (v1, v2, v3, v4, (v5 + (1 : Int32)), h) else (f_X11_hasRoom (v4 - v4 / (6 : Int32) * (6 : Int32)) (v4 / (6 : Int32)) (v5 - v5 / (6 : Int32) * (6 : Int32)) (v5 / (6 : Int32)) h).bind fun x1 => (if x1.1 = 0 then k35 (v1, v2, v3, v4, (v5 + (1 : Int32)), x1.2) else zlt (v2 + (1 : Int32)) fun x2 => (f_X11_greater v3 ((((v5 - v5 / (6 : Int32) * (6 : Int32)) - (v4 - v4 / (6 : Int32) * (6 : Int32))) + (1 : Int32)) * (((v5 / (6 : Int32)) - (v4 / (6 : Int32))) + (1 : Int32))) x1.2).bind fun x3 => k35 (v1, x2, x3.1, v4, (v5 + (1 : Int32)), x3.2))) else k24 (v1, v2, v3, (v4 + (1 : Int32)), h))
set_option maxHeartbeats 4000000 in
set_option maxRecDepth 100000 in
theorem f_X11_rug_35_s  (k24 : Int32 × Int32 × Int32 × Int32 × zHp → Option (Int32 × zHp)) (H24 : ∀ v : Int32 × Int32 × Int32 × Int32 × zHp, Sim wM mX11_rug 1 rI 24 [(0, .ref 0), (1, .int v.1), (2, .int v.2.1), (3, .int v.2.2.1), (4, .int v.2.2.2.1)] [] v.2.2.2.2 (k24 v)) (k35 : Int32 × Int32 × Int32 × Int32 × Int32 × zHp → Option (Int32 × zHp)) (H35 : ∀ v : Int32 × Int32 × Int32 × Int32 × Int32 × zHp, Sim wM mX11_rug 1 rI 35 [(0, .ref 0), (1, .int v.1), (2, .int v.2.1), (3, .int v.2.2.1), (4, .int v.2.2.2.1), (5, .int v.2.2.2.2.1)] [] v.2.2.2.2.2 (k35 v)) (v1 : Int32) (v2 : Int32) (v3 : Int32) (v4 : Int32) (v5 : Int32) (h : zHp) : Sim wM mX11_rug 1 rI 35 [(0, .ref 0), (1, .int v1), (2, .int v2), (3, .int v3), (4, .int v4), (5, .int v5)] [] h (f_X11_rug_35 k24 k35 v1 v2 v3 v4 v5 h) := by
  unfold f_X11_rug_35
  refine Sim.iload 5 dX11_rug_35 rfl ?_
  refine Sim.bipush (v := (36 : Int32)) dX11_rug_37 rfl ?_
  refine Sim.icmp_ge 128 dX11_rug_39 rfl ?_ ?_
  · refine Sim.iload 5 dX11_rug_42 rfl ?_
    refine Sim.bipush (v := (6 : Int32)) dX11_rug_44 rfl ?_
    refine Sim.iremL dX11_rug_46 (by decide) ?_
    refine Sim.iload 4 dX11_rug_47 rfl ?_
    refine Sim.bipush (v := (6 : Int32)) dX11_rug_49 rfl ?_
    refine Sim.iremL dX11_rug_51 (by decide) ?_
    refine Sim.icmp_lt 122 dX11_rug_52 rfl ?_ ?_
    · refine Sim.iinc (L' := [(5, .int (v5 + (1 : Int32))), (0, .ref 0), (1, .int v1), (2, .int v2), (3, .int v3), (4, .int v4)]) 5 dX11_rug_122 rfl rfl (Nat.le_of_ble_eq_true rfl) rfl ?_
      refine Sim.goto 35 dX11_rug_125 rfl ?_
      refine Sim.locs [1, 2, 3, 4, 5, 0] rfl ?_
      exact H35 (v1, v2, v3, v4, (v5 + (1 : Int32)), h)
    · refine Sim.aload_n 0 dX11_rug_55 rfl ?_
      refine Sim.iload 4 dX11_rug_56 rfl ?_
      refine Sim.bipush (v := (6 : Int32)) dX11_rug_58 rfl ?_
      refine Sim.iremL dX11_rug_60 (by decide) ?_
      refine Sim.iload 4 dX11_rug_61 rfl ?_
      refine Sim.bipush (v := (6 : Int32)) dX11_rug_63 rfl ?_
      refine Sim.idivL dX11_rug_65 (by decide) ?_
      refine Sim.iload 5 dX11_rug_66 rfl ?_
      refine Sim.bipush (v := (6 : Int32)) dX11_rug_68 rfl ?_
      refine Sim.iremL dX11_rug_70 (by decide) ?_
      refine Sim.iload 5 dX11_rug_71 rfl ?_
      refine Sim.bipush (v := (6 : Int32)) dX11_rug_73 rfl ?_
      refine Sim.idivL dX11_rug_75 (by decide) ?_
      refine Sim.callV4I (d1 := 0) (s_X11_hasRoom (v4 - v4 / (6 : Int32) * (6 : Int32)) (v4 / (6 : Int32)) (v5 - v5 / (6 : Int32) * (6 : Int32)) (v5 / (6 : Int32)) h) dX11_rug_76 ml_X11_456 mv_X11_hasRoom mC (Nat.le_of_ble_eq_true rfl) (Nat.le_of_ble_eq_true rfl) (Nat.le_of_ble_eq_true rfl) (fun x1 => ?_)
      refine Sim.if_ne 85 dX11_rug_79 rfl ?_ ?_
      · refine Sim.goto 122 dX11_rug_82 rfl ?_
        refine Sim.iinc (L' := [(5, .int (v5 + (1 : Int32))), (0, .ref 0), (1, .int v1), (2, .int v2), (3, .int v3), (4, .int v4)]) 5 dX11_rug_122 rfl rfl (Nat.le_of_ble_eq_true rfl) rfl ?_
        refine Sim.goto 35 dX11_rug_125 rfl ?_
        refine Sim.locs [1, 2, 3, 4, 5, 0] rfl ?_
        exact H35 (v1, v2, v3, v4, (v5 + (1 : Int32)), x1.2)
      · refine Sim.iload_n 2 dX11_rug_85 rfl ?_
        refine Sim.iconst (v := (1 : Int32)) dX11_rug_86 rfl ?_
        refine Sim.iadd dX11_rug_87 ?_
        refine Sim.lti (fun x2 => ?_)
        refine Sim.istore_n (L' := [(2, .int x2), (0, .ref 0), (1, .int v1), (3, .int v3), (4, .int v4), (5, .int v5)]) dX11_rug_88 (Nat.le_of_ble_eq_true rfl) rfl ?_
        refine Sim.aload_n 1 dX11_rug_89 rfl ?_
        refine Sim.iload_n 3 dX11_rug_90 rfl ?_
        refine Sim.iload 5 dX11_rug_91 rfl ?_
        refine Sim.bipush (v := (6 : Int32)) dX11_rug_93 rfl ?_
        refine Sim.iremL dX11_rug_95 (by decide) ?_
        refine Sim.iload 4 dX11_rug_96 rfl ?_
        refine Sim.bipush (v := (6 : Int32)) dX11_rug_98 rfl ?_
        refine Sim.iremL dX11_rug_100 (by decide) ?_
        refine Sim.isub dX11_rug_101 ?_
        refine Sim.iconst (v := (1 : Int32)) dX11_rug_102 rfl ?_
        refine Sim.iadd dX11_rug_103 ?_
        refine Sim.iload 5 dX11_rug_104 rfl ?_
        refine Sim.bipush (v := (6 : Int32)) dX11_rug_106 rfl ?_
        refine Sim.idivL dX11_rug_108 (by decide) ?_
        refine Sim.iload 4 dX11_rug_109 rfl ?_
        refine Sim.bipush (v := (6 : Int32)) dX11_rug_111 rfl ?_
        refine Sim.idivL dX11_rug_113 (by decide) ?_
        refine Sim.isub dX11_rug_114 ?_
        refine Sim.iconst (v := (1 : Int32)) dX11_rug_115 rfl ?_
        refine Sim.iadd dX11_rug_116 ?_
        refine Sim.imul dX11_rug_117 ?_
        refine Sim.callV2I (d1 := 0) (s_X11_greater v3 ((((v5 - v5 / (6 : Int32) * (6 : Int32)) - (v4 - v4 / (6 : Int32) * (6 : Int32))) + (1 : Int32)) * (((v5 / (6 : Int32)) - (v4 / (6 : Int32))) + (1 : Int32))) x1.2) dX11_rug_118 ml_X11_394 mv_X11_greater mC (Nat.le_of_ble_eq_true rfl) (Nat.le_of_ble_eq_true rfl) (Nat.le_of_ble_eq_true rfl) (fun x3 => ?_)
        refine Sim.istore_n (L' := [(3, .int x3.1), (2, .int x2), (0, .ref 0), (1, .int v1), (4, .int v4), (5, .int v5)]) dX11_rug_121 (Nat.le_of_ble_eq_true rfl) rfl ?_
        refine Sim.iinc (L' := [(5, .int (v5 + (1 : Int32))), (3, .int x3.1), (2, .int x2), (0, .ref 0), (1, .int v1), (4, .int v4)]) 5 dX11_rug_122 rfl rfl (Nat.le_of_ble_eq_true rfl) rfl ?_
        refine Sim.goto 35 dX11_rug_125 rfl ?_
        refine Sim.locs [3, 4, 2, 1, 5, 0] rfl ?_
        exact H35 (v1, x2, x3.1, v4, (v5 + (1 : Int32)), x3.2)
  · refine Sim.iinc (L' := [(4, .int (v4 + (1 : Int32))), (0, .ref 0), (1, .int v1), (2, .int v2), (3, .int v3), (5, .int v5)]) 4 dX11_rug_128 rfl rfl (Nat.le_of_ble_eq_true rfl) rfl ?_
    refine Sim.goto 24 dX11_rug_131 rfl ?_
    refine Sim.locs [1, 2, 3, 4, 0] rfl ?_
    exact H24 (v1, v2, v3, (v4 + (1 : Int32)), h)
def f_X11_rug_35_lp  (k24 : Int32 × Int32 × Int32 × Int32 × zHp → Option (Int32 × zHp)) (n : Nat) (v : Int32 × Int32 × Int32 × Int32 × Int32 × zHp) : Option (Int32 × zHp) := zlp (fun k35 v => f_X11_rug_35 k24 k35 v.1 v.2.1 v.2.2.1 v.2.2.2.1 v.2.2.2.2.1 v.2.2.2.2.2) n v
theorem f_X11_rug_35_ls  (k24 : Int32 × Int32 × Int32 × Int32 × zHp → Option (Int32 × zHp)) (H24 : ∀ v : Int32 × Int32 × Int32 × Int32 × zHp, Sim wM mX11_rug 1 rI 24 [(0, .ref 0), (1, .int v.1), (2, .int v.2.1), (3, .int v.2.2.1), (4, .int v.2.2.2.1)] [] v.2.2.2.2 (k24 v)) (n : Nat) (v : Int32 × Int32 × Int32 × Int32 × Int32 × zHp) : Sim wM mX11_rug 1 rI 35 [(0, .ref 0), (1, .int v.1), (2, .int v.2.1), (3, .int v.2.2.1), (4, .int v.2.2.2.1), (5, .int v.2.2.2.2.1)] [] v.2.2.2.2.2 (f_X11_rug_35_lp k24 n v) :=
  Sim.lp (V := Int32 × Int32 × Int32 × Int32 × Int32 × zHp) (Lf := fun v => [(0, .ref 0), (1, .int v.1), (2, .int v.2.1), (3, .int v.2.2.1), (4, .int v.2.2.2.1), (5, .int v.2.2.2.2.1)]) (sf := fun v => []) (hf := fun v => v.2.2.2.2.2) (fun k35 H35 v => f_X11_rug_35_s k24 H24 k35 H35 v.1 v.2.1 v.2.2.1 v.2.2.2.1 v.2.2.2.2.1 v.2.2.2.2.2) n v
def f_X11_rug_24  (k24 : Int32 × Int32 × Int32 × Int32 × zHp → Option (Int32 × zHp)) (v1 : Int32) (v2 : Int32) (v3 : Int32) (v4 : Int32) (h : zHp) : Option (Int32 × zHp) := (if v4 < (36 : Int32) then f_X11_rug_35_lp k24 zN (v1, v2, v3, v4, v4, h) else (if v1 = 0 then some (v2, h) else some (v3, h)))
set_option maxHeartbeats 4000000 in
set_option maxRecDepth 100000 in
theorem f_X11_rug_24_s  (k24 : Int32 × Int32 × Int32 × Int32 × zHp → Option (Int32 × zHp)) (H24 : ∀ v : Int32 × Int32 × Int32 × Int32 × zHp, Sim wM mX11_rug 1 rI 24 [(0, .ref 0), (1, .int v.1), (2, .int v.2.1), (3, .int v.2.2.1), (4, .int v.2.2.2.1)] [] v.2.2.2.2 (k24 v)) (v1 : Int32) (v2 : Int32) (v3 : Int32) (v4 : Int32) (h : zHp) : Sim wM mX11_rug 1 rI 24 [(0, .ref 0), (1, .int v1), (2, .int v2), (3, .int v3), (4, .int v4)] [] h (f_X11_rug_24 k24 v1 v2 v3 v4 h) := by
  unfold f_X11_rug_24
  refine Sim.iload 4 dX11_rug_24 rfl ?_
  refine Sim.bipush (v := (36 : Int32)) dX11_rug_26 rfl ?_
  refine Sim.icmp_ge 134 dX11_rug_28 rfl ?_ ?_
  · refine Sim.iload 4 dX11_rug_31 rfl ?_
    refine Sim.istore (L' := [(5, .int v4), (0, .ref 0), (1, .int v1), (2, .int v2), (3, .int v3), (4, .int v4)]) dX11_rug_33 (Nat.le_of_ble_eq_true rfl) rfl ?_
    refine Sim.locs [1, 2, 3, 4, 5, 0] rfl ?_
    exact f_X11_rug_35_ls k24 H24 zN (v1, v2, v3, v4, v4, h)
  · refine Sim.iload_n 1 dX11_rug_134 rfl ?_
    refine Sim.if_ne 142 dX11_rug_135 rfl ?_ ?_
    · refine Sim.iload_n 2 dX11_rug_138 rfl ?_
      refine Sim.goto 143 dX11_rug_139 rfl ?_
      exact Sim.iret dX11_rug_143 rfl
    · refine Sim.iload_n 3 dX11_rug_142 rfl ?_
      exact Sim.iret dX11_rug_143 rfl
def f_X11_rug_24_lp   (n : Nat) (v : Int32 × Int32 × Int32 × Int32 × zHp) : Option (Int32 × zHp) := zlp (fun k24 v => f_X11_rug_24 k24 v.1 v.2.1 v.2.2.1 v.2.2.2.1 v.2.2.2.2) n v
theorem f_X11_rug_24_ls  (n : Nat) (v : Int32 × Int32 × Int32 × Int32 × zHp) : Sim wM mX11_rug 1 rI 24 [(0, .ref 0), (1, .int v.1), (2, .int v.2.1), (3, .int v.2.2.1), (4, .int v.2.2.2.1)] [] v.2.2.2.2 (f_X11_rug_24_lp n v) :=
  Sim.lp (V := Int32 × Int32 × Int32 × Int32 × zHp) (Lf := fun v => [(0, .ref 0), (1, .int v.1), (2, .int v.2.1), (3, .int v.2.2.1), (4, .int v.2.2.2.1)]) (sf := fun v => []) (hf := fun v => v.2.2.2.2) (fun k24 H24 v => f_X11_rug_24_s k24 H24 v.1 v.2.1 v.2.2.1 v.2.2.2.1 v.2.2.2.2) n v
def f_X11_rug  (a1 : Int32) (h : zHp) : Option (Int32 × zHp) := zlt (zst h 0 0 (0 : Int32)) fun h1 => (f_X11_isIn a1 (0 : Int32) (1 : Int32) h1).bind fun x2 => (if x2.1 = 0 then some ((-1 : Int32), x2.2) else f_X11_rug_24_lp  zN (a1, (0 : Int32), (0 : Int32), (0 : Int32), x2.2))
set_option maxHeartbeats 4000000 in
set_option maxRecDepth 100000 in
theorem s_X11_rug  (a1 : Int32) (h : zHp) : Fn wM mX11_rug 1 rI [.ref 0, .int a1] h (f_X11_rug a1 h) := by
  refine Fn.of rfl (Nat.le_of_ble_eq_true rfl) ?_
  unfold f_X11_rug
  refine Sim.aload_n 0 dX11_rug_0 rfl ?_
  refine Sim.iconst (v := (0 : Int32)) dX11_rug_1 rfl ?_
  refine Sim.put fp_X11_128 dX11_rug_2 mI_0 rfl rfl ?_
  refine Sim.lth (fun h1 => ?_)
  refine Sim.aload_n 0 dX11_rug_5 rfl ?_
  refine Sim.iload_n 1 dX11_rug_6 rfl ?_
  refine Sim.iconst (v := (0 : Int32)) dX11_rug_7 rfl ?_
  refine Sim.iconst (v := (1 : Int32)) dX11_rug_8 rfl ?_
  refine Sim.callV3I (d1 := 0) (s_X11_isIn a1 (0 : Int32) (1 : Int32) h1) dX11_rug_9 ml_X11_154 mv_X11_isIn mC (Nat.le_of_ble_eq_true rfl) (Nat.le_of_ble_eq_true rfl) (Nat.le_of_ble_eq_true rfl) (fun x2 => ?_)
  refine Sim.if_ne 17 dX11_rug_12 rfl ?_ ?_
  · refine Sim.iconst (v := (-1 : Int32)) dX11_rug_15 rfl ?_
    exact Sim.iret dX11_rug_16 rfl
  · refine Sim.iconst (v := (0 : Int32)) dX11_rug_17 rfl ?_
    refine Sim.istore_n (L' := [(2, .int (0 : Int32)), (0, .ref 0), (1, .int a1)]) dX11_rug_18 (Nat.le_of_ble_eq_true rfl) rfl ?_
    refine Sim.iconst (v := (0 : Int32)) dX11_rug_19 rfl ?_
    refine Sim.istore_n (L' := [(3, .int (0 : Int32)), (2, .int (0 : Int32)), (0, .ref 0), (1, .int a1)]) dX11_rug_20 (Nat.le_of_ble_eq_true rfl) rfl ?_
    refine Sim.iconst (v := (0 : Int32)) dX11_rug_21 rfl ?_
    refine Sim.istore (L' := [(4, .int (0 : Int32)), (3, .int (0 : Int32)), (2, .int (0 : Int32)), (0, .ref 0), (1, .int a1)]) dX11_rug_22 (Nat.le_of_ble_eq_true rfl) rfl ?_
    refine Sim.locs [3, 4, 2, 1, 0] rfl ?_
    exact f_X11_rug_24_ls  zN (a1, (0 : Int32), (0 : Int32), (0 : Int32), x2.2)
theorem mv_X11_rug : zMV mX11_rug 1 := ⟨⟨zTb_in 1929 (by decide +kernel) rfl, zTb_in 148 (by decide +kernel) rfl, ⟨by decide +kernel, by decide +kernel⟩, by decide +kernel⟩, zTb_in 1927 (by decide +kernel) rfl, zTb_in 1928 (by decide +kernel) rfl⟩
-- ===== RockingPorchModel.takesOrder(I)Z
abbrev mX11_takesOrder : zMt := (yX11_takesOrder, cX11_takesOrder, 6, some .boolean)
theorem fl_X11_101 : zF RX11 101 11 54 := ⟨RX11, TX11, 69, rfl, Nat.le_of_ble_eq_true rfl, zTb_in 1353 (by decide +kernel) rfl, in_X11⟩
theorem fp_X11_460 : zFp RX11 460 11 53 .int := ⟨RX11, TX11, 69, tyX11, rfl, Nat.le_of_ble_eq_true rfl, zTb_in 1352 (by decide +kernel) rfl, in_X11, tyX11_ok, nmX11, rfl, rfl⟩
theorem dX11_takesOrder_0 : decode cX11_takesOrder 0 = .ok (.iconst 0, 1) := by decide +kernel
theorem dX11_takesOrder_1 : decode cX11_takesOrder 1 = .ok (.istore_n 2, 1) := by decide +kernel
theorem dX11_takesOrder_2 : decode cX11_takesOrder 2 = .ok (.iload_n 1, 1) := by decide +kernel
theorem dX11_takesOrder_3 : decode cX11_takesOrder 3 = .ok (.istore_n 3, 1) := by decide +kernel
theorem dX11_takesOrder_4 : decode cX11_takesOrder 4 = .ok (.iload_n 3, 1) := by decide +kernel
theorem dX11_takesOrder_5 : decode cX11_takesOrder 5 = .ok (.bipush 9, 2) := by decide +kernel
theorem dX11_takesOrder_7 : decode cX11_takesOrder 7 = .ok (.if_icmp .le 15, 3) := by decide +kernel
theorem dX11_takesOrder_10 : decode cX11_takesOrder 10 = .ok (.iload_n 2, 1) := by decide +kernel
theorem dX11_takesOrder_11 : decode cX11_takesOrder 11 = .ok (.iconst 1, 1) := by decide +kernel
theorem dX11_takesOrder_12 : decode cX11_takesOrder 12 = .ok (.iadd, 1) := by decide +kernel
theorem dX11_takesOrder_13 : decode cX11_takesOrder 13 = .ok (.istore_n 2, 1) := by decide +kernel
theorem dX11_takesOrder_14 : decode cX11_takesOrder 14 = .ok (.iload_n 3, 1) := by decide +kernel
theorem dX11_takesOrder_15 : decode cX11_takesOrder 15 = .ok (.bipush 10, 2) := by decide +kernel
theorem dX11_takesOrder_17 : decode cX11_takesOrder 17 = .ok (.idiv, 1) := by decide +kernel
theorem dX11_takesOrder_18 : decode cX11_takesOrder 18 = .ok (.istore_n 3, 1) := by decide +kernel
theorem dX11_takesOrder_19 : decode cX11_takesOrder 19 = .ok (.goto (-15), 3) := by decide +kernel
theorem dX11_takesOrder_22 : decode cX11_takesOrder 22 = .ok (.aload_n 0, 1) := by decide +kernel
theorem dX11_takesOrder_23 : decode cX11_takesOrder 23 = .ok (.iload_n 2, 1) := by decide +kernel
theorem dX11_takesOrder_24 : decode cX11_takesOrder 24 = .ok (.iconst 1, 1) := by decide +kernel
theorem dX11_takesOrder_25 : decode cX11_takesOrder 25 = .ok (.bipush 8, 2) := by decide +kernel
theorem dX11_takesOrder_27 : decode cX11_takesOrder 27 = .ok (.invokevirtual 154, 3) := by decide +kernel
theorem dX11_takesOrder_30 : decode cX11_takesOrder 30 = .ok (.ifCond .ne 5, 3) := by decide +kernel
theorem dX11_takesOrder_33 : decode cX11_takesOrder 33 = .ok (.iconst 0, 1) := by decide +kernel
theorem dX11_takesOrder_34 : decode cX11_takesOrder 34 = .ok (.ireturn, 1) := by decide +kernel
theorem dX11_takesOrder_35 : decode cX11_takesOrder 35 = .ok (.aload_n 0, 1) := by decide +kernel
theorem dX11_takesOrder_36 : decode cX11_takesOrder 36 = .ok (.iload_n 2, 1) := by decide +kernel
theorem dX11_takesOrder_37 : decode cX11_takesOrder 37 = .ok (.putfield 460, 3) := by decide +kernel
theorem dX11_takesOrder_40 : decode cX11_takesOrder 40 = .ok (.iload_n 1, 1) := by decide +kernel
theorem dX11_takesOrder_41 : decode cX11_takesOrder 41 = .ok (.istore_n 3, 1) := by decide +kernel
theorem dX11_takesOrder_42 : decode cX11_takesOrder 42 = .ok (.iconst 0, 1) := by decide +kernel
theorem dX11_takesOrder_43 : decode cX11_takesOrder 43 = .ok (.istore 4, 2) := by decide +kernel
theorem dX11_takesOrder_45 : decode cX11_takesOrder 45 = .ok (.iload_n 2, 1) := by decide +kernel
theorem dX11_takesOrder_46 : decode cX11_takesOrder 46 = .ok (.iconst 1, 1) := by decide +kernel
theorem dX11_takesOrder_47 : decode cX11_takesOrder 47 = .ok (.isub, 1) := by decide +kernel
theorem dX11_takesOrder_48 : decode cX11_takesOrder 48 = .ok (.istore 5, 2) := by decide +kernel
theorem dX11_takesOrder_50 : decode cX11_takesOrder 50 = .ok (.iload 5, 2) := by decide +kernel
theorem dX11_takesOrder_52 : decode cX11_takesOrder 52 = .ok (.ifCond .lt 39, 3) := by decide +kernel
theorem dX11_takesOrder_55 : decode cX11_takesOrder 55 = .ok (.aload_n 0, 1) := by decide +kernel
theorem dX11_takesOrder_56 : decode cX11_takesOrder 56 = .ok (.getfield 101, 3) := by decide +kernel
theorem dX11_takesOrder_59 : decode cX11_takesOrder 59 = .ok (.iload 5, 2) := by decide +kernel
theorem dX11_takesOrder_61 : decode cX11_takesOrder 61 = .ok (.iload_n 3, 1) := by decide +kernel
theorem dX11_takesOrder_62 : decode cX11_takesOrder 62 = .ok (.bipush 10, 2) := by decide +kernel
theorem dX11_takesOrder_64 : decode cX11_takesOrder 64 = .ok (.irem, 1) := by decide +kernel
theorem dX11_takesOrder_65 : decode cX11_takesOrder 65 = .ok (.iastore, 1) := by decide +kernel
theorem dX11_takesOrder_66 : decode cX11_takesOrder 66 = .ok (.iload 4, 2) := by decide +kernel
theorem dX11_takesOrder_68 : decode cX11_takesOrder 68 = .ok (.iconst 1, 1) := by decide +kernel
theorem dX11_takesOrder_69 : decode cX11_takesOrder 69 = .ok (.aload_n 0, 1) := by decide +kernel
theorem dX11_takesOrder_70 : decode cX11_takesOrder 70 = .ok (.getfield 101, 3) := by decide +kernel
theorem dX11_takesOrder_73 : decode cX11_takesOrder 73 = .ok (.iload 5, 2) := by decide +kernel
theorem dX11_takesOrder_75 : decode cX11_takesOrder 75 = .ok (.iaload, 1) := by decide +kernel
theorem dX11_takesOrder_76 : decode cX11_takesOrder 76 = .ok (.ishl, 1) := by decide +kernel
theorem dX11_takesOrder_77 : decode cX11_takesOrder 77 = .ok (.ior, 1) := by decide +kernel
theorem dX11_takesOrder_78 : decode cX11_takesOrder 78 = .ok (.istore 4, 2) := by decide +kernel
theorem dX11_takesOrder_80 : decode cX11_takesOrder 80 = .ok (.iload_n 3, 1) := by decide +kernel
theorem dX11_takesOrder_81 : decode cX11_takesOrder 81 = .ok (.bipush 10, 2) := by decide +kernel
theorem dX11_takesOrder_83 : decode cX11_takesOrder 83 = .ok (.idiv, 1) := by decide +kernel
theorem dX11_takesOrder_84 : decode cX11_takesOrder 84 = .ok (.istore_n 3, 1) := by decide +kernel
theorem dX11_takesOrder_85 : decode cX11_takesOrder 85 = .ok (.iinc 5 (-1), 3) := by decide +kernel
theorem dX11_takesOrder_88 : decode cX11_takesOrder 88 = .ok (.goto (-38), 3) := by decide +kernel
theorem dX11_takesOrder_91 : decode cX11_takesOrder 91 = .ok (.iload_n 3, 1) := by decide +kernel
theorem dX11_takesOrder_92 : decode cX11_takesOrder 92 = .ok (.iconst 1, 1) := by decide +kernel
theorem dX11_takesOrder_93 : decode cX11_takesOrder 93 = .ok (.if_icmp .ne 17, 3) := by decide +kernel
theorem dX11_takesOrder_96 : decode cX11_takesOrder 96 = .ok (.iload 4, 2) := by decide +kernel
theorem dX11_takesOrder_98 : decode cX11_takesOrder 98 = .ok (.iconst 1, 1) := by decide +kernel
theorem dX11_takesOrder_99 : decode cX11_takesOrder 99 = .ok (.iload_n 2, 1) := by decide +kernel
theorem dX11_takesOrder_100 : decode cX11_takesOrder 100 = .ok (.ishl, 1) := by decide +kernel
theorem dX11_takesOrder_101 : decode cX11_takesOrder 101 = .ok (.iconst 1, 1) := by decide +kernel
theorem dX11_takesOrder_102 : decode cX11_takesOrder 102 = .ok (.isub, 1) := by decide +kernel
theorem dX11_takesOrder_103 : decode cX11_takesOrder 103 = .ok (.if_icmp .ne 7, 3) := by decide +kernel
theorem dX11_takesOrder_106 : decode cX11_takesOrder 106 = .ok (.iconst 1, 1) := by decide +kernel
theorem dX11_takesOrder_107 : decode cX11_takesOrder 107 = .ok (.goto 4, 3) := by decide +kernel
theorem dX11_takesOrder_110 : decode cX11_takesOrder 110 = .ok (.iconst 0, 1) := by decide +kernel
theorem dX11_takesOrder_111 : decode cX11_takesOrder 111 = .ok (.ireturn, 1) := by decide +kernel
def f_X11_takesOrder_50  (k50 : Int32 × Int32 × Int32 × Int32 × zHp → Option (Int32 × zHp)) (v2 : Int32) (v3 : Int32) (v4 : Int32) (v5 : Int32) (h : zHp) : Option (Int32 × zHp) := (if v5 < 0 then (if v3 = (1 : Int32) then (if v4 = (((1 : Int32) <<< (v2 &&& 31)) - (1 : Int32)) then some ((1 : Int32), h) else some ((0 : Int32), h)) else some ((0 : Int32), h)) else zix v5 8 (zlt (zst h 30 v5.toNatClampNeg (v3 - v3 / (10 : Int32) * (10 : Int32))) fun h1 => zix v5 8 (zlt (v4 ||| ((1 : Int32) <<< ((h1 30 v5.toNatClampNeg) &&& 31))) fun x2 => zlt (v3 / (10 : Int32)) fun x3 => k50 (v2, x3, x2, (v5 + (-1 : Int32)), h1))))
set_option maxHeartbeats 4000000 in
set_option maxRecDepth 100000 in
theorem f_X11_takesOrder_50_s  (k50 : Int32 × Int32 × Int32 × Int32 × zHp → Option (Int32 × zHp)) (H50 : ∀ v : Int32 × Int32 × Int32 × Int32 × zHp, Sim wM mX11_takesOrder 1 rI 50 [(0, .ref 0), (2, .int v.1), (3, .int v.2.1), (4, .int v.2.2.1), (5, .int v.2.2.2.1)] [] v.2.2.2.2 (k50 v)) (v2 : Int32) (v3 : Int32) (v4 : Int32) (v5 : Int32) (h : zHp) : Sim wM mX11_takesOrder 1 rI 50 [(0, .ref 0), (2, .int v2), (3, .int v3), (4, .int v4), (5, .int v5)] [] h (f_X11_takesOrder_50 k50 v2 v3 v4 v5 h) := by
  unfold f_X11_takesOrder_50
  refine Sim.iload 4 dX11_takesOrder_50 rfl ?_
  refine Sim.if_lt 91 dX11_takesOrder_52 rfl ?_ ?_
  · refine Sim.iload_n 2 dX11_takesOrder_91 rfl ?_
    refine Sim.iconst (v := (1 : Int32)) dX11_takesOrder_92 rfl ?_
    refine Sim.icmp_ne 110 dX11_takesOrder_93 rfl ?_ ?_
    · refine Sim.iload 3 dX11_takesOrder_96 rfl ?_
      refine Sim.iconst (v := (1 : Int32)) dX11_takesOrder_98 rfl ?_
      refine Sim.iload_n 1 dX11_takesOrder_99 rfl ?_
      refine Sim.ishl dX11_takesOrder_100 ?_
      refine Sim.iconst (v := (1 : Int32)) dX11_takesOrder_101 rfl ?_
      refine Sim.isub dX11_takesOrder_102 ?_
      refine Sim.icmp_ne 110 dX11_takesOrder_103 rfl ?_ ?_
      · refine Sim.iconst (v := (1 : Int32)) dX11_takesOrder_106 rfl ?_
        refine Sim.goto 111 dX11_takesOrder_107 rfl ?_
        exact Sim.nret dX11_takesOrder_111 rfl rfl
      · refine Sim.iconst (v := (0 : Int32)) dX11_takesOrder_110 rfl ?_
        exact Sim.nret dX11_takesOrder_111 rfl rfl
    · refine Sim.iconst (v := (0 : Int32)) dX11_takesOrder_110 rfl ?_
      exact Sim.nret dX11_takesOrder_111 rfl rfl
  · refine Sim.aload_n 0 dX11_takesOrder_55 rfl ?_
    refine Sim.getR (j := 30) fl_X11_101 dX11_takesOrder_56 mR_54 ?_
    refine Sim.iload 4 dX11_takesOrder_59 rfl ?_
    refine Sim.iload_n 2 dX11_takesOrder_61 rfl ?_
    refine Sim.bipush (v := (10 : Int32)) dX11_takesOrder_62 rfl ?_
    refine Sim.iremL dX11_takesOrder_64 (by decide) ?_
    refine Sim.iast (n := 8) dX11_takesOrder_65 mA_30 ?_
    refine Sim.lth (fun h1 => ?_)
    refine Sim.iload 3 dX11_takesOrder_66 rfl ?_
    refine Sim.iconst (v := (1 : Int32)) dX11_takesOrder_68 rfl ?_
    refine Sim.aload_n 0 dX11_takesOrder_69 rfl ?_
    refine Sim.getR (j := 30) fl_X11_101 dX11_takesOrder_70 mR_54 ?_
    refine Sim.iload 4 dX11_takesOrder_73 rfl ?_
    refine Sim.iald (n := 8) dX11_takesOrder_75 mA_30 ?_
    refine Sim.ishl dX11_takesOrder_76 ?_
    refine Sim.ior dX11_takesOrder_77 ?_
    refine Sim.lti (fun x2 => ?_)
    refine Sim.istore (L' := [(4, .int x2), (0, .ref 0), (2, .int v2), (3, .int v3), (5, .int v5)]) dX11_takesOrder_78 (Nat.le_of_ble_eq_true rfl) rfl ?_
    refine Sim.iload_n 3 dX11_takesOrder_80 rfl ?_
    refine Sim.bipush (v := (10 : Int32)) dX11_takesOrder_81 rfl ?_
    refine Sim.idivL dX11_takesOrder_83 (by decide) ?_
    refine Sim.lti (fun x3 => ?_)
    refine Sim.istore_n (L' := [(3, .int x3), (4, .int x2), (0, .ref 0), (2, .int v2), (5, .int v5)]) dX11_takesOrder_84 (Nat.le_of_ble_eq_true rfl) rfl ?_
    refine Sim.iinc (L' := [(5, .int (v5 + (-1 : Int32))), (3, .int x3), (4, .int x2), (0, .ref 0), (2, .int v2)]) 4 dX11_takesOrder_85 rfl rfl (Nat.le_of_ble_eq_true rfl) rfl ?_
    refine Sim.goto 50 dX11_takesOrder_88 rfl ?_
    refine Sim.locs [3, 4, 1, 2, 0] rfl ?_
    exact H50 (v2, x3, x2, (v5 + (-1 : Int32)), h1)
def f_X11_takesOrder_50_lp   (n : Nat) (v : Int32 × Int32 × Int32 × Int32 × zHp) : Option (Int32 × zHp) := zlp (fun k50 v => f_X11_takesOrder_50 k50 v.1 v.2.1 v.2.2.1 v.2.2.2.1 v.2.2.2.2) n v
theorem f_X11_takesOrder_50_ls  (n : Nat) (v : Int32 × Int32 × Int32 × Int32 × zHp) : Sim wM mX11_takesOrder 1 rI 50 [(0, .ref 0), (2, .int v.1), (3, .int v.2.1), (4, .int v.2.2.1), (5, .int v.2.2.2.1)] [] v.2.2.2.2 (f_X11_takesOrder_50_lp n v) :=
  Sim.lp (V := Int32 × Int32 × Int32 × Int32 × zHp) (Lf := fun v => [(0, .ref 0), (2, .int v.1), (3, .int v.2.1), (4, .int v.2.2.1), (5, .int v.2.2.2.1)]) (sf := fun v => []) (hf := fun v => v.2.2.2.2) (fun k50 H50 v => f_X11_takesOrder_50_s k50 H50 v.1 v.2.1 v.2.2.1 v.2.2.2.1 v.2.2.2.2) n v
def f_X11_takesOrder_4  (k4 : Int32 × Int32 × Int32 × zHp → Option (Int32 × zHp)) (v1 : Int32) (v2 : Int32) (v3 : Int32) (h : zHp) : Option (Int32 × zHp) := (if (9 : Int32) < v3 then zlt (v2 + (1 : Int32)) fun x1 => zlt (v3 / (10 : Int32)) fun x2 => k4 (v1, x1, x2, h) else (f_X11_isIn v2 (1 : Int32) (8 : Int32) h).bind fun x3 => (if x3.1 = 0 then some ((0 : Int32), x3.2) else zlt (zst x3.2 0 53 v2) fun h4 => zlt (v2 - (1 : Int32)) fun x5 => f_X11_takesOrder_50_lp  zN (v2, v1, (0 : Int32), x5, h4)))
set_option maxHeartbeats 4000000 in
set_option maxRecDepth 100000 in
theorem f_X11_takesOrder_4_s  (k4 : Int32 × Int32 × Int32 × zHp → Option (Int32 × zHp)) (H4 : ∀ v : Int32 × Int32 × Int32 × zHp, Sim wM mX11_takesOrder 1 rI 4 [(0, .ref 0), (1, .int v.1), (2, .int v.2.1), (3, .int v.2.2.1)] [] v.2.2.2 (k4 v)) (v1 : Int32) (v2 : Int32) (v3 : Int32) (h : zHp) : Sim wM mX11_takesOrder 1 rI 4 [(0, .ref 0), (1, .int v1), (2, .int v2), (3, .int v3)] [] h (f_X11_takesOrder_4 k4 v1 v2 v3 h) := by
  unfold f_X11_takesOrder_4
  refine Sim.iload_n 3 dX11_takesOrder_4 rfl ?_
  refine Sim.bipush (v := (9 : Int32)) dX11_takesOrder_5 rfl ?_
  refine Sim.icmp_le 22 dX11_takesOrder_7 rfl ?_ ?_
  · refine Sim.iload_n 2 dX11_takesOrder_10 rfl ?_
    refine Sim.iconst (v := (1 : Int32)) dX11_takesOrder_11 rfl ?_
    refine Sim.iadd dX11_takesOrder_12 ?_
    refine Sim.lti (fun x1 => ?_)
    refine Sim.istore_n (L' := [(2, .int x1), (0, .ref 0), (1, .int v1), (3, .int v3)]) dX11_takesOrder_13 (Nat.le_of_ble_eq_true rfl) rfl ?_
    refine Sim.iload_n 3 dX11_takesOrder_14 rfl ?_
    refine Sim.bipush (v := (10 : Int32)) dX11_takesOrder_15 rfl ?_
    refine Sim.idivL dX11_takesOrder_17 (by decide) ?_
    refine Sim.lti (fun x2 => ?_)
    refine Sim.istore_n (L' := [(3, .int x2), (2, .int x1), (0, .ref 0), (1, .int v1)]) dX11_takesOrder_18 (Nat.le_of_ble_eq_true rfl) rfl ?_
    refine Sim.goto 4 dX11_takesOrder_19 rfl ?_
    refine Sim.locs [2, 3, 1, 0] rfl ?_
    exact H4 (v1, x1, x2, h)
  · refine Sim.aload_n 0 dX11_takesOrder_22 rfl ?_
    refine Sim.iload_n 2 dX11_takesOrder_23 rfl ?_
    refine Sim.iconst (v := (1 : Int32)) dX11_takesOrder_24 rfl ?_
    refine Sim.bipush (v := (8 : Int32)) dX11_takesOrder_25 rfl ?_
    refine Sim.callV3I (d1 := 0) (s_X11_isIn v2 (1 : Int32) (8 : Int32) h) dX11_takesOrder_27 ml_X11_154 mv_X11_isIn mC (Nat.le_of_ble_eq_true rfl) (Nat.le_of_ble_eq_true rfl) (Nat.le_of_ble_eq_true rfl) (fun x3 => ?_)
    refine Sim.if_ne 35 dX11_takesOrder_30 rfl ?_ ?_
    · refine Sim.iconst (v := (0 : Int32)) dX11_takesOrder_33 rfl ?_
      exact Sim.nret dX11_takesOrder_34 rfl rfl
    · refine Sim.aload_n 0 dX11_takesOrder_35 rfl ?_
      refine Sim.iload_n 2 dX11_takesOrder_36 rfl ?_
      refine Sim.put fp_X11_460 dX11_takesOrder_37 mI_53 rfl rfl ?_
      refine Sim.lth (fun h4 => ?_)
      refine Sim.iload_n 1 dX11_takesOrder_40 rfl ?_
      refine Sim.istore_n (L' := [(3, .int v1), (0, .ref 0), (1, .int v1), (2, .int v2)]) dX11_takesOrder_41 (Nat.le_of_ble_eq_true rfl) rfl ?_
      refine Sim.iconst (v := (0 : Int32)) dX11_takesOrder_42 rfl ?_
      refine Sim.istore (L' := [(4, .int (0 : Int32)), (3, .int v1), (0, .ref 0), (1, .int v1), (2, .int v2)]) dX11_takesOrder_43 (Nat.le_of_ble_eq_true rfl) rfl ?_
      refine Sim.iload_n 4 dX11_takesOrder_45 rfl ?_
      refine Sim.iconst (v := (1 : Int32)) dX11_takesOrder_46 rfl ?_
      refine Sim.isub dX11_takesOrder_47 ?_
      refine Sim.lti (fun x5 => ?_)
      refine Sim.istore (L' := [(5, .int x5), (4, .int (0 : Int32)), (3, .int v1), (0, .ref 0), (1, .int v1), (2, .int v2)]) dX11_takesOrder_48 (Nat.le_of_ble_eq_true rfl) rfl ?_
      refine Sim.locs [3, 5, 2, 1, 0] rfl ?_
      exact f_X11_takesOrder_50_ls  zN (v2, v1, (0 : Int32), x5, h4)
def f_X11_takesOrder_4_lp   (n : Nat) (v : Int32 × Int32 × Int32 × zHp) : Option (Int32 × zHp) := zlp (fun k4 v => f_X11_takesOrder_4 k4 v.1 v.2.1 v.2.2.1 v.2.2.2) n v
theorem f_X11_takesOrder_4_ls  (n : Nat) (v : Int32 × Int32 × Int32 × zHp) : Sim wM mX11_takesOrder 1 rI 4 [(0, .ref 0), (1, .int v.1), (2, .int v.2.1), (3, .int v.2.2.1)] [] v.2.2.2 (f_X11_takesOrder_4_lp n v) :=
  Sim.lp (V := Int32 × Int32 × Int32 × zHp) (Lf := fun v => [(0, .ref 0), (1, .int v.1), (2, .int v.2.1), (3, .int v.2.2.1)]) (sf := fun v => []) (hf := fun v => v.2.2.2) (fun k4 H4 v => f_X11_takesOrder_4_s k4 H4 v.1 v.2.1 v.2.2.1 v.2.2.2) n v
def f_X11_takesOrder  (a1 : Int32) (h : zHp) : Option (Int32 × zHp) := f_X11_takesOrder_4_lp  zN (a1, (0 : Int32), a1, h)
set_option maxHeartbeats 4000000 in
set_option maxRecDepth 100000 in
theorem s_X11_takesOrder  (a1 : Int32) (h : zHp) : Fn wM mX11_takesOrder 1 rI [.ref 0, .int a1] h (f_X11_takesOrder a1 h) := by
  refine Fn.of rfl (Nat.le_of_ble_eq_true rfl) ?_
  unfold f_X11_takesOrder
  refine Sim.iconst (v := (0 : Int32)) dX11_takesOrder_0 rfl ?_
  refine Sim.istore_n (L' := [(2, .int (0 : Int32)), (0, .ref 0), (1, .int a1)]) dX11_takesOrder_1 (Nat.le_of_ble_eq_true rfl) rfl ?_
  refine Sim.iload_n 2 dX11_takesOrder_2 rfl ?_
  refine Sim.istore_n (L' := [(3, .int a1), (2, .int (0 : Int32)), (0, .ref 0), (1, .int a1)]) dX11_takesOrder_3 (Nat.le_of_ble_eq_true rfl) rfl ?_
  refine Sim.locs [2, 3, 1, 0] rfl ?_
  exact f_X11_takesOrder_4_ls  zN (a1, (0 : Int32), a1, h)
theorem mv_X11_takesOrder : zMV mX11_takesOrder 1 := ⟨⟨zTb_in 1941 (by decide +kernel) rfl, zTb_in 148 (by decide +kernel) rfl, ⟨by decide +kernel, by decide +kernel⟩, by decide +kernel⟩, zTb_in 1940 (by decide +kernel) rfl, zTb_in 121 (by decide +kernel) rfl⟩
-- ===== RockingPorchModel.canComeOff()Z
abbrev mX11_canComeOff : zMt := (yX11_canComeOff, cX11_canComeOff, 4, some .boolean)
theorem fl_X11_104 : zF RX11 104 11 55 := ⟨RX11, TX11, 69, rfl, Nat.le_of_ble_eq_true rfl, zTb_in 1354 (by decide +kernel) rfl, in_X11⟩
theorem fl_X11_460 : zF RX11 460 11 53 := ⟨RX11, TX11, 69, rfl, Nat.le_of_ble_eq_true rfl, zTb_in 1352 (by decide +kernel) rfl, in_X11⟩
theorem dX11_canComeOff_0 : decode cX11_canComeOff 0 = .ok (.iconst 0, 1) := by decide +kernel
theorem dX11_canComeOff_1 : decode cX11_canComeOff 1 = .ok (.istore_n 1, 1) := by decide +kernel
theorem dX11_canComeOff_2 : decode cX11_canComeOff 2 = .ok (.iconst 0, 1) := by decide +kernel
theorem dX11_canComeOff_3 : decode cX11_canComeOff 3 = .ok (.istore_n 2, 1) := by decide +kernel
theorem dX11_canComeOff_4 : decode cX11_canComeOff 4 = .ok (.iconst 0, 1) := by decide +kernel
theorem dX11_canComeOff_5 : decode cX11_canComeOff 5 = .ok (.istore_n 3, 1) := by decide +kernel
theorem dX11_canComeOff_6 : decode cX11_canComeOff 6 = .ok (.iload_n 3, 1) := by decide +kernel
theorem dX11_canComeOff_7 : decode cX11_canComeOff 7 = .ok (.aload_n 0, 1) := by decide +kernel
theorem dX11_canComeOff_8 : decode cX11_canComeOff 8 = .ok (.getfield 460, 3) := by decide +kernel
theorem dX11_canComeOff_11 : decode cX11_canComeOff 11 = .ok (.if_icmp .ge 60, 3) := by decide +kernel
theorem dX11_canComeOff_14 : decode cX11_canComeOff 14 = .ok (.iload_n 2, 1) := by decide +kernel
theorem dX11_canComeOff_15 : decode cX11_canComeOff 15 = .ok (.aload_n 0, 1) := by decide +kernel
theorem dX11_canComeOff_16 : decode cX11_canComeOff 16 = .ok (.getfield 101, 3) := by decide +kernel
theorem dX11_canComeOff_19 : decode cX11_canComeOff 19 = .ok (.iload_n 3, 1) := by decide +kernel
theorem dX11_canComeOff_20 : decode cX11_canComeOff 20 = .ok (.iaload, 1) := by decide +kernel
theorem dX11_canComeOff_21 : decode cX11_canComeOff 21 = .ok (.if_icmp .gt 21, 3) := by decide +kernel
theorem dX11_canComeOff_24 : decode cX11_canComeOff 24 = .ok (.aload_n 0, 1) := by decide +kernel
theorem dX11_canComeOff_25 : decode cX11_canComeOff 25 = .ok (.getfield 104, 3) := by decide +kernel
theorem dX11_canComeOff_28 : decode cX11_canComeOff 28 = .ok (.iload_n 1, 1) := by decide +kernel
theorem dX11_canComeOff_29 : decode cX11_canComeOff 29 = .ok (.iload_n 2, 1) := by decide +kernel
theorem dX11_canComeOff_30 : decode cX11_canComeOff 30 = .ok (.iastore, 1) := by decide +kernel
theorem dX11_canComeOff_31 : decode cX11_canComeOff 31 = .ok (.iload_n 1, 1) := by decide +kernel
theorem dX11_canComeOff_32 : decode cX11_canComeOff 32 = .ok (.iconst 1, 1) := by decide +kernel
theorem dX11_canComeOff_33 : decode cX11_canComeOff 33 = .ok (.iadd, 1) := by decide +kernel
theorem dX11_canComeOff_34 : decode cX11_canComeOff 34 = .ok (.istore_n 1, 1) := by decide +kernel
theorem dX11_canComeOff_35 : decode cX11_canComeOff 35 = .ok (.iload_n 2, 1) := by decide +kernel
theorem dX11_canComeOff_36 : decode cX11_canComeOff 36 = .ok (.iconst 1, 1) := by decide +kernel
theorem dX11_canComeOff_37 : decode cX11_canComeOff 37 = .ok (.iadd, 1) := by decide +kernel
theorem dX11_canComeOff_38 : decode cX11_canComeOff 38 = .ok (.istore_n 2, 1) := by decide +kernel
theorem dX11_canComeOff_39 : decode cX11_canComeOff 39 = .ok (.goto (-25), 3) := by decide +kernel
theorem dX11_canComeOff_42 : decode cX11_canComeOff 42 = .ok (.aload_n 0, 1) := by decide +kernel
theorem dX11_canComeOff_43 : decode cX11_canComeOff 43 = .ok (.getfield 104, 3) := by decide +kernel
theorem dX11_canComeOff_46 : decode cX11_canComeOff 46 = .ok (.iload_n 1, 1) := by decide +kernel
theorem dX11_canComeOff_47 : decode cX11_canComeOff 47 = .ok (.iconst 1, 1) := by decide +kernel
theorem dX11_canComeOff_48 : decode cX11_canComeOff 48 = .ok (.isub, 1) := by decide +kernel
theorem dX11_canComeOff_49 : decode cX11_canComeOff 49 = .ok (.iaload, 1) := by decide +kernel
theorem dX11_canComeOff_50 : decode cX11_canComeOff 50 = .ok (.aload_n 0, 1) := by decide +kernel
theorem dX11_canComeOff_51 : decode cX11_canComeOff 51 = .ok (.getfield 101, 3) := by decide +kernel
theorem dX11_canComeOff_54 : decode cX11_canComeOff 54 = .ok (.iload_n 3, 1) := by decide +kernel
theorem dX11_canComeOff_55 : decode cX11_canComeOff 55 = .ok (.iaload, 1) := by decide +kernel
theorem dX11_canComeOff_56 : decode cX11_canComeOff 56 = .ok (.if_icmp .eq 5, 3) := by decide +kernel
theorem dX11_canComeOff_59 : decode cX11_canComeOff 59 = .ok (.iconst 0, 1) := by decide +kernel
theorem dX11_canComeOff_60 : decode cX11_canComeOff 60 = .ok (.ireturn, 1) := by decide +kernel
theorem dX11_canComeOff_61 : decode cX11_canComeOff 61 = .ok (.iload_n 1, 1) := by decide +kernel
theorem dX11_canComeOff_62 : decode cX11_canComeOff 62 = .ok (.iconst 1, 1) := by decide +kernel
theorem dX11_canComeOff_63 : decode cX11_canComeOff 63 = .ok (.isub, 1) := by decide +kernel
theorem dX11_canComeOff_64 : decode cX11_canComeOff 64 = .ok (.istore_n 1, 1) := by decide +kernel
theorem dX11_canComeOff_65 : decode cX11_canComeOff 65 = .ok (.iinc 3 1, 3) := by decide +kernel
theorem dX11_canComeOff_68 : decode cX11_canComeOff 68 = .ok (.goto (-62), 3) := by decide +kernel
theorem dX11_canComeOff_71 : decode cX11_canComeOff 71 = .ok (.iconst 1, 1) := by decide +kernel
theorem dX11_canComeOff_72 : decode cX11_canComeOff 72 = .ok (.ireturn, 1) := by decide +kernel
def f_X11_canComeOff_14  (k6 : Int32 × Int32 × Int32 × zHp → Option (Int32 × zHp)) (k14 : Int32 × Int32 × Int32 × zHp → Option (Int32 × zHp)) (v1 : Int32) (v2 : Int32) (v3 : Int32) (h : zHp) : Option (Int32 × zHp) := zix v3 8 ((if (h 30 v3.toNatClampNeg) < v2 then zix (v1 - (1 : Int32)) 8 (zix v3 8 ((if (h 31 (v1 - (1 : Int32)).toNatClampNeg) = (h 30 v3.toNatClampNeg) then zlt (v1 - (1 : Int32)) fun x1 => k6 (x1, v2, (v3 + (1 : Int32)), h) else some ((0 : Int32), h)))) else zix v1 8 (zlt (zst h 31 v1.toNatClampNeg v2) fun h2 => zlt (v1 + (1 : Int32)) fun x3 => zlt (v2 + (1 : Int32)) fun x4 => k14 (x3, x4, v3, h2))))
set_option maxHeartbeats 4000000 in
set_option maxRecDepth 100000 in
theorem f_X11_canComeOff_14_s  (k6 : Int32 × Int32 × Int32 × zHp → Option (Int32 × zHp)) (H6 : ∀ v : Int32 × Int32 × Int32 × zHp, Sim wM mX11_canComeOff 0 rI 6 [(0, .ref 0), (1, .int v.1), (2, .int v.2.1), (3, .int v.2.2.1)] [] v.2.2.2 (k6 v)) (k14 : Int32 × Int32 × Int32 × zHp → Option (Int32 × zHp)) (H14 : ∀ v : Int32 × Int32 × Int32 × zHp, Sim wM mX11_canComeOff 0 rI 14 [(0, .ref 0), (1, .int v.1), (2, .int v.2.1), (3, .int v.2.2.1)] [] v.2.2.2 (k14 v)) (v1 : Int32) (v2 : Int32) (v3 : Int32) (h : zHp) : Sim wM mX11_canComeOff 0 rI 14 [(0, .ref 0), (1, .int v1), (2, .int v2), (3, .int v3)] [] h (f_X11_canComeOff_14 k6 k14 v1 v2 v3 h) := by
  unfold f_X11_canComeOff_14
  refine Sim.iload_n 2 dX11_canComeOff_14 rfl ?_
  refine Sim.aload_n 0 dX11_canComeOff_15 rfl ?_
  refine Sim.getR (j := 30) fl_X11_101 dX11_canComeOff_16 mR_54 ?_
  refine Sim.iload_n 3 dX11_canComeOff_19 rfl ?_
  refine Sim.iald (n := 8) dX11_canComeOff_20 mA_30 ?_
  refine Sim.icmp_gt 42 dX11_canComeOff_21 rfl ?_ ?_
  · refine Sim.aload_n 0 dX11_canComeOff_42 rfl ?_
    refine Sim.getR (j := 31) fl_X11_104 dX11_canComeOff_43 mR_55 ?_
    refine Sim.iload_n 1 dX11_canComeOff_46 rfl ?_
    refine Sim.iconst (v := (1 : Int32)) dX11_canComeOff_47 rfl ?_
    refine Sim.isub dX11_canComeOff_48 ?_
    refine Sim.iald (n := 8) dX11_canComeOff_49 mA_31 ?_
    refine Sim.aload_n 0 dX11_canComeOff_50 rfl ?_
    refine Sim.getR (j := 30) fl_X11_101 dX11_canComeOff_51 mR_54 ?_
    refine Sim.iload_n 3 dX11_canComeOff_54 rfl ?_
    refine Sim.iald (n := 8) dX11_canComeOff_55 mA_30 ?_
    refine Sim.icmp_eq 61 dX11_canComeOff_56 rfl ?_ ?_
    · refine Sim.iload_n 1 dX11_canComeOff_61 rfl ?_
      refine Sim.iconst (v := (1 : Int32)) dX11_canComeOff_62 rfl ?_
      refine Sim.isub dX11_canComeOff_63 ?_
      refine Sim.lti (fun x1 => ?_)
      refine Sim.istore_n (L' := [(1, .int x1), (0, .ref 0), (2, .int v2), (3, .int v3)]) dX11_canComeOff_64 (Nat.le_of_ble_eq_true rfl) rfl ?_
      refine Sim.iinc (L' := [(3, .int (v3 + (1 : Int32))), (1, .int x1), (0, .ref 0), (2, .int v2)]) 3 dX11_canComeOff_65 rfl rfl (Nat.le_of_ble_eq_true rfl) rfl ?_
      refine Sim.goto 6 dX11_canComeOff_68 rfl ?_
      refine Sim.locs [2, 1, 3, 0] rfl ?_
      exact H6 (x1, v2, (v3 + (1 : Int32)), h)
    · refine Sim.iconst (v := (0 : Int32)) dX11_canComeOff_59 rfl ?_
      exact Sim.nret dX11_canComeOff_60 rfl rfl
  · refine Sim.aload_n 0 dX11_canComeOff_24 rfl ?_
    refine Sim.getR (j := 31) fl_X11_104 dX11_canComeOff_25 mR_55 ?_
    refine Sim.iload_n 1 dX11_canComeOff_28 rfl ?_
    refine Sim.iload_n 2 dX11_canComeOff_29 rfl ?_
    refine Sim.iast (n := 8) dX11_canComeOff_30 mA_31 ?_
    refine Sim.lth (fun h2 => ?_)
    refine Sim.iload_n 1 dX11_canComeOff_31 rfl ?_
    refine Sim.iconst (v := (1 : Int32)) dX11_canComeOff_32 rfl ?_
    refine Sim.iadd dX11_canComeOff_33 ?_
    refine Sim.lti (fun x3 => ?_)
    refine Sim.istore_n (L' := [(1, .int x3), (0, .ref 0), (2, .int v2), (3, .int v3)]) dX11_canComeOff_34 (Nat.le_of_ble_eq_true rfl) rfl ?_
    refine Sim.iload_n 2 dX11_canComeOff_35 rfl ?_
    refine Sim.iconst (v := (1 : Int32)) dX11_canComeOff_36 rfl ?_
    refine Sim.iadd dX11_canComeOff_37 ?_
    refine Sim.lti (fun x4 => ?_)
    refine Sim.istore_n (L' := [(2, .int x4), (1, .int x3), (0, .ref 0), (3, .int v3)]) dX11_canComeOff_38 (Nat.le_of_ble_eq_true rfl) rfl ?_
    refine Sim.goto 14 dX11_canComeOff_39 rfl ?_
    refine Sim.locs [2, 1, 0, 3] rfl ?_
    exact H14 (x3, x4, v3, h2)
def f_X11_canComeOff_14_lp  (k6 : Int32 × Int32 × Int32 × zHp → Option (Int32 × zHp)) (n : Nat) (v : Int32 × Int32 × Int32 × zHp) : Option (Int32 × zHp) := zlp (fun k14 v => f_X11_canComeOff_14 k6 k14 v.1 v.2.1 v.2.2.1 v.2.2.2) n v
theorem f_X11_canComeOff_14_ls  (k6 : Int32 × Int32 × Int32 × zHp → Option (Int32 × zHp)) (H6 : ∀ v : Int32 × Int32 × Int32 × zHp, Sim wM mX11_canComeOff 0 rI 6 [(0, .ref 0), (1, .int v.1), (2, .int v.2.1), (3, .int v.2.2.1)] [] v.2.2.2 (k6 v)) (n : Nat) (v : Int32 × Int32 × Int32 × zHp) : Sim wM mX11_canComeOff 0 rI 14 [(0, .ref 0), (1, .int v.1), (2, .int v.2.1), (3, .int v.2.2.1)] [] v.2.2.2 (f_X11_canComeOff_14_lp k6 n v) :=
  Sim.lp (V := Int32 × Int32 × Int32 × zHp) (Lf := fun v => [(0, .ref 0), (1, .int v.1), (2, .int v.2.1), (3, .int v.2.2.1)]) (sf := fun v => []) (hf := fun v => v.2.2.2) (fun k14 H14 v => f_X11_canComeOff_14_s k6 H6 k14 H14 v.1 v.2.1 v.2.2.1 v.2.2.2) n v
def f_X11_canComeOff_6  (k6 : Int32 × Int32 × Int32 × zHp → Option (Int32 × zHp)) (v1 : Int32) (v2 : Int32) (v3 : Int32) (h : zHp) : Option (Int32 × zHp) := (if v3 < (h 0 53) then f_X11_canComeOff_14_lp k6 zN (v1, v2, v3, h) else some ((1 : Int32), h))
set_option maxHeartbeats 4000000 in
set_option maxRecDepth 100000 in
theorem f_X11_canComeOff_6_s  (k6 : Int32 × Int32 × Int32 × zHp → Option (Int32 × zHp)) (H6 : ∀ v : Int32 × Int32 × Int32 × zHp, Sim wM mX11_canComeOff 0 rI 6 [(0, .ref 0), (1, .int v.1), (2, .int v.2.1), (3, .int v.2.2.1)] [] v.2.2.2 (k6 v)) (v1 : Int32) (v2 : Int32) (v3 : Int32) (h : zHp) : Sim wM mX11_canComeOff 0 rI 6 [(0, .ref 0), (1, .int v1), (2, .int v2), (3, .int v3)] [] h (f_X11_canComeOff_6 k6 v1 v2 v3 h) := by
  unfold f_X11_canComeOff_6
  refine Sim.iload_n 3 dX11_canComeOff_6 rfl ?_
  refine Sim.aload_n 0 dX11_canComeOff_7 rfl ?_
  refine Sim.getI fl_X11_460 dX11_canComeOff_8 mI_53 ?_
  refine Sim.icmp_ge 71 dX11_canComeOff_11 rfl ?_ ?_
  · exact f_X11_canComeOff_14_ls k6 H6 zN (v1, v2, v3, h)
  · refine Sim.iconst (v := (1 : Int32)) dX11_canComeOff_71 rfl ?_
    exact Sim.nret dX11_canComeOff_72 rfl rfl
def f_X11_canComeOff_6_lp   (n : Nat) (v : Int32 × Int32 × Int32 × zHp) : Option (Int32 × zHp) := zlp (fun k6 v => f_X11_canComeOff_6 k6 v.1 v.2.1 v.2.2.1 v.2.2.2) n v
theorem f_X11_canComeOff_6_ls  (n : Nat) (v : Int32 × Int32 × Int32 × zHp) : Sim wM mX11_canComeOff 0 rI 6 [(0, .ref 0), (1, .int v.1), (2, .int v.2.1), (3, .int v.2.2.1)] [] v.2.2.2 (f_X11_canComeOff_6_lp n v) :=
  Sim.lp (V := Int32 × Int32 × Int32 × zHp) (Lf := fun v => [(0, .ref 0), (1, .int v.1), (2, .int v.2.1), (3, .int v.2.2.1)]) (sf := fun v => []) (hf := fun v => v.2.2.2) (fun k6 H6 v => f_X11_canComeOff_6_s k6 H6 v.1 v.2.1 v.2.2.1 v.2.2.2) n v
def f_X11_canComeOff   (h : zHp) : Option (Int32 × zHp) := f_X11_canComeOff_6_lp  zN ((0 : Int32), (0 : Int32), (0 : Int32), h)
set_option maxHeartbeats 4000000 in
set_option maxRecDepth 100000 in
theorem s_X11_canComeOff   (h : zHp) : Fn wM mX11_canComeOff 0 rI [.ref 0] h (f_X11_canComeOff  h) := by
  refine Fn.of rfl (Nat.le_of_ble_eq_true rfl) ?_
  unfold f_X11_canComeOff
  refine Sim.iconst (v := (0 : Int32)) dX11_canComeOff_0 rfl ?_
  refine Sim.istore_n (L' := [(1, .int (0 : Int32)), (0, .ref 0)]) dX11_canComeOff_1 (Nat.le_of_ble_eq_true rfl) rfl ?_
  refine Sim.iconst (v := (0 : Int32)) dX11_canComeOff_2 rfl ?_
  refine Sim.istore_n (L' := [(2, .int (0 : Int32)), (1, .int (0 : Int32)), (0, .ref 0)]) dX11_canComeOff_3 (Nat.le_of_ble_eq_true rfl) rfl ?_
  refine Sim.iconst (v := (0 : Int32)) dX11_canComeOff_4 rfl ?_
  refine Sim.istore_n (L' := [(3, .int (0 : Int32)), (2, .int (0 : Int32)), (1, .int (0 : Int32)), (0, .ref 0)]) dX11_canComeOff_5 (Nat.le_of_ble_eq_true rfl) rfl ?_
  refine Sim.locs [3, 2, 1, 0] rfl ?_
  exact f_X11_canComeOff_6_ls  zN ((0 : Int32), (0 : Int32), (0 : Int32), h)
theorem mv_X11_canComeOff : zMV mX11_canComeOff 0 := ⟨⟨zTb_in 1949 (by decide +kernel) rfl, zTb_in 148 (by decide +kernel) rfl, ⟨by decide +kernel, by decide +kernel⟩, by decide +kernel⟩, zTb_in 1948 (by decide +kernel) rfl, zTb_in 123 (by decide +kernel) rfl⟩
-- ===== RockingPorchModel.tracks()I
abbrev mX11_tracks : zMt := (yX11_tracks, cX11_tracks, 4, some .int)
theorem dX11_tracks_0 : decode cX11_tracks 0 = .ok (.iconst 0, 1) := by decide +kernel
theorem dX11_tracks_1 : decode cX11_tracks 1 = .ok (.istore_n 1, 1) := by decide +kernel
theorem dX11_tracks_2 : decode cX11_tracks 2 = .ok (.iconst 0, 1) := by decide +kernel
theorem dX11_tracks_3 : decode cX11_tracks 3 = .ok (.istore_n 2, 1) := by decide +kernel
theorem dX11_tracks_4 : decode cX11_tracks 4 = .ok (.iload_n 2, 1) := by decide +kernel
theorem dX11_tracks_5 : decode cX11_tracks 5 = .ok (.aload_n 0, 1) := by decide +kernel
theorem dX11_tracks_6 : decode cX11_tracks 6 = .ok (.getfield 460, 3) := by decide +kernel
theorem dX11_tracks_9 : decode cX11_tracks 9 = .ok (.if_icmp .ge 80, 3) := by decide +kernel
theorem dX11_tracks_12 : decode cX11_tracks 12 = .ok (.aload_n 0, 1) := by decide +kernel
theorem dX11_tracks_13 : decode cX11_tracks 13 = .ok (.getfield 104, 3) := by decide +kernel
theorem dX11_tracks_16 : decode cX11_tracks 16 = .ok (.iload_n 2, 1) := by decide +kernel
theorem dX11_tracks_17 : decode cX11_tracks 17 = .ok (.iconst 1, 1) := by decide +kernel
theorem dX11_tracks_18 : decode cX11_tracks 18 = .ok (.iastore, 1) := by decide +kernel
theorem dX11_tracks_19 : decode cX11_tracks 19 = .ok (.iconst 0, 1) := by decide +kernel
theorem dX11_tracks_20 : decode cX11_tracks 20 = .ok (.istore_n 3, 1) := by decide +kernel
theorem dX11_tracks_21 : decode cX11_tracks 21 = .ok (.iload_n 3, 1) := by decide +kernel
theorem dX11_tracks_22 : decode cX11_tracks 22 = .ok (.iload_n 2, 1) := by decide +kernel
theorem dX11_tracks_23 : decode cX11_tracks 23 = .ok (.if_icmp .ge 48, 3) := by decide +kernel
theorem dX11_tracks_26 : decode cX11_tracks 26 = .ok (.aload_n 0, 1) := by decide +kernel
theorem dX11_tracks_27 : decode cX11_tracks 27 = .ok (.getfield 101, 3) := by decide +kernel
theorem dX11_tracks_30 : decode cX11_tracks 30 = .ok (.iload_n 3, 1) := by decide +kernel
theorem dX11_tracks_31 : decode cX11_tracks 31 = .ok (.iaload, 1) := by decide +kernel
theorem dX11_tracks_32 : decode cX11_tracks 32 = .ok (.aload_n 0, 1) := by decide +kernel
theorem dX11_tracks_33 : decode cX11_tracks 33 = .ok (.getfield 101, 3) := by decide +kernel
theorem dX11_tracks_36 : decode cX11_tracks 36 = .ok (.iload_n 2, 1) := by decide +kernel
theorem dX11_tracks_37 : decode cX11_tracks 37 = .ok (.iaload, 1) := by decide +kernel
theorem dX11_tracks_38 : decode cX11_tracks 38 = .ok (.if_icmp .le 27, 3) := by decide +kernel
theorem dX11_tracks_41 : decode cX11_tracks 41 = .ok (.aload_n 0, 1) := by decide +kernel
theorem dX11_tracks_42 : decode cX11_tracks 42 = .ok (.getfield 104, 3) := by decide +kernel
theorem dX11_tracks_45 : decode cX11_tracks 45 = .ok (.iload_n 2, 1) := by decide +kernel
theorem dX11_tracks_46 : decode cX11_tracks 46 = .ok (.aload_n 0, 1) := by decide +kernel
theorem dX11_tracks_47 : decode cX11_tracks 47 = .ok (.aload_n 0, 1) := by decide +kernel
theorem dX11_tracks_48 : decode cX11_tracks 48 = .ok (.getfield 104, 3) := by decide +kernel
theorem dX11_tracks_51 : decode cX11_tracks 51 = .ok (.iload_n 2, 1) := by decide +kernel
theorem dX11_tracks_52 : decode cX11_tracks 52 = .ok (.iaload, 1) := by decide +kernel
theorem dX11_tracks_53 : decode cX11_tracks 53 = .ok (.aload_n 0, 1) := by decide +kernel
theorem dX11_tracks_54 : decode cX11_tracks 54 = .ok (.getfield 104, 3) := by decide +kernel
theorem dX11_tracks_57 : decode cX11_tracks 57 = .ok (.iload_n 3, 1) := by decide +kernel
theorem dX11_tracks_58 : decode cX11_tracks 58 = .ok (.iaload, 1) := by decide +kernel
theorem dX11_tracks_59 : decode cX11_tracks 59 = .ok (.iconst 1, 1) := by decide +kernel
theorem dX11_tracks_60 : decode cX11_tracks 60 = .ok (.iadd, 1) := by decide +kernel
theorem dX11_tracks_61 : decode cX11_tracks 61 = .ok (.invokevirtual 394, 3) := by decide +kernel
theorem dX11_tracks_64 : decode cX11_tracks 64 = .ok (.iastore, 1) := by decide +kernel
theorem dX11_tracks_65 : decode cX11_tracks 65 = .ok (.iinc 3 1, 3) := by decide +kernel
theorem dX11_tracks_68 : decode cX11_tracks 68 = .ok (.goto (-47), 3) := by decide +kernel
theorem dX11_tracks_71 : decode cX11_tracks 71 = .ok (.aload_n 0, 1) := by decide +kernel
theorem dX11_tracks_72 : decode cX11_tracks 72 = .ok (.iload_n 1, 1) := by decide +kernel
theorem dX11_tracks_73 : decode cX11_tracks 73 = .ok (.aload_n 0, 1) := by decide +kernel
theorem dX11_tracks_74 : decode cX11_tracks 74 = .ok (.getfield 104, 3) := by decide +kernel
theorem dX11_tracks_77 : decode cX11_tracks 77 = .ok (.iload_n 2, 1) := by decide +kernel
theorem dX11_tracks_78 : decode cX11_tracks 78 = .ok (.iaload, 1) := by decide +kernel
theorem dX11_tracks_79 : decode cX11_tracks 79 = .ok (.invokevirtual 394, 3) := by decide +kernel
theorem dX11_tracks_82 : decode cX11_tracks 82 = .ok (.istore_n 1, 1) := by decide +kernel
theorem dX11_tracks_83 : decode cX11_tracks 83 = .ok (.iinc 2 1, 3) := by decide +kernel
theorem dX11_tracks_86 : decode cX11_tracks 86 = .ok (.goto (-82), 3) := by decide +kernel
theorem dX11_tracks_89 : decode cX11_tracks 89 = .ok (.iload_n 1, 1) := by decide +kernel
theorem dX11_tracks_90 : decode cX11_tracks 90 = .ok (.ireturn, 1) := by decide +kernel
def f_X11_tracks_21  (k4 : Int32 × Int32 × zHp → Option (Int32 × zHp)) (k21 : Int32 × Int32 × Int32 × zHp → Option (Int32 × zHp)) (v1 : Int32) (v2 : Int32) (v3 : Int32) (h : zHp) : Option (Int32 × zHp) := (if v3 < v2 then zix v3 8 (zix v2 8 ((if (h 30 v2.toNatClampNeg) < (h 30 v3.toNatClampNeg) then zix v2 8 (zix v3 8 ((f_X11_greater (h 31 v2.toNatClampNeg) ((h 31 v3.toNatClampNeg) + (1 : Int32)) h).bind fun x1 => zix v2 8 (zlt (zst x1.2 31 v2.toNatClampNeg x1.1) fun h2 => k21 (v1, v2, (v3 + (1 : Int32)), h2)))) else k21 (v1, v2, (v3 + (1 : Int32)), h)))) else zix v2 8 ((f_X11_greater v1 (h 31 v2.toNatClampNeg) h).bind fun x3 => k4 (x3.1, (v2 + (1 : Int32)), x3.2)))
set_option maxHeartbeats 4000000 in
set_option maxRecDepth 100000 in
theorem f_X11_tracks_21_s  (k4 : Int32 × Int32 × zHp → Option (Int32 × zHp)) (H4 : ∀ v : Int32 × Int32 × zHp, Sim wM mX11_tracks 1 rI 4 [(0, .ref 0), (1, .int v.1), (2, .int v.2.1)] [] v.2.2 (k4 v)) (k21 : Int32 × Int32 × Int32 × zHp → Option (Int32 × zHp)) (H21 : ∀ v : Int32 × Int32 × Int32 × zHp, Sim wM mX11_tracks 1 rI 21 [(0, .ref 0), (1, .int v.1), (2, .int v.2.1), (3, .int v.2.2.1)] [] v.2.2.2 (k21 v)) (v1 : Int32) (v2 : Int32) (v3 : Int32) (h : zHp) : Sim wM mX11_tracks 1 rI 21 [(0, .ref 0), (1, .int v1), (2, .int v2), (3, .int v3)] [] h (f_X11_tracks_21 k4 k21 v1 v2 v3 h) := by
  unfold f_X11_tracks_21
  refine Sim.iload_n 3 dX11_tracks_21 rfl ?_
  refine Sim.iload_n 2 dX11_tracks_22 rfl ?_
  refine Sim.icmp_ge 71 dX11_tracks_23 rfl ?_ ?_
  · refine Sim.aload_n 0 dX11_tracks_26 rfl ?_
    refine Sim.getR (j := 30) fl_X11_101 dX11_tracks_27 mR_54 ?_
    refine Sim.iload_n 3 dX11_tracks_30 rfl ?_
    refine Sim.iald (n := 8) dX11_tracks_31 mA_30 ?_
    refine Sim.aload_n 0 dX11_tracks_32 rfl ?_
    refine Sim.getR (j := 30) fl_X11_101 dX11_tracks_33 mR_54 ?_
    refine Sim.iload_n 2 dX11_tracks_36 rfl ?_
    refine Sim.iald (n := 8) dX11_tracks_37 mA_30 ?_
    refine Sim.icmp_le 65 dX11_tracks_38 rfl ?_ ?_
    · refine Sim.aload_n 0 dX11_tracks_41 rfl ?_
      refine Sim.getR (j := 31) fl_X11_104 dX11_tracks_42 mR_55 ?_
      refine Sim.iload_n 2 dX11_tracks_45 rfl ?_
      refine Sim.aload_n 0 dX11_tracks_46 rfl ?_
      refine Sim.aload_n 0 dX11_tracks_47 rfl ?_
      refine Sim.getR (j := 31) fl_X11_104 dX11_tracks_48 mR_55 ?_
      refine Sim.iload_n 2 dX11_tracks_51 rfl ?_
      refine Sim.iald (n := 8) dX11_tracks_52 mA_31 ?_
      refine Sim.aload_n 0 dX11_tracks_53 rfl ?_
      refine Sim.getR (j := 31) fl_X11_104 dX11_tracks_54 mR_55 ?_
      refine Sim.iload_n 3 dX11_tracks_57 rfl ?_
      refine Sim.iald (n := 8) dX11_tracks_58 mA_31 ?_
      refine Sim.iconst (v := (1 : Int32)) dX11_tracks_59 rfl ?_
      refine Sim.iadd dX11_tracks_60 ?_
      refine Sim.callV2I (d1 := 0) (s_X11_greater (h 31 v2.toNatClampNeg) ((h 31 v3.toNatClampNeg) + (1 : Int32)) h) dX11_tracks_61 ml_X11_394 mv_X11_greater mC (Nat.le_of_ble_eq_true rfl) (Nat.le_of_ble_eq_true rfl) (Nat.le_of_ble_eq_true rfl) (fun x1 => ?_)
      refine Sim.iast (n := 8) dX11_tracks_64 mA_31 ?_
      refine Sim.lth (fun h2 => ?_)
      refine Sim.iinc (L' := [(3, .int (v3 + (1 : Int32))), (0, .ref 0), (1, .int v1), (2, .int v2)]) 3 dX11_tracks_65 rfl rfl (Nat.le_of_ble_eq_true rfl) rfl ?_
      refine Sim.goto 21 dX11_tracks_68 rfl ?_
      refine Sim.locs [1, 2, 3, 0] rfl ?_
      exact H21 (v1, v2, (v3 + (1 : Int32)), h2)
    · refine Sim.iinc (L' := [(3, .int (v3 + (1 : Int32))), (0, .ref 0), (1, .int v1), (2, .int v2)]) 3 dX11_tracks_65 rfl rfl (Nat.le_of_ble_eq_true rfl) rfl ?_
      refine Sim.goto 21 dX11_tracks_68 rfl ?_
      refine Sim.locs [1, 2, 3, 0] rfl ?_
      exact H21 (v1, v2, (v3 + (1 : Int32)), h)
  · refine Sim.aload_n 0 dX11_tracks_71 rfl ?_
    refine Sim.iload_n 1 dX11_tracks_72 rfl ?_
    refine Sim.aload_n 0 dX11_tracks_73 rfl ?_
    refine Sim.getR (j := 31) fl_X11_104 dX11_tracks_74 mR_55 ?_
    refine Sim.iload_n 2 dX11_tracks_77 rfl ?_
    refine Sim.iald (n := 8) dX11_tracks_78 mA_31 ?_
    refine Sim.callV2I (d1 := 0) (s_X11_greater v1 (h 31 v2.toNatClampNeg) h) dX11_tracks_79 ml_X11_394 mv_X11_greater mC (Nat.le_of_ble_eq_true rfl) (Nat.le_of_ble_eq_true rfl) (Nat.le_of_ble_eq_true rfl) (fun x3 => ?_)
    refine Sim.istore_n (L' := [(1, .int x3.1), (0, .ref 0), (2, .int v2), (3, .int v3)]) dX11_tracks_82 (Nat.le_of_ble_eq_true rfl) rfl ?_
    refine Sim.iinc (L' := [(2, .int (v2 + (1 : Int32))), (1, .int x3.1), (0, .ref 0), (3, .int v3)]) 2 dX11_tracks_83 rfl rfl (Nat.le_of_ble_eq_true rfl) rfl ?_
    refine Sim.goto 4 dX11_tracks_86 rfl ?_
    refine Sim.locs [2, 1, 0] rfl ?_
    exact H4 (x3.1, (v2 + (1 : Int32)), x3.2)
def f_X11_tracks_21_lp  (k4 : Int32 × Int32 × zHp → Option (Int32 × zHp)) (n : Nat) (v : Int32 × Int32 × Int32 × zHp) : Option (Int32 × zHp) := zlp (fun k21 v => f_X11_tracks_21 k4 k21 v.1 v.2.1 v.2.2.1 v.2.2.2) n v
theorem f_X11_tracks_21_ls  (k4 : Int32 × Int32 × zHp → Option (Int32 × zHp)) (H4 : ∀ v : Int32 × Int32 × zHp, Sim wM mX11_tracks 1 rI 4 [(0, .ref 0), (1, .int v.1), (2, .int v.2.1)] [] v.2.2 (k4 v)) (n : Nat) (v : Int32 × Int32 × Int32 × zHp) : Sim wM mX11_tracks 1 rI 21 [(0, .ref 0), (1, .int v.1), (2, .int v.2.1), (3, .int v.2.2.1)] [] v.2.2.2 (f_X11_tracks_21_lp k4 n v) :=
  Sim.lp (V := Int32 × Int32 × Int32 × zHp) (Lf := fun v => [(0, .ref 0), (1, .int v.1), (2, .int v.2.1), (3, .int v.2.2.1)]) (sf := fun v => []) (hf := fun v => v.2.2.2) (fun k21 H21 v => f_X11_tracks_21_s k4 H4 k21 H21 v.1 v.2.1 v.2.2.1 v.2.2.2) n v
def f_X11_tracks_4  (k4 : Int32 × Int32 × zHp → Option (Int32 × zHp)) (v1 : Int32) (v2 : Int32) (h : zHp) : Option (Int32 × zHp) := (if v2 < (h 0 53) then zix v2 8 (zlt (zst h 31 v2.toNatClampNeg (1 : Int32)) fun h1 => f_X11_tracks_21_lp k4 zN (v1, v2, (0 : Int32), h1)) else some (v1, h))
set_option maxHeartbeats 4000000 in
set_option maxRecDepth 100000 in
theorem f_X11_tracks_4_s  (k4 : Int32 × Int32 × zHp → Option (Int32 × zHp)) (H4 : ∀ v : Int32 × Int32 × zHp, Sim wM mX11_tracks 1 rI 4 [(0, .ref 0), (1, .int v.1), (2, .int v.2.1)] [] v.2.2 (k4 v)) (v1 : Int32) (v2 : Int32) (h : zHp) : Sim wM mX11_tracks 1 rI 4 [(0, .ref 0), (1, .int v1), (2, .int v2)] [] h (f_X11_tracks_4 k4 v1 v2 h) := by
  unfold f_X11_tracks_4
  refine Sim.iload_n 2 dX11_tracks_4 rfl ?_
  refine Sim.aload_n 0 dX11_tracks_5 rfl ?_
  refine Sim.getI fl_X11_460 dX11_tracks_6 mI_53 ?_
  refine Sim.icmp_ge 89 dX11_tracks_9 rfl ?_ ?_
  · refine Sim.aload_n 0 dX11_tracks_12 rfl ?_
    refine Sim.getR (j := 31) fl_X11_104 dX11_tracks_13 mR_55 ?_
    refine Sim.iload_n 2 dX11_tracks_16 rfl ?_
    refine Sim.iconst (v := (1 : Int32)) dX11_tracks_17 rfl ?_
    refine Sim.iast (n := 8) dX11_tracks_18 mA_31 ?_
    refine Sim.lth (fun h1 => ?_)
    refine Sim.iconst (v := (0 : Int32)) dX11_tracks_19 rfl ?_
    refine Sim.istore_n (L' := [(3, .int (0 : Int32)), (0, .ref 0), (1, .int v1), (2, .int v2)]) dX11_tracks_20 (Nat.le_of_ble_eq_true rfl) rfl ?_
    refine Sim.locs [1, 2, 3, 0] rfl ?_
    exact f_X11_tracks_21_ls k4 H4 zN (v1, v2, (0 : Int32), h1)
  · refine Sim.iload_n 1 dX11_tracks_89 rfl ?_
    exact Sim.iret dX11_tracks_90 rfl
def f_X11_tracks_4_lp   (n : Nat) (v : Int32 × Int32 × zHp) : Option (Int32 × zHp) := zlp (fun k4 v => f_X11_tracks_4 k4 v.1 v.2.1 v.2.2) n v
theorem f_X11_tracks_4_ls  (n : Nat) (v : Int32 × Int32 × zHp) : Sim wM mX11_tracks 1 rI 4 [(0, .ref 0), (1, .int v.1), (2, .int v.2.1)] [] v.2.2 (f_X11_tracks_4_lp n v) :=
  Sim.lp (V := Int32 × Int32 × zHp) (Lf := fun v => [(0, .ref 0), (1, .int v.1), (2, .int v.2.1)]) (sf := fun v => []) (hf := fun v => v.2.2) (fun k4 H4 v => f_X11_tracks_4_s k4 H4 v.1 v.2.1 v.2.2) n v
def f_X11_tracks   (h : zHp) : Option (Int32 × zHp) := f_X11_tracks_4_lp  zN ((0 : Int32), (0 : Int32), h)
set_option maxHeartbeats 4000000 in
set_option maxRecDepth 100000 in
theorem s_X11_tracks   (h : zHp) : Fn wM mX11_tracks 1 rI [.ref 0] h (f_X11_tracks  h) := by
  refine Fn.of rfl (Nat.le_of_ble_eq_true rfl) ?_
  unfold f_X11_tracks
  refine Sim.iconst (v := (0 : Int32)) dX11_tracks_0 rfl ?_
  refine Sim.istore_n (L' := [(1, .int (0 : Int32)), (0, .ref 0)]) dX11_tracks_1 (Nat.le_of_ble_eq_true rfl) rfl ?_
  refine Sim.iconst (v := (0 : Int32)) dX11_tracks_2 rfl ?_
  refine Sim.istore_n (L' := [(2, .int (0 : Int32)), (1, .int (0 : Int32)), (0, .ref 0)]) dX11_tracks_3 (Nat.le_of_ble_eq_true rfl) rfl ?_
  refine Sim.locs [2, 1, 0] rfl ?_
  exact f_X11_tracks_4_ls  zN ((0 : Int32), (0 : Int32), h)
theorem mv_X11_tracks : zMV mX11_tracks 0 := ⟨⟨zTb_in 1945 (by decide +kernel) rfl, zTb_in 148 (by decide +kernel) rfl, ⟨by decide +kernel, by decide +kernel⟩, by decide +kernel⟩, zTb_in 1944 (by decide +kernel) rfl, zTb_in 122 (by decide +kernel) rfl⟩
-- ===== RockingPorchModel.stack(II)I
abbrev mX11_stack : zMt := (yX11_stack, cX11_stack, 3, some .int)
theorem ml_X11_463 : Cond.methodLink RX11 463 yX11_takesOrder ∈ zTb := zTb_in 1938 (by decide +kernel) rfl
theorem ml_X11_466 : Cond.methodLink RX11 466 yX11_tracks ∈ zTb := zTb_in 1942 (by decide +kernel) rfl
theorem ml_X11_469 : Cond.methodLink RX11 469 yX11_canComeOff ∈ zTb := zTb_in 1946 (by decide +kernel) rfl
theorem dX11_stack_0 : decode cX11_stack 0 = .ok (.aload_n 0, 1) := by decide +kernel
theorem dX11_stack_1 : decode cX11_stack 1 = .ok (.iconst 0, 1) := by decide +kernel
theorem dX11_stack_2 : decode cX11_stack 2 = .ok (.putfield 128, 3) := by decide +kernel
theorem dX11_stack_5 : decode cX11_stack 5 = .ok (.aload_n 0, 1) := by decide +kernel
theorem dX11_stack_6 : decode cX11_stack 6 = .ok (.iload_n 2, 1) := by decide +kernel
theorem dX11_stack_7 : decode cX11_stack 7 = .ok (.iconst 0, 1) := by decide +kernel
theorem dX11_stack_8 : decode cX11_stack 8 = .ok (.iconst 1, 1) := by decide +kernel
theorem dX11_stack_9 : decode cX11_stack 9 = .ok (.invokevirtual 154, 3) := by decide +kernel
theorem dX11_stack_12 : decode cX11_stack 12 = .ok (.ifCond .eq 11, 3) := by decide +kernel
theorem dX11_stack_15 : decode cX11_stack 15 = .ok (.aload_n 0, 1) := by decide +kernel
theorem dX11_stack_16 : decode cX11_stack 16 = .ok (.iload_n 1, 1) := by decide +kernel
theorem dX11_stack_17 : decode cX11_stack 17 = .ok (.invokevirtual 463, 3) := by decide +kernel
theorem dX11_stack_20 : decode cX11_stack 20 = .ok (.ifCond .ne 5, 3) := by decide +kernel
theorem dX11_stack_23 : decode cX11_stack 23 = .ok (.iconst (-1), 1) := by decide +kernel
theorem dX11_stack_24 : decode cX11_stack 24 = .ok (.ireturn, 1) := by decide +kernel
theorem dX11_stack_25 : decode cX11_stack 25 = .ok (.iload_n 2, 1) := by decide +kernel
theorem dX11_stack_26 : decode cX11_stack 26 = .ok (.iconst 1, 1) := by decide +kernel
theorem dX11_stack_27 : decode cX11_stack 27 = .ok (.if_icmp .ne 10, 3) := by decide +kernel
theorem dX11_stack_30 : decode cX11_stack 30 = .ok (.aload_n 0, 1) := by decide +kernel
theorem dX11_stack_31 : decode cX11_stack 31 = .ok (.invokevirtual 466, 3) := by decide +kernel
theorem dX11_stack_34 : decode cX11_stack 34 = .ok (.goto 15, 3) := by decide +kernel
theorem dX11_stack_37 : decode cX11_stack 37 = .ok (.aload_n 0, 1) := by decide +kernel
theorem dX11_stack_38 : decode cX11_stack 38 = .ok (.invokevirtual 469, 3) := by decide +kernel
theorem dX11_stack_41 : decode cX11_stack 41 = .ok (.ifCond .eq 7, 3) := by decide +kernel
theorem dX11_stack_44 : decode cX11_stack 44 = .ok (.iconst 1, 1) := by decide +kernel
theorem dX11_stack_45 : decode cX11_stack 45 = .ok (.goto 4, 3) := by decide +kernel
theorem dX11_stack_48 : decode cX11_stack 48 = .ok (.iconst 0, 1) := by decide +kernel
theorem dX11_stack_49 : decode cX11_stack 49 = .ok (.ireturn, 1) := by decide +kernel
def f_X11_stack  (a1 : Int32) (a2 : Int32) (h : zHp) : Option (Int32 × zHp) := zlt (zst h 0 0 (0 : Int32)) fun h1 => (f_X11_isIn a2 (0 : Int32) (1 : Int32) h1).bind fun x2 => (if x2.1 = 0 then some ((-1 : Int32), x2.2) else (f_X11_takesOrder a1 x2.2).bind fun x3 => (if x3.1 = 0 then some ((-1 : Int32), x3.2) else (if a2 = (1 : Int32) then (f_X11_tracks x3.2).bind fun x4 => some (x4.1, x4.2) else (f_X11_canComeOff x3.2).bind fun x5 => (if x5.1 = 0 then some ((0 : Int32), x5.2) else some ((1 : Int32), x5.2)))))
set_option maxHeartbeats 4000000 in
set_option maxRecDepth 100000 in
theorem s_X11_stack  (a1 : Int32) (a2 : Int32) (h : zHp) : Fn wM mX11_stack 2 rI [.ref 0, .int a1, .int a2] h (f_X11_stack a1 a2 h) := by
  refine Fn.of rfl (Nat.le_of_ble_eq_true rfl) ?_
  unfold f_X11_stack
  refine Sim.aload_n 0 dX11_stack_0 rfl ?_
  refine Sim.iconst (v := (0 : Int32)) dX11_stack_1 rfl ?_
  refine Sim.put fp_X11_128 dX11_stack_2 mI_0 rfl rfl ?_
  refine Sim.lth (fun h1 => ?_)
  refine Sim.aload_n 0 dX11_stack_5 rfl ?_
  refine Sim.iload_n 2 dX11_stack_6 rfl ?_
  refine Sim.iconst (v := (0 : Int32)) dX11_stack_7 rfl ?_
  refine Sim.iconst (v := (1 : Int32)) dX11_stack_8 rfl ?_
  refine Sim.callV3I (d1 := 0) (s_X11_isIn a2 (0 : Int32) (1 : Int32) h1) dX11_stack_9 ml_X11_154 mv_X11_isIn mC (Nat.le_of_ble_eq_true rfl) (Nat.le_of_ble_eq_true rfl) (Nat.le_of_ble_eq_true rfl) (fun x2 => ?_)
  refine Sim.if_eq 23 dX11_stack_12 rfl ?_ ?_
  · refine Sim.iconst (v := (-1 : Int32)) dX11_stack_23 rfl ?_
    exact Sim.iret dX11_stack_24 rfl
  · refine Sim.aload_n 0 dX11_stack_15 rfl ?_
    refine Sim.iload_n 1 dX11_stack_16 rfl ?_
    refine Sim.callV1I (d1 := 1) (s_X11_takesOrder a1 x2.2) dX11_stack_17 ml_X11_463 mv_X11_takesOrder mC (Nat.le_of_ble_eq_true rfl) (Nat.le_of_ble_eq_true rfl) (Nat.le_of_ble_eq_true rfl) (fun x3 => ?_)
    refine Sim.if_ne 25 dX11_stack_20 rfl ?_ ?_
    · refine Sim.iconst (v := (-1 : Int32)) dX11_stack_23 rfl ?_
      exact Sim.iret dX11_stack_24 rfl
    · refine Sim.iload_n 2 dX11_stack_25 rfl ?_
      refine Sim.iconst (v := (1 : Int32)) dX11_stack_26 rfl ?_
      refine Sim.icmp_ne 37 dX11_stack_27 rfl ?_ ?_
      · refine Sim.aload_n 0 dX11_stack_30 rfl ?_
        refine Sim.callV0I (d1 := 1) (s_X11_tracks x3.2) dX11_stack_31 ml_X11_466 mv_X11_tracks mC (Nat.le_of_ble_eq_true rfl) (Nat.le_of_ble_eq_true rfl) (Nat.le_of_ble_eq_true rfl) (fun x4 => ?_)
        refine Sim.goto 49 dX11_stack_34 rfl ?_
        exact Sim.iret dX11_stack_49 rfl
      · refine Sim.aload_n 0 dX11_stack_37 rfl ?_
        refine Sim.callV0I (d1 := 0) (s_X11_canComeOff x3.2) dX11_stack_38 ml_X11_469 mv_X11_canComeOff mC (Nat.le_of_ble_eq_true rfl) (Nat.le_of_ble_eq_true rfl) (Nat.le_of_ble_eq_true rfl) (fun x5 => ?_)
        refine Sim.if_eq 48 dX11_stack_41 rfl ?_ ?_
        · refine Sim.iconst (v := (0 : Int32)) dX11_stack_48 rfl ?_
          exact Sim.iret dX11_stack_49 rfl
        · refine Sim.iconst (v := (1 : Int32)) dX11_stack_44 rfl ?_
          refine Sim.goto 49 dX11_stack_45 rfl ?_
          exact Sim.iret dX11_stack_49 rfl
theorem mv_X11_stack : zMV mX11_stack 2 := ⟨⟨zTb_in 1937 (by decide +kernel) rfl, zTb_in 148 (by decide +kernel) rfl, ⟨by decide +kernel, by decide +kernel⟩, by decide +kernel⟩, zTb_in 1935 (by decide +kernel) rfl, zTb_in 1936 (by decide +kernel) rfl⟩
-- ===== RockingPorchModel.weight(I)I
abbrev mX11_weight : zMt := (yX11_weight, cX11_weight, 2, some .int)
theorem fl_X11_107 : zF RX11 107 11 57 := ⟨RX11, TX11, 69, rfl, Nat.le_of_ble_eq_true rfl, zTb_in 1356 (by decide +kernel) rfl, in_X11⟩
theorem fl_X11_472 : zF RX11 472 11 56 := ⟨RX11, TX11, 69, rfl, Nat.le_of_ble_eq_true rfl, zTb_in 1355 (by decide +kernel) rfl, in_X11⟩
theorem fp_X11_472 : zFp RX11 472 11 56 .int := ⟨RX11, TX11, 69, tyX11, rfl, Nat.le_of_ble_eq_true rfl, zTb_in 1355 (by decide +kernel) rfl, in_X11, tyX11_ok, nmX11, rfl, rfl⟩
theorem dX11_weight_0 : decode cX11_weight 0 = .ok (.aload_n 0, 1) := by decide +kernel
theorem dX11_weight_1 : decode cX11_weight 1 = .ok (.iconst 0, 1) := by decide +kernel
theorem dX11_weight_2 : decode cX11_weight 2 = .ok (.putfield 128, 3) := by decide +kernel
theorem dX11_weight_5 : decode cX11_weight 5 = .ok (.iload_n 1, 1) := by decide +kernel
theorem dX11_weight_6 : decode cX11_weight 6 = .ok (.iconst (-1), 1) := by decide +kernel
theorem dX11_weight_7 : decode cX11_weight 7 = .ok (.if_icmp .ne 10, 3) := by decide +kernel
theorem dX11_weight_10 : decode cX11_weight 10 = .ok (.aload_n 0, 1) := by decide +kernel
theorem dX11_weight_11 : decode cX11_weight 11 = .ok (.iconst 0, 1) := by decide +kernel
theorem dX11_weight_12 : decode cX11_weight 12 = .ok (.putfield 472, 3) := by decide +kernel
theorem dX11_weight_15 : decode cX11_weight 15 = .ok (.iconst 0, 1) := by decide +kernel
theorem dX11_weight_16 : decode cX11_weight 16 = .ok (.ireturn, 1) := by decide +kernel
theorem dX11_weight_17 : decode cX11_weight 17 = .ok (.aload_n 0, 1) := by decide +kernel
theorem dX11_weight_18 : decode cX11_weight 18 = .ok (.iload_n 1, 1) := by decide +kernel
theorem dX11_weight_19 : decode cX11_weight 19 = .ok (.iconst 1, 1) := by decide +kernel
theorem dX11_weight_20 : decode cX11_weight 20 = .ok (.bipush 99, 2) := by decide +kernel
theorem dX11_weight_22 : decode cX11_weight 22 = .ok (.invokevirtual 154, 3) := by decide +kernel
theorem dX11_weight_25 : decode cX11_weight 25 = .ok (.ifCond .eq 12, 3) := by decide +kernel
theorem dX11_weight_28 : decode cX11_weight 28 = .ok (.aload_n 0, 1) := by decide +kernel
theorem dX11_weight_29 : decode cX11_weight 29 = .ok (.getfield 472, 3) := by decide +kernel
theorem dX11_weight_32 : decode cX11_weight 32 = .ok (.bipush 9, 2) := by decide +kernel
theorem dX11_weight_34 : decode cX11_weight 34 = .ok (.if_icmp .ne 5, 3) := by decide +kernel
theorem dX11_weight_37 : decode cX11_weight 37 = .ok (.iconst (-1), 1) := by decide +kernel
theorem dX11_weight_38 : decode cX11_weight 38 = .ok (.ireturn, 1) := by decide +kernel
theorem dX11_weight_39 : decode cX11_weight 39 = .ok (.aload_n 0, 1) := by decide +kernel
theorem dX11_weight_40 : decode cX11_weight 40 = .ok (.getfield 107, 3) := by decide +kernel
theorem dX11_weight_43 : decode cX11_weight 43 = .ok (.aload_n 0, 1) := by decide +kernel
theorem dX11_weight_44 : decode cX11_weight 44 = .ok (.getfield 472, 3) := by decide +kernel
theorem dX11_weight_47 : decode cX11_weight 47 = .ok (.iload_n 1, 1) := by decide +kernel
theorem dX11_weight_48 : decode cX11_weight 48 = .ok (.iastore, 1) := by decide +kernel
theorem dX11_weight_49 : decode cX11_weight 49 = .ok (.aload_n 0, 1) := by decide +kernel
theorem dX11_weight_50 : decode cX11_weight 50 = .ok (.aload_n 0, 1) := by decide +kernel
theorem dX11_weight_51 : decode cX11_weight 51 = .ok (.getfield 472, 3) := by decide +kernel
theorem dX11_weight_54 : decode cX11_weight 54 = .ok (.iconst 1, 1) := by decide +kernel
theorem dX11_weight_55 : decode cX11_weight 55 = .ok (.iadd, 1) := by decide +kernel
theorem dX11_weight_56 : decode cX11_weight 56 = .ok (.putfield 472, 3) := by decide +kernel
theorem dX11_weight_59 : decode cX11_weight 59 = .ok (.aload_n 0, 1) := by decide +kernel
theorem dX11_weight_60 : decode cX11_weight 60 = .ok (.getfield 472, 3) := by decide +kernel
theorem dX11_weight_63 : decode cX11_weight 63 = .ok (.ireturn, 1) := by decide +kernel
def f_X11_weight  (a1 : Int32) (h : zHp) : Option (Int32 × zHp) := zlt (zst h 0 0 (0 : Int32)) fun h1 => (if a1 = (-1 : Int32) then zlt (zst h1 0 56 (0 : Int32)) fun h2 => some ((0 : Int32), h2) else (f_X11_isIn a1 (1 : Int32) (99 : Int32) h1).bind fun x3 => (if x3.1 = 0 then some ((-1 : Int32), x3.2) else (if (x3.2 0 56) = (9 : Int32) then some ((-1 : Int32), x3.2) else zix (x3.2 0 56) 9 (zlt (zst x3.2 32 (x3.2 0 56).toNatClampNeg a1) fun h4 => zlt (zst h4 0 56 ((h4 0 56) + (1 : Int32))) fun h5 => some ((h5 0 56), h5)))))
set_option maxHeartbeats 4000000 in
set_option maxRecDepth 100000 in
theorem s_X11_weight  (a1 : Int32) (h : zHp) : Fn wM mX11_weight 1 rI [.ref 0, .int a1] h (f_X11_weight a1 h) := by
  refine Fn.of rfl (Nat.le_of_ble_eq_true rfl) ?_
  unfold f_X11_weight
  refine Sim.aload_n 0 dX11_weight_0 rfl ?_
  refine Sim.iconst (v := (0 : Int32)) dX11_weight_1 rfl ?_
  refine Sim.put fp_X11_128 dX11_weight_2 mI_0 rfl rfl ?_
  refine Sim.lth (fun h1 => ?_)
  refine Sim.iload_n 1 dX11_weight_5 rfl ?_
  refine Sim.iconst (v := (-1 : Int32)) dX11_weight_6 rfl ?_
  refine Sim.icmp_ne 17 dX11_weight_7 rfl ?_ ?_
  · refine Sim.aload_n 0 dX11_weight_10 rfl ?_
    refine Sim.iconst (v := (0 : Int32)) dX11_weight_11 rfl ?_
    refine Sim.put fp_X11_472 dX11_weight_12 mI_56 rfl rfl ?_
    refine Sim.lth (fun h2 => ?_)
    refine Sim.iconst (v := (0 : Int32)) dX11_weight_15 rfl ?_
    exact Sim.iret dX11_weight_16 rfl
  · refine Sim.aload_n 0 dX11_weight_17 rfl ?_
    refine Sim.iload_n 1 dX11_weight_18 rfl ?_
    refine Sim.iconst (v := (1 : Int32)) dX11_weight_19 rfl ?_
    refine Sim.bipush (v := (99 : Int32)) dX11_weight_20 rfl ?_
    refine Sim.callV3I (d1 := 0) (s_X11_isIn a1 (1 : Int32) (99 : Int32) h1) dX11_weight_22 ml_X11_154 mv_X11_isIn mC (Nat.le_of_ble_eq_true rfl) (Nat.le_of_ble_eq_true rfl) (Nat.le_of_ble_eq_true rfl) (fun x3 => ?_)
    refine Sim.if_eq 37 dX11_weight_25 rfl ?_ ?_
    · refine Sim.iconst (v := (-1 : Int32)) dX11_weight_37 rfl ?_
      exact Sim.iret dX11_weight_38 rfl
    · refine Sim.aload_n 0 dX11_weight_28 rfl ?_
      refine Sim.getI fl_X11_472 dX11_weight_29 mI_56 ?_
      refine Sim.bipush (v := (9 : Int32)) dX11_weight_32 rfl ?_
      refine Sim.icmp_ne 39 dX11_weight_34 rfl ?_ ?_
      · refine Sim.iconst (v := (-1 : Int32)) dX11_weight_37 rfl ?_
        exact Sim.iret dX11_weight_38 rfl
      · refine Sim.aload_n 0 dX11_weight_39 rfl ?_
        refine Sim.getR (j := 32) fl_X11_107 dX11_weight_40 mR_57 ?_
        refine Sim.aload_n 0 dX11_weight_43 rfl ?_
        refine Sim.getI fl_X11_472 dX11_weight_44 mI_56 ?_
        refine Sim.iload_n 1 dX11_weight_47 rfl ?_
        refine Sim.iast (n := 9) dX11_weight_48 mA_32 ?_
        refine Sim.lth (fun h4 => ?_)
        refine Sim.aload_n 0 dX11_weight_49 rfl ?_
        refine Sim.aload_n 0 dX11_weight_50 rfl ?_
        refine Sim.getI fl_X11_472 dX11_weight_51 mI_56 ?_
        refine Sim.iconst (v := (1 : Int32)) dX11_weight_54 rfl ?_
        refine Sim.iadd dX11_weight_55 ?_
        refine Sim.put fp_X11_472 dX11_weight_56 mI_56 rfl rfl ?_
        refine Sim.lth (fun h5 => ?_)
        refine Sim.aload_n 0 dX11_weight_59 rfl ?_
        refine Sim.getI fl_X11_472 dX11_weight_60 mI_56 ?_
        exact Sim.iret dX11_weight_63 rfl
theorem mv_X11_weight : zMV mX11_weight 1 := ⟨⟨zTb_in 1953 (by decide +kernel) rfl, zTb_in 148 (by decide +kernel) rfl, ⟨by decide +kernel, by decide +kernel⟩, by decide +kernel⟩, zTb_in 1951 (by decide +kernel) rfl, zTb_in 1952 (by decide +kernel) rfl⟩
