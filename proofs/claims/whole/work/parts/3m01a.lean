-- ===== RockingPorchModel.isIn(III)Z
abbrev mX11_isIn : zMt := (yX11_isIn, cX11_isIn, 4, some .boolean)
theorem dX11_isIn_0 : decode cX11_isIn 0 = .ok (.iload_n 1, 1) := by decide +kernel
theorem dX11_isIn_1 : decode cX11_isIn 1 = .ok (.iload_n 2, 1) := by decide +kernel
theorem dX11_isIn_2 : decode cX11_isIn 2 = .ok (.if_icmp .lt 12, 3) := by decide +kernel
theorem dX11_isIn_5 : decode cX11_isIn 5 = .ok (.iload_n 1, 1) := by decide +kernel
theorem dX11_isIn_6 : decode cX11_isIn 6 = .ok (.iload_n 3, 1) := by decide +kernel
theorem dX11_isIn_7 : decode cX11_isIn 7 = .ok (.if_icmp .gt 7, 3) := by decide +kernel
theorem dX11_isIn_10 : decode cX11_isIn 10 = .ok (.iconst 1, 1) := by decide +kernel
theorem dX11_isIn_11 : decode cX11_isIn 11 = .ok (.goto 4, 3) := by decide +kernel
theorem dX11_isIn_14 : decode cX11_isIn 14 = .ok (.iconst 0, 1) := by decide +kernel
theorem dX11_isIn_15 : decode cX11_isIn 15 = .ok (.ireturn, 1) := by decide +kernel
def f_X11_isIn  (a1 : Int32) (a2 : Int32) (a3 : Int32) (h : zHp) : Option (Int32 × zHp) := (if a1 < a2 then some ((0 : Int32), h) else (if a3 < a1 then some ((0 : Int32), h) else some ((1 : Int32), h)))
set_option maxHeartbeats 4000000 in
set_option maxRecDepth 100000 in
theorem s_X11_isIn  (a1 : Int32) (a2 : Int32) (a3 : Int32) (h : zHp) : Fn wM mX11_isIn 0 rI [.ref 0, .int a1, .int a2, .int a3] h (f_X11_isIn a1 a2 a3 h) := by
  refine Fn.of rfl (Nat.le_of_ble_eq_true rfl) ?_
  unfold f_X11_isIn
  refine Sim.iload_n 1 dX11_isIn_0 rfl ?_
  refine Sim.iload_n 2 dX11_isIn_1 rfl ?_
  refine Sim.icmp_lt 14 dX11_isIn_2 rfl ?_ ?_
  · refine Sim.iconst (v := (0 : Int32)) dX11_isIn_14 rfl ?_
    exact Sim.nret dX11_isIn_15 rfl rfl
  · refine Sim.iload_n 1 dX11_isIn_5 rfl ?_
    refine Sim.iload_n 3 dX11_isIn_6 rfl ?_
    refine Sim.icmp_gt 14 dX11_isIn_7 rfl ?_ ?_
    · refine Sim.iconst (v := (0 : Int32)) dX11_isIn_14 rfl ?_
      exact Sim.nret dX11_isIn_15 rfl rfl
    · refine Sim.iconst (v := (1 : Int32)) dX11_isIn_10 rfl ?_
      refine Sim.goto 15 dX11_isIn_11 rfl ?_
      exact Sim.nret dX11_isIn_15 rfl rfl
theorem mv_X11_isIn : zMV mX11_isIn 3 := ⟨⟨zTb_in 1522 (by decide +kernel) rfl, zTb_in 148 (by decide +kernel) rfl, ⟨by decide +kernel, by decide +kernel⟩, by decide +kernel⟩, zTb_in 1521 (by decide +kernel) rfl, zTb_in 39 (by decide +kernel) rfl⟩
-- ===== RockingPorchModel.held(III)I
abbrev mX11_held : zMt := (yX11_held, cX11_held, 4, some .int)
theorem dX11_held_0 : decode cX11_held 0 = .ok (.iload_n 1, 1) := by decide +kernel
theorem dX11_held_1 : decode cX11_held 1 = .ok (.iload_n 2, 1) := by decide +kernel
theorem dX11_held_2 : decode cX11_held 2 = .ok (.if_icmp .ge 7, 3) := by decide +kernel
theorem dX11_held_5 : decode cX11_held 5 = .ok (.iload_n 2, 1) := by decide +kernel
theorem dX11_held_6 : decode cX11_held 6 = .ok (.goto 13, 3) := by decide +kernel
theorem dX11_held_9 : decode cX11_held 9 = .ok (.iload_n 1, 1) := by decide +kernel
theorem dX11_held_10 : decode cX11_held 10 = .ok (.iload_n 3, 1) := by decide +kernel
theorem dX11_held_11 : decode cX11_held 11 = .ok (.if_icmp .le 7, 3) := by decide +kernel
theorem dX11_held_14 : decode cX11_held 14 = .ok (.iload_n 3, 1) := by decide +kernel
theorem dX11_held_15 : decode cX11_held 15 = .ok (.goto 4, 3) := by decide +kernel
theorem dX11_held_18 : decode cX11_held 18 = .ok (.iload_n 1, 1) := by decide +kernel
theorem dX11_held_19 : decode cX11_held 19 = .ok (.ireturn, 1) := by decide +kernel
def f_X11_held  (a1 : Int32) (a2 : Int32) (a3 : Int32) (h : zHp) : Option (Int32 × zHp) := (if a1 < a2 then some (a2, h) else (if a3 < a1 then some (a3, h) else some (a1, h)))
set_option maxHeartbeats 4000000 in
set_option maxRecDepth 100000 in
theorem s_X11_held  (a1 : Int32) (a2 : Int32) (a3 : Int32) (h : zHp) : Fn wM mX11_held 0 rI [.ref 0, .int a1, .int a2, .int a3] h (f_X11_held a1 a2 a3 h) := by
  refine Fn.of rfl (Nat.le_of_ble_eq_true rfl) ?_
  unfold f_X11_held
  refine Sim.iload_n 1 dX11_held_0 rfl ?_
  refine Sim.iload_n 2 dX11_held_1 rfl ?_
  refine Sim.icmp_ge 9 dX11_held_2 rfl ?_ ?_
  · refine Sim.iload_n 2 dX11_held_5 rfl ?_
    refine Sim.goto 19 dX11_held_6 rfl ?_
    exact Sim.iret dX11_held_19 rfl
  · refine Sim.iload_n 1 dX11_held_9 rfl ?_
    refine Sim.iload_n 3 dX11_held_10 rfl ?_
    refine Sim.icmp_le 18 dX11_held_11 rfl ?_ ?_
    · refine Sim.iload_n 3 dX11_held_14 rfl ?_
      refine Sim.goto 19 dX11_held_15 rfl ?_
      exact Sim.iret dX11_held_19 rfl
    · refine Sim.iload_n 1 dX11_held_18 rfl ?_
      exact Sim.iret dX11_held_19 rfl
theorem mv_X11_held : zMV mX11_held 3 := ⟨⟨zTb_in 1770 (by decide +kernel) rfl, zTb_in 148 (by decide +kernel) rfl, ⟨by decide +kernel, by decide +kernel⟩, by decide +kernel⟩, zTb_in 1769 (by decide +kernel) rfl, zTb_in 94 (by decide +kernel) rfl⟩
-- ===== RockingPorchModel.greater(II)I
abbrev mX11_greater : zMt := (yX11_greater, cX11_greater, 3, some .int)
theorem dX11_greater_0 : decode cX11_greater 0 = .ok (.iload_n 1, 1) := by decide +kernel
theorem dX11_greater_1 : decode cX11_greater 1 = .ok (.iload_n 2, 1) := by decide +kernel
theorem dX11_greater_2 : decode cX11_greater 2 = .ok (.if_icmp .le 7, 3) := by decide +kernel
theorem dX11_greater_5 : decode cX11_greater 5 = .ok (.iload_n 1, 1) := by decide +kernel
theorem dX11_greater_6 : decode cX11_greater 6 = .ok (.goto 4, 3) := by decide +kernel
theorem dX11_greater_9 : decode cX11_greater 9 = .ok (.iload_n 2, 1) := by decide +kernel
theorem dX11_greater_10 : decode cX11_greater 10 = .ok (.ireturn, 1) := by decide +kernel
def f_X11_greater  (a1 : Int32) (a2 : Int32) (h : zHp) : Option (Int32 × zHp) := (if a2 < a1 then some (a1, h) else some (a2, h))
set_option maxHeartbeats 4000000 in
set_option maxRecDepth 100000 in
theorem s_X11_greater  (a1 : Int32) (a2 : Int32) (h : zHp) : Fn wM mX11_greater 0 rI [.ref 0, .int a1, .int a2] h (f_X11_greater a1 a2 h) := by
  refine Fn.of rfl (Nat.le_of_ble_eq_true rfl) ?_
  unfold f_X11_greater
  refine Sim.iload_n 1 dX11_greater_0 rfl ?_
  refine Sim.iload_n 2 dX11_greater_1 rfl ?_
  refine Sim.icmp_le 9 dX11_greater_2 rfl ?_ ?_
  · refine Sim.iload_n 1 dX11_greater_5 rfl ?_
    refine Sim.goto 10 dX11_greater_6 rfl ?_
    exact Sim.iret dX11_greater_10 rfl
  · refine Sim.iload_n 2 dX11_greater_9 rfl ?_
    exact Sim.iret dX11_greater_10 rfl
theorem mv_X11_greater : zMV mX11_greater 2 := ⟨⟨zTb_in 1828 (by decide +kernel) rfl, zTb_in 148 (by decide +kernel) rfl, ⟨by decide +kernel, by decide +kernel⟩, by decide +kernel⟩, zTb_in 1827 (by decide +kernel) rfl, zTb_in 107 (by decide +kernel) rfl⟩
-- ===== RockingPorchModel.lesser(II)I
abbrev mX11_lesser : zMt := (yX11_lesser, cX11_lesser, 3, some .int)
theorem dX11_lesser_0 : decode cX11_lesser 0 = .ok (.iload_n 1, 1) := by decide +kernel
theorem dX11_lesser_1 : decode cX11_lesser 1 = .ok (.iload_n 2, 1) := by decide +kernel
theorem dX11_lesser_2 : decode cX11_lesser 2 = .ok (.if_icmp .ge 7, 3) := by decide +kernel
theorem dX11_lesser_5 : decode cX11_lesser 5 = .ok (.iload_n 1, 1) := by decide +kernel
theorem dX11_lesser_6 : decode cX11_lesser 6 = .ok (.goto 4, 3) := by decide +kernel
theorem dX11_lesser_9 : decode cX11_lesser 9 = .ok (.iload_n 2, 1) := by decide +kernel
theorem dX11_lesser_10 : decode cX11_lesser 10 = .ok (.ireturn, 1) := by decide +kernel
def f_X11_lesser  (a1 : Int32) (a2 : Int32) (h : zHp) : Option (Int32 × zHp) := (if a1 < a2 then some (a1, h) else some (a2, h))
set_option maxHeartbeats 4000000 in
set_option maxRecDepth 100000 in
theorem s_X11_lesser  (a1 : Int32) (a2 : Int32) (h : zHp) : Fn wM mX11_lesser 0 rI [.ref 0, .int a1, .int a2] h (f_X11_lesser a1 a2 h) := by
  refine Fn.of rfl (Nat.le_of_ble_eq_true rfl) ?_
  unfold f_X11_lesser
  refine Sim.iload_n 1 dX11_lesser_0 rfl ?_
  refine Sim.iload_n 2 dX11_lesser_1 rfl ?_
  refine Sim.icmp_ge 9 dX11_lesser_2 rfl ?_ ?_
  · refine Sim.iload_n 1 dX11_lesser_5 rfl ?_
    refine Sim.goto 10 dX11_lesser_6 rfl ?_
    exact Sim.iret dX11_lesser_10 rfl
  · refine Sim.iload_n 2 dX11_lesser_9 rfl ?_
    exact Sim.iret dX11_lesser_10 rfl
theorem mv_X11_lesser : zMV mX11_lesser 2 := ⟨⟨zTb_in 1921 (by decide +kernel) rfl, zTb_in 148 (by decide +kernel) rfl, ⟨by decide +kernel, by decide +kernel⟩, by decide +kernel⟩, zTb_in 1920 (by decide +kernel) rfl, zTb_in 119 (by decide +kernel) rfl⟩
-- ===== RockingPorchModel.common(II)I
abbrev mX11_common : zMt := (yX11_common, cX11_common, 6, some .int)
theorem dX11_common_0 : decode cX11_common 0 = .ok (.iload_n 1, 1) := by decide +kernel
theorem dX11_common_1 : decode cX11_common 1 = .ok (.istore_n 3, 1) := by decide +kernel
theorem dX11_common_2 : decode cX11_common 2 = .ok (.iload_n 2, 1) := by decide +kernel
theorem dX11_common_3 : decode cX11_common 3 = .ok (.istore 4, 2) := by decide +kernel
theorem dX11_common_5 : decode cX11_common 5 = .ok (.iload 4, 2) := by decide +kernel
theorem dX11_common_7 : decode cX11_common 7 = .ok (.ifCond .eq 19, 3) := by decide +kernel
theorem dX11_common_10 : decode cX11_common 10 = .ok (.iload_n 3, 1) := by decide +kernel
theorem dX11_common_11 : decode cX11_common 11 = .ok (.iload 4, 2) := by decide +kernel
theorem dX11_common_13 : decode cX11_common 13 = .ok (.irem, 1) := by decide +kernel
theorem dX11_common_14 : decode cX11_common 14 = .ok (.istore 5, 2) := by decide +kernel
theorem dX11_common_16 : decode cX11_common 16 = .ok (.iload 4, 2) := by decide +kernel
theorem dX11_common_18 : decode cX11_common 18 = .ok (.istore_n 3, 1) := by decide +kernel
theorem dX11_common_19 : decode cX11_common 19 = .ok (.iload 5, 2) := by decide +kernel
theorem dX11_common_21 : decode cX11_common 21 = .ok (.istore 4, 2) := by decide +kernel
theorem dX11_common_23 : decode cX11_common 23 = .ok (.goto (-18), 3) := by decide +kernel
theorem dX11_common_26 : decode cX11_common 26 = .ok (.iload_n 3, 1) := by decide +kernel
theorem dX11_common_27 : decode cX11_common 27 = .ok (.ireturn, 1) := by decide +kernel
def f_X11_common_5  (k5 : Int32 × Int32 × zHp → Option (Int32 × zHp)) (v3 : Int32) (v4 : Int32) (h : zHp) : Option (Int32 × zHp) := (if v4 = 0 then some (v3, h) else zdz v4 (zlt (v3 - v3 / v4 * v4) fun x1 => k5 (v4, x1, h)))
set_option maxHeartbeats 4000000 in
set_option maxRecDepth 100000 in
theorem f_X11_common_5_s  (k5 : Int32 × Int32 × zHp → Option (Int32 × zHp)) (H5 : ∀ v : Int32 × Int32 × zHp, Sim wM mX11_common 0 rI 5 [(3, .int v.1), (4, .int v.2.1)] [] v.2.2 (k5 v)) (v3 : Int32) (v4 : Int32) (h : zHp) : Sim wM mX11_common 0 rI 5 [(3, .int v3), (4, .int v4)] [] h (f_X11_common_5 k5 v3 v4 h) := by
  unfold f_X11_common_5
  refine Sim.iload 1 dX11_common_5 rfl ?_
  refine Sim.if_eq 26 dX11_common_7 rfl ?_ ?_
  · refine Sim.iload_n 0 dX11_common_26 rfl ?_
    exact Sim.iret dX11_common_27 rfl
  · refine Sim.iload_n 0 dX11_common_10 rfl ?_
    refine Sim.iload 1 dX11_common_11 rfl ?_
    refine Sim.irem dX11_common_13 ?_
    refine Sim.lti (fun x1 => ?_)
    refine Sim.istore (L' := [(5, .int x1), (3, .int v3), (4, .int v4)]) dX11_common_14 (Nat.le_of_ble_eq_true rfl) rfl ?_
    refine Sim.iload 2 dX11_common_16 rfl ?_
    refine Sim.istore_n (L' := [(3, .int v4), (5, .int x1), (4, .int v4)]) dX11_common_18 (Nat.le_of_ble_eq_true rfl) rfl ?_
    refine Sim.iload 1 dX11_common_19 rfl ?_
    refine Sim.istore (L' := [(4, .int x1), (3, .int v4), (5, .int x1)]) dX11_common_21 (Nat.le_of_ble_eq_true rfl) rfl ?_
    refine Sim.goto 5 dX11_common_23 rfl ?_
    refine Sim.locs [1, 0] rfl ?_
    exact H5 (v4, x1, h)
def f_X11_common_5_lp   (n : Nat) (v : Int32 × Int32 × zHp) : Option (Int32 × zHp) := zlp (fun k5 v => f_X11_common_5 k5 v.1 v.2.1 v.2.2) n v
theorem f_X11_common_5_ls  (n : Nat) (v : Int32 × Int32 × zHp) : Sim wM mX11_common 0 rI 5 [(3, .int v.1), (4, .int v.2.1)] [] v.2.2 (f_X11_common_5_lp n v) :=
  Sim.lp (V := Int32 × Int32 × zHp) (Lf := fun v => [(3, .int v.1), (4, .int v.2.1)]) (sf := fun v => []) (hf := fun v => v.2.2) (fun k5 H5 v => f_X11_common_5_s k5 H5 v.1 v.2.1 v.2.2) n v
def f_X11_common  (a1 : Int32) (a2 : Int32) (h : zHp) : Option (Int32 × zHp) := f_X11_common_5_lp  zN (a1, a2, h)
set_option maxHeartbeats 4000000 in
set_option maxRecDepth 100000 in
theorem s_X11_common  (a1 : Int32) (a2 : Int32) (h : zHp) : Fn wM mX11_common 0 rI [.ref 0, .int a1, .int a2] h (f_X11_common a1 a2 h) := by
  refine Fn.of rfl (Nat.le_of_ble_eq_true rfl) ?_
  unfold f_X11_common
  refine Sim.iload_n 1 dX11_common_0 rfl ?_
  refine Sim.istore_n (L' := [(3, .int a1), (0, .ref 0), (1, .int a1), (2, .int a2)]) dX11_common_1 (Nat.le_of_ble_eq_true rfl) rfl ?_
  refine Sim.iload_n 3 dX11_common_2 rfl ?_
  refine Sim.istore (L' := [(4, .int a2), (3, .int a1), (0, .ref 0), (1, .int a1), (2, .int a2)]) dX11_common_3 (Nat.le_of_ble_eq_true rfl) rfl ?_
  refine Sim.locs [1, 0] rfl ?_
  exact f_X11_common_5_ls  zN (a1, a2, h)
theorem mv_X11_common : zMV mX11_common 2 := ⟨⟨zTb_in 1876 (by decide +kernel) rfl, zTb_in 148 (by decide +kernel) rfl, ⟨by decide +kernel, by decide +kernel⟩, by decide +kernel⟩, zTb_in 1875 (by decide +kernel) rfl, zTb_in 112 (by decide +kernel) rfl⟩
-- ===== RockingPorchModel.onesOf(I)I
abbrev mX11_onesOf : zMt := (yX11_onesOf, cX11_onesOf, 4, some .int)
theorem dX11_onesOf_0 : decode cX11_onesOf 0 = .ok (.iconst 0, 1) := by decide +kernel
theorem dX11_onesOf_1 : decode cX11_onesOf 1 = .ok (.istore_n 2, 1) := by decide +kernel
theorem dX11_onesOf_2 : decode cX11_onesOf 2 = .ok (.iload_n 1, 1) := by decide +kernel
theorem dX11_onesOf_3 : decode cX11_onesOf 3 = .ok (.istore_n 3, 1) := by decide +kernel
theorem dX11_onesOf_4 : decode cX11_onesOf 4 = .ok (.iload_n 3, 1) := by decide +kernel
theorem dX11_onesOf_5 : decode cX11_onesOf 5 = .ok (.ifCond .eq 16, 3) := by decide +kernel
theorem dX11_onesOf_8 : decode cX11_onesOf 8 = .ok (.iload_n 2, 1) := by decide +kernel
theorem dX11_onesOf_9 : decode cX11_onesOf 9 = .ok (.iconst 1, 1) := by decide +kernel
theorem dX11_onesOf_10 : decode cX11_onesOf 10 = .ok (.iadd, 1) := by decide +kernel
theorem dX11_onesOf_11 : decode cX11_onesOf 11 = .ok (.istore_n 2, 1) := by decide +kernel
theorem dX11_onesOf_12 : decode cX11_onesOf 12 = .ok (.iload_n 3, 1) := by decide +kernel
theorem dX11_onesOf_13 : decode cX11_onesOf 13 = .ok (.iload_n 3, 1) := by decide +kernel
theorem dX11_onesOf_14 : decode cX11_onesOf 14 = .ok (.iconst 1, 1) := by decide +kernel
theorem dX11_onesOf_15 : decode cX11_onesOf 15 = .ok (.isub, 1) := by decide +kernel
theorem dX11_onesOf_16 : decode cX11_onesOf 16 = .ok (.iand, 1) := by decide +kernel
theorem dX11_onesOf_17 : decode cX11_onesOf 17 = .ok (.istore_n 3, 1) := by decide +kernel
theorem dX11_onesOf_18 : decode cX11_onesOf 18 = .ok (.goto (-14), 3) := by decide +kernel
theorem dX11_onesOf_21 : decode cX11_onesOf 21 = .ok (.iload_n 2, 1) := by decide +kernel
theorem dX11_onesOf_22 : decode cX11_onesOf 22 = .ok (.ireturn, 1) := by decide +kernel
def f_X11_onesOf_4  (k4 : Int32 × Int32 × zHp → Option (Int32 × zHp)) (v2 : Int32) (v3 : Int32) (h : zHp) : Option (Int32 × zHp) := (if v3 = 0 then some (v2, h) else zlt (v2 + (1 : Int32)) fun x1 => zlt (v3 &&& (v3 - (1 : Int32))) fun x2 => k4 (x1, x2, h))
set_option maxHeartbeats 4000000 in
set_option maxRecDepth 100000 in
theorem f_X11_onesOf_4_s  (k4 : Int32 × Int32 × zHp → Option (Int32 × zHp)) (H4 : ∀ v : Int32 × Int32 × zHp, Sim wM mX11_onesOf 0 rI 4 [(2, .int v.1), (3, .int v.2.1)] [] v.2.2 (k4 v)) (v2 : Int32) (v3 : Int32) (h : zHp) : Sim wM mX11_onesOf 0 rI 4 [(2, .int v2), (3, .int v3)] [] h (f_X11_onesOf_4 k4 v2 v3 h) := by
  unfold f_X11_onesOf_4
  refine Sim.iload_n 1 dX11_onesOf_4 rfl ?_
  refine Sim.if_eq 21 dX11_onesOf_5 rfl ?_ ?_
  · refine Sim.iload_n 0 dX11_onesOf_21 rfl ?_
    exact Sim.iret dX11_onesOf_22 rfl
  · refine Sim.iload_n 0 dX11_onesOf_8 rfl ?_
    refine Sim.iconst (v := (1 : Int32)) dX11_onesOf_9 rfl ?_
    refine Sim.iadd dX11_onesOf_10 ?_
    refine Sim.lti (fun x1 => ?_)
    refine Sim.istore_n (L' := [(2, .int x1), (3, .int v3)]) dX11_onesOf_11 (Nat.le_of_ble_eq_true rfl) rfl ?_
    refine Sim.iload_n 1 dX11_onesOf_12 rfl ?_
    refine Sim.iload_n 1 dX11_onesOf_13 rfl ?_
    refine Sim.iconst (v := (1 : Int32)) dX11_onesOf_14 rfl ?_
    refine Sim.isub dX11_onesOf_15 ?_
    refine Sim.iand dX11_onesOf_16 ?_
    refine Sim.lti (fun x2 => ?_)
    refine Sim.istore_n (L' := [(3, .int x2), (2, .int x1)]) dX11_onesOf_17 (Nat.le_of_ble_eq_true rfl) rfl ?_
    refine Sim.goto 4 dX11_onesOf_18 rfl ?_
    refine Sim.locs [1, 0] rfl ?_
    exact H4 (x1, x2, h)
def f_X11_onesOf_4_lp   (n : Nat) (v : Int32 × Int32 × zHp) : Option (Int32 × zHp) := zlp (fun k4 v => f_X11_onesOf_4 k4 v.1 v.2.1 v.2.2) n v
theorem f_X11_onesOf_4_ls  (n : Nat) (v : Int32 × Int32 × zHp) : Sim wM mX11_onesOf 0 rI 4 [(2, .int v.1), (3, .int v.2.1)] [] v.2.2 (f_X11_onesOf_4_lp n v) :=
  Sim.lp (V := Int32 × Int32 × zHp) (Lf := fun v => [(2, .int v.1), (3, .int v.2.1)]) (sf := fun v => []) (hf := fun v => v.2.2) (fun k4 H4 v => f_X11_onesOf_4_s k4 H4 v.1 v.2.1 v.2.2) n v
def f_X11_onesOf  (a1 : Int32) (h : zHp) : Option (Int32 × zHp) := f_X11_onesOf_4_lp  zN ((0 : Int32), a1, h)
set_option maxHeartbeats 4000000 in
set_option maxRecDepth 100000 in
theorem s_X11_onesOf  (a1 : Int32) (h : zHp) : Fn wM mX11_onesOf 0 rI [.ref 0, .int a1] h (f_X11_onesOf a1 h) := by
  refine Fn.of rfl (Nat.le_of_ble_eq_true rfl) ?_
  unfold f_X11_onesOf
  refine Sim.iconst (v := (0 : Int32)) dX11_onesOf_0 rfl ?_
  refine Sim.istore_n (L' := [(2, .int (0 : Int32)), (0, .ref 0), (1, .int a1)]) dX11_onesOf_1 (Nat.le_of_ble_eq_true rfl) rfl ?_
  refine Sim.iload_n 2 dX11_onesOf_2 rfl ?_
  refine Sim.istore_n (L' := [(3, .int a1), (2, .int (0 : Int32)), (0, .ref 0), (1, .int a1)]) dX11_onesOf_3 (Nat.le_of_ble_eq_true rfl) rfl ?_
  refine Sim.locs [1, 0] rfl ?_
  exact f_X11_onesOf_4_ls  zN ((0 : Int32), a1, h)
theorem mv_X11_onesOf : zMV mX11_onesOf 1 := ⟨⟨zTb_in 1750 (by decide +kernel) rfl, zTb_in 148 (by decide +kernel) rfl, ⟨by decide +kernel, by decide +kernel⟩, by decide +kernel⟩, zTb_in 1749 (by decide +kernel) rfl, zTb_in 89 (by decide +kernel) rfl⟩
-- ===== RockingPorchModel.has(II)Z
abbrev mX11_has : zMt := (yX11_has, cX11_has, 3, some .boolean)
theorem dX11_has_0 : decode cX11_has 0 = .ok (.iload_n 1, 1) := by decide +kernel
theorem dX11_has_1 : decode cX11_has 1 = .ok (.iload_n 2, 1) := by decide +kernel
theorem dX11_has_2 : decode cX11_has 2 = .ok (.ishr, 1) := by decide +kernel
theorem dX11_has_3 : decode cX11_has 3 = .ok (.iconst 1, 1) := by decide +kernel
theorem dX11_has_4 : decode cX11_has 4 = .ok (.iand, 1) := by decide +kernel
theorem dX11_has_5 : decode cX11_has 5 = .ok (.iconst 1, 1) := by decide +kernel
theorem dX11_has_6 : decode cX11_has 6 = .ok (.if_icmp .ne 7, 3) := by decide +kernel
theorem dX11_has_9 : decode cX11_has 9 = .ok (.iconst 1, 1) := by decide +kernel
theorem dX11_has_10 : decode cX11_has 10 = .ok (.goto 4, 3) := by decide +kernel
theorem dX11_has_13 : decode cX11_has 13 = .ok (.iconst 0, 1) := by decide +kernel
theorem dX11_has_14 : decode cX11_has 14 = .ok (.ireturn, 1) := by decide +kernel
def f_X11_has  (a1 : Int32) (a2 : Int32) (h : zHp) : Option (Int32 × zHp) := (if ((a1 >>> (a2 &&& 31)) &&& (1 : Int32)) = (1 : Int32) then some ((1 : Int32), h) else some ((0 : Int32), h))
set_option maxHeartbeats 4000000 in
set_option maxRecDepth 100000 in
theorem s_X11_has  (a1 : Int32) (a2 : Int32) (h : zHp) : Fn wM mX11_has 0 rI [.ref 0, .int a1, .int a2] h (f_X11_has a1 a2 h) := by
  refine Fn.of rfl (Nat.le_of_ble_eq_true rfl) ?_
  unfold f_X11_has
  refine Sim.iload_n 1 dX11_has_0 rfl ?_
  refine Sim.iload_n 2 dX11_has_1 rfl ?_
  refine Sim.ishr dX11_has_2 ?_
  refine Sim.iconst (v := (1 : Int32)) dX11_has_3 rfl ?_
  refine Sim.iand dX11_has_4 ?_
  refine Sim.iconst (v := (1 : Int32)) dX11_has_5 rfl ?_
  refine Sim.icmp_ne 13 dX11_has_6 rfl ?_ ?_
  · refine Sim.iconst (v := (1 : Int32)) dX11_has_9 rfl ?_
    refine Sim.goto 14 dX11_has_10 rfl ?_
    exact Sim.nret dX11_has_14 rfl rfl
  · refine Sim.iconst (v := (0 : Int32)) dX11_has_13 rfl ?_
    exact Sim.nret dX11_has_14 rfl rfl
theorem mv_X11_has : zMV mX11_has 2 := ⟨⟨zTb_in 1896 (by decide +kernel) rfl, zTb_in 148 (by decide +kernel) rfl, ⟨by decide +kernel, by decide +kernel⟩, by decide +kernel⟩, zTb_in 1895 (by decide +kernel) rfl, zTb_in 115 (by decide +kernel) rfl⟩
-- ===== RockingPorchModel.keepsAhead()V
abbrev mX11_keepsAhead : zMt := (yX11_keepsAhead, cX11_keepsAhead, 2, none)
theorem fl_X11_13 : zF RX11 13 11 2 := ⟨RX11, TX11, 69, rfl, Nat.le_of_ble_eq_true rfl, zTb_in 1301 (by decide +kernel) rfl, in_X11⟩
theorem fl_X11_131 : zF RX11 131 11 3 := ⟨RX11, TX11, 69, rfl, Nat.le_of_ble_eq_true rfl, zTb_in 1302 (by decide +kernel) rfl, in_X11⟩
theorem fl_X11_7 : zF RX11 7 11 1 := ⟨RX11, TX11, 69, rfl, Nat.le_of_ble_eq_true rfl, zTb_in 1300 (by decide +kernel) rfl, in_X11⟩
theorem fp_X11_131 : zFp RX11 131 11 3 .int := ⟨RX11, TX11, 69, tyX11, rfl, Nat.le_of_ble_eq_true rfl, zTb_in 1302 (by decide +kernel) rfl, in_X11, tyX11_ok, nmX11, rfl, rfl⟩
theorem dX11_keepsAhead_0 : decode cX11_keepsAhead 0 = .ok (.aload_n 0, 1) := by decide +kernel
theorem dX11_keepsAhead_1 : decode cX11_keepsAhead 1 = .ok (.getfield 131, 3) := by decide +kernel
theorem dX11_keepsAhead_4 : decode cX11_keepsAhead 4 = .ok (.bipush 6, 2) := by decide +kernel
theorem dX11_keepsAhead_6 : decode cX11_keepsAhead 6 = .ok (.if_icmp .ne 47, 3) := by decide +kernel
theorem dX11_keepsAhead_9 : decode cX11_keepsAhead 9 = .ok (.aload_n 0, 1) := by decide +kernel
theorem dX11_keepsAhead_10 : decode cX11_keepsAhead 10 = .ok (.aload_n 0, 1) := by decide +kernel
theorem dX11_keepsAhead_11 : decode cX11_keepsAhead 11 = .ok (.getfield 131, 3) := by decide +kernel
theorem dX11_keepsAhead_14 : decode cX11_keepsAhead 14 = .ok (.iconst 1, 1) := by decide +kernel
theorem dX11_keepsAhead_15 : decode cX11_keepsAhead 15 = .ok (.isub, 1) := by decide +kernel
theorem dX11_keepsAhead_16 : decode cX11_keepsAhead 16 = .ok (.putfield 131, 3) := by decide +kernel
theorem dX11_keepsAhead_19 : decode cX11_keepsAhead 19 = .ok (.iconst 0, 1) := by decide +kernel
theorem dX11_keepsAhead_20 : decode cX11_keepsAhead 20 = .ok (.istore_n 1, 1) := by decide +kernel
theorem dX11_keepsAhead_21 : decode cX11_keepsAhead 21 = .ok (.iload_n 1, 1) := by decide +kernel
theorem dX11_keepsAhead_22 : decode cX11_keepsAhead 22 = .ok (.bipush 77, 2) := by decide +kernel
theorem dX11_keepsAhead_24 : decode cX11_keepsAhead 24 = .ok (.aload_n 0, 1) := by decide +kernel
theorem dX11_keepsAhead_25 : decode cX11_keepsAhead 25 = .ok (.getfield 131, 3) := by decide +kernel
theorem dX11_keepsAhead_28 : decode cX11_keepsAhead 28 = .ok (.imul, 1) := by decide +kernel
theorem dX11_keepsAhead_29 : decode cX11_keepsAhead 29 = .ok (.if_icmp .ge 24, 3) := by decide +kernel
theorem dX11_keepsAhead_32 : decode cX11_keepsAhead 32 = .ok (.aload_n 0, 1) := by decide +kernel
theorem dX11_keepsAhead_33 : decode cX11_keepsAhead 33 = .ok (.getfield 13, 3) := by decide +kernel
theorem dX11_keepsAhead_36 : decode cX11_keepsAhead 36 = .ok (.iload_n 1, 1) := by decide +kernel
theorem dX11_keepsAhead_37 : decode cX11_keepsAhead 37 = .ok (.aload_n 0, 1) := by decide +kernel
theorem dX11_keepsAhead_38 : decode cX11_keepsAhead 38 = .ok (.getfield 13, 3) := by decide +kernel
theorem dX11_keepsAhead_41 : decode cX11_keepsAhead 41 = .ok (.iload_n 1, 1) := by decide +kernel
theorem dX11_keepsAhead_42 : decode cX11_keepsAhead 42 = .ok (.bipush 77, 2) := by decide +kernel
theorem dX11_keepsAhead_44 : decode cX11_keepsAhead 44 = .ok (.iadd, 1) := by decide +kernel
theorem dX11_keepsAhead_45 : decode cX11_keepsAhead 45 = .ok (.iaload, 1) := by decide +kernel
theorem dX11_keepsAhead_46 : decode cX11_keepsAhead 46 = .ok (.iastore, 1) := by decide +kernel
theorem dX11_keepsAhead_47 : decode cX11_keepsAhead 47 = .ok (.iinc 1 1, 3) := by decide +kernel
theorem dX11_keepsAhead_50 : decode cX11_keepsAhead 50 = .ok (.goto (-29), 3) := by decide +kernel
theorem dX11_keepsAhead_53 : decode cX11_keepsAhead 53 = .ok (.iconst 0, 1) := by decide +kernel
theorem dX11_keepsAhead_54 : decode cX11_keepsAhead 54 = .ok (.istore_n 1, 1) := by decide +kernel
theorem dX11_keepsAhead_55 : decode cX11_keepsAhead 55 = .ok (.iload_n 1, 1) := by decide +kernel
theorem dX11_keepsAhead_56 : decode cX11_keepsAhead 56 = .ok (.bipush 77, 2) := by decide +kernel
theorem dX11_keepsAhead_58 : decode cX11_keepsAhead 58 = .ok (.if_icmp .ge 29, 3) := by decide +kernel
theorem dX11_keepsAhead_61 : decode cX11_keepsAhead 61 = .ok (.aload_n 0, 1) := by decide +kernel
theorem dX11_keepsAhead_62 : decode cX11_keepsAhead 62 = .ok (.getfield 13, 3) := by decide +kernel
theorem dX11_keepsAhead_65 : decode cX11_keepsAhead 65 = .ok (.bipush 77, 2) := by decide +kernel
theorem dX11_keepsAhead_67 : decode cX11_keepsAhead 67 = .ok (.aload_n 0, 1) := by decide +kernel
theorem dX11_keepsAhead_68 : decode cX11_keepsAhead 68 = .ok (.getfield 131, 3) := by decide +kernel
theorem dX11_keepsAhead_71 : decode cX11_keepsAhead 71 = .ok (.imul, 1) := by decide +kernel
theorem dX11_keepsAhead_72 : decode cX11_keepsAhead 72 = .ok (.iload_n 1, 1) := by decide +kernel
theorem dX11_keepsAhead_73 : decode cX11_keepsAhead 73 = .ok (.iadd, 1) := by decide +kernel
theorem dX11_keepsAhead_74 : decode cX11_keepsAhead 74 = .ok (.aload_n 0, 1) := by decide +kernel
theorem dX11_keepsAhead_75 : decode cX11_keepsAhead 75 = .ok (.getfield 7, 3) := by decide +kernel
theorem dX11_keepsAhead_78 : decode cX11_keepsAhead 78 = .ok (.iload_n 1, 1) := by decide +kernel
theorem dX11_keepsAhead_79 : decode cX11_keepsAhead 79 = .ok (.iaload, 1) := by decide +kernel
theorem dX11_keepsAhead_80 : decode cX11_keepsAhead 80 = .ok (.iastore, 1) := by decide +kernel
theorem dX11_keepsAhead_81 : decode cX11_keepsAhead 81 = .ok (.iinc 1 1, 3) := by decide +kernel
theorem dX11_keepsAhead_84 : decode cX11_keepsAhead 84 = .ok (.goto (-29), 3) := by decide +kernel
theorem dX11_keepsAhead_87 : decode cX11_keepsAhead 87 = .ok (.aload_n 0, 1) := by decide +kernel
theorem dX11_keepsAhead_88 : decode cX11_keepsAhead 88 = .ok (.aload_n 0, 1) := by decide +kernel
theorem dX11_keepsAhead_89 : decode cX11_keepsAhead 89 = .ok (.getfield 131, 3) := by decide +kernel
theorem dX11_keepsAhead_92 : decode cX11_keepsAhead 92 = .ok (.iconst 1, 1) := by decide +kernel
theorem dX11_keepsAhead_93 : decode cX11_keepsAhead 93 = .ok (.iadd, 1) := by decide +kernel
theorem dX11_keepsAhead_94 : decode cX11_keepsAhead 94 = .ok (.putfield 131, 3) := by decide +kernel
theorem dX11_keepsAhead_97 : decode cX11_keepsAhead 97 = .ok (.return_, 1) := by decide +kernel
def f_X11_keepsAhead_55  (k55 : Int32 × zHp → Option (zHp)) (v1 : Int32) (h : zHp) : Option (zHp) := (if v1 < (77 : Int32) then zix v1 77 (zix (((77 : Int32) * (h 0 3)) + v1) 462 (zlt (zst h 2 (((77 : Int32) * (h 0 3)) + v1).toNatClampNeg (h 1 v1.toNatClampNeg)) fun h1 => k55 ((v1 + (1 : Int32)), h1))) else zlt (zst h 0 3 ((h 0 3) + (1 : Int32))) fun h2 => some h2)
set_option maxHeartbeats 4000000 in
set_option maxRecDepth 100000 in
theorem f_X11_keepsAhead_55_s  (k55 : Int32 × zHp → Option (zHp)) (H55 : ∀ v : Int32 × zHp, Sim wM mX11_keepsAhead 0 rV 55 [(0, .ref 0), (1, .int v.1)] [] v.2 (k55 v)) (v1 : Int32) (h : zHp) : Sim wM mX11_keepsAhead 0 rV 55 [(0, .ref 0), (1, .int v1)] [] h (f_X11_keepsAhead_55 k55 v1 h) := by
  unfold f_X11_keepsAhead_55
  refine Sim.iload_n 1 dX11_keepsAhead_55 rfl ?_
  refine Sim.bipush (v := (77 : Int32)) dX11_keepsAhead_56 rfl ?_
  refine Sim.icmp_ge 87 dX11_keepsAhead_58 rfl ?_ ?_
  · refine Sim.aload_n 0 dX11_keepsAhead_61 rfl ?_
    refine Sim.getR (j := 2) fl_X11_13 dX11_keepsAhead_62 mR_2 ?_
    refine Sim.bipush (v := (77 : Int32)) dX11_keepsAhead_65 rfl ?_
    refine Sim.aload_n 0 dX11_keepsAhead_67 rfl ?_
    refine Sim.getI fl_X11_131 dX11_keepsAhead_68 mI_3 ?_
    refine Sim.imul dX11_keepsAhead_71 ?_
    refine Sim.iload_n 1 dX11_keepsAhead_72 rfl ?_
    refine Sim.iadd dX11_keepsAhead_73 ?_
    refine Sim.aload_n 0 dX11_keepsAhead_74 rfl ?_
    refine Sim.getR (j := 1) fl_X11_7 dX11_keepsAhead_75 mR_1 ?_
    refine Sim.iload_n 1 dX11_keepsAhead_78 rfl ?_
    refine Sim.iald (n := 77) dX11_keepsAhead_79 mA_1 ?_
    refine Sim.iast (n := 462) dX11_keepsAhead_80 mA_2 ?_
    refine Sim.lth (fun h1 => ?_)
    refine Sim.iinc (L' := [(1, .int (v1 + (1 : Int32))), (0, .ref 0)]) 1 dX11_keepsAhead_81 rfl rfl (Nat.le_of_ble_eq_true rfl) rfl ?_
    refine Sim.goto 55 dX11_keepsAhead_84 rfl ?_
    refine Sim.locs [1, 0] rfl ?_
    exact H55 ((v1 + (1 : Int32)), h1)
  · refine Sim.aload_n 0 dX11_keepsAhead_87 rfl ?_
    refine Sim.aload_n 0 dX11_keepsAhead_88 rfl ?_
    refine Sim.getI fl_X11_131 dX11_keepsAhead_89 mI_3 ?_
    refine Sim.iconst (v := (1 : Int32)) dX11_keepsAhead_92 rfl ?_
    refine Sim.iadd dX11_keepsAhead_93 ?_
    refine Sim.put fp_X11_131 dX11_keepsAhead_94 mI_3 rfl rfl ?_
    refine Sim.lth (fun h2 => ?_)
    exact Sim.vret dX11_keepsAhead_97 rfl
def f_X11_keepsAhead_55_lp   (n : Nat) (v : Int32 × zHp) : Option (zHp) := zlp (fun k55 v => f_X11_keepsAhead_55 k55 v.1 v.2) n v
theorem f_X11_keepsAhead_55_ls  (n : Nat) (v : Int32 × zHp) : Sim wM mX11_keepsAhead 0 rV 55 [(0, .ref 0), (1, .int v.1)] [] v.2 (f_X11_keepsAhead_55_lp n v) :=
  Sim.lp (V := Int32 × zHp) (Lf := fun v => [(0, .ref 0), (1, .int v.1)]) (sf := fun v => []) (hf := fun v => v.2) (fun k55 H55 v => f_X11_keepsAhead_55_s k55 H55 v.1 v.2) n v
def f_X11_keepsAhead_21  (k21 : Int32 × zHp → Option (zHp)) (v1 : Int32) (h : zHp) : Option (zHp) := (if v1 < ((77 : Int32) * (h 0 3)) then zix (v1 + (77 : Int32)) 462 (zix v1 462 (zlt (zst h 2 v1.toNatClampNeg (h 2 (v1 + (77 : Int32)).toNatClampNeg)) fun h1 => k21 ((v1 + (1 : Int32)), h1))) else f_X11_keepsAhead_55_lp  zN ((0 : Int32), h))
set_option maxHeartbeats 4000000 in
set_option maxRecDepth 100000 in
theorem f_X11_keepsAhead_21_s  (k21 : Int32 × zHp → Option (zHp)) (H21 : ∀ v : Int32 × zHp, Sim wM mX11_keepsAhead 0 rV 21 [(0, .ref 0), (1, .int v.1)] [] v.2 (k21 v)) (v1 : Int32) (h : zHp) : Sim wM mX11_keepsAhead 0 rV 21 [(0, .ref 0), (1, .int v1)] [] h (f_X11_keepsAhead_21 k21 v1 h) := by
  unfold f_X11_keepsAhead_21
  refine Sim.iload_n 1 dX11_keepsAhead_21 rfl ?_
  refine Sim.bipush (v := (77 : Int32)) dX11_keepsAhead_22 rfl ?_
  refine Sim.aload_n 0 dX11_keepsAhead_24 rfl ?_
  refine Sim.getI fl_X11_131 dX11_keepsAhead_25 mI_3 ?_
  refine Sim.imul dX11_keepsAhead_28 ?_
  refine Sim.icmp_ge 53 dX11_keepsAhead_29 rfl ?_ ?_
  · refine Sim.aload_n 0 dX11_keepsAhead_32 rfl ?_
    refine Sim.getR (j := 2) fl_X11_13 dX11_keepsAhead_33 mR_2 ?_
    refine Sim.iload_n 1 dX11_keepsAhead_36 rfl ?_
    refine Sim.aload_n 0 dX11_keepsAhead_37 rfl ?_
    refine Sim.getR (j := 2) fl_X11_13 dX11_keepsAhead_38 mR_2 ?_
    refine Sim.iload_n 1 dX11_keepsAhead_41 rfl ?_
    refine Sim.bipush (v := (77 : Int32)) dX11_keepsAhead_42 rfl ?_
    refine Sim.iadd dX11_keepsAhead_44 ?_
    refine Sim.iald (n := 462) dX11_keepsAhead_45 mA_2 ?_
    refine Sim.iast (n := 462) dX11_keepsAhead_46 mA_2 ?_
    refine Sim.lth (fun h1 => ?_)
    refine Sim.iinc (L' := [(1, .int (v1 + (1 : Int32))), (0, .ref 0)]) 1 dX11_keepsAhead_47 rfl rfl (Nat.le_of_ble_eq_true rfl) rfl ?_
    refine Sim.goto 21 dX11_keepsAhead_50 rfl ?_
    refine Sim.locs [1, 0] rfl ?_
    exact H21 ((v1 + (1 : Int32)), h1)
  · refine Sim.iconst (v := (0 : Int32)) dX11_keepsAhead_53 rfl ?_
    refine Sim.istore_n (L' := [(1, .int (0 : Int32)), (0, .ref 0)]) dX11_keepsAhead_54 (Nat.le_of_ble_eq_true rfl) rfl ?_
    refine Sim.locs [1, 0] rfl ?_
    exact f_X11_keepsAhead_55_ls  zN ((0 : Int32), h)
def f_X11_keepsAhead_21_lp   (n : Nat) (v : Int32 × zHp) : Option (zHp) := zlp (fun k21 v => f_X11_keepsAhead_21 k21 v.1 v.2) n v
theorem f_X11_keepsAhead_21_ls  (n : Nat) (v : Int32 × zHp) : Sim wM mX11_keepsAhead 0 rV 21 [(0, .ref 0), (1, .int v.1)] [] v.2 (f_X11_keepsAhead_21_lp n v) :=
  Sim.lp (V := Int32 × zHp) (Lf := fun v => [(0, .ref 0), (1, .int v.1)]) (sf := fun v => []) (hf := fun v => v.2) (fun k21 H21 v => f_X11_keepsAhead_21_s k21 H21 v.1 v.2) n v
def f_X11_keepsAhead   (h : zHp) : Option (zHp) := (if (h 0 3) = (6 : Int32) then zlt (zst h 0 3 ((h 0 3) - (1 : Int32))) fun h1 => f_X11_keepsAhead_21_lp  zN ((0 : Int32), h1) else f_X11_keepsAhead_55_lp  zN ((0 : Int32), h))
set_option maxHeartbeats 4000000 in
set_option maxRecDepth 100000 in
theorem s_X11_keepsAhead   (h : zHp) : Fn wM mX11_keepsAhead 0 rV [.ref 0] h (f_X11_keepsAhead  h) := by
  refine Fn.of rfl (Nat.le_of_ble_eq_true rfl) ?_
  unfold f_X11_keepsAhead
  refine Sim.aload_n 0 dX11_keepsAhead_0 rfl ?_
  refine Sim.getI fl_X11_131 dX11_keepsAhead_1 mI_3 ?_
  refine Sim.bipush (v := (6 : Int32)) dX11_keepsAhead_4 rfl ?_
  refine Sim.icmp_ne 53 dX11_keepsAhead_6 rfl ?_ ?_
  · refine Sim.aload_n 0 dX11_keepsAhead_9 rfl ?_
    refine Sim.aload_n 0 dX11_keepsAhead_10 rfl ?_
    refine Sim.getI fl_X11_131 dX11_keepsAhead_11 mI_3 ?_
    refine Sim.iconst (v := (1 : Int32)) dX11_keepsAhead_14 rfl ?_
    refine Sim.isub dX11_keepsAhead_15 ?_
    refine Sim.put fp_X11_131 dX11_keepsAhead_16 mI_3 rfl rfl ?_
    refine Sim.lth (fun h1 => ?_)
    refine Sim.iconst (v := (0 : Int32)) dX11_keepsAhead_19 rfl ?_
    refine Sim.istore_n (L' := [(1, .int (0 : Int32)), (0, .ref 0)]) dX11_keepsAhead_20 (Nat.le_of_ble_eq_true rfl) rfl ?_
    refine Sim.locs [1, 0] rfl ?_
    exact f_X11_keepsAhead_21_ls  zN ((0 : Int32), h1)
  · refine Sim.iconst (v := (0 : Int32)) dX11_keepsAhead_53 rfl ?_
    refine Sim.istore_n (L' := [(1, .int (0 : Int32)), (0, .ref 0)]) dX11_keepsAhead_54 (Nat.le_of_ble_eq_true rfl) rfl ?_
    refine Sim.locs [1, 0] rfl ?_
    exact f_X11_keepsAhead_55_ls  zN ((0 : Int32), h)
theorem mv_X11_keepsAhead : zMV mX11_keepsAhead 0 := ⟨⟨zTb_in 1718 (by decide +kernel) rfl, zTb_in 148 (by decide +kernel) rfl, ⟨by decide +kernel, by decide +kernel⟩, by decide +kernel⟩, zTb_in 1717 (by decide +kernel) rfl, zTb_in 81 (by decide +kernel) rfl⟩
-- ===== RockingPorchModel.undo()Z
abbrev mX11_undo : zMt := (yX11_undo, cX11_undo, 2, some .boolean)
theorem fp_X11_128 : zFp RX11 128 11 0 .int := ⟨RX11, TX11, 69, tyX11, rfl, Nat.le_of_ble_eq_true rfl, zTb_in 1299 (by decide +kernel) rfl, in_X11, tyX11_ok, nmX11, rfl, rfl⟩
theorem dX11_undo_0 : decode cX11_undo 0 = .ok (.aload_n 0, 1) := by decide +kernel
theorem dX11_undo_1 : decode cX11_undo 1 = .ok (.iconst 0, 1) := by decide +kernel
theorem dX11_undo_2 : decode cX11_undo 2 = .ok (.putfield 128, 3) := by decide +kernel
theorem dX11_undo_5 : decode cX11_undo 5 = .ok (.aload_n 0, 1) := by decide +kernel
theorem dX11_undo_6 : decode cX11_undo 6 = .ok (.getfield 131, 3) := by decide +kernel
theorem dX11_undo_9 : decode cX11_undo 9 = .ok (.ifCond .ne 5, 3) := by decide +kernel
theorem dX11_undo_12 : decode cX11_undo 12 = .ok (.iconst 0, 1) := by decide +kernel
theorem dX11_undo_13 : decode cX11_undo 13 = .ok (.ireturn, 1) := by decide +kernel
theorem dX11_undo_14 : decode cX11_undo 14 = .ok (.aload_n 0, 1) := by decide +kernel
theorem dX11_undo_15 : decode cX11_undo 15 = .ok (.aload_n 0, 1) := by decide +kernel
theorem dX11_undo_16 : decode cX11_undo 16 = .ok (.getfield 131, 3) := by decide +kernel
theorem dX11_undo_19 : decode cX11_undo 19 = .ok (.iconst 1, 1) := by decide +kernel
theorem dX11_undo_20 : decode cX11_undo 20 = .ok (.isub, 1) := by decide +kernel
theorem dX11_undo_21 : decode cX11_undo 21 = .ok (.putfield 131, 3) := by decide +kernel
theorem dX11_undo_24 : decode cX11_undo 24 = .ok (.iconst 0, 1) := by decide +kernel
theorem dX11_undo_25 : decode cX11_undo 25 = .ok (.istore_n 1, 1) := by decide +kernel
theorem dX11_undo_26 : decode cX11_undo 26 = .ok (.iload_n 1, 1) := by decide +kernel
theorem dX11_undo_27 : decode cX11_undo 27 = .ok (.bipush 77, 2) := by decide +kernel
theorem dX11_undo_29 : decode cX11_undo 29 = .ok (.if_icmp .ge 29, 3) := by decide +kernel
theorem dX11_undo_32 : decode cX11_undo 32 = .ok (.aload_n 0, 1) := by decide +kernel
theorem dX11_undo_33 : decode cX11_undo 33 = .ok (.getfield 7, 3) := by decide +kernel
theorem dX11_undo_36 : decode cX11_undo 36 = .ok (.iload_n 1, 1) := by decide +kernel
theorem dX11_undo_37 : decode cX11_undo 37 = .ok (.aload_n 0, 1) := by decide +kernel
theorem dX11_undo_38 : decode cX11_undo 38 = .ok (.getfield 13, 3) := by decide +kernel
theorem dX11_undo_41 : decode cX11_undo 41 = .ok (.bipush 77, 2) := by decide +kernel
theorem dX11_undo_43 : decode cX11_undo 43 = .ok (.aload_n 0, 1) := by decide +kernel
theorem dX11_undo_44 : decode cX11_undo 44 = .ok (.getfield 131, 3) := by decide +kernel
theorem dX11_undo_47 : decode cX11_undo 47 = .ok (.imul, 1) := by decide +kernel
theorem dX11_undo_48 : decode cX11_undo 48 = .ok (.iload_n 1, 1) := by decide +kernel
theorem dX11_undo_49 : decode cX11_undo 49 = .ok (.iadd, 1) := by decide +kernel
theorem dX11_undo_50 : decode cX11_undo 50 = .ok (.iaload, 1) := by decide +kernel
theorem dX11_undo_51 : decode cX11_undo 51 = .ok (.iastore, 1) := by decide +kernel
theorem dX11_undo_52 : decode cX11_undo 52 = .ok (.iinc 1 1, 3) := by decide +kernel
theorem dX11_undo_55 : decode cX11_undo 55 = .ok (.goto (-29), 3) := by decide +kernel
theorem dX11_undo_58 : decode cX11_undo 58 = .ok (.iconst 1, 1) := by decide +kernel
theorem dX11_undo_59 : decode cX11_undo 59 = .ok (.ireturn, 1) := by decide +kernel
def f_X11_undo_26  (k26 : Int32 × zHp → Option (Int32 × zHp)) (v1 : Int32) (h : zHp) : Option (Int32 × zHp) := (if v1 < (77 : Int32) then zix (((77 : Int32) * (h 0 3)) + v1) 462 (zix v1 77 (zlt (zst h 1 v1.toNatClampNeg (h 2 (((77 : Int32) * (h 0 3)) + v1).toNatClampNeg)) fun h1 => k26 ((v1 + (1 : Int32)), h1))) else some ((1 : Int32), h))
set_option maxHeartbeats 4000000 in
set_option maxRecDepth 100000 in
theorem f_X11_undo_26_s  (k26 : Int32 × zHp → Option (Int32 × zHp)) (H26 : ∀ v : Int32 × zHp, Sim wM mX11_undo 0 rI 26 [(0, .ref 0), (1, .int v.1)] [] v.2 (k26 v)) (v1 : Int32) (h : zHp) : Sim wM mX11_undo 0 rI 26 [(0, .ref 0), (1, .int v1)] [] h (f_X11_undo_26 k26 v1 h) := by
  unfold f_X11_undo_26
  refine Sim.iload_n 1 dX11_undo_26 rfl ?_
  refine Sim.bipush (v := (77 : Int32)) dX11_undo_27 rfl ?_
  refine Sim.icmp_ge 58 dX11_undo_29 rfl ?_ ?_
  · refine Sim.aload_n 0 dX11_undo_32 rfl ?_
    refine Sim.getR (j := 1) fl_X11_7 dX11_undo_33 mR_1 ?_
    refine Sim.iload_n 1 dX11_undo_36 rfl ?_
    refine Sim.aload_n 0 dX11_undo_37 rfl ?_
    refine Sim.getR (j := 2) fl_X11_13 dX11_undo_38 mR_2 ?_
    refine Sim.bipush (v := (77 : Int32)) dX11_undo_41 rfl ?_
    refine Sim.aload_n 0 dX11_undo_43 rfl ?_
    refine Sim.getI fl_X11_131 dX11_undo_44 mI_3 ?_
    refine Sim.imul dX11_undo_47 ?_
    refine Sim.iload_n 1 dX11_undo_48 rfl ?_
    refine Sim.iadd dX11_undo_49 ?_
    refine Sim.iald (n := 462) dX11_undo_50 mA_2 ?_
    refine Sim.iast (n := 77) dX11_undo_51 mA_1 ?_
    refine Sim.lth (fun h1 => ?_)
    refine Sim.iinc (L' := [(1, .int (v1 + (1 : Int32))), (0, .ref 0)]) 1 dX11_undo_52 rfl rfl (Nat.le_of_ble_eq_true rfl) rfl ?_
    refine Sim.goto 26 dX11_undo_55 rfl ?_
    refine Sim.locs [1, 0] rfl ?_
    exact H26 ((v1 + (1 : Int32)), h1)
  · refine Sim.iconst (v := (1 : Int32)) dX11_undo_58 rfl ?_
    exact Sim.nret dX11_undo_59 rfl rfl
def f_X11_undo_26_lp   (n : Nat) (v : Int32 × zHp) : Option (Int32 × zHp) := zlp (fun k26 v => f_X11_undo_26 k26 v.1 v.2) n v
theorem f_X11_undo_26_ls  (n : Nat) (v : Int32 × zHp) : Sim wM mX11_undo 0 rI 26 [(0, .ref 0), (1, .int v.1)] [] v.2 (f_X11_undo_26_lp n v) :=
  Sim.lp (V := Int32 × zHp) (Lf := fun v => [(0, .ref 0), (1, .int v.1)]) (sf := fun v => []) (hf := fun v => v.2) (fun k26 H26 v => f_X11_undo_26_s k26 H26 v.1 v.2) n v
def f_X11_undo   (h : zHp) : Option (Int32 × zHp) := zlt (zst h 0 0 (0 : Int32)) fun h1 => (if (h1 0 3) = 0 then some ((0 : Int32), h1) else zlt (zst h1 0 3 ((h1 0 3) - (1 : Int32))) fun h2 => f_X11_undo_26_lp  zN ((0 : Int32), h2))
set_option maxHeartbeats 4000000 in
set_option maxRecDepth 100000 in
theorem s_X11_undo   (h : zHp) : Fn wM mX11_undo 0 rI [.ref 0] h (f_X11_undo  h) := by
  refine Fn.of rfl (Nat.le_of_ble_eq_true rfl) ?_
  unfold f_X11_undo
  refine Sim.aload_n 0 dX11_undo_0 rfl ?_
  refine Sim.iconst (v := (0 : Int32)) dX11_undo_1 rfl ?_
  refine Sim.put fp_X11_128 dX11_undo_2 mI_0 rfl rfl ?_
  refine Sim.lth (fun h1 => ?_)
  refine Sim.aload_n 0 dX11_undo_5 rfl ?_
  refine Sim.getI fl_X11_131 dX11_undo_6 mI_3 ?_
  refine Sim.if_ne 14 dX11_undo_9 rfl ?_ ?_
  · refine Sim.iconst (v := (0 : Int32)) dX11_undo_12 rfl ?_
    exact Sim.nret dX11_undo_13 rfl rfl
  · refine Sim.aload_n 0 dX11_undo_14 rfl ?_
    refine Sim.aload_n 0 dX11_undo_15 rfl ?_
    refine Sim.getI fl_X11_131 dX11_undo_16 mI_3 ?_
    refine Sim.iconst (v := (1 : Int32)) dX11_undo_19 rfl ?_
    refine Sim.isub dX11_undo_20 ?_
    refine Sim.put fp_X11_131 dX11_undo_21 mI_3 rfl rfl ?_
    refine Sim.lth (fun h2 => ?_)
    refine Sim.iconst (v := (0 : Int32)) dX11_undo_24 rfl ?_
    refine Sim.istore_n (L' := [(1, .int (0 : Int32)), (0, .ref 0)]) dX11_undo_25 (Nat.le_of_ble_eq_true rfl) rfl ?_
    refine Sim.locs [1, 0] rfl ?_
    exact f_X11_undo_26_ls  zN ((0 : Int32), h2)
theorem mv_X11_undo : zMV mX11_undo 0 := ⟨⟨zTb_in 1510 (by decide +kernel) rfl, zTb_in 148 (by decide +kernel) rfl, ⟨by decide +kernel, by decide +kernel⟩, by decide +kernel⟩, zTb_in 1508 (by decide +kernel) rfl, zTb_in 1509 (by decide +kernel) rfl⟩
-- ===== RockingPorchModel.thinks()V
abbrev mX11_thinks : zMt := (yX11_thinks, cX11_thinks, 2, none)
theorem fl_X11_16 : zF RX11 16 11 4 := ⟨RX11, TX11, 69, rfl, Nat.le_of_ble_eq_true rfl, zTb_in 1303 (by decide +kernel) rfl, in_X11⟩
theorem fp_X11_134 : zFp RX11 134 11 5 .boolean := ⟨RX11, TX11, 69, tyX11, rfl, Nat.le_of_ble_eq_true rfl, zTb_in 1304 (by decide +kernel) rfl, in_X11, tyX11_ok, nmX11, rfl, rfl⟩
theorem dX11_thinks_0 : decode cX11_thinks 0 = .ok (.iconst 0, 1) := by decide +kernel
theorem dX11_thinks_1 : decode cX11_thinks 1 = .ok (.istore_n 1, 1) := by decide +kernel
theorem dX11_thinks_2 : decode cX11_thinks 2 = .ok (.iload_n 1, 1) := by decide +kernel
theorem dX11_thinks_3 : decode cX11_thinks 3 = .ok (.bipush 77, 2) := by decide +kernel
theorem dX11_thinks_5 : decode cX11_thinks 5 = .ok (.if_icmp .ge 21, 3) := by decide +kernel
theorem dX11_thinks_8 : decode cX11_thinks 8 = .ok (.aload_n 0, 1) := by decide +kernel
theorem dX11_thinks_9 : decode cX11_thinks 9 = .ok (.getfield 16, 3) := by decide +kernel
theorem dX11_thinks_12 : decode cX11_thinks 12 = .ok (.iload_n 1, 1) := by decide +kernel
theorem dX11_thinks_13 : decode cX11_thinks 13 = .ok (.aload_n 0, 1) := by decide +kernel
theorem dX11_thinks_14 : decode cX11_thinks 14 = .ok (.getfield 7, 3) := by decide +kernel
theorem dX11_thinks_17 : decode cX11_thinks 17 = .ok (.iload_n 1, 1) := by decide +kernel
theorem dX11_thinks_18 : decode cX11_thinks 18 = .ok (.iaload, 1) := by decide +kernel
theorem dX11_thinks_19 : decode cX11_thinks 19 = .ok (.iastore, 1) := by decide +kernel
theorem dX11_thinks_20 : decode cX11_thinks 20 = .ok (.iinc 1 1, 3) := by decide +kernel
theorem dX11_thinks_23 : decode cX11_thinks 23 = .ok (.goto (-21), 3) := by decide +kernel
theorem dX11_thinks_26 : decode cX11_thinks 26 = .ok (.aload_n 0, 1) := by decide +kernel
theorem dX11_thinks_27 : decode cX11_thinks 27 = .ok (.iconst 1, 1) := by decide +kernel
theorem dX11_thinks_28 : decode cX11_thinks 28 = .ok (.putfield 134, 3) := by decide +kernel
theorem dX11_thinks_31 : decode cX11_thinks 31 = .ok (.return_, 1) := by decide +kernel
def f_X11_thinks_2  (k2 : Int32 × zHp → Option (zHp)) (v1 : Int32) (h : zHp) : Option (zHp) := (if v1 < (77 : Int32) then zix v1 77 (zix v1 77 (zlt (zst h 3 v1.toNatClampNeg (h 1 v1.toNatClampNeg)) fun h1 => k2 ((v1 + (1 : Int32)), h1))) else zlt (zst h 0 5 (1 : Int32)) fun h2 => some h2)
set_option maxHeartbeats 4000000 in
set_option maxRecDepth 100000 in
theorem f_X11_thinks_2_s  (k2 : Int32 × zHp → Option (zHp)) (H2 : ∀ v : Int32 × zHp, Sim wM mX11_thinks 0 rV 2 [(0, .ref 0), (1, .int v.1)] [] v.2 (k2 v)) (v1 : Int32) (h : zHp) : Sim wM mX11_thinks 0 rV 2 [(0, .ref 0), (1, .int v1)] [] h (f_X11_thinks_2 k2 v1 h) := by
  unfold f_X11_thinks_2
  refine Sim.iload_n 1 dX11_thinks_2 rfl ?_
  refine Sim.bipush (v := (77 : Int32)) dX11_thinks_3 rfl ?_
  refine Sim.icmp_ge 26 dX11_thinks_5 rfl ?_ ?_
  · refine Sim.aload_n 0 dX11_thinks_8 rfl ?_
    refine Sim.getR (j := 3) fl_X11_16 dX11_thinks_9 mR_4 ?_
    refine Sim.iload_n 1 dX11_thinks_12 rfl ?_
    refine Sim.aload_n 0 dX11_thinks_13 rfl ?_
    refine Sim.getR (j := 1) fl_X11_7 dX11_thinks_14 mR_1 ?_
    refine Sim.iload_n 1 dX11_thinks_17 rfl ?_
    refine Sim.iald (n := 77) dX11_thinks_18 mA_1 ?_
    refine Sim.iast (n := 77) dX11_thinks_19 mA_3 ?_
    refine Sim.lth (fun h1 => ?_)
    refine Sim.iinc (L' := [(1, .int (v1 + (1 : Int32))), (0, .ref 0)]) 1 dX11_thinks_20 rfl rfl (Nat.le_of_ble_eq_true rfl) rfl ?_
    refine Sim.goto 2 dX11_thinks_23 rfl ?_
    refine Sim.locs [1, 0] rfl ?_
    exact H2 ((v1 + (1 : Int32)), h1)
  · refine Sim.aload_n 0 dX11_thinks_26 rfl ?_
    refine Sim.iconst (v := (1 : Int32)) dX11_thinks_27 rfl ?_
    refine Sim.put fp_X11_134 dX11_thinks_28 mI_5 rfl rfl ?_
    refine Sim.lth (fun h2 => ?_)
    exact Sim.vret dX11_thinks_31 rfl
def f_X11_thinks_2_lp   (n : Nat) (v : Int32 × zHp) : Option (zHp) := zlp (fun k2 v => f_X11_thinks_2 k2 v.1 v.2) n v
theorem f_X11_thinks_2_ls  (n : Nat) (v : Int32 × zHp) : Sim wM mX11_thinks 0 rV 2 [(0, .ref 0), (1, .int v.1)] [] v.2 (f_X11_thinks_2_lp n v) :=
  Sim.lp (V := Int32 × zHp) (Lf := fun v => [(0, .ref 0), (1, .int v.1)]) (sf := fun v => []) (hf := fun v => v.2) (fun k2 H2 v => f_X11_thinks_2_s k2 H2 v.1 v.2) n v
def f_X11_thinks   (h : zHp) : Option (zHp) := f_X11_thinks_2_lp  zN ((0 : Int32), h)
set_option maxHeartbeats 4000000 in
set_option maxRecDepth 100000 in
theorem s_X11_thinks   (h : zHp) : Fn wM mX11_thinks 0 rV [.ref 0] h (f_X11_thinks  h) := by
  refine Fn.of rfl (Nat.le_of_ble_eq_true rfl) ?_
  unfold f_X11_thinks
  refine Sim.iconst (v := (0 : Int32)) dX11_thinks_0 rfl ?_
  refine Sim.istore_n (L' := [(1, .int (0 : Int32)), (0, .ref 0)]) dX11_thinks_1 (Nat.le_of_ble_eq_true rfl) rfl ?_
  refine Sim.locs [1, 0] rfl ?_
  exact f_X11_thinks_2_ls  zN ((0 : Int32), h)
theorem mv_X11_thinks : zMV mX11_thinks 0 := ⟨⟨zTb_in 1848 (by decide +kernel) rfl, zTb_in 148 (by decide +kernel) rfl, ⟨by decide +kernel, by decide +kernel⟩, by decide +kernel⟩, zTb_in 1847 (by decide +kernel) rfl, zTb_in 108 (by decide +kernel) rfl⟩
-- ===== RockingPorchModel.endsThought()V
abbrev mX11_endsThought : zMt := (yX11_endsThought, cX11_endsThought, 2, none)
theorem dX11_endsThought_0 : decode cX11_endsThought 0 = .ok (.iconst 0, 1) := by decide +kernel
theorem dX11_endsThought_1 : decode cX11_endsThought 1 = .ok (.istore_n 1, 1) := by decide +kernel
theorem dX11_endsThought_2 : decode cX11_endsThought 2 = .ok (.iload_n 1, 1) := by decide +kernel
theorem dX11_endsThought_3 : decode cX11_endsThought 3 = .ok (.bipush 77, 2) := by decide +kernel
theorem dX11_endsThought_5 : decode cX11_endsThought 5 = .ok (.if_icmp .ge 21, 3) := by decide +kernel
theorem dX11_endsThought_8 : decode cX11_endsThought 8 = .ok (.aload_n 0, 1) := by decide +kernel
theorem dX11_endsThought_9 : decode cX11_endsThought 9 = .ok (.getfield 7, 3) := by decide +kernel
theorem dX11_endsThought_12 : decode cX11_endsThought 12 = .ok (.iload_n 1, 1) := by decide +kernel
theorem dX11_endsThought_13 : decode cX11_endsThought 13 = .ok (.aload_n 0, 1) := by decide +kernel
theorem dX11_endsThought_14 : decode cX11_endsThought 14 = .ok (.getfield 16, 3) := by decide +kernel
theorem dX11_endsThought_17 : decode cX11_endsThought 17 = .ok (.iload_n 1, 1) := by decide +kernel
theorem dX11_endsThought_18 : decode cX11_endsThought 18 = .ok (.iaload, 1) := by decide +kernel
theorem dX11_endsThought_19 : decode cX11_endsThought 19 = .ok (.iastore, 1) := by decide +kernel
theorem dX11_endsThought_20 : decode cX11_endsThought 20 = .ok (.iinc 1 1, 3) := by decide +kernel
theorem dX11_endsThought_23 : decode cX11_endsThought 23 = .ok (.goto (-21), 3) := by decide +kernel
theorem dX11_endsThought_26 : decode cX11_endsThought 26 = .ok (.aload_n 0, 1) := by decide +kernel
theorem dX11_endsThought_27 : decode cX11_endsThought 27 = .ok (.iconst 0, 1) := by decide +kernel
theorem dX11_endsThought_28 : decode cX11_endsThought 28 = .ok (.putfield 134, 3) := by decide +kernel
theorem dX11_endsThought_31 : decode cX11_endsThought 31 = .ok (.return_, 1) := by decide +kernel
def f_X11_endsThought_2  (k2 : Int32 × zHp → Option (zHp)) (v1 : Int32) (h : zHp) : Option (zHp) := (if v1 < (77 : Int32) then zix v1 77 (zix v1 77 (zlt (zst h 1 v1.toNatClampNeg (h 3 v1.toNatClampNeg)) fun h1 => k2 ((v1 + (1 : Int32)), h1))) else zlt (zst h 0 5 (0 : Int32)) fun h2 => some h2)
set_option maxHeartbeats 4000000 in
set_option maxRecDepth 100000 in
theorem f_X11_endsThought_2_s  (k2 : Int32 × zHp → Option (zHp)) (H2 : ∀ v : Int32 × zHp, Sim wM mX11_endsThought 0 rV 2 [(0, .ref 0), (1, .int v.1)] [] v.2 (k2 v)) (v1 : Int32) (h : zHp) : Sim wM mX11_endsThought 0 rV 2 [(0, .ref 0), (1, .int v1)] [] h (f_X11_endsThought_2 k2 v1 h) := by
  unfold f_X11_endsThought_2
  refine Sim.iload_n 1 dX11_endsThought_2 rfl ?_
  refine Sim.bipush (v := (77 : Int32)) dX11_endsThought_3 rfl ?_
  refine Sim.icmp_ge 26 dX11_endsThought_5 rfl ?_ ?_
  · refine Sim.aload_n 0 dX11_endsThought_8 rfl ?_
    refine Sim.getR (j := 1) fl_X11_7 dX11_endsThought_9 mR_1 ?_
    refine Sim.iload_n 1 dX11_endsThought_12 rfl ?_
    refine Sim.aload_n 0 dX11_endsThought_13 rfl ?_
    refine Sim.getR (j := 3) fl_X11_16 dX11_endsThought_14 mR_4 ?_
    refine Sim.iload_n 1 dX11_endsThought_17 rfl ?_
    refine Sim.iald (n := 77) dX11_endsThought_18 mA_3 ?_
    refine Sim.iast (n := 77) dX11_endsThought_19 mA_1 ?_
    refine Sim.lth (fun h1 => ?_)
    refine Sim.iinc (L' := [(1, .int (v1 + (1 : Int32))), (0, .ref 0)]) 1 dX11_endsThought_20 rfl rfl (Nat.le_of_ble_eq_true rfl) rfl ?_
    refine Sim.goto 2 dX11_endsThought_23 rfl ?_
    refine Sim.locs [1, 0] rfl ?_
    exact H2 ((v1 + (1 : Int32)), h1)
  · refine Sim.aload_n 0 dX11_endsThought_26 rfl ?_
    refine Sim.iconst (v := (0 : Int32)) dX11_endsThought_27 rfl ?_
    refine Sim.put fp_X11_134 dX11_endsThought_28 mI_5 rfl rfl ?_
    refine Sim.lth (fun h2 => ?_)
    exact Sim.vret dX11_endsThought_31 rfl
def f_X11_endsThought_2_lp   (n : Nat) (v : Int32 × zHp) : Option (zHp) := zlp (fun k2 v => f_X11_endsThought_2 k2 v.1 v.2) n v
theorem f_X11_endsThought_2_ls  (n : Nat) (v : Int32 × zHp) : Sim wM mX11_endsThought 0 rV 2 [(0, .ref 0), (1, .int v.1)] [] v.2 (f_X11_endsThought_2_lp n v) :=
  Sim.lp (V := Int32 × zHp) (Lf := fun v => [(0, .ref 0), (1, .int v.1)]) (sf := fun v => []) (hf := fun v => v.2) (fun k2 H2 v => f_X11_endsThought_2_s k2 H2 v.1 v.2) n v
def f_X11_endsThought   (h : zHp) : Option (zHp) := f_X11_endsThought_2_lp  zN ((0 : Int32), h)
set_option maxHeartbeats 4000000 in
set_option maxRecDepth 100000 in
theorem s_X11_endsThought   (h : zHp) : Fn wM mX11_endsThought 0 rV [.ref 0] h (f_X11_endsThought  h) := by
  refine Fn.of rfl (Nat.le_of_ble_eq_true rfl) ?_
  unfold f_X11_endsThought
  refine Sim.iconst (v := (0 : Int32)) dX11_endsThought_0 rfl ?_
  refine Sim.istore_n (L' := [(1, .int (0 : Int32)), (0, .ref 0)]) dX11_endsThought_1 (Nat.le_of_ble_eq_true rfl) rfl ?_
  refine Sim.locs [1, 0] rfl ?_
  exact f_X11_endsThought_2_ls  zN ((0 : Int32), h)
theorem mv_X11_endsThought : zMV mX11_endsThought 0 := ⟨⟨zTb_in 1860 (by decide +kernel) rfl, zTb_in 148 (by decide +kernel) rfl, ⟨by decide +kernel, by decide +kernel⟩, by decide +kernel⟩, zTb_in 1859 (by decide +kernel) rfl, zTb_in 111 (by decide +kernel) rfl⟩
-- ===== RockingPorchModel.state(I)I
abbrev mX11_state : zMt := (yX11_state, cX11_state, 3, some .int)
theorem dX11_state_0 : decode cX11_state 0 = .ok (.aload_n 0, 1) := by decide +kernel
theorem dX11_state_1 : decode cX11_state 1 = .ok (.iconst 0, 1) := by decide +kernel
theorem dX11_state_2 : decode cX11_state 2 = .ok (.putfield 128, 3) := by decide +kernel
theorem dX11_state_5 : decode cX11_state 5 = .ok (.aload_n 0, 1) := by decide +kernel
theorem dX11_state_6 : decode cX11_state 6 = .ok (.getfield 7, 3) := by decide +kernel
theorem dX11_state_9 : decode cX11_state 9 = .ok (.iconst 1, 1) := by decide +kernel
theorem dX11_state_10 : decode cX11_state 10 = .ok (.iaload, 1) := by decide +kernel
theorem dX11_state_11 : decode cX11_state 11 = .ok (.istore_n 2, 1) := by decide +kernel
theorem dX11_state_12 : decode cX11_state 12 = .ok (.aload_n 0, 1) := by decide +kernel
theorem dX11_state_13 : decode cX11_state 13 = .ok (.getfield 7, 3) := by decide +kernel
theorem dX11_state_16 : decode cX11_state 16 = .ok (.iconst 1, 1) := by decide +kernel
theorem dX11_state_17 : decode cX11_state 17 = .ok (.iload_n 1, 1) := by decide +kernel
theorem dX11_state_18 : decode cX11_state 18 = .ok (.iastore, 1) := by decide +kernel
theorem dX11_state_19 : decode cX11_state 19 = .ok (.aload_n 0, 1) := by decide +kernel
theorem dX11_state_20 : decode cX11_state 20 = .ok (.iconst 0, 1) := by decide +kernel
theorem dX11_state_21 : decode cX11_state 21 = .ok (.putfield 131, 3) := by decide +kernel
theorem dX11_state_24 : decode cX11_state 24 = .ok (.iload_n 2, 1) := by decide +kernel
theorem dX11_state_25 : decode cX11_state 25 = .ok (.ireturn, 1) := by decide +kernel
def f_X11_state  (a1 : Int32) (h : zHp) : Option (Int32 × zHp) := zlt (zst h 0 0 (0 : Int32)) fun h1 => zix (1 : Int32) 77 (zlt (h1 1 (1 : Int32).toNatClampNeg) fun x2 => zix (1 : Int32) 77 (zlt (zst h1 1 (1 : Int32).toNatClampNeg a1) fun h3 => zlt (zst h3 0 3 (0 : Int32)) fun h4 => some (x2, h4)))
set_option maxHeartbeats 4000000 in
set_option maxRecDepth 100000 in
theorem s_X11_state  (a1 : Int32) (h : zHp) : Fn wM mX11_state 0 rI [.ref 0, .int a1] h (f_X11_state a1 h) := by
  refine Fn.of rfl (Nat.le_of_ble_eq_true rfl) ?_
  unfold f_X11_state
  refine Sim.aload_n 0 dX11_state_0 rfl ?_
  refine Sim.iconst (v := (0 : Int32)) dX11_state_1 rfl ?_
  refine Sim.put fp_X11_128 dX11_state_2 mI_0 rfl rfl ?_
  refine Sim.lth (fun h1 => ?_)
  refine Sim.aload_n 0 dX11_state_5 rfl ?_
  refine Sim.getR (j := 1) fl_X11_7 dX11_state_6 mR_1 ?_
  refine Sim.iconst (v := (1 : Int32)) dX11_state_9 rfl ?_
  refine Sim.iald (n := 77) dX11_state_10 mA_1 ?_
  refine Sim.lti (fun x2 => ?_)
  refine Sim.istore_n (L' := [(2, .int x2), (0, .ref 0), (1, .int a1)]) dX11_state_11 (Nat.le_of_ble_eq_true rfl) rfl ?_
  refine Sim.aload_n 1 dX11_state_12 rfl ?_
  refine Sim.getR (j := 1) fl_X11_7 dX11_state_13 mR_1 ?_
  refine Sim.iconst (v := (1 : Int32)) dX11_state_16 rfl ?_
  refine Sim.iload_n 2 dX11_state_17 rfl ?_
  refine Sim.iast (n := 77) dX11_state_18 mA_1 ?_
  refine Sim.lth (fun h3 => ?_)
  refine Sim.aload_n 1 dX11_state_19 rfl ?_
  refine Sim.iconst (v := (0 : Int32)) dX11_state_20 rfl ?_
  refine Sim.put fp_X11_131 dX11_state_21 mI_3 rfl rfl ?_
  refine Sim.lth (fun h4 => ?_)
  refine Sim.iload_n 0 dX11_state_24 rfl ?_
  exact Sim.iret dX11_state_25 rfl
theorem mv_X11_state : zMV mX11_state 1 := ⟨⟨zTb_in 1514 (by decide +kernel) rfl, zTb_in 148 (by decide +kernel) rfl, ⟨by decide +kernel, by decide +kernel⟩, by decide +kernel⟩, zTb_in 1512 (by decide +kernel) rfl, zTb_in 1513 (by decide +kernel) rfl⟩
-- ===== RockingPorchModel.draw(I)I
abbrev mX11_draw : zMt := (yX11_draw, cX11_draw, 2, some .int)
theorem ct_X11_138 : Cond.constant RX11 138 (1664525 : Int32) ∈ zTb := zTb_in 1791 (by decide +kernel) rfl
theorem ct_X11_139 : Cond.constant RX11 139 (1013904223 : Int32) ∈ zTb := zTb_in 1792 (by decide +kernel) rfl
theorem dX11_draw_0 : decode cX11_draw 0 = .ok (.aload_n 0, 1) := by decide +kernel
theorem dX11_draw_1 : decode cX11_draw 1 = .ok (.getfield 7, 3) := by decide +kernel
theorem dX11_draw_4 : decode cX11_draw 4 = .ok (.iconst 1, 1) := by decide +kernel
theorem dX11_draw_5 : decode cX11_draw 5 = .ok (.ldc 138, 2) := by decide +kernel
theorem dX11_draw_7 : decode cX11_draw 7 = .ok (.aload_n 0, 1) := by decide +kernel
theorem dX11_draw_8 : decode cX11_draw 8 = .ok (.getfield 7, 3) := by decide +kernel
theorem dX11_draw_11 : decode cX11_draw 11 = .ok (.iconst 1, 1) := by decide +kernel
theorem dX11_draw_12 : decode cX11_draw 12 = .ok (.iaload, 1) := by decide +kernel
theorem dX11_draw_13 : decode cX11_draw 13 = .ok (.imul, 1) := by decide +kernel
theorem dX11_draw_14 : decode cX11_draw 14 = .ok (.ldc 139, 2) := by decide +kernel
theorem dX11_draw_16 : decode cX11_draw 16 = .ok (.iadd, 1) := by decide +kernel
theorem dX11_draw_17 : decode cX11_draw 17 = .ok (.iastore, 1) := by decide +kernel
theorem dX11_draw_18 : decode cX11_draw 18 = .ok (.aload_n 0, 1) := by decide +kernel
theorem dX11_draw_19 : decode cX11_draw 19 = .ok (.getfield 7, 3) := by decide +kernel
theorem dX11_draw_22 : decode cX11_draw 22 = .ok (.iconst 1, 1) := by decide +kernel
theorem dX11_draw_23 : decode cX11_draw 23 = .ok (.iaload, 1) := by decide +kernel
theorem dX11_draw_24 : decode cX11_draw 24 = .ok (.bipush 8, 2) := by decide +kernel
theorem dX11_draw_26 : decode cX11_draw 26 = .ok (.iushr, 1) := by decide +kernel
theorem dX11_draw_27 : decode cX11_draw 27 = .ok (.iload_n 1, 1) := by decide +kernel
theorem dX11_draw_28 : decode cX11_draw 28 = .ok (.irem, 1) := by decide +kernel
theorem dX11_draw_29 : decode cX11_draw 29 = .ok (.ireturn, 1) := by decide +kernel
def f_X11_draw  (a1 : Int32) (h : zHp) : Option (Int32 × zHp) := zix (1 : Int32) 77 (zix (1 : Int32) 77 (zlt (zst h 1 (1 : Int32).toNatClampNeg (((1664525 : Int32) * (h 1 (1 : Int32).toNatClampNeg)) + (1013904223 : Int32))) fun h1 => zix (1 : Int32) 77 (zdz a1 (some (((((h1 1 (1 : Int32).toNatClampNeg).toUInt32 >>> ((8 : Int32).toUInt32 &&& Int32.toUInt32 31)).toInt32) - (((h1 1 (1 : Int32).toNatClampNeg).toUInt32 >>> ((8 : Int32).toUInt32 &&& Int32.toUInt32 31)).toInt32) / a1 * a1), h1)))))
set_option maxHeartbeats 4000000 in
set_option maxRecDepth 100000 in
theorem s_X11_draw  (a1 : Int32) (h : zHp) : Fn wM mX11_draw 0 rI [.ref 0, .int a1] h (f_X11_draw a1 h) := by
  refine Fn.of rfl (Nat.le_of_ble_eq_true rfl) ?_
  unfold f_X11_draw
  refine Sim.aload_n 0 dX11_draw_0 rfl ?_
  refine Sim.getR (j := 1) fl_X11_7 dX11_draw_1 mR_1 ?_
  refine Sim.iconst (v := (1 : Int32)) dX11_draw_4 rfl ?_
  refine Sim.ldc (v := (1664525 : Int32)) dX11_draw_5 ct_X11_138 ?_
  refine Sim.aload_n 0 dX11_draw_7 rfl ?_
  refine Sim.getR (j := 1) fl_X11_7 dX11_draw_8 mR_1 ?_
  refine Sim.iconst (v := (1 : Int32)) dX11_draw_11 rfl ?_
  refine Sim.iald (n := 77) dX11_draw_12 mA_1 ?_
  refine Sim.imul dX11_draw_13 ?_
  refine Sim.ldc (v := (1013904223 : Int32)) dX11_draw_14 ct_X11_139 ?_
  refine Sim.iadd dX11_draw_16 ?_
  refine Sim.iast (n := 77) dX11_draw_17 mA_1 ?_
  refine Sim.lth (fun h1 => ?_)
  refine Sim.aload_n 0 dX11_draw_18 rfl ?_
  refine Sim.getR (j := 1) fl_X11_7 dX11_draw_19 mR_1 ?_
  refine Sim.iconst (v := (1 : Int32)) dX11_draw_22 rfl ?_
  refine Sim.iald (n := 77) dX11_draw_23 mA_1 ?_
  refine Sim.bipush (v := (8 : Int32)) dX11_draw_24 rfl ?_
  refine Sim.iushr dX11_draw_26 ?_
  refine Sim.iload_n 1 dX11_draw_27 rfl ?_
  refine Sim.irem dX11_draw_28 ?_
  exact Sim.iret dX11_draw_29 rfl
theorem mv_X11_draw : zMV mX11_draw 1 := ⟨⟨zTb_in 1790 (by decide +kernel) rfl, zTb_in 148 (by decide +kernel) rfl, ⟨by decide +kernel, by decide +kernel⟩, by decide +kernel⟩, zTb_in 1789 (by decide +kernel) rfl, zTb_in 99 (by decide +kernel) rfl⟩
-- ===== RockingPorchModel.isChair(I)Z
abbrev mX11_isChair : zMt := (yX11_isChair, cX11_isChair, 2, some .boolean)
theorem fl_X11_140 : zF RX11 140 11 6 := ⟨RX11, TX11, 69, rfl, Nat.le_of_ble_eq_true rfl, zTb_in 1305 (by decide +kernel) rfl, in_X11⟩
theorem dX11_isChair_0 : decode cX11_isChair 0 = .ok (.iload_n 1, 1) := by decide +kernel
theorem dX11_isChair_1 : decode cX11_isChair 1 = .ok (.ifCond .lt 15, 3) := by decide +kernel
theorem dX11_isChair_4 : decode cX11_isChair 4 = .ok (.iload_n 1, 1) := by decide +kernel
theorem dX11_isChair_5 : decode cX11_isChair 5 = .ok (.aload_n 0, 1) := by decide +kernel
theorem dX11_isChair_6 : decode cX11_isChair 6 = .ok (.getfield 140, 3) := by decide +kernel
theorem dX11_isChair_9 : decode cX11_isChair 9 = .ok (.if_icmp .ge 7, 3) := by decide +kernel
theorem dX11_isChair_12 : decode cX11_isChair 12 = .ok (.iconst 1, 1) := by decide +kernel
theorem dX11_isChair_13 : decode cX11_isChair 13 = .ok (.goto 4, 3) := by decide +kernel
theorem dX11_isChair_16 : decode cX11_isChair 16 = .ok (.iconst 0, 1) := by decide +kernel
theorem dX11_isChair_17 : decode cX11_isChair 17 = .ok (.ireturn, 1) := by decide +kernel
def f_X11_isChair  (a1 : Int32) (h : zHp) : Option (Int32 × zHp) := (if a1 < 0 then some ((0 : Int32), h) else (if a1 < (h 0 6) then some ((1 : Int32), h) else some ((0 : Int32), h)))
set_option maxHeartbeats 4000000 in
set_option maxRecDepth 100000 in
theorem s_X11_isChair  (a1 : Int32) (h : zHp) : Fn wM mX11_isChair 0 rI [.ref 0, .int a1] h (f_X11_isChair a1 h) := by
  refine Fn.of rfl (Nat.le_of_ble_eq_true rfl) ?_
  unfold f_X11_isChair
  refine Sim.iload_n 1 dX11_isChair_0 rfl ?_
  refine Sim.if_lt 16 dX11_isChair_1 rfl ?_ ?_
  · refine Sim.iconst (v := (0 : Int32)) dX11_isChair_16 rfl ?_
    exact Sim.nret dX11_isChair_17 rfl rfl
  · refine Sim.iload_n 1 dX11_isChair_4 rfl ?_
    refine Sim.aload_n 0 dX11_isChair_5 rfl ?_
    refine Sim.getI fl_X11_140 dX11_isChair_6 mI_6 ?_
    refine Sim.icmp_ge 16 dX11_isChair_9 rfl ?_ ?_
    · refine Sim.iconst (v := (1 : Int32)) dX11_isChair_12 rfl ?_
      refine Sim.goto 17 dX11_isChair_13 rfl ?_
      exact Sim.nret dX11_isChair_17 rfl rfl
    · refine Sim.iconst (v := (0 : Int32)) dX11_isChair_16 rfl ?_
      exact Sim.nret dX11_isChair_17 rfl rfl
theorem mv_X11_isChair : zMV mX11_isChair 1 := ⟨⟨zTb_in 1538 (by decide +kernel) rfl, zTb_in 148 (by decide +kernel) rfl, ⟨by decide +kernel, by decide +kernel⟩, by decide +kernel⟩, zTb_in 1537 (by decide +kernel) rfl, zTb_in 41 (by decide +kernel) rfl⟩
-- ===== RockingPorchModel.isPerson(I)Z
abbrev mX11_isPerson : zMt := (yX11_isPerson, cX11_isPerson, 2, some .boolean)
theorem fl_X11_143 : zF RX11 143 11 7 := ⟨RX11, TX11, 69, rfl, Nat.le_of_ble_eq_true rfl, zTb_in 1306 (by decide +kernel) rfl, in_X11⟩
theorem dX11_isPerson_0 : decode cX11_isPerson 0 = .ok (.iload_n 1, 1) := by decide +kernel
theorem dX11_isPerson_1 : decode cX11_isPerson 1 = .ok (.ifCond .lt 15, 3) := by decide +kernel
theorem dX11_isPerson_4 : decode cX11_isPerson 4 = .ok (.iload_n 1, 1) := by decide +kernel
theorem dX11_isPerson_5 : decode cX11_isPerson 5 = .ok (.aload_n 0, 1) := by decide +kernel
theorem dX11_isPerson_6 : decode cX11_isPerson 6 = .ok (.getfield 143, 3) := by decide +kernel
theorem dX11_isPerson_9 : decode cX11_isPerson 9 = .ok (.if_icmp .ge 7, 3) := by decide +kernel
theorem dX11_isPerson_12 : decode cX11_isPerson 12 = .ok (.iconst 1, 1) := by decide +kernel
theorem dX11_isPerson_13 : decode cX11_isPerson 13 = .ok (.goto 4, 3) := by decide +kernel
theorem dX11_isPerson_16 : decode cX11_isPerson 16 = .ok (.iconst 0, 1) := by decide +kernel
theorem dX11_isPerson_17 : decode cX11_isPerson 17 = .ok (.ireturn, 1) := by decide +kernel
def f_X11_isPerson  (a1 : Int32) (h : zHp) : Option (Int32 × zHp) := (if a1 < 0 then some ((0 : Int32), h) else (if a1 < (h 0 7) then some ((1 : Int32), h) else some ((0 : Int32), h)))
set_option maxHeartbeats 4000000 in
set_option maxRecDepth 100000 in
theorem s_X11_isPerson  (a1 : Int32) (h : zHp) : Fn wM mX11_isPerson 0 rI [.ref 0, .int a1] h (f_X11_isPerson a1 h) := by
  refine Fn.of rfl (Nat.le_of_ble_eq_true rfl) ?_
  unfold f_X11_isPerson
  refine Sim.iload_n 1 dX11_isPerson_0 rfl ?_
  refine Sim.if_lt 16 dX11_isPerson_1 rfl ?_ ?_
  · refine Sim.iconst (v := (0 : Int32)) dX11_isPerson_16 rfl ?_
    exact Sim.nret dX11_isPerson_17 rfl rfl
  · refine Sim.iload_n 1 dX11_isPerson_4 rfl ?_
    refine Sim.aload_n 0 dX11_isPerson_5 rfl ?_
    refine Sim.getI fl_X11_143 dX11_isPerson_6 mI_7 ?_
    refine Sim.icmp_ge 16 dX11_isPerson_9 rfl ?_ ?_
    · refine Sim.iconst (v := (1 : Int32)) dX11_isPerson_12 rfl ?_
      refine Sim.goto 17 dX11_isPerson_13 rfl ?_
      exact Sim.nret dX11_isPerson_17 rfl rfl
    · refine Sim.iconst (v := (0 : Int32)) dX11_isPerson_16 rfl ?_
      exact Sim.nret dX11_isPerson_17 rfl rfl
theorem mv_X11_isPerson : zMV mX11_isPerson 1 := ⟨⟨zTb_in 1542 (by decide +kernel) rfl, zTb_in 148 (by decide +kernel) rfl, ⟨by decide +kernel, by decide +kernel⟩, by decide +kernel⟩, zTb_in 1541 (by decide +kernel) rfl, zTb_in 42 (by decide +kernel) rfl⟩
-- ===== RockingPorchModel.forWhom(I)I
abbrev mX11_forWhom : zMt := (yX11_forWhom, cX11_forWhom, 2, some .int)
theorem dX11_forWhom_0 : decode cX11_forWhom 0 = .ok (.aload_n 0, 1) := by decide +kernel
theorem dX11_forWhom_1 : decode cX11_forWhom 1 = .ok (.getfield 7, 3) := by decide +kernel
theorem dX11_forWhom_4 : decode cX11_forWhom 4 = .ok (.bipush 15, 2) := by decide +kernel
theorem dX11_forWhom_6 : decode cX11_forWhom 6 = .ok (.iload_n 1, 1) := by decide +kernel
theorem dX11_forWhom_7 : decode cX11_forWhom 7 = .ok (.iadd, 1) := by decide +kernel
theorem dX11_forWhom_8 : decode cX11_forWhom 8 = .ok (.iaload, 1) := by decide +kernel
theorem dX11_forWhom_9 : decode cX11_forWhom 9 = .ok (.iconst 1, 1) := by decide +kernel
theorem dX11_forWhom_10 : decode cX11_forWhom 10 = .ok (.isub, 1) := by decide +kernel
theorem dX11_forWhom_11 : decode cX11_forWhom 11 = .ok (.ireturn, 1) := by decide +kernel
def f_X11_forWhom  (a1 : Int32) (h : zHp) : Option (Int32 × zHp) := zix ((15 : Int32) + a1) 77 (some (((h 1 ((15 : Int32) + a1).toNatClampNeg) - (1 : Int32)), h))
set_option maxHeartbeats 4000000 in
set_option maxRecDepth 100000 in
theorem s_X11_forWhom  (a1 : Int32) (h : zHp) : Fn wM mX11_forWhom 0 rI [.ref 0, .int a1] h (f_X11_forWhom a1 h) := by
  refine Fn.of rfl (Nat.le_of_ble_eq_true rfl) ?_
  unfold f_X11_forWhom
  refine Sim.aload_n 0 dX11_forWhom_0 rfl ?_
  refine Sim.getR (j := 1) fl_X11_7 dX11_forWhom_1 mR_1 ?_
  refine Sim.bipush (v := (15 : Int32)) dX11_forWhom_4 rfl ?_
  refine Sim.iload_n 1 dX11_forWhom_6 rfl ?_
  refine Sim.iadd dX11_forWhom_7 ?_
  refine Sim.iald (n := 77) dX11_forWhom_8 mA_1 ?_
  refine Sim.iconst (v := (1 : Int32)) dX11_forWhom_9 rfl ?_
  refine Sim.isub dX11_forWhom_10 ?_
  exact Sim.iret dX11_forWhom_11 rfl
theorem mv_X11_forWhom : zMV mX11_forWhom 1 := ⟨⟨zTb_in 1782 (by decide +kernel) rfl, zTb_in 148 (by decide +kernel) rfl, ⟨by decide +kernel, by decide +kernel⟩, by decide +kernel⟩, zTb_in 1781 (by decide +kernel) rfl, zTb_in 97 (by decide +kernel) rfl⟩
-- ===== RockingPorchModel.takenBy(I)I
abbrev mX11_takenBy : zMt := (yX11_takenBy, cX11_takenBy, 2, some .int)
theorem dX11_takenBy_0 : decode cX11_takenBy 0 = .ok (.aload_n 0, 1) := by decide +kernel
theorem dX11_takenBy_1 : decode cX11_takenBy 1 = .ok (.getfield 7, 3) := by decide +kernel
theorem dX11_takenBy_4 : decode cX11_takenBy 4 = .ok (.bipush 25, 2) := by decide +kernel
theorem dX11_takenBy_6 : decode cX11_takenBy 6 = .ok (.iload_n 1, 1) := by decide +kernel
theorem dX11_takenBy_7 : decode cX11_takenBy 7 = .ok (.iadd, 1) := by decide +kernel
theorem dX11_takenBy_8 : decode cX11_takenBy 8 = .ok (.iaload, 1) := by decide +kernel
theorem dX11_takenBy_9 : decode cX11_takenBy 9 = .ok (.iconst 1, 1) := by decide +kernel
theorem dX11_takenBy_10 : decode cX11_takenBy 10 = .ok (.isub, 1) := by decide +kernel
theorem dX11_takenBy_11 : decode cX11_takenBy 11 = .ok (.ireturn, 1) := by decide +kernel
def f_X11_takenBy  (a1 : Int32) (h : zHp) : Option (Int32 × zHp) := zix ((25 : Int32) + a1) 77 (some (((h 1 ((25 : Int32) + a1).toNatClampNeg) - (1 : Int32)), h))
set_option maxHeartbeats 4000000 in
set_option maxRecDepth 100000 in
theorem s_X11_takenBy  (a1 : Int32) (h : zHp) : Fn wM mX11_takenBy 0 rI [.ref 0, .int a1] h (f_X11_takenBy a1 h) := by
  refine Fn.of rfl (Nat.le_of_ble_eq_true rfl) ?_
  unfold f_X11_takenBy
  refine Sim.aload_n 0 dX11_takenBy_0 rfl ?_
  refine Sim.getR (j := 1) fl_X11_7 dX11_takenBy_1 mR_1 ?_
  refine Sim.bipush (v := (25 : Int32)) dX11_takenBy_4 rfl ?_
  refine Sim.iload_n 1 dX11_takenBy_6 rfl ?_
  refine Sim.iadd dX11_takenBy_7 ?_
  refine Sim.iald (n := 77) dX11_takenBy_8 mA_1 ?_
  refine Sim.iconst (v := (1 : Int32)) dX11_takenBy_9 rfl ?_
  refine Sim.isub dX11_takenBy_10 ?_
  exact Sim.iret dX11_takenBy_11 rfl
theorem mv_X11_takenBy : zMV mX11_takenBy 1 := ⟨⟨zTb_in 1714 (by decide +kernel) rfl, zTb_in 148 (by decide +kernel) rfl, ⟨by decide +kernel, by decide +kernel⟩, by decide +kernel⟩, zTb_in 1713 (by decide +kernel) rfl, zTb_in 80 (by decide +kernel) rfl⟩
-- ===== RockingPorchModel.doesRock(I)Z
abbrev mX11_doesRock : zMt := (yX11_doesRock, cX11_doesRock, 2, some .boolean)
theorem dX11_doesRock_0 : decode cX11_doesRock 0 = .ok (.aload_n 0, 1) := by decide +kernel
theorem dX11_doesRock_1 : decode cX11_doesRock 1 = .ok (.getfield 7, 3) := by decide +kernel
theorem dX11_doesRock_4 : decode cX11_doesRock 4 = .ok (.iconst 5, 1) := by decide +kernel
theorem dX11_doesRock_5 : decode cX11_doesRock 5 = .ok (.iload_n 1, 1) := by decide +kernel
theorem dX11_doesRock_6 : decode cX11_doesRock 6 = .ok (.iadd, 1) := by decide +kernel
theorem dX11_doesRock_7 : decode cX11_doesRock 7 = .ok (.iaload, 1) := by decide +kernel
theorem dX11_doesRock_8 : decode cX11_doesRock 8 = .ok (.ifCond .le 7, 3) := by decide +kernel
theorem dX11_doesRock_11 : decode cX11_doesRock 11 = .ok (.iconst 1, 1) := by decide +kernel
theorem dX11_doesRock_12 : decode cX11_doesRock 12 = .ok (.goto 4, 3) := by decide +kernel
theorem dX11_doesRock_15 : decode cX11_doesRock 15 = .ok (.iconst 0, 1) := by decide +kernel
theorem dX11_doesRock_16 : decode cX11_doesRock 16 = .ok (.ireturn, 1) := by decide +kernel
def f_X11_doesRock  (a1 : Int32) (h : zHp) : Option (Int32 × zHp) := zix ((5 : Int32) + a1) 77 ((if 0 < (h 1 ((5 : Int32) + a1).toNatClampNeg) then some ((1 : Int32), h) else some ((0 : Int32), h)))
set_option maxHeartbeats 4000000 in
set_option maxRecDepth 100000 in
theorem s_X11_doesRock  (a1 : Int32) (h : zHp) : Fn wM mX11_doesRock 0 rI [.ref 0, .int a1] h (f_X11_doesRock a1 h) := by
  refine Fn.of rfl (Nat.le_of_ble_eq_true rfl) ?_
  unfold f_X11_doesRock
  refine Sim.aload_n 0 dX11_doesRock_0 rfl ?_
  refine Sim.getR (j := 1) fl_X11_7 dX11_doesRock_1 mR_1 ?_
  refine Sim.iconst (v := (5 : Int32)) dX11_doesRock_4 rfl ?_
  refine Sim.iload_n 1 dX11_doesRock_5 rfl ?_
  refine Sim.iadd dX11_doesRock_6 ?_
  refine Sim.iald (n := 77) dX11_doesRock_7 mA_1 ?_
  refine Sim.if_le 15 dX11_doesRock_8 rfl ?_ ?_
  · refine Sim.iconst (v := (1 : Int32)) dX11_doesRock_11 rfl ?_
    refine Sim.goto 16 dX11_doesRock_12 rfl ?_
    exact Sim.nret dX11_doesRock_16 rfl rfl
  · refine Sim.iconst (v := (0 : Int32)) dX11_doesRock_15 rfl ?_
    exact Sim.nret dX11_doesRock_16 rfl rfl
theorem mv_X11_doesRock : zMV mX11_doesRock 1 := ⟨⟨zTb_in 1546 (by decide +kernel) rfl, zTb_in 148 (by decide +kernel) rfl, ⟨by decide +kernel, by decide +kernel⟩, by decide +kernel⟩, zTb_in 1545 (by decide +kernel) rfl, zTb_in 43 (by decide +kernel) rfl⟩
-- ===== RockingPorchModel.isFree(I)Z
abbrev mX11_isFree : zMt := (yX11_isFree, cX11_isFree, 2, some .boolean)
theorem ml_X11_146 : Cond.methodLink RX11 146 yX11_doesRock ∈ zTb := zTb_in 1543 (by decide +kernel) rfl
theorem ml_X11_150 : Cond.methodLink RX11 150 yX11_takenBy ∈ zTb := zTb_in 1711 (by decide +kernel) rfl
theorem dX11_isFree_0 : decode cX11_isFree 0 = .ok (.aload_n 0, 1) := by decide +kernel
theorem dX11_isFree_1 : decode cX11_isFree 1 = .ok (.iload_n 1, 1) := by decide +kernel
theorem dX11_isFree_2 : decode cX11_isFree 2 = .ok (.invokevirtual 146, 3) := by decide +kernel
theorem dX11_isFree_5 : decode cX11_isFree 5 = .ok (.ifCond .ne 16, 3) := by decide +kernel
theorem dX11_isFree_8 : decode cX11_isFree 8 = .ok (.aload_n 0, 1) := by decide +kernel
theorem dX11_isFree_9 : decode cX11_isFree 9 = .ok (.iload_n 1, 1) := by decide +kernel
theorem dX11_isFree_10 : decode cX11_isFree 10 = .ok (.invokevirtual 150, 3) := by decide +kernel
theorem dX11_isFree_13 : decode cX11_isFree 13 = .ok (.iconst (-1), 1) := by decide +kernel
theorem dX11_isFree_14 : decode cX11_isFree 14 = .ok (.if_icmp .ne 7, 3) := by decide +kernel
theorem dX11_isFree_17 : decode cX11_isFree 17 = .ok (.iconst 1, 1) := by decide +kernel
theorem dX11_isFree_18 : decode cX11_isFree 18 = .ok (.goto 4, 3) := by decide +kernel
theorem dX11_isFree_21 : decode cX11_isFree 21 = .ok (.iconst 0, 1) := by decide +kernel
theorem dX11_isFree_22 : decode cX11_isFree 22 = .ok (.ireturn, 1) := by decide +kernel
def f_X11_isFree  (a1 : Int32) (h : zHp) : Option (Int32 × zHp) := (f_X11_doesRock a1 h).bind fun x1 => (if x1.1 = 0 then (f_X11_takenBy a1 x1.2).bind fun x2 => (if x2.1 = (-1 : Int32) then some ((1 : Int32), x2.2) else some ((0 : Int32), x2.2)) else some ((0 : Int32), x1.2))
set_option maxHeartbeats 4000000 in
set_option maxRecDepth 100000 in
theorem s_X11_isFree  (a1 : Int32) (h : zHp) : Fn wM mX11_isFree 1 rI [.ref 0, .int a1] h (f_X11_isFree a1 h) := by
  refine Fn.of rfl (Nat.le_of_ble_eq_true rfl) ?_
  unfold f_X11_isFree
  refine Sim.aload_n 0 dX11_isFree_0 rfl ?_
  refine Sim.iload_n 1 dX11_isFree_1 rfl ?_
  refine Sim.callV1I (d1 := 0) (s_X11_doesRock a1 h) dX11_isFree_2 ml_X11_146 mv_X11_doesRock mC (Nat.le_of_ble_eq_true rfl) (Nat.le_of_ble_eq_true rfl) (Nat.le_of_ble_eq_true rfl) (fun x1 => ?_)
  refine Sim.if_ne 21 dX11_isFree_5 rfl ?_ ?_
  · refine Sim.aload_n 0 dX11_isFree_8 rfl ?_
    refine Sim.iload_n 1 dX11_isFree_9 rfl ?_
    refine Sim.callV1I (d1 := 0) (s_X11_takenBy a1 x1.2) dX11_isFree_10 ml_X11_150 mv_X11_takenBy mC (Nat.le_of_ble_eq_true rfl) (Nat.le_of_ble_eq_true rfl) (Nat.le_of_ble_eq_true rfl) (fun x2 => ?_)
    refine Sim.iconst (v := (-1 : Int32)) dX11_isFree_13 rfl ?_
    refine Sim.icmp_ne 21 dX11_isFree_14 rfl ?_ ?_
    · refine Sim.iconst (v := (1 : Int32)) dX11_isFree_17 rfl ?_
      refine Sim.goto 22 dX11_isFree_18 rfl ?_
      exact Sim.nret dX11_isFree_22 rfl rfl
    · refine Sim.iconst (v := (0 : Int32)) dX11_isFree_21 rfl ?_
      exact Sim.nret dX11_isFree_22 rfl rfl
  · refine Sim.iconst (v := (0 : Int32)) dX11_isFree_21 rfl ?_
    exact Sim.nret dX11_isFree_22 rfl rfl
theorem mv_X11_isFree : zMV mX11_isFree 1 := ⟨⟨zTb_in 1710 (by decide +kernel) rfl, zTb_in 148 (by decide +kernel) rfl, ⟨by decide +kernel, by decide +kernel⟩, by decide +kernel⟩, zTb_in 1709 (by decide +kernel) rfl, zTb_in 79 (by decide +kernel) rfl⟩
-- ===== RockingPorchModel.chair(I)I
abbrev mX11_chair : zMt := (yX11_chair, cX11_chair, 2, some .int)
theorem fl_X11_19 : zF RX11 19 11 8 := ⟨RX11, TX11, 69, rfl, Nat.le_of_ble_eq_true rfl, zTb_in 1307 (by decide +kernel) rfl, in_X11⟩
theorem fp_X11_140 : zFp RX11 140 11 6 .int := ⟨RX11, TX11, 69, tyX11, rfl, Nat.le_of_ble_eq_true rfl, zTb_in 1305 (by decide +kernel) rfl, in_X11, tyX11_ok, nmX11, rfl, rfl⟩
theorem ml_X11_154 : Cond.methodLink RX11 154 yX11_isIn ∈ zTb := zTb_in 1519 (by decide +kernel) rfl
theorem dX11_chair_0 : decode cX11_chair 0 = .ok (.aload_n 0, 1) := by decide +kernel
theorem dX11_chair_1 : decode cX11_chair 1 = .ok (.iconst 0, 1) := by decide +kernel
theorem dX11_chair_2 : decode cX11_chair 2 = .ok (.putfield 128, 3) := by decide +kernel
theorem dX11_chair_5 : decode cX11_chair 5 = .ok (.aload_n 0, 1) := by decide +kernel
theorem dX11_chair_6 : decode cX11_chair 6 = .ok (.iload_n 1, 1) := by decide +kernel
theorem dX11_chair_7 : decode cX11_chair 7 = .ok (.iconst 0, 1) := by decide +kernel
theorem dX11_chair_8 : decode cX11_chair 8 = .ok (.bipush 9, 2) := by decide +kernel
theorem dX11_chair_10 : decode cX11_chair 10 = .ok (.invokevirtual 154, 3) := by decide +kernel
theorem dX11_chair_13 : decode cX11_chair 13 = .ok (.ifCond .eq 12, 3) := by decide +kernel
theorem dX11_chair_16 : decode cX11_chair 16 = .ok (.aload_n 0, 1) := by decide +kernel
theorem dX11_chair_17 : decode cX11_chair 17 = .ok (.getfield 140, 3) := by decide +kernel
theorem dX11_chair_20 : decode cX11_chair 20 = .ok (.bipush 10, 2) := by decide +kernel
theorem dX11_chair_22 : decode cX11_chair 22 = .ok (.if_icmp .ne 5, 3) := by decide +kernel
theorem dX11_chair_25 : decode cX11_chair 25 = .ok (.iconst (-1), 1) := by decide +kernel
theorem dX11_chair_26 : decode cX11_chair 26 = .ok (.ireturn, 1) := by decide +kernel
theorem dX11_chair_27 : decode cX11_chair 27 = .ok (.aload_n 0, 1) := by decide +kernel
theorem dX11_chair_28 : decode cX11_chair 28 = .ok (.getfield 19, 3) := by decide +kernel
theorem dX11_chair_31 : decode cX11_chair 31 = .ok (.aload_n 0, 1) := by decide +kernel
theorem dX11_chair_32 : decode cX11_chair 32 = .ok (.getfield 140, 3) := by decide +kernel
theorem dX11_chair_35 : decode cX11_chair 35 = .ok (.iload_n 1, 1) := by decide +kernel
theorem dX11_chair_36 : decode cX11_chair 36 = .ok (.iastore, 1) := by decide +kernel
theorem dX11_chair_37 : decode cX11_chair 37 = .ok (.aload_n 0, 1) := by decide +kernel
theorem dX11_chair_38 : decode cX11_chair 38 = .ok (.getfield 7, 3) := by decide +kernel
theorem dX11_chair_41 : decode cX11_chair 41 = .ok (.iconst 5, 1) := by decide +kernel
theorem dX11_chair_42 : decode cX11_chair 42 = .ok (.aload_n 0, 1) := by decide +kernel
theorem dX11_chair_43 : decode cX11_chair 43 = .ok (.getfield 140, 3) := by decide +kernel
theorem dX11_chair_46 : decode cX11_chair 46 = .ok (.iadd, 1) := by decide +kernel
theorem dX11_chair_47 : decode cX11_chair 47 = .ok (.iconst 0, 1) := by decide +kernel
theorem dX11_chair_48 : decode cX11_chair 48 = .ok (.iastore, 1) := by decide +kernel
theorem dX11_chair_49 : decode cX11_chair 49 = .ok (.aload_n 0, 1) := by decide +kernel
theorem dX11_chair_50 : decode cX11_chair 50 = .ok (.getfield 7, 3) := by decide +kernel
theorem dX11_chair_53 : decode cX11_chair 53 = .ok (.bipush 15, 2) := by decide +kernel
theorem dX11_chair_55 : decode cX11_chair 55 = .ok (.aload_n 0, 1) := by decide +kernel
theorem dX11_chair_56 : decode cX11_chair 56 = .ok (.getfield 140, 3) := by decide +kernel
theorem dX11_chair_59 : decode cX11_chair 59 = .ok (.iadd, 1) := by decide +kernel
theorem dX11_chair_60 : decode cX11_chair 60 = .ok (.iconst 0, 1) := by decide +kernel
theorem dX11_chair_61 : decode cX11_chair 61 = .ok (.iastore, 1) := by decide +kernel
theorem dX11_chair_62 : decode cX11_chair 62 = .ok (.aload_n 0, 1) := by decide +kernel
theorem dX11_chair_63 : decode cX11_chair 63 = .ok (.getfield 7, 3) := by decide +kernel
theorem dX11_chair_66 : decode cX11_chair 66 = .ok (.bipush 25, 2) := by decide +kernel
theorem dX11_chair_68 : decode cX11_chair 68 = .ok (.aload_n 0, 1) := by decide +kernel
theorem dX11_chair_69 : decode cX11_chair 69 = .ok (.getfield 140, 3) := by decide +kernel
theorem dX11_chair_72 : decode cX11_chair 72 = .ok (.iadd, 1) := by decide +kernel
theorem dX11_chair_73 : decode cX11_chair 73 = .ok (.iconst 0, 1) := by decide +kernel
theorem dX11_chair_74 : decode cX11_chair 74 = .ok (.iastore, 1) := by decide +kernel
theorem dX11_chair_75 : decode cX11_chair 75 = .ok (.aload_n 0, 1) := by decide +kernel
theorem dX11_chair_76 : decode cX11_chair 76 = .ok (.aload_n 0, 1) := by decide +kernel
theorem dX11_chair_77 : decode cX11_chair 77 = .ok (.getfield 140, 3) := by decide +kernel
theorem dX11_chair_80 : decode cX11_chair 80 = .ok (.iconst 1, 1) := by decide +kernel
theorem dX11_chair_81 : decode cX11_chair 81 = .ok (.iadd, 1) := by decide +kernel
theorem dX11_chair_82 : decode cX11_chair 82 = .ok (.putfield 140, 3) := by decide +kernel
theorem dX11_chair_85 : decode cX11_chair 85 = .ok (.aload_n 0, 1) := by decide +kernel
theorem dX11_chair_86 : decode cX11_chair 86 = .ok (.iconst 0, 1) := by decide +kernel
theorem dX11_chair_87 : decode cX11_chair 87 = .ok (.putfield 131, 3) := by decide +kernel
theorem dX11_chair_90 : decode cX11_chair 90 = .ok (.aload_n 0, 1) := by decide +kernel
theorem dX11_chair_91 : decode cX11_chair 91 = .ok (.getfield 140, 3) := by decide +kernel
theorem dX11_chair_94 : decode cX11_chair 94 = .ok (.iconst 1, 1) := by decide +kernel
theorem dX11_chair_95 : decode cX11_chair 95 = .ok (.isub, 1) := by decide +kernel
theorem dX11_chair_96 : decode cX11_chair 96 = .ok (.ireturn, 1) := by decide +kernel
def f_X11_chair  (a1 : Int32) (h : zHp) : Option (Int32 × zHp) := zlt (zst h 0 0 (0 : Int32)) fun h1 => (f_X11_isIn a1 (0 : Int32) (9 : Int32) h1).bind fun x2 => (if x2.1 = 0 then some ((-1 : Int32), x2.2) else (if (x2.2 0 6) = (10 : Int32) then some ((-1 : Int32), x2.2) else zix (x2.2 0 6) 10 (zlt (zst x2.2 4 (x2.2 0 6).toNatClampNeg a1) fun h3 => zix ((5 : Int32) + (h3 0 6)) 77 (zlt (zst h3 1 ((5 : Int32) + (h3 0 6)).toNatClampNeg (0 : Int32)) fun h4 => zix ((15 : Int32) + (h4 0 6)) 77 (zlt (zst h4 1 ((15 : Int32) + (h4 0 6)).toNatClampNeg (0 : Int32)) fun h5 => zix ((25 : Int32) + (h5 0 6)) 77 (zlt (zst h5 1 ((25 : Int32) + (h5 0 6)).toNatClampNeg (0 : Int32)) fun h6 => zlt (zst h6 0 6 ((h6 0 6) + (1 : Int32))) fun h7 => zlt (zst h7 0 3 (0 : Int32)) fun h8 => some (((h8 0 6) - (1 : Int32)), h8)))))))
set_option maxHeartbeats 4000000 in
set_option maxRecDepth 100000 in
theorem s_X11_chair  (a1 : Int32) (h : zHp) : Fn wM mX11_chair 1 rI [.ref 0, .int a1] h (f_X11_chair a1 h) := by
  refine Fn.of rfl (Nat.le_of_ble_eq_true rfl) ?_
  unfold f_X11_chair
  refine Sim.aload_n 0 dX11_chair_0 rfl ?_
  refine Sim.iconst (v := (0 : Int32)) dX11_chair_1 rfl ?_
  refine Sim.put fp_X11_128 dX11_chair_2 mI_0 rfl rfl ?_
  refine Sim.lth (fun h1 => ?_)
  refine Sim.aload_n 0 dX11_chair_5 rfl ?_
  refine Sim.iload_n 1 dX11_chair_6 rfl ?_
  refine Sim.iconst (v := (0 : Int32)) dX11_chair_7 rfl ?_
  refine Sim.bipush (v := (9 : Int32)) dX11_chair_8 rfl ?_
  refine Sim.callV3I (d1 := 0) (s_X11_isIn a1 (0 : Int32) (9 : Int32) h1) dX11_chair_10 ml_X11_154 mv_X11_isIn mC (Nat.le_of_ble_eq_true rfl) (Nat.le_of_ble_eq_true rfl) (Nat.le_of_ble_eq_true rfl) (fun x2 => ?_)
  refine Sim.if_eq 25 dX11_chair_13 rfl ?_ ?_
  · refine Sim.iconst (v := (-1 : Int32)) dX11_chair_25 rfl ?_
    exact Sim.iret dX11_chair_26 rfl
  · refine Sim.aload_n 0 dX11_chair_16 rfl ?_
    refine Sim.getI fl_X11_140 dX11_chair_17 mI_6 ?_
    refine Sim.bipush (v := (10 : Int32)) dX11_chair_20 rfl ?_
    refine Sim.icmp_ne 27 dX11_chair_22 rfl ?_ ?_
    · refine Sim.iconst (v := (-1 : Int32)) dX11_chair_25 rfl ?_
      exact Sim.iret dX11_chair_26 rfl
    · refine Sim.aload_n 0 dX11_chair_27 rfl ?_
      refine Sim.getR (j := 4) fl_X11_19 dX11_chair_28 mR_8 ?_
      refine Sim.aload_n 0 dX11_chair_31 rfl ?_
      refine Sim.getI fl_X11_140 dX11_chair_32 mI_6 ?_
      refine Sim.iload_n 1 dX11_chair_35 rfl ?_
      refine Sim.iast (n := 10) dX11_chair_36 mA_4 ?_
      refine Sim.lth (fun h3 => ?_)
      refine Sim.aload_n 0 dX11_chair_37 rfl ?_
      refine Sim.getR (j := 1) fl_X11_7 dX11_chair_38 mR_1 ?_
      refine Sim.iconst (v := (5 : Int32)) dX11_chair_41 rfl ?_
      refine Sim.aload_n 0 dX11_chair_42 rfl ?_
      refine Sim.getI fl_X11_140 dX11_chair_43 mI_6 ?_
      refine Sim.iadd dX11_chair_46 ?_
      refine Sim.iconst (v := (0 : Int32)) dX11_chair_47 rfl ?_
      refine Sim.iast (n := 77) dX11_chair_48 mA_1 ?_
      refine Sim.lth (fun h4 => ?_)
      refine Sim.aload_n 0 dX11_chair_49 rfl ?_
      refine Sim.getR (j := 1) fl_X11_7 dX11_chair_50 mR_1 ?_
      refine Sim.bipush (v := (15 : Int32)) dX11_chair_53 rfl ?_
      refine Sim.aload_n 0 dX11_chair_55 rfl ?_
      refine Sim.getI fl_X11_140 dX11_chair_56 mI_6 ?_
      refine Sim.iadd dX11_chair_59 ?_
      refine Sim.iconst (v := (0 : Int32)) dX11_chair_60 rfl ?_
      refine Sim.iast (n := 77) dX11_chair_61 mA_1 ?_
      refine Sim.lth (fun h5 => ?_)
      refine Sim.aload_n 0 dX11_chair_62 rfl ?_
      refine Sim.getR (j := 1) fl_X11_7 dX11_chair_63 mR_1 ?_
      refine Sim.bipush (v := (25 : Int32)) dX11_chair_66 rfl ?_
      refine Sim.aload_n 0 dX11_chair_68 rfl ?_
      refine Sim.getI fl_X11_140 dX11_chair_69 mI_6 ?_
      refine Sim.iadd dX11_chair_72 ?_
      refine Sim.iconst (v := (0 : Int32)) dX11_chair_73 rfl ?_
      refine Sim.iast (n := 77) dX11_chair_74 mA_1 ?_
      refine Sim.lth (fun h6 => ?_)
      refine Sim.aload_n 0 dX11_chair_75 rfl ?_
      refine Sim.aload_n 0 dX11_chair_76 rfl ?_
      refine Sim.getI fl_X11_140 dX11_chair_77 mI_6 ?_
      refine Sim.iconst (v := (1 : Int32)) dX11_chair_80 rfl ?_
      refine Sim.iadd dX11_chair_81 ?_
      refine Sim.put fp_X11_140 dX11_chair_82 mI_6 rfl rfl ?_
      refine Sim.lth (fun h7 => ?_)
      refine Sim.aload_n 0 dX11_chair_85 rfl ?_
      refine Sim.iconst (v := (0 : Int32)) dX11_chair_86 rfl ?_
      refine Sim.put fp_X11_131 dX11_chair_87 mI_3 rfl rfl ?_
      refine Sim.lth (fun h8 => ?_)
      refine Sim.aload_n 0 dX11_chair_90 rfl ?_
      refine Sim.getI fl_X11_140 dX11_chair_91 mI_6 ?_
      refine Sim.iconst (v := (1 : Int32)) dX11_chair_94 rfl ?_
      refine Sim.isub dX11_chair_95 ?_
      exact Sim.iret dX11_chair_96 rfl
theorem mv_X11_chair : zMV mX11_chair 1 := ⟨⟨zTb_in 1518 (by decide +kernel) rfl, zTb_in 148 (by decide +kernel) rfl, ⟨by decide +kernel, by decide +kernel⟩, by decide +kernel⟩, zTb_in 1516 (by decide +kernel) rfl, zTb_in 1517 (by decide +kernel) rfl⟩
-- ===== RockingPorchModel.person(I)I
abbrev mX11_person : zMt := (yX11_person, cX11_person, 2, some .int)
theorem fl_X11_22 : zF RX11 22 11 9 := ⟨RX11, TX11, 69, rfl, Nat.le_of_ble_eq_true rfl, zTb_in 1308 (by decide +kernel) rfl, in_X11⟩
theorem fp_X11_143 : zFp RX11 143 11 7 .int := ⟨RX11, TX11, 69, tyX11, rfl, Nat.le_of_ble_eq_true rfl, zTb_in 1306 (by decide +kernel) rfl, in_X11, tyX11_ok, nmX11, rfl, rfl⟩
theorem dX11_person_0 : decode cX11_person 0 = .ok (.aload_n 0, 1) := by decide +kernel
theorem dX11_person_1 : decode cX11_person 1 = .ok (.iconst 0, 1) := by decide +kernel
theorem dX11_person_2 : decode cX11_person 2 = .ok (.putfield 128, 3) := by decide +kernel
theorem dX11_person_5 : decode cX11_person 5 = .ok (.aload_n 0, 1) := by decide +kernel
theorem dX11_person_6 : decode cX11_person 6 = .ok (.iload_n 1, 1) := by decide +kernel
theorem dX11_person_7 : decode cX11_person 7 = .ok (.iconst 0, 1) := by decide +kernel
theorem dX11_person_8 : decode cX11_person 8 = .ok (.bipush 9, 2) := by decide +kernel
theorem dX11_person_10 : decode cX11_person 10 = .ok (.invokevirtual 154, 3) := by decide +kernel
theorem dX11_person_13 : decode cX11_person 13 = .ok (.ifCond .eq 12, 3) := by decide +kernel
theorem dX11_person_16 : decode cX11_person 16 = .ok (.aload_n 0, 1) := by decide +kernel
theorem dX11_person_17 : decode cX11_person 17 = .ok (.getfield 143, 3) := by decide +kernel
theorem dX11_person_20 : decode cX11_person 20 = .ok (.bipush 14, 2) := by decide +kernel
theorem dX11_person_22 : decode cX11_person 22 = .ok (.if_icmp .ne 5, 3) := by decide +kernel
theorem dX11_person_25 : decode cX11_person 25 = .ok (.iconst (-1), 1) := by decide +kernel
theorem dX11_person_26 : decode cX11_person 26 = .ok (.ireturn, 1) := by decide +kernel
theorem dX11_person_27 : decode cX11_person 27 = .ok (.aload_n 0, 1) := by decide +kernel
theorem dX11_person_28 : decode cX11_person 28 = .ok (.getfield 22, 3) := by decide +kernel
theorem dX11_person_31 : decode cX11_person 31 = .ok (.aload_n 0, 1) := by decide +kernel
theorem dX11_person_32 : decode cX11_person 32 = .ok (.getfield 143, 3) := by decide +kernel
theorem dX11_person_35 : decode cX11_person 35 = .ok (.iload_n 1, 1) := by decide +kernel
theorem dX11_person_36 : decode cX11_person 36 = .ok (.iastore, 1) := by decide +kernel
theorem dX11_person_37 : decode cX11_person 37 = .ok (.aload_n 0, 1) := by decide +kernel
theorem dX11_person_38 : decode cX11_person 38 = .ok (.getfield 7, 3) := by decide +kernel
theorem dX11_person_41 : decode cX11_person 41 = .ok (.bipush 35, 2) := by decide +kernel
theorem dX11_person_43 : decode cX11_person 43 = .ok (.aload_n 0, 1) := by decide +kernel
theorem dX11_person_44 : decode cX11_person 44 = .ok (.getfield 143, 3) := by decide +kernel
theorem dX11_person_47 : decode cX11_person 47 = .ok (.iadd, 1) := by decide +kernel
theorem dX11_person_48 : decode cX11_person 48 = .ok (.iconst 1, 1) := by decide +kernel
theorem dX11_person_49 : decode cX11_person 49 = .ok (.iastore, 1) := by decide +kernel
theorem dX11_person_50 : decode cX11_person 50 = .ok (.aload_n 0, 1) := by decide +kernel
theorem dX11_person_51 : decode cX11_person 51 = .ok (.getfield 7, 3) := by decide +kernel
theorem dX11_person_54 : decode cX11_person 54 = .ok (.bipush 49, 2) := by decide +kernel
theorem dX11_person_56 : decode cX11_person 56 = .ok (.aload_n 0, 1) := by decide +kernel
theorem dX11_person_57 : decode cX11_person 57 = .ok (.getfield 143, 3) := by decide +kernel
theorem dX11_person_60 : decode cX11_person 60 = .ok (.iadd, 1) := by decide +kernel
theorem dX11_person_61 : decode cX11_person 61 = .ok (.iconst 0, 1) := by decide +kernel
theorem dX11_person_62 : decode cX11_person 62 = .ok (.iastore, 1) := by decide +kernel
theorem dX11_person_63 : decode cX11_person 63 = .ok (.aload_n 0, 1) := by decide +kernel
theorem dX11_person_64 : decode cX11_person 64 = .ok (.getfield 7, 3) := by decide +kernel
theorem dX11_person_67 : decode cX11_person 67 = .ok (.bipush 63, 2) := by decide +kernel
theorem dX11_person_69 : decode cX11_person 69 = .ok (.aload_n 0, 1) := by decide +kernel
theorem dX11_person_70 : decode cX11_person 70 = .ok (.getfield 143, 3) := by decide +kernel
theorem dX11_person_73 : decode cX11_person 73 = .ok (.iadd, 1) := by decide +kernel
theorem dX11_person_74 : decode cX11_person 74 = .ok (.iconst 0, 1) := by decide +kernel
theorem dX11_person_75 : decode cX11_person 75 = .ok (.iastore, 1) := by decide +kernel
theorem dX11_person_76 : decode cX11_person 76 = .ok (.aload_n 0, 1) := by decide +kernel
theorem dX11_person_77 : decode cX11_person 77 = .ok (.aload_n 0, 1) := by decide +kernel
theorem dX11_person_78 : decode cX11_person 78 = .ok (.getfield 143, 3) := by decide +kernel
theorem dX11_person_81 : decode cX11_person 81 = .ok (.iconst 1, 1) := by decide +kernel
theorem dX11_person_82 : decode cX11_person 82 = .ok (.iadd, 1) := by decide +kernel
theorem dX11_person_83 : decode cX11_person 83 = .ok (.putfield 143, 3) := by decide +kernel
theorem dX11_person_86 : decode cX11_person 86 = .ok (.aload_n 0, 1) := by decide +kernel
theorem dX11_person_87 : decode cX11_person 87 = .ok (.iconst 0, 1) := by decide +kernel
theorem dX11_person_88 : decode cX11_person 88 = .ok (.putfield 131, 3) := by decide +kernel
theorem dX11_person_91 : decode cX11_person 91 = .ok (.aload_n 0, 1) := by decide +kernel
theorem dX11_person_92 : decode cX11_person 92 = .ok (.getfield 143, 3) := by decide +kernel
theorem dX11_person_95 : decode cX11_person 95 = .ok (.iconst 1, 1) := by decide +kernel
theorem dX11_person_96 : decode cX11_person 96 = .ok (.isub, 1) := by decide +kernel
theorem dX11_person_97 : decode cX11_person 97 = .ok (.ireturn, 1) := by decide +kernel
def f_X11_person  (a1 : Int32) (h : zHp) : Option (Int32 × zHp) := zlt (zst h 0 0 (0 : Int32)) fun h1 => (f_X11_isIn a1 (0 : Int32) (9 : Int32) h1).bind fun x2 => (if x2.1 = 0 then some ((-1 : Int32), x2.2) else (if (x2.2 0 7) = (14 : Int32) then some ((-1 : Int32), x2.2) else zix (x2.2 0 7) 14 (zlt (zst x2.2 5 (x2.2 0 7).toNatClampNeg a1) fun h3 => zix ((35 : Int32) + (h3 0 7)) 77 (zlt (zst h3 1 ((35 : Int32) + (h3 0 7)).toNatClampNeg (1 : Int32)) fun h4 => zix ((49 : Int32) + (h4 0 7)) 77 (zlt (zst h4 1 ((49 : Int32) + (h4 0 7)).toNatClampNeg (0 : Int32)) fun h5 => zix ((63 : Int32) + (h5 0 7)) 77 (zlt (zst h5 1 ((63 : Int32) + (h5 0 7)).toNatClampNeg (0 : Int32)) fun h6 => zlt (zst h6 0 7 ((h6 0 7) + (1 : Int32))) fun h7 => zlt (zst h7 0 3 (0 : Int32)) fun h8 => some (((h8 0 7) - (1 : Int32)), h8)))))))
set_option maxHeartbeats 4000000 in
set_option maxRecDepth 100000 in
theorem s_X11_person  (a1 : Int32) (h : zHp) : Fn wM mX11_person 1 rI [.ref 0, .int a1] h (f_X11_person a1 h) := by
  refine Fn.of rfl (Nat.le_of_ble_eq_true rfl) ?_
  unfold f_X11_person
  refine Sim.aload_n 0 dX11_person_0 rfl ?_
  refine Sim.iconst (v := (0 : Int32)) dX11_person_1 rfl ?_
  refine Sim.put fp_X11_128 dX11_person_2 mI_0 rfl rfl ?_
  refine Sim.lth (fun h1 => ?_)
  refine Sim.aload_n 0 dX11_person_5 rfl ?_
  refine Sim.iload_n 1 dX11_person_6 rfl ?_
  refine Sim.iconst (v := (0 : Int32)) dX11_person_7 rfl ?_
  refine Sim.bipush (v := (9 : Int32)) dX11_person_8 rfl ?_
  refine Sim.callV3I (d1 := 0) (s_X11_isIn a1 (0 : Int32) (9 : Int32) h1) dX11_person_10 ml_X11_154 mv_X11_isIn mC (Nat.le_of_ble_eq_true rfl) (Nat.le_of_ble_eq_true rfl) (Nat.le_of_ble_eq_true rfl) (fun x2 => ?_)
  refine Sim.if_eq 25 dX11_person_13 rfl ?_ ?_
  · refine Sim.iconst (v := (-1 : Int32)) dX11_person_25 rfl ?_
    exact Sim.iret dX11_person_26 rfl
  · refine Sim.aload_n 0 dX11_person_16 rfl ?_
    refine Sim.getI fl_X11_143 dX11_person_17 mI_7 ?_
    refine Sim.bipush (v := (14 : Int32)) dX11_person_20 rfl ?_
    refine Sim.icmp_ne 27 dX11_person_22 rfl ?_ ?_
    · refine Sim.iconst (v := (-1 : Int32)) dX11_person_25 rfl ?_
      exact Sim.iret dX11_person_26 rfl
    · refine Sim.aload_n 0 dX11_person_27 rfl ?_
      refine Sim.getR (j := 5) fl_X11_22 dX11_person_28 mR_9 ?_
      refine Sim.aload_n 0 dX11_person_31 rfl ?_
      refine Sim.getI fl_X11_143 dX11_person_32 mI_7 ?_
      refine Sim.iload_n 1 dX11_person_35 rfl ?_
      refine Sim.iast (n := 14) dX11_person_36 mA_5 ?_
      refine Sim.lth (fun h3 => ?_)
      refine Sim.aload_n 0 dX11_person_37 rfl ?_
      refine Sim.getR (j := 1) fl_X11_7 dX11_person_38 mR_1 ?_
      refine Sim.bipush (v := (35 : Int32)) dX11_person_41 rfl ?_
      refine Sim.aload_n 0 dX11_person_43 rfl ?_
      refine Sim.getI fl_X11_143 dX11_person_44 mI_7 ?_
      refine Sim.iadd dX11_person_47 ?_
      refine Sim.iconst (v := (1 : Int32)) dX11_person_48 rfl ?_
      refine Sim.iast (n := 77) dX11_person_49 mA_1 ?_
      refine Sim.lth (fun h4 => ?_)
      refine Sim.aload_n 0 dX11_person_50 rfl ?_
      refine Sim.getR (j := 1) fl_X11_7 dX11_person_51 mR_1 ?_
      refine Sim.bipush (v := (49 : Int32)) dX11_person_54 rfl ?_
      refine Sim.aload_n 0 dX11_person_56 rfl ?_
      refine Sim.getI fl_X11_143 dX11_person_57 mI_7 ?_
      refine Sim.iadd dX11_person_60 ?_
      refine Sim.iconst (v := (0 : Int32)) dX11_person_61 rfl ?_
      refine Sim.iast (n := 77) dX11_person_62 mA_1 ?_
      refine Sim.lth (fun h5 => ?_)
      refine Sim.aload_n 0 dX11_person_63 rfl ?_
      refine Sim.getR (j := 1) fl_X11_7 dX11_person_64 mR_1 ?_
      refine Sim.bipush (v := (63 : Int32)) dX11_person_67 rfl ?_
      refine Sim.aload_n 0 dX11_person_69 rfl ?_
      refine Sim.getI fl_X11_143 dX11_person_70 mI_7 ?_
      refine Sim.iadd dX11_person_73 ?_
      refine Sim.iconst (v := (0 : Int32)) dX11_person_74 rfl ?_
      refine Sim.iast (n := 77) dX11_person_75 mA_1 ?_
      refine Sim.lth (fun h6 => ?_)
      refine Sim.aload_n 0 dX11_person_76 rfl ?_
      refine Sim.aload_n 0 dX11_person_77 rfl ?_
      refine Sim.getI fl_X11_143 dX11_person_78 mI_7 ?_
      refine Sim.iconst (v := (1 : Int32)) dX11_person_81 rfl ?_
      refine Sim.iadd dX11_person_82 ?_
      refine Sim.put fp_X11_143 dX11_person_83 mI_7 rfl rfl ?_
      refine Sim.lth (fun h7 => ?_)
      refine Sim.aload_n 0 dX11_person_86 rfl ?_
      refine Sim.iconst (v := (0 : Int32)) dX11_person_87 rfl ?_
      refine Sim.put fp_X11_131 dX11_person_88 mI_3 rfl rfl ?_
      refine Sim.lth (fun h8 => ?_)
      refine Sim.aload_n 0 dX11_person_91 rfl ?_
      refine Sim.getI fl_X11_143 dX11_person_92 mI_7 ?_
      refine Sim.iconst (v := (1 : Int32)) dX11_person_95 rfl ?_
      refine Sim.isub dX11_person_96 ?_
      exact Sim.iret dX11_person_97 rfl
theorem mv_X11_person : zMV mX11_person 1 := ⟨⟨zTb_in 1526 (by decide +kernel) rfl, zTb_in 148 (by decide +kernel) rfl, ⟨by decide +kernel, by decide +kernel⟩, by decide +kernel⟩, zTb_in 1524 (by decide +kernel) rfl, zTb_in 1525 (by decide +kernel) rfl⟩
-- ===== RockingPorchModel.swings(II)V
abbrev mX11_swings : zMt := (yX11_swings, cX11_swings, 3, none)
theorem dX11_swings_0 : decode cX11_swings 0 = .ok (.aload_n 0, 1) := by decide +kernel
theorem dX11_swings_1 : decode cX11_swings 1 = .ok (.getfield 7, 3) := by decide +kernel
theorem dX11_swings_4 : decode cX11_swings 4 = .ok (.iconst 5, 1) := by decide +kernel
theorem dX11_swings_5 : decode cX11_swings 5 = .ok (.iload_n 1, 1) := by decide +kernel
theorem dX11_swings_6 : decode cX11_swings 6 = .ok (.iadd, 1) := by decide +kernel
theorem dX11_swings_7 : decode cX11_swings 7 = .ok (.iload_n 2, 1) := by decide +kernel
theorem dX11_swings_8 : decode cX11_swings 8 = .ok (.iastore, 1) := by decide +kernel
theorem dX11_swings_9 : decode cX11_swings 9 = .ok (.iload_n 2, 1) := by decide +kernel
theorem dX11_swings_10 : decode cX11_swings 10 = .ok (.ifCond .ne 13, 3) := by decide +kernel
theorem dX11_swings_13 : decode cX11_swings 13 = .ok (.aload_n 0, 1) := by decide +kernel
theorem dX11_swings_14 : decode cX11_swings 14 = .ok (.getfield 7, 3) := by decide +kernel
theorem dX11_swings_17 : decode cX11_swings 17 = .ok (.bipush 15, 2) := by decide +kernel
theorem dX11_swings_19 : decode cX11_swings 19 = .ok (.iload_n 1, 1) := by decide +kernel
theorem dX11_swings_20 : decode cX11_swings 20 = .ok (.iadd, 1) := by decide +kernel
theorem dX11_swings_21 : decode cX11_swings 21 = .ok (.iconst 0, 1) := by decide +kernel
theorem dX11_swings_22 : decode cX11_swings 22 = .ok (.iastore, 1) := by decide +kernel
theorem dX11_swings_23 : decode cX11_swings 23 = .ok (.return_, 1) := by decide +kernel
def f_X11_swings  (a1 : Int32) (a2 : Int32) (h : zHp) : Option (zHp) := zix ((5 : Int32) + a1) 77 (zlt (zst h 1 ((5 : Int32) + a1).toNatClampNeg a2) fun h1 => (if a2 = 0 then zix ((15 : Int32) + a1) 77 (zlt (zst h1 1 ((15 : Int32) + a1).toNatClampNeg (0 : Int32)) fun h2 => some h2) else some h1))
set_option maxHeartbeats 4000000 in
set_option maxRecDepth 100000 in
theorem s_X11_swings  (a1 : Int32) (a2 : Int32) (h : zHp) : Fn wM mX11_swings 0 rV [.ref 0, .int a1, .int a2] h (f_X11_swings a1 a2 h) := by
  refine Fn.of rfl (Nat.le_of_ble_eq_true rfl) ?_
  unfold f_X11_swings
  refine Sim.aload_n 0 dX11_swings_0 rfl ?_
  refine Sim.getR (j := 1) fl_X11_7 dX11_swings_1 mR_1 ?_
  refine Sim.iconst (v := (5 : Int32)) dX11_swings_4 rfl ?_
  refine Sim.iload_n 1 dX11_swings_5 rfl ?_
  refine Sim.iadd dX11_swings_6 ?_
  refine Sim.iload_n 2 dX11_swings_7 rfl ?_
  refine Sim.iast (n := 77) dX11_swings_8 mA_1 ?_
  refine Sim.lth (fun h1 => ?_)
  refine Sim.iload_n 2 dX11_swings_9 rfl ?_
  refine Sim.if_ne 23 dX11_swings_10 rfl ?_ ?_
  · refine Sim.aload_n 0 dX11_swings_13 rfl ?_
    refine Sim.getR (j := 1) fl_X11_7 dX11_swings_14 mR_1 ?_
    refine Sim.bipush (v := (15 : Int32)) dX11_swings_17 rfl ?_
    refine Sim.iload_n 1 dX11_swings_19 rfl ?_
    refine Sim.iadd dX11_swings_20 ?_
    refine Sim.iconst (v := (0 : Int32)) dX11_swings_21 rfl ?_
    refine Sim.iast (n := 77) dX11_swings_22 mA_1 ?_
    refine Sim.lth (fun h2 => ?_)
    exact Sim.vret dX11_swings_23 rfl
  · exact Sim.vret dX11_swings_23 rfl
theorem mv_X11_swings : zMV mX11_swings 2 := ⟨⟨zTb_in 1550 (by decide +kernel) rfl, zTb_in 148 (by decide +kernel) rfl, ⟨by decide +kernel, by decide +kernel⟩, by decide +kernel⟩, zTb_in 1549 (by decide +kernel) rfl, zTb_in 44 (by decide +kernel) rfl⟩
-- ===== RockingPorchModel.canSet(III)Z
abbrev mX11_canSet : zMt := (yX11_canSet, cX11_canSet, 4, some .boolean)
theorem ml_X11_158 : Cond.methodLink RX11 158 yX11_isChair ∈ zTb := zTb_in 1535 (by decide +kernel) rfl
theorem ml_X11_161 : Cond.methodLink RX11 161 yX11_isPerson ∈ zTb := zTb_in 1539 (by decide +kernel) rfl
theorem dX11_canSet_0 : decode cX11_canSet 0 = .ok (.iload_n 1, 1) := by decide +kernel
theorem dX11_canSet_1 : decode cX11_canSet 1 = .ok (.ifCond .ne 28, 3) := by decide +kernel
theorem dX11_canSet_4 : decode cX11_canSet 4 = .ok (.aload_n 0, 1) := by decide +kernel
theorem dX11_canSet_5 : decode cX11_canSet 5 = .ok (.iload_n 2, 1) := by decide +kernel
theorem dX11_canSet_6 : decode cX11_canSet 6 = .ok (.invokevirtual 158, 3) := by decide +kernel
theorem dX11_canSet_9 : decode cX11_canSet 9 = .ok (.ifCond .eq 18, 3) := by decide +kernel
theorem dX11_canSet_12 : decode cX11_canSet 12 = .ok (.aload_n 0, 1) := by decide +kernel
theorem dX11_canSet_13 : decode cX11_canSet 13 = .ok (.iload_n 3, 1) := by decide +kernel
theorem dX11_canSet_14 : decode cX11_canSet 14 = .ok (.iconst 0, 1) := by decide +kernel
theorem dX11_canSet_15 : decode cX11_canSet 15 = .ok (.bipush 9, 2) := by decide +kernel
theorem dX11_canSet_17 : decode cX11_canSet 17 = .ok (.invokevirtual 154, 3) := by decide +kernel
theorem dX11_canSet_20 : decode cX11_canSet 20 = .ok (.ifCond .eq 7, 3) := by decide +kernel
theorem dX11_canSet_23 : decode cX11_canSet 23 = .ok (.iconst 1, 1) := by decide +kernel
theorem dX11_canSet_24 : decode cX11_canSet 24 = .ok (.goto 4, 3) := by decide +kernel
theorem dX11_canSet_27 : decode cX11_canSet 27 = .ok (.iconst 0, 1) := by decide +kernel
theorem dX11_canSet_28 : decode cX11_canSet 28 = .ok (.ireturn, 1) := by decide +kernel
theorem dX11_canSet_29 : decode cX11_canSet 29 = .ok (.iload_n 1, 1) := by decide +kernel
theorem dX11_canSet_30 : decode cX11_canSet 30 = .ok (.iconst 1, 1) := by decide +kernel
theorem dX11_canSet_31 : decode cX11_canSet 31 = .ok (.if_icmp .ne 28, 3) := by decide +kernel
theorem dX11_canSet_34 : decode cX11_canSet 34 = .ok (.aload_n 0, 1) := by decide +kernel
theorem dX11_canSet_35 : decode cX11_canSet 35 = .ok (.iload_n 2, 1) := by decide +kernel
theorem dX11_canSet_36 : decode cX11_canSet 36 = .ok (.invokevirtual 161, 3) := by decide +kernel
theorem dX11_canSet_39 : decode cX11_canSet 39 = .ok (.ifCond .eq 18, 3) := by decide +kernel
theorem dX11_canSet_42 : decode cX11_canSet 42 = .ok (.aload_n 0, 1) := by decide +kernel
theorem dX11_canSet_43 : decode cX11_canSet 43 = .ok (.iload_n 3, 1) := by decide +kernel
theorem dX11_canSet_44 : decode cX11_canSet 44 = .ok (.iconst 0, 1) := by decide +kernel
theorem dX11_canSet_45 : decode cX11_canSet 45 = .ok (.bipush 9, 2) := by decide +kernel
theorem dX11_canSet_47 : decode cX11_canSet 47 = .ok (.invokevirtual 154, 3) := by decide +kernel
theorem dX11_canSet_50 : decode cX11_canSet 50 = .ok (.ifCond .eq 7, 3) := by decide +kernel
theorem dX11_canSet_53 : decode cX11_canSet 53 = .ok (.iconst 1, 1) := by decide +kernel
theorem dX11_canSet_54 : decode cX11_canSet 54 = .ok (.goto 4, 3) := by decide +kernel
theorem dX11_canSet_57 : decode cX11_canSet 57 = .ok (.iconst 0, 1) := by decide +kernel
theorem dX11_canSet_58 : decode cX11_canSet 58 = .ok (.ireturn, 1) := by decide +kernel
theorem dX11_canSet_59 : decode cX11_canSet 59 = .ok (.iload_n 1, 1) := by decide +kernel
theorem dX11_canSet_60 : decode cX11_canSet 60 = .ok (.iconst 2, 1) := by decide +kernel
theorem dX11_canSet_61 : decode cX11_canSet 61 = .ok (.if_icmp .ne 36, 3) := by decide +kernel
theorem dX11_canSet_64 : decode cX11_canSet 64 = .ok (.aload_n 0, 1) := by decide +kernel
theorem dX11_canSet_65 : decode cX11_canSet 65 = .ok (.iload_n 2, 1) := by decide +kernel
theorem dX11_canSet_66 : decode cX11_canSet 66 = .ok (.invokevirtual 158, 3) := by decide +kernel
theorem dX11_canSet_69 : decode cX11_canSet 69 = .ok (.ifCond .eq 26, 3) := by decide +kernel
theorem dX11_canSet_72 : decode cX11_canSet 72 = .ok (.aload_n 0, 1) := by decide +kernel
theorem dX11_canSet_73 : decode cX11_canSet 73 = .ok (.iload_n 2, 1) := by decide +kernel
theorem dX11_canSet_74 : decode cX11_canSet 74 = .ok (.invokevirtual 146, 3) := by decide +kernel
theorem dX11_canSet_77 : decode cX11_canSet 77 = .ok (.ifCond .eq 18, 3) := by decide +kernel
theorem dX11_canSet_80 : decode cX11_canSet 80 = .ok (.aload_n 0, 1) := by decide +kernel
theorem dX11_canSet_81 : decode cX11_canSet 81 = .ok (.iload_n 3, 1) := by decide +kernel
theorem dX11_canSet_82 : decode cX11_canSet 82 = .ok (.iconst 0, 1) := by decide +kernel
theorem dX11_canSet_83 : decode cX11_canSet 83 = .ok (.bipush 99, 2) := by decide +kernel
theorem dX11_canSet_85 : decode cX11_canSet 85 = .ok (.invokevirtual 154, 3) := by decide +kernel
theorem dX11_canSet_88 : decode cX11_canSet 88 = .ok (.ifCond .eq 7, 3) := by decide +kernel
theorem dX11_canSet_91 : decode cX11_canSet 91 = .ok (.iconst 1, 1) := by decide +kernel
theorem dX11_canSet_92 : decode cX11_canSet 92 = .ok (.goto 4, 3) := by decide +kernel
theorem dX11_canSet_95 : decode cX11_canSet 95 = .ok (.iconst 0, 1) := by decide +kernel
theorem dX11_canSet_96 : decode cX11_canSet 96 = .ok (.ireturn, 1) := by decide +kernel
theorem dX11_canSet_97 : decode cX11_canSet 97 = .ok (.iload_n 1, 1) := by decide +kernel
theorem dX11_canSet_98 : decode cX11_canSet 98 = .ok (.iconst 3, 1) := by decide +kernel
theorem dX11_canSet_99 : decode cX11_canSet 99 = .ok (.if_icmp .ne 18, 3) := by decide +kernel
theorem dX11_canSet_102 : decode cX11_canSet 102 = .ok (.aload_n 0, 1) := by decide +kernel
theorem dX11_canSet_103 : decode cX11_canSet 103 = .ok (.iload_n 3, 1) := by decide +kernel
theorem dX11_canSet_104 : decode cX11_canSet 104 = .ok (.iconst 0, 1) := by decide +kernel
theorem dX11_canSet_105 : decode cX11_canSet 105 = .ok (.bipush 9, 2) := by decide +kernel
theorem dX11_canSet_107 : decode cX11_canSet 107 = .ok (.invokevirtual 154, 3) := by decide +kernel
theorem dX11_canSet_110 : decode cX11_canSet 110 = .ok (.ifCond .eq 7, 3) := by decide +kernel
theorem dX11_canSet_113 : decode cX11_canSet 113 = .ok (.iconst 1, 1) := by decide +kernel
theorem dX11_canSet_114 : decode cX11_canSet 114 = .ok (.goto 4, 3) := by decide +kernel
theorem dX11_canSet_117 : decode cX11_canSet 117 = .ok (.iconst 0, 1) := by decide +kernel
theorem dX11_canSet_118 : decode cX11_canSet 118 = .ok (.ireturn, 1) := by decide +kernel
def f_X11_canSet  (a1 : Int32) (a2 : Int32) (a3 : Int32) (h : zHp) : Option (Int32 × zHp) := (if a1 = 0 then (f_X11_isChair a2 h).bind fun x1 => (if x1.1 = 0 then some ((0 : Int32), x1.2) else (f_X11_isIn a3 (0 : Int32) (9 : Int32) x1.2).bind fun x2 => (if x2.1 = 0 then some ((0 : Int32), x2.2) else some ((1 : Int32), x2.2))) else (if a1 = (1 : Int32) then (f_X11_isPerson a2 h).bind fun x3 => (if x3.1 = 0 then some ((0 : Int32), x3.2) else (f_X11_isIn a3 (0 : Int32) (9 : Int32) x3.2).bind fun x4 => (if x4.1 = 0 then some ((0 : Int32), x4.2) else some ((1 : Int32), x4.2))) else (if a1 = (2 : Int32) then (f_X11_isChair a2 h).bind fun x5 => (if x5.1 = 0 then some ((0 : Int32), x5.2) else (f_X11_doesRock a2 x5.2).bind fun x6 => (if x6.1 = 0 then some ((0 : Int32), x6.2) else (f_X11_isIn a3 (0 : Int32) (99 : Int32) x6.2).bind fun x7 => (if x7.1 = 0 then some ((0 : Int32), x7.2) else some ((1 : Int32), x7.2)))) else (if a1 = (3 : Int32) then (f_X11_isIn a3 (0 : Int32) (9 : Int32) h).bind fun x8 => (if x8.1 = 0 then some ((0 : Int32), x8.2) else some ((1 : Int32), x8.2)) else some ((0 : Int32), h)))))
set_option maxHeartbeats 4000000 in
set_option maxRecDepth 100000 in
theorem s_X11_canSet  (a1 : Int32) (a2 : Int32) (a3 : Int32) (h : zHp) : Fn wM mX11_canSet 1 rI [.ref 0, .int a1, .int a2, .int a3] h (f_X11_canSet a1 a2 a3 h) := by
  refine Fn.of rfl (Nat.le_of_ble_eq_true rfl) ?_
  unfold f_X11_canSet
  refine Sim.iload_n 1 dX11_canSet_0 rfl ?_
  refine Sim.if_ne 29 dX11_canSet_1 rfl ?_ ?_
  · refine Sim.aload_n 0 dX11_canSet_4 rfl ?_
    refine Sim.iload_n 2 dX11_canSet_5 rfl ?_
    refine Sim.callV1I (d1 := 0) (s_X11_isChair a2 h) dX11_canSet_6 ml_X11_158 mv_X11_isChair mC (Nat.le_of_ble_eq_true rfl) (Nat.le_of_ble_eq_true rfl) (Nat.le_of_ble_eq_true rfl) (fun x1 => ?_)
    refine Sim.if_eq 27 dX11_canSet_9 rfl ?_ ?_
    · refine Sim.iconst (v := (0 : Int32)) dX11_canSet_27 rfl ?_
      exact Sim.nret dX11_canSet_28 rfl rfl
    · refine Sim.aload_n 0 dX11_canSet_12 rfl ?_
      refine Sim.iload_n 3 dX11_canSet_13 rfl ?_
      refine Sim.iconst (v := (0 : Int32)) dX11_canSet_14 rfl ?_
      refine Sim.bipush (v := (9 : Int32)) dX11_canSet_15 rfl ?_
      refine Sim.callV3I (d1 := 0) (s_X11_isIn a3 (0 : Int32) (9 : Int32) x1.2) dX11_canSet_17 ml_X11_154 mv_X11_isIn mC (Nat.le_of_ble_eq_true rfl) (Nat.le_of_ble_eq_true rfl) (Nat.le_of_ble_eq_true rfl) (fun x2 => ?_)
      refine Sim.if_eq 27 dX11_canSet_20 rfl ?_ ?_
      · refine Sim.iconst (v := (0 : Int32)) dX11_canSet_27 rfl ?_
        exact Sim.nret dX11_canSet_28 rfl rfl
      · refine Sim.iconst (v := (1 : Int32)) dX11_canSet_23 rfl ?_
        refine Sim.goto 28 dX11_canSet_24 rfl ?_
        exact Sim.nret dX11_canSet_28 rfl rfl
  · refine Sim.iload_n 1 dX11_canSet_29 rfl ?_
    refine Sim.iconst (v := (1 : Int32)) dX11_canSet_30 rfl ?_
    refine Sim.icmp_ne 59 dX11_canSet_31 rfl ?_ ?_
    · refine Sim.aload_n 0 dX11_canSet_34 rfl ?_
      refine Sim.iload_n 2 dX11_canSet_35 rfl ?_
      refine Sim.callV1I (d1 := 0) (s_X11_isPerson a2 h) dX11_canSet_36 ml_X11_161 mv_X11_isPerson mC (Nat.le_of_ble_eq_true rfl) (Nat.le_of_ble_eq_true rfl) (Nat.le_of_ble_eq_true rfl) (fun x3 => ?_)
      refine Sim.if_eq 57 dX11_canSet_39 rfl ?_ ?_
      · refine Sim.iconst (v := (0 : Int32)) dX11_canSet_57 rfl ?_
        exact Sim.nret dX11_canSet_58 rfl rfl
      · refine Sim.aload_n 0 dX11_canSet_42 rfl ?_
        refine Sim.iload_n 3 dX11_canSet_43 rfl ?_
        refine Sim.iconst (v := (0 : Int32)) dX11_canSet_44 rfl ?_
        refine Sim.bipush (v := (9 : Int32)) dX11_canSet_45 rfl ?_
        refine Sim.callV3I (d1 := 0) (s_X11_isIn a3 (0 : Int32) (9 : Int32) x3.2) dX11_canSet_47 ml_X11_154 mv_X11_isIn mC (Nat.le_of_ble_eq_true rfl) (Nat.le_of_ble_eq_true rfl) (Nat.le_of_ble_eq_true rfl) (fun x4 => ?_)
        refine Sim.if_eq 57 dX11_canSet_50 rfl ?_ ?_
        · refine Sim.iconst (v := (0 : Int32)) dX11_canSet_57 rfl ?_
          exact Sim.nret dX11_canSet_58 rfl rfl
        · refine Sim.iconst (v := (1 : Int32)) dX11_canSet_53 rfl ?_
          refine Sim.goto 58 dX11_canSet_54 rfl ?_
          exact Sim.nret dX11_canSet_58 rfl rfl
    · refine Sim.iload_n 1 dX11_canSet_59 rfl ?_
      refine Sim.iconst (v := (2 : Int32)) dX11_canSet_60 rfl ?_
      refine Sim.icmp_ne 97 dX11_canSet_61 rfl ?_ ?_
      · refine Sim.aload_n 0 dX11_canSet_64 rfl ?_
        refine Sim.iload_n 2 dX11_canSet_65 rfl ?_
        refine Sim.callV1I (d1 := 0) (s_X11_isChair a2 h) dX11_canSet_66 ml_X11_158 mv_X11_isChair mC (Nat.le_of_ble_eq_true rfl) (Nat.le_of_ble_eq_true rfl) (Nat.le_of_ble_eq_true rfl) (fun x5 => ?_)
        refine Sim.if_eq 95 dX11_canSet_69 rfl ?_ ?_
        · refine Sim.iconst (v := (0 : Int32)) dX11_canSet_95 rfl ?_
          exact Sim.nret dX11_canSet_96 rfl rfl
        · refine Sim.aload_n 0 dX11_canSet_72 rfl ?_
          refine Sim.iload_n 2 dX11_canSet_73 rfl ?_
          refine Sim.callV1I (d1 := 0) (s_X11_doesRock a2 x5.2) dX11_canSet_74 ml_X11_146 mv_X11_doesRock mC (Nat.le_of_ble_eq_true rfl) (Nat.le_of_ble_eq_true rfl) (Nat.le_of_ble_eq_true rfl) (fun x6 => ?_)
          refine Sim.if_eq 95 dX11_canSet_77 rfl ?_ ?_
          · refine Sim.iconst (v := (0 : Int32)) dX11_canSet_95 rfl ?_
            exact Sim.nret dX11_canSet_96 rfl rfl
          · refine Sim.aload_n 0 dX11_canSet_80 rfl ?_
            refine Sim.iload_n 3 dX11_canSet_81 rfl ?_
            refine Sim.iconst (v := (0 : Int32)) dX11_canSet_82 rfl ?_
            refine Sim.bipush (v := (99 : Int32)) dX11_canSet_83 rfl ?_
            refine Sim.callV3I (d1 := 0) (s_X11_isIn a3 (0 : Int32) (99 : Int32) x6.2) dX11_canSet_85 ml_X11_154 mv_X11_isIn mC (Nat.le_of_ble_eq_true rfl) (Nat.le_of_ble_eq_true rfl) (Nat.le_of_ble_eq_true rfl) (fun x7 => ?_)
            refine Sim.if_eq 95 dX11_canSet_88 rfl ?_ ?_
            · refine Sim.iconst (v := (0 : Int32)) dX11_canSet_95 rfl ?_
              exact Sim.nret dX11_canSet_96 rfl rfl
            · refine Sim.iconst (v := (1 : Int32)) dX11_canSet_91 rfl ?_
              refine Sim.goto 96 dX11_canSet_92 rfl ?_
              exact Sim.nret dX11_canSet_96 rfl rfl
      · refine Sim.iload_n 1 dX11_canSet_97 rfl ?_
        refine Sim.iconst (v := (3 : Int32)) dX11_canSet_98 rfl ?_
        refine Sim.icmp_ne 117 dX11_canSet_99 rfl ?_ ?_
        · refine Sim.aload_n 0 dX11_canSet_102 rfl ?_
          refine Sim.iload_n 3 dX11_canSet_103 rfl ?_
          refine Sim.iconst (v := (0 : Int32)) dX11_canSet_104 rfl ?_
          refine Sim.bipush (v := (9 : Int32)) dX11_canSet_105 rfl ?_
          refine Sim.callV3I (d1 := 0) (s_X11_isIn a3 (0 : Int32) (9 : Int32) h) dX11_canSet_107 ml_X11_154 mv_X11_isIn mC (Nat.le_of_ble_eq_true rfl) (Nat.le_of_ble_eq_true rfl) (Nat.le_of_ble_eq_true rfl) (fun x8 => ?_)
          refine Sim.if_eq 117 dX11_canSet_110 rfl ?_ ?_
          · refine Sim.iconst (v := (0 : Int32)) dX11_canSet_117 rfl ?_
            exact Sim.nret dX11_canSet_118 rfl rfl
          · refine Sim.iconst (v := (1 : Int32)) dX11_canSet_113 rfl ?_
            refine Sim.goto 118 dX11_canSet_114 rfl ?_
            exact Sim.nret dX11_canSet_118 rfl rfl
        · refine Sim.iconst (v := (0 : Int32)) dX11_canSet_117 rfl ?_
          exact Sim.nret dX11_canSet_118 rfl rfl
theorem mv_X11_canSet : zMV mX11_canSet 3 := ⟨⟨zTb_in 1534 (by decide +kernel) rfl, zTb_in 148 (by decide +kernel) rfl, ⟨by decide +kernel, by decide +kernel⟩, by decide +kernel⟩, zTb_in 1533 (by decide +kernel) rfl, zTb_in 40 (by decide +kernel) rfl⟩
-- ===== RockingPorchModel.set(III)Z
abbrev mX11_set : zMt := (yX11_set, cX11_set, 4, some .boolean)
theorem ml_X11_164 : Cond.methodLink RX11 164 yX11_canSet ∈ zTb := zTb_in 1531 (by decide +kernel) rfl
theorem ml_X11_167 : Cond.methodLink RX11 167 yX11_swings ∈ zTb := zTb_in 1547 (by decide +kernel) rfl
theorem dX11_set_0 : decode cX11_set 0 = .ok (.aload_n 0, 1) := by decide +kernel
theorem dX11_set_1 : decode cX11_set 1 = .ok (.iconst 0, 1) := by decide +kernel
theorem dX11_set_2 : decode cX11_set 2 = .ok (.putfield 128, 3) := by decide +kernel
theorem dX11_set_5 : decode cX11_set 5 = .ok (.aload_n 0, 1) := by decide +kernel
theorem dX11_set_6 : decode cX11_set 6 = .ok (.iload_n 1, 1) := by decide +kernel
theorem dX11_set_7 : decode cX11_set 7 = .ok (.iload_n 2, 1) := by decide +kernel
theorem dX11_set_8 : decode cX11_set 8 = .ok (.iload_n 3, 1) := by decide +kernel
theorem dX11_set_9 : decode cX11_set 9 = .ok (.invokevirtual 164, 3) := by decide +kernel
theorem dX11_set_12 : decode cX11_set 12 = .ok (.ifCond .ne 5, 3) := by decide +kernel
theorem dX11_set_15 : decode cX11_set 15 = .ok (.iconst 0, 1) := by decide +kernel
theorem dX11_set_16 : decode cX11_set 16 = .ok (.ireturn, 1) := by decide +kernel
theorem dX11_set_17 : decode cX11_set 17 = .ok (.iload_n 1, 1) := by decide +kernel
theorem dX11_set_18 : decode cX11_set 18 = .ok (.ifCond .ne 10, 3) := by decide +kernel
theorem dX11_set_21 : decode cX11_set 21 = .ok (.aload_n 0, 1) := by decide +kernel
theorem dX11_set_22 : decode cX11_set 22 = .ok (.getfield 19, 3) := by decide +kernel
theorem dX11_set_25 : decode cX11_set 25 = .ok (.iload_n 2, 1) := by decide +kernel
theorem dX11_set_26 : decode cX11_set 26 = .ok (.iload_n 3, 1) := by decide +kernel
theorem dX11_set_27 : decode cX11_set 27 = .ok (.iastore, 1) := by decide +kernel
theorem dX11_set_28 : decode cX11_set 28 = .ok (.iload_n 1, 1) := by decide +kernel
theorem dX11_set_29 : decode cX11_set 29 = .ok (.iconst 1, 1) := by decide +kernel
theorem dX11_set_30 : decode cX11_set 30 = .ok (.if_icmp .ne 10, 3) := by decide +kernel
theorem dX11_set_33 : decode cX11_set 33 = .ok (.aload_n 0, 1) := by decide +kernel
theorem dX11_set_34 : decode cX11_set 34 = .ok (.getfield 22, 3) := by decide +kernel
theorem dX11_set_37 : decode cX11_set 37 = .ok (.iload_n 2, 1) := by decide +kernel
theorem dX11_set_38 : decode cX11_set 38 = .ok (.iload_n 3, 1) := by decide +kernel
theorem dX11_set_39 : decode cX11_set 39 = .ok (.iastore, 1) := by decide +kernel
theorem dX11_set_40 : decode cX11_set 40 = .ok (.iload_n 1, 1) := by decide +kernel
theorem dX11_set_41 : decode cX11_set 41 = .ok (.iconst 2, 1) := by decide +kernel
theorem dX11_set_42 : decode cX11_set 42 = .ok (.if_icmp .ne 9, 3) := by decide +kernel
theorem dX11_set_45 : decode cX11_set 45 = .ok (.aload_n 0, 1) := by decide +kernel
theorem dX11_set_46 : decode cX11_set 46 = .ok (.iload_n 2, 1) := by decide +kernel
theorem dX11_set_47 : decode cX11_set 47 = .ok (.iload_n 3, 1) := by decide +kernel
theorem dX11_set_48 : decode cX11_set 48 = .ok (.invokevirtual 167, 3) := by decide +kernel
theorem dX11_set_51 : decode cX11_set 51 = .ok (.iload_n 1, 1) := by decide +kernel
theorem dX11_set_52 : decode cX11_set 52 = .ok (.iconst 3, 1) := by decide +kernel
theorem dX11_set_53 : decode cX11_set 53 = .ok (.if_icmp .ne 10, 3) := by decide +kernel
theorem dX11_set_56 : decode cX11_set 56 = .ok (.aload_n 0, 1) := by decide +kernel
theorem dX11_set_57 : decode cX11_set 57 = .ok (.getfield 7, 3) := by decide +kernel
theorem dX11_set_60 : decode cX11_set 60 = .ok (.iconst 3, 1) := by decide +kernel
theorem dX11_set_61 : decode cX11_set 61 = .ok (.iload_n 3, 1) := by decide +kernel
theorem dX11_set_62 : decode cX11_set 62 = .ok (.iastore, 1) := by decide +kernel
theorem dX11_set_63 : decode cX11_set 63 = .ok (.aload_n 0, 1) := by decide +kernel
theorem dX11_set_64 : decode cX11_set 64 = .ok (.iconst 0, 1) := by decide +kernel
theorem dX11_set_65 : decode cX11_set 65 = .ok (.putfield 131, 3) := by decide +kernel
theorem dX11_set_68 : decode cX11_set 68 = .ok (.iconst 1, 1) := by decide +kernel
theorem dX11_set_69 : decode cX11_set 69 = .ok (.ireturn, 1) := by decide +kernel
def f_X11_set_51   (v1 : Int32) (v3 : Int32) (h : zHp) : Option (Int32 × zHp) := (if v1 = (3 : Int32) then zix (3 : Int32) 77 (zlt (zst h 1 (3 : Int32).toNatClampNeg v3) fun h1 => zlt (zst h1 0 3 (0 : Int32)) fun h2 => some ((1 : Int32), h2)) else zlt (zst h 0 3 (0 : Int32)) fun h3 => some ((1 : Int32), h3))
set_option maxHeartbeats 4000000 in
set_option maxRecDepth 100000 in
theorem f_X11_set_51_s  (v1 : Int32) (v3 : Int32) (h : zHp) : Sim wM mX11_set 2 rI 51 [(0, .ref 0), (1, .int v1), (3, .int v3)] [] h (f_X11_set_51 v1 v3 h) := by
  unfold f_X11_set_51
  refine Sim.iload_n 1 dX11_set_51 rfl ?_
  refine Sim.iconst (v := (3 : Int32)) dX11_set_52 rfl ?_
  refine Sim.icmp_ne 63 dX11_set_53 rfl ?_ ?_
  · refine Sim.aload_n 0 dX11_set_56 rfl ?_
    refine Sim.getR (j := 1) fl_X11_7 dX11_set_57 mR_1 ?_
    refine Sim.iconst (v := (3 : Int32)) dX11_set_60 rfl ?_
    refine Sim.iload_n 2 dX11_set_61 rfl ?_
    refine Sim.iast (n := 77) dX11_set_62 mA_1 ?_
    refine Sim.lth (fun h1 => ?_)
    refine Sim.aload_n 0 dX11_set_63 rfl ?_
    refine Sim.iconst (v := (0 : Int32)) dX11_set_64 rfl ?_
    refine Sim.put fp_X11_131 dX11_set_65 mI_3 rfl rfl ?_
    refine Sim.lth (fun h2 => ?_)
    refine Sim.iconst (v := (1 : Int32)) dX11_set_68 rfl ?_
    exact Sim.nret dX11_set_69 rfl rfl
  · refine Sim.aload_n 0 dX11_set_63 rfl ?_
    refine Sim.iconst (v := (0 : Int32)) dX11_set_64 rfl ?_
    refine Sim.put fp_X11_131 dX11_set_65 mI_3 rfl rfl ?_
    refine Sim.lth (fun h3 => ?_)
    refine Sim.iconst (v := (1 : Int32)) dX11_set_68 rfl ?_
    exact Sim.nret dX11_set_69 rfl rfl
def f_X11_set_40   (v1 : Int32) (v2 : Int32) (v3 : Int32) (h : zHp) : Option (Int32 × zHp) := (if v1 = (2 : Int32) then (f_X11_swings v2 v3 h).bind fun x1 => f_X11_set_51 v1 v3 x1 else f_X11_set_51 v1 v3 h)
set_option maxHeartbeats 4000000 in
set_option maxRecDepth 100000 in
theorem f_X11_set_40_s  (v1 : Int32) (v2 : Int32) (v3 : Int32) (h : zHp) : Sim wM mX11_set 2 rI 40 [(0, .ref 0), (1, .int v1), (2, .int v2), (3, .int v3)] [] h (f_X11_set_40 v1 v2 v3 h) := by
  unfold f_X11_set_40
  refine Sim.iload_n 1 dX11_set_40 rfl ?_
  refine Sim.iconst (v := (2 : Int32)) dX11_set_41 rfl ?_
  refine Sim.icmp_ne 51 dX11_set_42 rfl ?_ ?_
  · refine Sim.aload_n 0 dX11_set_45 rfl ?_
    refine Sim.iload_n 2 dX11_set_46 rfl ?_
    refine Sim.iload_n 3 dX11_set_47 rfl ?_
    refine Sim.callV2U (d1 := 0) (s_X11_swings v2 v3 h) dX11_set_48 ml_X11_167 mv_X11_swings mC (Nat.le_of_ble_eq_true rfl) (Nat.le_of_ble_eq_true rfl) (Nat.le_of_ble_eq_true rfl) (fun x1 => ?_)
    refine Sim.locs [0, 1, 3] rfl ?_
    exact f_X11_set_51_s v1 v3 x1
  · refine Sim.locs [0, 1, 3] rfl ?_
    exact f_X11_set_51_s v1 v3 h
def f_X11_set_28   (v1 : Int32) (v2 : Int32) (v3 : Int32) (h : zHp) : Option (Int32 × zHp) := (if v1 = (1 : Int32) then zix v2 14 (zlt (zst h 5 v2.toNatClampNeg v3) fun h1 => f_X11_set_40 v1 v2 v3 h1) else f_X11_set_40 v1 v2 v3 h)
set_option maxHeartbeats 4000000 in
set_option maxRecDepth 100000 in
theorem f_X11_set_28_s  (v1 : Int32) (v2 : Int32) (v3 : Int32) (h : zHp) : Sim wM mX11_set 2 rI 28 [(0, .ref 0), (1, .int v1), (2, .int v2), (3, .int v3)] [] h (f_X11_set_28 v1 v2 v3 h) := by
  unfold f_X11_set_28
  refine Sim.iload_n 1 dX11_set_28 rfl ?_
  refine Sim.iconst (v := (1 : Int32)) dX11_set_29 rfl ?_
  refine Sim.icmp_ne 40 dX11_set_30 rfl ?_ ?_
  · refine Sim.aload_n 0 dX11_set_33 rfl ?_
    refine Sim.getR (j := 5) fl_X11_22 dX11_set_34 mR_9 ?_
    refine Sim.iload_n 2 dX11_set_37 rfl ?_
    refine Sim.iload_n 3 dX11_set_38 rfl ?_
    refine Sim.iast (n := 14) dX11_set_39 mA_5 ?_
    refine Sim.lth (fun h1 => ?_)
    exact f_X11_set_40_s v1 v2 v3 h1
  · exact f_X11_set_40_s v1 v2 v3 h
def f_X11_set  (a1 : Int32) (a2 : Int32) (a3 : Int32) (h : zHp) : Option (Int32 × zHp) := zlt (zst h 0 0 (0 : Int32)) fun h1 => (f_X11_canSet a1 a2 a3 h1).bind fun x2 => (if x2.1 = 0 then some ((0 : Int32), x2.2) else (if a1 = 0 then zix a2 10 (zlt (zst x2.2 4 a2.toNatClampNeg a3) fun h3 => f_X11_set_28 a1 a2 a3 h3) else f_X11_set_28 a1 a2 a3 x2.2))
set_option maxHeartbeats 4000000 in
set_option maxRecDepth 100000 in
theorem s_X11_set  (a1 : Int32) (a2 : Int32) (a3 : Int32) (h : zHp) : Fn wM mX11_set 2 rI [.ref 0, .int a1, .int a2, .int a3] h (f_X11_set a1 a2 a3 h) := by
  refine Fn.of rfl (Nat.le_of_ble_eq_true rfl) ?_
  unfold f_X11_set
  refine Sim.aload_n 0 dX11_set_0 rfl ?_
  refine Sim.iconst (v := (0 : Int32)) dX11_set_1 rfl ?_
  refine Sim.put fp_X11_128 dX11_set_2 mI_0 rfl rfl ?_
  refine Sim.lth (fun h1 => ?_)
  refine Sim.aload_n 0 dX11_set_5 rfl ?_
  refine Sim.iload_n 1 dX11_set_6 rfl ?_
  refine Sim.iload_n 2 dX11_set_7 rfl ?_
  refine Sim.iload_n 3 dX11_set_8 rfl ?_
  refine Sim.callV3I (d1 := 1) (s_X11_canSet a1 a2 a3 h1) dX11_set_9 ml_X11_164 mv_X11_canSet mC (Nat.le_of_ble_eq_true rfl) (Nat.le_of_ble_eq_true rfl) (Nat.le_of_ble_eq_true rfl) (fun x2 => ?_)
  refine Sim.if_ne 17 dX11_set_12 rfl ?_ ?_
  · refine Sim.iconst (v := (0 : Int32)) dX11_set_15 rfl ?_
    exact Sim.nret dX11_set_16 rfl rfl
  · refine Sim.iload_n 1 dX11_set_17 rfl ?_
    refine Sim.if_ne 28 dX11_set_18 rfl ?_ ?_
    · refine Sim.aload_n 0 dX11_set_21 rfl ?_
      refine Sim.getR (j := 4) fl_X11_19 dX11_set_22 mR_8 ?_
      refine Sim.iload_n 2 dX11_set_25 rfl ?_
      refine Sim.iload_n 3 dX11_set_26 rfl ?_
      refine Sim.iast (n := 10) dX11_set_27 mA_4 ?_
      refine Sim.lth (fun h3 => ?_)
      exact f_X11_set_28_s a1 a2 a3 h3
    · exact f_X11_set_28_s a1 a2 a3 x2.2
theorem mv_X11_set : zMV mX11_set 3 := ⟨⟨zTb_in 1530 (by decide +kernel) rfl, zTb_in 148 (by decide +kernel) rfl, ⟨by decide +kernel, by decide +kernel⟩, by decide +kernel⟩, zTb_in 1528 (by decide +kernel) rfl, zTb_in 1529 (by decide +kernel) rfl⟩
-- ===== RockingPorchModel.types(I)V
abbrev mX11_types : zMt := (yX11_types, cX11_types, 3, none)
theorem fl_X11_171 : zF RX11 171 11 12 := ⟨RX11, TX11, 69, rfl, Nat.le_of_ble_eq_true rfl, zTb_in 1311 (by decide +kernel) rfl, in_X11⟩
theorem fl_X11_28 : zF RX11 28 11 11 := ⟨RX11, TX11, 69, rfl, Nat.le_of_ble_eq_true rfl, zTb_in 1310 (by decide +kernel) rfl, in_X11⟩
theorem fp_X11_171 : zFp RX11 171 11 12 .int := ⟨RX11, TX11, 69, tyX11, rfl, Nat.le_of_ble_eq_true rfl, zTb_in 1311 (by decide +kernel) rfl, in_X11, tyX11_ok, nmX11, rfl, rfl⟩
theorem dX11_types_0 : decode cX11_types 0 = .ok (.bipush 24, 2) := by decide +kernel
theorem dX11_types_2 : decode cX11_types 2 = .ok (.istore_n 2, 1) := by decide +kernel
theorem dX11_types_3 : decode cX11_types 3 = .ok (.iload_n 2, 1) := by decide +kernel
theorem dX11_types_4 : decode cX11_types 4 = .ok (.ifCond .lt 35, 3) := by decide +kernel
theorem dX11_types_7 : decode cX11_types 7 = .ok (.aload_n 0, 1) := by decide +kernel
theorem dX11_types_8 : decode cX11_types 8 = .ok (.getfield 28, 3) := by decide +kernel
theorem dX11_types_11 : decode cX11_types 11 = .ok (.aload_n 0, 1) := by decide +kernel
theorem dX11_types_12 : decode cX11_types 12 = .ok (.getfield 171, 3) := by decide +kernel
theorem dX11_types_15 : decode cX11_types 15 = .ok (.iload_n 1, 1) := by decide +kernel
theorem dX11_types_16 : decode cX11_types 16 = .ok (.iload_n 2, 1) := by decide +kernel
theorem dX11_types_17 : decode cX11_types 17 = .ok (.ishr, 1) := by decide +kernel
theorem dX11_types_18 : decode cX11_types 18 = .ok (.sipush 255, 3) := by decide +kernel
theorem dX11_types_21 : decode cX11_types 21 = .ok (.iand, 1) := by decide +kernel
theorem dX11_types_22 : decode cX11_types 22 = .ok (.iastore, 1) := by decide +kernel
theorem dX11_types_23 : decode cX11_types 23 = .ok (.aload_n 0, 1) := by decide +kernel
theorem dX11_types_24 : decode cX11_types 24 = .ok (.aload_n 0, 1) := by decide +kernel
theorem dX11_types_25 : decode cX11_types 25 = .ok (.getfield 171, 3) := by decide +kernel
theorem dX11_types_28 : decode cX11_types 28 = .ok (.iconst 1, 1) := by decide +kernel
theorem dX11_types_29 : decode cX11_types 29 = .ok (.iadd, 1) := by decide +kernel
theorem dX11_types_30 : decode cX11_types 30 = .ok (.putfield 171, 3) := by decide +kernel
theorem dX11_types_33 : decode cX11_types 33 = .ok (.iinc 2 (-8), 3) := by decide +kernel
theorem dX11_types_36 : decode cX11_types 36 = .ok (.goto (-33), 3) := by decide +kernel
theorem dX11_types_39 : decode cX11_types 39 = .ok (.return_, 1) := by decide +kernel
def f_X11_types_3  (k3 : Int32 × Int32 × zHp → Option (zHp)) (v1 : Int32) (v2 : Int32) (h : zHp) : Option (zHp) := (if v2 < 0 then some h else zix (h 0 12) 400 (zlt (zst h 7 (h 0 12).toNatClampNeg ((v1 >>> (v2 &&& 31)) &&& (255 : Int32))) fun h1 => zlt (zst h1 0 12 ((h1 0 12) + (1 : Int32))) fun h2 => k3 (v1, (v2 + (-8 : Int32)), h2)))
set_option maxHeartbeats 4000000 in
set_option maxRecDepth 100000 in
theorem f_X11_types_3_s  (k3 : Int32 × Int32 × zHp → Option (zHp)) (H3 : ∀ v : Int32 × Int32 × zHp, Sim wM mX11_types 0 rV 3 [(0, .ref 0), (1, .int v.1), (2, .int v.2.1)] [] v.2.2 (k3 v)) (v1 : Int32) (v2 : Int32) (h : zHp) : Sim wM mX11_types 0 rV 3 [(0, .ref 0), (1, .int v1), (2, .int v2)] [] h (f_X11_types_3 k3 v1 v2 h) := by
  unfold f_X11_types_3
  refine Sim.iload_n 2 dX11_types_3 rfl ?_
  refine Sim.if_lt 39 dX11_types_4 rfl ?_ ?_
  · exact Sim.vret dX11_types_39 rfl
  · refine Sim.aload_n 0 dX11_types_7 rfl ?_
    refine Sim.getR (j := 7) fl_X11_28 dX11_types_8 mR_11 ?_
    refine Sim.aload_n 0 dX11_types_11 rfl ?_
    refine Sim.getI fl_X11_171 dX11_types_12 mI_12 ?_
    refine Sim.iload_n 1 dX11_types_15 rfl ?_
    refine Sim.iload_n 2 dX11_types_16 rfl ?_
    refine Sim.ishr dX11_types_17 ?_
    refine Sim.sipush (v := (255 : Int32)) dX11_types_18 rfl ?_
    refine Sim.iand dX11_types_21 ?_
    refine Sim.iast (n := 400) dX11_types_22 mA_7 ?_
    refine Sim.lth (fun h1 => ?_)
    refine Sim.aload_n 0 dX11_types_23 rfl ?_
    refine Sim.aload_n 0 dX11_types_24 rfl ?_
    refine Sim.getI fl_X11_171 dX11_types_25 mI_12 ?_
    refine Sim.iconst (v := (1 : Int32)) dX11_types_28 rfl ?_
    refine Sim.iadd dX11_types_29 ?_
    refine Sim.put fp_X11_171 dX11_types_30 mI_12 rfl rfl ?_
    refine Sim.lth (fun h2 => ?_)
    refine Sim.iinc (L' := [(2, .int (v2 + (-8 : Int32))), (0, .ref 0), (1, .int v1)]) 2 dX11_types_33 rfl rfl (Nat.le_of_ble_eq_true rfl) rfl ?_
    refine Sim.goto 3 dX11_types_36 rfl ?_
    refine Sim.locs [1, 2, 0] rfl ?_
    exact H3 (v1, (v2 + (-8 : Int32)), h2)
def f_X11_types_3_lp   (n : Nat) (v : Int32 × Int32 × zHp) : Option (zHp) := zlp (fun k3 v => f_X11_types_3 k3 v.1 v.2.1 v.2.2) n v
theorem f_X11_types_3_ls  (n : Nat) (v : Int32 × Int32 × zHp) : Sim wM mX11_types 0 rV 3 [(0, .ref 0), (1, .int v.1), (2, .int v.2.1)] [] v.2.2 (f_X11_types_3_lp n v) :=
  Sim.lp (V := Int32 × Int32 × zHp) (Lf := fun v => [(0, .ref 0), (1, .int v.1), (2, .int v.2.1)]) (sf := fun v => []) (hf := fun v => v.2.2) (fun k3 H3 v => f_X11_types_3_s k3 H3 v.1 v.2.1 v.2.2) n v
def f_X11_types  (a1 : Int32) (h : zHp) : Option (zHp) := f_X11_types_3_lp  zN (a1, (24 : Int32), h)
set_option maxHeartbeats 4000000 in
set_option maxRecDepth 100000 in
theorem s_X11_types  (a1 : Int32) (h : zHp) : Fn wM mX11_types 0 rV [.ref 0, .int a1] h (f_X11_types a1 h) := by
  refine Fn.of rfl (Nat.le_of_ble_eq_true rfl) ?_
  unfold f_X11_types
  refine Sim.bipush (v := (24 : Int32)) dX11_types_0 rfl ?_
  refine Sim.istore_n (L' := [(2, .int (24 : Int32)), (0, .ref 0), (1, .int a1)]) dX11_types_2 (Nat.le_of_ble_eq_true rfl) rfl ?_
  refine Sim.locs [1, 2, 0] rfl ?_
  exact f_X11_types_3_ls  zN (a1, (24 : Int32), h)
theorem mv_X11_types : zMV mX11_types 1 := ⟨⟨zTb_in 1558 (by decide +kernel) rfl, zTb_in 148 (by decide +kernel) rfl, ⟨by decide +kernel, by decide +kernel⟩, by decide +kernel⟩, zTb_in 1557 (by decide +kernel) rfl, zTb_in 45 (by decide +kernel) rfl⟩
-- ===== RockingPorchModel.feed(IIIII)I
abbrev mX11_feed : zMt := (yX11_feed, cX11_feed, 6, some .int)
theorem ml_X11_174 : Cond.methodLink RX11 174 yX11_types ∈ zTb := zTb_in 1555 (by decide +kernel) rfl
theorem dX11_feed_0 : decode cX11_feed 0 = .ok (.aload_n 0, 1) := by decide +kernel
theorem dX11_feed_1 : decode cX11_feed 1 = .ok (.iconst 0, 1) := by decide +kernel
theorem dX11_feed_2 : decode cX11_feed 2 = .ok (.putfield 128, 3) := by decide +kernel
theorem dX11_feed_5 : decode cX11_feed 5 = .ok (.aload_n 0, 1) := by decide +kernel
theorem dX11_feed_6 : decode cX11_feed 6 = .ok (.getfield 171, 3) := by decide +kernel
theorem dX11_feed_9 : decode cX11_feed 9 = .ok (.sipush 380, 3) := by decide +kernel
theorem dX11_feed_12 : decode cX11_feed 12 = .ok (.if_icmp .le 5, 3) := by decide +kernel
theorem dX11_feed_15 : decode cX11_feed 15 = .ok (.iconst (-1), 1) := by decide +kernel
theorem dX11_feed_16 : decode cX11_feed 16 = .ok (.ireturn, 1) := by decide +kernel
theorem dX11_feed_17 : decode cX11_feed 17 = .ok (.aload_n 0, 1) := by decide +kernel
theorem dX11_feed_18 : decode cX11_feed 18 = .ok (.iload_n 1, 1) := by decide +kernel
theorem dX11_feed_19 : decode cX11_feed 19 = .ok (.invokevirtual 174, 3) := by decide +kernel
theorem dX11_feed_22 : decode cX11_feed 22 = .ok (.aload_n 0, 1) := by decide +kernel
theorem dX11_feed_23 : decode cX11_feed 23 = .ok (.iload_n 2, 1) := by decide +kernel
theorem dX11_feed_24 : decode cX11_feed 24 = .ok (.invokevirtual 174, 3) := by decide +kernel
theorem dX11_feed_27 : decode cX11_feed 27 = .ok (.aload_n 0, 1) := by decide +kernel
theorem dX11_feed_28 : decode cX11_feed 28 = .ok (.iload_n 3, 1) := by decide +kernel
theorem dX11_feed_29 : decode cX11_feed 29 = .ok (.invokevirtual 174, 3) := by decide +kernel
theorem dX11_feed_32 : decode cX11_feed 32 = .ok (.aload_n 0, 1) := by decide +kernel
theorem dX11_feed_33 : decode cX11_feed 33 = .ok (.iload 4, 2) := by decide +kernel
theorem dX11_feed_35 : decode cX11_feed 35 = .ok (.invokevirtual 174, 3) := by decide +kernel
theorem dX11_feed_38 : decode cX11_feed 38 = .ok (.aload_n 0, 1) := by decide +kernel
theorem dX11_feed_39 : decode cX11_feed 39 = .ok (.iload 5, 2) := by decide +kernel
theorem dX11_feed_41 : decode cX11_feed 41 = .ok (.invokevirtual 174, 3) := by decide +kernel
theorem dX11_feed_44 : decode cX11_feed 44 = .ok (.aload_n 0, 1) := by decide +kernel
theorem dX11_feed_45 : decode cX11_feed 45 = .ok (.getfield 171, 3) := by decide +kernel
theorem dX11_feed_48 : decode cX11_feed 48 = .ok (.ireturn, 1) := by decide +kernel
def f_X11_feed  (a1 : Int32) (a2 : Int32) (a3 : Int32) (a4 : Int32) (a5 : Int32) (h : zHp) : Option (Int32 × zHp) := zlt (zst h 0 0 (0 : Int32)) fun h1 => (if (380 : Int32) < (h1 0 12) then some ((-1 : Int32), h1) else (f_X11_types a1 h1).bind fun x2 => (f_X11_types a2 x2).bind fun x3 => (f_X11_types a3 x3).bind fun x4 => (f_X11_types a4 x4).bind fun x5 => (f_X11_types a5 x5).bind fun x6 => some ((x6 0 12), x6))
set_option maxHeartbeats 4000000 in
set_option maxRecDepth 100000 in
theorem s_X11_feed  (a1 : Int32) (a2 : Int32) (a3 : Int32) (a4 : Int32) (a5 : Int32) (h : zHp) : Fn wM mX11_feed 1 rI [.ref 0, .int a1, .int a2, .int a3, .int a4, .int a5] h (f_X11_feed a1 a2 a3 a4 a5 h) := by
  refine Fn.of rfl (Nat.le_of_ble_eq_true rfl) ?_
  unfold f_X11_feed
  refine Sim.aload_n 0 dX11_feed_0 rfl ?_
  refine Sim.iconst (v := (0 : Int32)) dX11_feed_1 rfl ?_
  refine Sim.put fp_X11_128 dX11_feed_2 mI_0 rfl rfl ?_
  refine Sim.lth (fun h1 => ?_)
  refine Sim.aload_n 0 dX11_feed_5 rfl ?_
  refine Sim.getI fl_X11_171 dX11_feed_6 mI_12 ?_
  refine Sim.sipush (v := (380 : Int32)) dX11_feed_9 rfl ?_
  refine Sim.icmp_le 17 dX11_feed_12 rfl ?_ ?_
  · refine Sim.iconst (v := (-1 : Int32)) dX11_feed_15 rfl ?_
    exact Sim.iret dX11_feed_16 rfl
  · refine Sim.aload_n 0 dX11_feed_17 rfl ?_
    refine Sim.iload_n 1 dX11_feed_18 rfl ?_
    refine Sim.callV1U (d1 := 0) (s_X11_types a1 h1) dX11_feed_19 ml_X11_174 mv_X11_types mC (Nat.le_of_ble_eq_true rfl) (Nat.le_of_ble_eq_true rfl) (Nat.le_of_ble_eq_true rfl) (fun x2 => ?_)
    refine Sim.aload_n 0 dX11_feed_22 rfl ?_
    refine Sim.iload_n 2 dX11_feed_23 rfl ?_
    refine Sim.callV1U (d1 := 0) (s_X11_types a2 x2) dX11_feed_24 ml_X11_174 mv_X11_types mC (Nat.le_of_ble_eq_true rfl) (Nat.le_of_ble_eq_true rfl) (Nat.le_of_ble_eq_true rfl) (fun x3 => ?_)
    refine Sim.aload_n 0 dX11_feed_27 rfl ?_
    refine Sim.iload_n 3 dX11_feed_28 rfl ?_
    refine Sim.callV1U (d1 := 0) (s_X11_types a3 x3) dX11_feed_29 ml_X11_174 mv_X11_types mC (Nat.le_of_ble_eq_true rfl) (Nat.le_of_ble_eq_true rfl) (Nat.le_of_ble_eq_true rfl) (fun x4 => ?_)
    refine Sim.aload_n 0 dX11_feed_32 rfl ?_
    refine Sim.iload 4 dX11_feed_33 rfl ?_
    refine Sim.callV1U (d1 := 0) (s_X11_types a4 x4) dX11_feed_35 ml_X11_174 mv_X11_types mC (Nat.le_of_ble_eq_true rfl) (Nat.le_of_ble_eq_true rfl) (Nat.le_of_ble_eq_true rfl) (fun x5 => ?_)
    refine Sim.aload_n 0 dX11_feed_38 rfl ?_
    refine Sim.iload 5 dX11_feed_39 rfl ?_
    refine Sim.callV1U (d1 := 0) (s_X11_types a5 x5) dX11_feed_41 ml_X11_174 mv_X11_types mC (Nat.le_of_ble_eq_true rfl) (Nat.le_of_ble_eq_true rfl) (Nat.le_of_ble_eq_true rfl) (fun x6 => ?_)
    refine Sim.aload_n 0 dX11_feed_44 rfl ?_
    refine Sim.getI fl_X11_171 dX11_feed_45 mI_12 ?_
    exact Sim.iret dX11_feed_48 rfl
theorem mv_X11_feed : zMV mX11_feed 5 := ⟨⟨zTb_in 1554 (by decide +kernel) rfl, zTb_in 148 (by decide +kernel) rfl, ⟨by decide +kernel, by decide +kernel⟩, by decide +kernel⟩, zTb_in 1552 (by decide +kernel) rfl, zTb_in 1553 (by decide +kernel) rfl⟩
-- ===== RockingPorchModel.end(I)Z
abbrev mX11_end : zMt := (yX11_end, cX11_end, 2, some .boolean)
theorem dX11_end_0 : decode cX11_end 0 = .ok (.aload_n 0, 1) := by decide +kernel
theorem dX11_end_1 : decode cX11_end 1 = .ok (.iconst 0, 1) := by decide +kernel
theorem dX11_end_2 : decode cX11_end 2 = .ok (.putfield 128, 3) := by decide +kernel
theorem dX11_end_5 : decode cX11_end 5 = .ok (.aload_n 0, 1) := by decide +kernel
theorem dX11_end_6 : decode cX11_end 6 = .ok (.iload_n 1, 1) := by decide +kernel
theorem dX11_end_7 : decode cX11_end 7 = .ok (.iconst 0, 1) := by decide +kernel
theorem dX11_end_8 : decode cX11_end 8 = .ok (.aload_n 0, 1) := by decide +kernel
theorem dX11_end_9 : decode cX11_end 9 = .ok (.getfield 171, 3) := by decide +kernel
theorem dX11_end_12 : decode cX11_end 12 = .ok (.invokevirtual 154, 3) := by decide +kernel
theorem dX11_end_15 : decode cX11_end 15 = .ok (.ifCond .ne 5, 3) := by decide +kernel
theorem dX11_end_18 : decode cX11_end 18 = .ok (.iconst 0, 1) := by decide +kernel
theorem dX11_end_19 : decode cX11_end 19 = .ok (.ireturn, 1) := by decide +kernel
theorem dX11_end_20 : decode cX11_end 20 = .ok (.aload_n 0, 1) := by decide +kernel
theorem dX11_end_21 : decode cX11_end 21 = .ok (.iload_n 1, 1) := by decide +kernel
theorem dX11_end_22 : decode cX11_end 22 = .ok (.putfield 171, 3) := by decide +kernel
theorem dX11_end_25 : decode cX11_end 25 = .ok (.iconst 1, 1) := by decide +kernel
theorem dX11_end_26 : decode cX11_end 26 = .ok (.ireturn, 1) := by decide +kernel
def f_X11_end  (a1 : Int32) (h : zHp) : Option (Int32 × zHp) := zlt (zst h 0 0 (0 : Int32)) fun h1 => (f_X11_isIn a1 (0 : Int32) (h1 0 12) h1).bind fun x2 => (if x2.1 = 0 then some ((0 : Int32), x2.2) else zlt (zst x2.2 0 12 a1) fun h3 => some ((1 : Int32), h3))
set_option maxHeartbeats 4000000 in
set_option maxRecDepth 100000 in
theorem s_X11_end  (a1 : Int32) (h : zHp) : Fn wM mX11_end 1 rI [.ref 0, .int a1] h (f_X11_end a1 h) := by
  refine Fn.of rfl (Nat.le_of_ble_eq_true rfl) ?_
  unfold f_X11_end
  refine Sim.aload_n 0 dX11_end_0 rfl ?_
  refine Sim.iconst (v := (0 : Int32)) dX11_end_1 rfl ?_
  refine Sim.put fp_X11_128 dX11_end_2 mI_0 rfl rfl ?_
  refine Sim.lth (fun h1 => ?_)
  refine Sim.aload_n 0 dX11_end_5 rfl ?_
  refine Sim.iload_n 1 dX11_end_6 rfl ?_
  refine Sim.iconst (v := (0 : Int32)) dX11_end_7 rfl ?_
  refine Sim.aload_n 0 dX11_end_8 rfl ?_
  refine Sim.getI fl_X11_171 dX11_end_9 mI_12 ?_
  refine Sim.callV3I (d1 := 0) (s_X11_isIn a1 (0 : Int32) (h1 0 12) h1) dX11_end_12 ml_X11_154 mv_X11_isIn mC (Nat.le_of_ble_eq_true rfl) (Nat.le_of_ble_eq_true rfl) (Nat.le_of_ble_eq_true rfl) (fun x2 => ?_)
  refine Sim.if_ne 20 dX11_end_15 rfl ?_ ?_
  · refine Sim.iconst (v := (0 : Int32)) dX11_end_18 rfl ?_
    exact Sim.nret dX11_end_19 rfl rfl
  · refine Sim.aload_n 0 dX11_end_20 rfl ?_
    refine Sim.iload_n 1 dX11_end_21 rfl ?_
    refine Sim.put fp_X11_171 dX11_end_22 mI_12 rfl rfl ?_
    refine Sim.lth (fun h3 => ?_)
    refine Sim.iconst (v := (1 : Int32)) dX11_end_25 rfl ?_
    exact Sim.nret dX11_end_26 rfl rfl
theorem mv_X11_end : zMV mX11_end 1 := ⟨⟨zTb_in 1562 (by decide +kernel) rfl, zTb_in 148 (by decide +kernel) rfl, ⟨by decide +kernel, by decide +kernel⟩, by decide +kernel⟩, zTb_in 1560 (by decide +kernel) rfl, zTb_in 1561 (by decide +kernel) rfl⟩
-- ===== RockingPorchModel.raw(I)I
abbrev mX11_raw : zMt := (yX11_raw, cX11_raw, 2, some .int)
theorem dX11_raw_0 : decode cX11_raw 0 = .ok (.iload_n 1, 1) := by decide +kernel
theorem dX11_raw_1 : decode cX11_raw 1 = .ok (.aload_n 0, 1) := by decide +kernel
theorem dX11_raw_2 : decode cX11_raw 2 = .ok (.getfield 171, 3) := by decide +kernel
theorem dX11_raw_5 : decode cX11_raw 5 = .ok (.if_icmp .ge 12, 3) := by decide +kernel
theorem dX11_raw_8 : decode cX11_raw 8 = .ok (.aload_n 0, 1) := by decide +kernel
theorem dX11_raw_9 : decode cX11_raw 9 = .ok (.getfield 28, 3) := by decide +kernel
theorem dX11_raw_12 : decode cX11_raw 12 = .ok (.iload_n 1, 1) := by decide +kernel
theorem dX11_raw_13 : decode cX11_raw 13 = .ok (.iaload, 1) := by decide +kernel
theorem dX11_raw_14 : decode cX11_raw 14 = .ok (.goto 4, 3) := by decide +kernel
theorem dX11_raw_17 : decode cX11_raw 17 = .ok (.iconst (-1), 1) := by decide +kernel
theorem dX11_raw_18 : decode cX11_raw 18 = .ok (.ireturn, 1) := by decide +kernel
def f_X11_raw  (a1 : Int32) (h : zHp) : Option (Int32 × zHp) := (if a1 < (h 0 12) then zix a1 400 (some ((h 7 a1.toNatClampNeg), h)) else some ((-1 : Int32), h))
set_option maxHeartbeats 4000000 in
set_option maxRecDepth 100000 in
theorem s_X11_raw  (a1 : Int32) (h : zHp) : Fn wM mX11_raw 0 rI [.ref 0, .int a1] h (f_X11_raw a1 h) := by
  refine Fn.of rfl (Nat.le_of_ble_eq_true rfl) ?_
  unfold f_X11_raw
  refine Sim.iload_n 1 dX11_raw_0 rfl ?_
  refine Sim.aload_n 0 dX11_raw_1 rfl ?_
  refine Sim.getI fl_X11_171 dX11_raw_2 mI_12 ?_
  refine Sim.icmp_ge 17 dX11_raw_5 rfl ?_ ?_
  · refine Sim.aload_n 0 dX11_raw_8 rfl ?_
    refine Sim.getR (j := 7) fl_X11_28 dX11_raw_9 mR_11 ?_
    refine Sim.iload_n 1 dX11_raw_12 rfl ?_
    refine Sim.iald (n := 400) dX11_raw_13 mA_7 ?_
    refine Sim.goto 18 dX11_raw_14 rfl ?_
    exact Sim.iret dX11_raw_18 rfl
  · refine Sim.iconst (v := (-1 : Int32)) dX11_raw_17 rfl ?_
    exact Sim.iret dX11_raw_18 rfl
theorem mv_X11_raw : zMV mX11_raw 1 := ⟨⟨zTb_in 1578 (by decide +kernel) rfl, zTb_in 148 (by decide +kernel) rfl, ⟨by decide +kernel, by decide +kernel⟩, by decide +kernel⟩, zTb_in 1577 (by decide +kernel) rfl, zTb_in 48 (by decide +kernel) rfl⟩
-- ===== RockingPorchModel.isLetter(I)Z
abbrev mX11_isLetter : zMt := (yX11_isLetter, cX11_isLetter, 2, some .boolean)
theorem dX11_isLetter_0 : decode cX11_isLetter 0 = .ok (.aload_n 0, 1) := by decide +kernel
theorem dX11_isLetter_1 : decode cX11_isLetter 1 = .ok (.iload_n 1, 1) := by decide +kernel
theorem dX11_isLetter_2 : decode cX11_isLetter 2 = .ok (.bipush 97, 2) := by decide +kernel
theorem dX11_isLetter_4 : decode cX11_isLetter 4 = .ok (.bipush 122, 2) := by decide +kernel
theorem dX11_isLetter_6 : decode cX11_isLetter 6 = .ok (.invokevirtual 154, 3) := by decide +kernel
theorem dX11_isLetter_9 : decode cX11_isLetter 9 = .ok (.ifCond .ne 15, 3) := by decide +kernel
theorem dX11_isLetter_12 : decode cX11_isLetter 12 = .ok (.aload_n 0, 1) := by decide +kernel
theorem dX11_isLetter_13 : decode cX11_isLetter 13 = .ok (.iload_n 1, 1) := by decide +kernel
theorem dX11_isLetter_14 : decode cX11_isLetter 14 = .ok (.bipush 65, 2) := by decide +kernel
theorem dX11_isLetter_16 : decode cX11_isLetter 16 = .ok (.bipush 90, 2) := by decide +kernel
theorem dX11_isLetter_18 : decode cX11_isLetter 18 = .ok (.invokevirtual 154, 3) := by decide +kernel
theorem dX11_isLetter_21 : decode cX11_isLetter 21 = .ok (.ifCond .eq 7, 3) := by decide +kernel
theorem dX11_isLetter_24 : decode cX11_isLetter 24 = .ok (.iconst 1, 1) := by decide +kernel
theorem dX11_isLetter_25 : decode cX11_isLetter 25 = .ok (.goto 4, 3) := by decide +kernel
theorem dX11_isLetter_28 : decode cX11_isLetter 28 = .ok (.iconst 0, 1) := by decide +kernel
theorem dX11_isLetter_29 : decode cX11_isLetter 29 = .ok (.ireturn, 1) := by decide +kernel
def f_X11_isLetter  (a1 : Int32) (h : zHp) : Option (Int32 × zHp) := (f_X11_isIn a1 (97 : Int32) (122 : Int32) h).bind fun x1 => (if x1.1 = 0 then (f_X11_isIn a1 (65 : Int32) (90 : Int32) x1.2).bind fun x2 => (if x2.1 = 0 then some ((0 : Int32), x2.2) else some ((1 : Int32), x2.2)) else some ((1 : Int32), x1.2))
set_option maxHeartbeats 4000000 in
set_option maxRecDepth 100000 in
theorem s_X11_isLetter  (a1 : Int32) (h : zHp) : Fn wM mX11_isLetter 1 rI [.ref 0, .int a1] h (f_X11_isLetter a1 h) := by
  refine Fn.of rfl (Nat.le_of_ble_eq_true rfl) ?_
  unfold f_X11_isLetter
  refine Sim.aload_n 0 dX11_isLetter_0 rfl ?_
  refine Sim.iload_n 1 dX11_isLetter_1 rfl ?_
  refine Sim.bipush (v := (97 : Int32)) dX11_isLetter_2 rfl ?_
  refine Sim.bipush (v := (122 : Int32)) dX11_isLetter_4 rfl ?_
  refine Sim.callV3I (d1 := 0) (s_X11_isIn a1 (97 : Int32) (122 : Int32) h) dX11_isLetter_6 ml_X11_154 mv_X11_isIn mC (Nat.le_of_ble_eq_true rfl) (Nat.le_of_ble_eq_true rfl) (Nat.le_of_ble_eq_true rfl) (fun x1 => ?_)
  refine Sim.if_ne 24 dX11_isLetter_9 rfl ?_ ?_
  · refine Sim.aload_n 0 dX11_isLetter_12 rfl ?_
    refine Sim.iload_n 1 dX11_isLetter_13 rfl ?_
    refine Sim.bipush (v := (65 : Int32)) dX11_isLetter_14 rfl ?_
    refine Sim.bipush (v := (90 : Int32)) dX11_isLetter_16 rfl ?_
    refine Sim.callV3I (d1 := 0) (s_X11_isIn a1 (65 : Int32) (90 : Int32) x1.2) dX11_isLetter_18 ml_X11_154 mv_X11_isIn mC (Nat.le_of_ble_eq_true rfl) (Nat.le_of_ble_eq_true rfl) (Nat.le_of_ble_eq_true rfl) (fun x2 => ?_)
    refine Sim.if_eq 28 dX11_isLetter_21 rfl ?_ ?_
    · refine Sim.iconst (v := (0 : Int32)) dX11_isLetter_28 rfl ?_
      exact Sim.nret dX11_isLetter_29 rfl rfl
    · refine Sim.iconst (v := (1 : Int32)) dX11_isLetter_24 rfl ?_
      refine Sim.goto 29 dX11_isLetter_25 rfl ?_
      exact Sim.nret dX11_isLetter_29 rfl rfl
  · refine Sim.iconst (v := (1 : Int32)) dX11_isLetter_24 rfl ?_
    refine Sim.goto 29 dX11_isLetter_25 rfl ?_
    exact Sim.nret dX11_isLetter_29 rfl rfl
theorem mv_X11_isLetter : zMV mX11_isLetter 1 := ⟨⟨zTb_in 1582 (by decide +kernel) rfl, zTb_in 148 (by decide +kernel) rfl, ⟨by decide +kernel, by decide +kernel⟩, by decide +kernel⟩, zTb_in 1581 (by decide +kernel) rfl, zTb_in 49 (by decide +kernel) rfl⟩
-- ===== RockingPorchModel.isDigit(I)Z
abbrev mX11_isDigit : zMt := (yX11_isDigit, cX11_isDigit, 2, some .boolean)
theorem dX11_isDigit_0 : decode cX11_isDigit 0 = .ok (.aload_n 0, 1) := by decide +kernel
theorem dX11_isDigit_1 : decode cX11_isDigit 1 = .ok (.iload_n 1, 1) := by decide +kernel
theorem dX11_isDigit_2 : decode cX11_isDigit 2 = .ok (.bipush 48, 2) := by decide +kernel
theorem dX11_isDigit_4 : decode cX11_isDigit 4 = .ok (.bipush 57, 2) := by decide +kernel
theorem dX11_isDigit_6 : decode cX11_isDigit 6 = .ok (.invokevirtual 154, 3) := by decide +kernel
theorem dX11_isDigit_9 : decode cX11_isDigit 9 = .ok (.ireturn, 1) := by decide +kernel
def f_X11_isDigit  (a1 : Int32) (h : zHp) : Option (Int32 × zHp) := (f_X11_isIn a1 (48 : Int32) (57 : Int32) h).bind fun x1 => zzb x1.1 (some (x1.1, x1.2))
set_option maxHeartbeats 4000000 in
set_option maxRecDepth 100000 in
theorem s_X11_isDigit  (a1 : Int32) (h : zHp) : Fn wM mX11_isDigit 1 rI [.ref 0, .int a1] h (f_X11_isDigit a1 h) := by
  refine Fn.of rfl (Nat.le_of_ble_eq_true rfl) ?_
  unfold f_X11_isDigit
  refine Sim.aload_n 0 dX11_isDigit_0 rfl ?_
  refine Sim.iload_n 1 dX11_isDigit_1 rfl ?_
  refine Sim.bipush (v := (48 : Int32)) dX11_isDigit_2 rfl ?_
  refine Sim.bipush (v := (57 : Int32)) dX11_isDigit_4 rfl ?_
  refine Sim.callV3I (d1 := 0) (s_X11_isIn a1 (48 : Int32) (57 : Int32) h) dX11_isDigit_6 ml_X11_154 mv_X11_isIn mC (Nat.le_of_ble_eq_true rfl) (Nat.le_of_ble_eq_true rfl) (Nat.le_of_ble_eq_true rfl) (fun x1 => ?_)
  exact Sim.zret dX11_isDigit_9 rfl
theorem mv_X11_isDigit : zMV mX11_isDigit 1 := ⟨⟨zTb_in 1590 (by decide +kernel) rfl, zTb_in 148 (by decide +kernel) rfl, ⟨by decide +kernel, by decide +kernel⟩, by decide +kernel⟩, zTb_in 1589 (by decide +kernel) rfl, zTb_in 51 (by decide +kernel) rfl⟩
-- ===== RockingPorchModel.isMarkSign(I)Z
abbrev mX11_isMarkSign : zMt := (yX11_isMarkSign, cX11_isMarkSign, 2, some .boolean)
theorem dX11_isMarkSign_0 : decode cX11_isMarkSign 0 = .ok (.iload_n 1, 1) := by decide +kernel
theorem dX11_isMarkSign_1 : decode cX11_isMarkSign 1 = .ok (.bipush 59, 2) := by decide +kernel
theorem dX11_isMarkSign_3 : decode cX11_isMarkSign 3 = .ok (.if_icmp .eq 57, 3) := by decide +kernel
theorem dX11_isMarkSign_6 : decode cX11_isMarkSign 6 = .ok (.iload_n 1, 1) := by decide +kernel
theorem dX11_isMarkSign_7 : decode cX11_isMarkSign 7 = .ok (.bipush 43, 2) := by decide +kernel
theorem dX11_isMarkSign_9 : decode cX11_isMarkSign 9 = .ok (.if_icmp .eq 51, 3) := by decide +kernel
theorem dX11_isMarkSign_12 : decode cX11_isMarkSign 12 = .ok (.iload_n 1, 1) := by decide +kernel
theorem dX11_isMarkSign_13 : decode cX11_isMarkSign 13 = .ok (.bipush 45, 2) := by decide +kernel
theorem dX11_isMarkSign_15 : decode cX11_isMarkSign 15 = .ok (.if_icmp .eq 45, 3) := by decide +kernel
theorem dX11_isMarkSign_18 : decode cX11_isMarkSign 18 = .ok (.iload_n 1, 1) := by decide +kernel
theorem dX11_isMarkSign_19 : decode cX11_isMarkSign 19 = .ok (.bipush 42, 2) := by decide +kernel
theorem dX11_isMarkSign_21 : decode cX11_isMarkSign 21 = .ok (.if_icmp .eq 39, 3) := by decide +kernel
theorem dX11_isMarkSign_24 : decode cX11_isMarkSign 24 = .ok (.iload_n 1, 1) := by decide +kernel
theorem dX11_isMarkSign_25 : decode cX11_isMarkSign 25 = .ok (.bipush 47, 2) := by decide +kernel
theorem dX11_isMarkSign_27 : decode cX11_isMarkSign 27 = .ok (.if_icmp .eq 33, 3) := by decide +kernel
theorem dX11_isMarkSign_30 : decode cX11_isMarkSign 30 = .ok (.iload_n 1, 1) := by decide +kernel
theorem dX11_isMarkSign_31 : decode cX11_isMarkSign 31 = .ok (.bipush 40, 2) := by decide +kernel
theorem dX11_isMarkSign_33 : decode cX11_isMarkSign 33 = .ok (.if_icmp .eq 27, 3) := by decide +kernel
theorem dX11_isMarkSign_36 : decode cX11_isMarkSign 36 = .ok (.iload_n 1, 1) := by decide +kernel
theorem dX11_isMarkSign_37 : decode cX11_isMarkSign 37 = .ok (.bipush 41, 2) := by decide +kernel
theorem dX11_isMarkSign_39 : decode cX11_isMarkSign 39 = .ok (.if_icmp .eq 21, 3) := by decide +kernel
theorem dX11_isMarkSign_42 : decode cX11_isMarkSign 42 = .ok (.iload_n 1, 1) := by decide +kernel
theorem dX11_isMarkSign_43 : decode cX11_isMarkSign 43 = .ok (.bipush 60, 2) := by decide +kernel
theorem dX11_isMarkSign_45 : decode cX11_isMarkSign 45 = .ok (.if_icmp .eq 15, 3) := by decide +kernel
theorem dX11_isMarkSign_48 : decode cX11_isMarkSign 48 = .ok (.iload_n 1, 1) := by decide +kernel
theorem dX11_isMarkSign_49 : decode cX11_isMarkSign 49 = .ok (.bipush 61, 2) := by decide +kernel
theorem dX11_isMarkSign_51 : decode cX11_isMarkSign 51 = .ok (.if_icmp .eq 9, 3) := by decide +kernel
theorem dX11_isMarkSign_54 : decode cX11_isMarkSign 54 = .ok (.iload_n 1, 1) := by decide +kernel
theorem dX11_isMarkSign_55 : decode cX11_isMarkSign 55 = .ok (.bipush 62, 2) := by decide +kernel
theorem dX11_isMarkSign_57 : decode cX11_isMarkSign 57 = .ok (.if_icmp .ne 7, 3) := by decide +kernel
theorem dX11_isMarkSign_60 : decode cX11_isMarkSign 60 = .ok (.iconst 1, 1) := by decide +kernel
theorem dX11_isMarkSign_61 : decode cX11_isMarkSign 61 = .ok (.goto 4, 3) := by decide +kernel
theorem dX11_isMarkSign_64 : decode cX11_isMarkSign 64 = .ok (.iconst 0, 1) := by decide +kernel
theorem dX11_isMarkSign_65 : decode cX11_isMarkSign 65 = .ok (.ireturn, 1) := by decide +kernel
def f_X11_isMarkSign  (a1 : Int32) (h : zHp) : Option (Int32 × zHp) := (if a1 = (59 : Int32) then some ((1 : Int32), h) else (if a1 = (43 : Int32) then some ((1 : Int32), h) else (if a1 = (45 : Int32) then some ((1 : Int32), h) else (if a1 = (42 : Int32) then some ((1 : Int32), h) else (if a1 = (47 : Int32) then some ((1 : Int32), h) else (if a1 = (40 : Int32) then some ((1 : Int32), h) else (if a1 = (41 : Int32) then some ((1 : Int32), h) else (if a1 = (60 : Int32) then some ((1 : Int32), h) else (if a1 = (61 : Int32) then some ((1 : Int32), h) else (if a1 = (62 : Int32) then some ((1 : Int32), h) else some ((0 : Int32), h)))))))))))
set_option maxHeartbeats 4000000 in
set_option maxRecDepth 100000 in
theorem s_X11_isMarkSign  (a1 : Int32) (h : zHp) : Fn wM mX11_isMarkSign 0 rI [.ref 0, .int a1] h (f_X11_isMarkSign a1 h) := by
  refine Fn.of rfl (Nat.le_of_ble_eq_true rfl) ?_
  unfold f_X11_isMarkSign
  refine Sim.iload_n 1 dX11_isMarkSign_0 rfl ?_
  refine Sim.bipush (v := (59 : Int32)) dX11_isMarkSign_1 rfl ?_
  refine Sim.icmp_eq 60 dX11_isMarkSign_3 rfl ?_ ?_
  · refine Sim.iconst (v := (1 : Int32)) dX11_isMarkSign_60 rfl ?_
    refine Sim.goto 65 dX11_isMarkSign_61 rfl ?_
    exact Sim.nret dX11_isMarkSign_65 rfl rfl
  · refine Sim.iload_n 1 dX11_isMarkSign_6 rfl ?_
    refine Sim.bipush (v := (43 : Int32)) dX11_isMarkSign_7 rfl ?_
    refine Sim.icmp_eq 60 dX11_isMarkSign_9 rfl ?_ ?_
    · refine Sim.iconst (v := (1 : Int32)) dX11_isMarkSign_60 rfl ?_
      refine Sim.goto 65 dX11_isMarkSign_61 rfl ?_
      exact Sim.nret dX11_isMarkSign_65 rfl rfl
    · refine Sim.iload_n 1 dX11_isMarkSign_12 rfl ?_
      refine Sim.bipush (v := (45 : Int32)) dX11_isMarkSign_13 rfl ?_
      refine Sim.icmp_eq 60 dX11_isMarkSign_15 rfl ?_ ?_
      · refine Sim.iconst (v := (1 : Int32)) dX11_isMarkSign_60 rfl ?_
        refine Sim.goto 65 dX11_isMarkSign_61 rfl ?_
        exact Sim.nret dX11_isMarkSign_65 rfl rfl
      · refine Sim.iload_n 1 dX11_isMarkSign_18 rfl ?_
        refine Sim.bipush (v := (42 : Int32)) dX11_isMarkSign_19 rfl ?_
        refine Sim.icmp_eq 60 dX11_isMarkSign_21 rfl ?_ ?_
        · refine Sim.iconst (v := (1 : Int32)) dX11_isMarkSign_60 rfl ?_
          refine Sim.goto 65 dX11_isMarkSign_61 rfl ?_
          exact Sim.nret dX11_isMarkSign_65 rfl rfl
        · refine Sim.iload_n 1 dX11_isMarkSign_24 rfl ?_
          refine Sim.bipush (v := (47 : Int32)) dX11_isMarkSign_25 rfl ?_
          refine Sim.icmp_eq 60 dX11_isMarkSign_27 rfl ?_ ?_
          · refine Sim.iconst (v := (1 : Int32)) dX11_isMarkSign_60 rfl ?_
            refine Sim.goto 65 dX11_isMarkSign_61 rfl ?_
            exact Sim.nret dX11_isMarkSign_65 rfl rfl
          · refine Sim.iload_n 1 dX11_isMarkSign_30 rfl ?_
            refine Sim.bipush (v := (40 : Int32)) dX11_isMarkSign_31 rfl ?_
            refine Sim.icmp_eq 60 dX11_isMarkSign_33 rfl ?_ ?_
            · refine Sim.iconst (v := (1 : Int32)) dX11_isMarkSign_60 rfl ?_
              refine Sim.goto 65 dX11_isMarkSign_61 rfl ?_
              exact Sim.nret dX11_isMarkSign_65 rfl rfl
            · refine Sim.iload_n 1 dX11_isMarkSign_36 rfl ?_
              refine Sim.bipush (v := (41 : Int32)) dX11_isMarkSign_37 rfl ?_
              refine Sim.icmp_eq 60 dX11_isMarkSign_39 rfl ?_ ?_
              · refine Sim.iconst (v := (1 : Int32)) dX11_isMarkSign_60 rfl ?_
                refine Sim.goto 65 dX11_isMarkSign_61 rfl ?_
                exact Sim.nret dX11_isMarkSign_65 rfl rfl
              · refine Sim.iload_n 1 dX11_isMarkSign_42 rfl ?_
                refine Sim.bipush (v := (60 : Int32)) dX11_isMarkSign_43 rfl ?_
                refine Sim.icmp_eq 60 dX11_isMarkSign_45 rfl ?_ ?_
                · refine Sim.iconst (v := (1 : Int32)) dX11_isMarkSign_60 rfl ?_
                  refine Sim.goto 65 dX11_isMarkSign_61 rfl ?_
                  exact Sim.nret dX11_isMarkSign_65 rfl rfl
                · refine Sim.iload_n 1 dX11_isMarkSign_48 rfl ?_
                  refine Sim.bipush (v := (61 : Int32)) dX11_isMarkSign_49 rfl ?_
                  refine Sim.icmp_eq 60 dX11_isMarkSign_51 rfl ?_ ?_
                  · refine Sim.iconst (v := (1 : Int32)) dX11_isMarkSign_60 rfl ?_
                    refine Sim.goto 65 dX11_isMarkSign_61 rfl ?_
                    exact Sim.nret dX11_isMarkSign_65 rfl rfl
                  · refine Sim.iload_n 1 dX11_isMarkSign_54 rfl ?_
                    refine Sim.bipush (v := (62 : Int32)) dX11_isMarkSign_55 rfl ?_
                    refine Sim.icmp_ne 64 dX11_isMarkSign_57 rfl ?_ ?_
                    · refine Sim.iconst (v := (1 : Int32)) dX11_isMarkSign_60 rfl ?_
                      refine Sim.goto 65 dX11_isMarkSign_61 rfl ?_
                      exact Sim.nret dX11_isMarkSign_65 rfl rfl
                    · refine Sim.iconst (v := (0 : Int32)) dX11_isMarkSign_64 rfl ?_
                      exact Sim.nret dX11_isMarkSign_65 rfl rfl
theorem mv_X11_isMarkSign : zMV mX11_isMarkSign 1 := ⟨⟨zTb_in 1594 (by decide +kernel) rfl, zTb_in 148 (by decide +kernel) rfl, ⟨by decide +kernel, by decide +kernel⟩, by decide +kernel⟩, zTb_in 1593 (by decide +kernel) rfl, zTb_in 52 (by decide +kernel) rfl⟩
-- ===== RockingPorchModel.wordAt(II)I
abbrev mX11_wordAt : zMt := (yX11_wordAt, cX11_wordAt, 6, some .int)
theorem fl_X11_31 : zF RX11 31 11 17 := ⟨RX11, TX11, 69, rfl, Nat.le_of_ble_eq_true rfl, zTb_in 1316 (by decide +kernel) rfl, in_X11⟩
theorem dX11_wordAt_0 : decode cX11_wordAt 0 = .ok (.iconst (-1), 1) := by decide +kernel
theorem dX11_wordAt_1 : decode cX11_wordAt 1 = .ok (.istore_n 3, 1) := by decide +kernel
theorem dX11_wordAt_2 : decode cX11_wordAt 2 = .ok (.iconst 0, 1) := by decide +kernel
theorem dX11_wordAt_3 : decode cX11_wordAt 3 = .ok (.istore 4, 2) := by decide +kernel
theorem dX11_wordAt_5 : decode cX11_wordAt 5 = .ok (.iload 4, 2) := by decide +kernel
theorem dX11_wordAt_7 : decode cX11_wordAt 7 = .ok (.bipush 123, 2) := by decide +kernel
theorem dX11_wordAt_9 : decode cX11_wordAt 9 = .ok (.if_icmp .ge 108, 3) := by decide +kernel
theorem dX11_wordAt_12 : decode cX11_wordAt 12 = .ok (.iconst 0, 1) := by decide +kernel
theorem dX11_wordAt_13 : decode cX11_wordAt 13 = .ok (.istore 5, 2) := by decide +kernel
theorem dX11_wordAt_15 : decode cX11_wordAt 15 = .ok (.iload_n 3, 1) := by decide +kernel
theorem dX11_wordAt_16 : decode cX11_wordAt 16 = .ok (.iconst 1, 1) := by decide +kernel
theorem dX11_wordAt_17 : decode cX11_wordAt 17 = .ok (.iadd, 1) := by decide +kernel
theorem dX11_wordAt_18 : decode cX11_wordAt 18 = .ok (.istore_n 3, 1) := by decide +kernel
theorem dX11_wordAt_19 : decode cX11_wordAt 19 = .ok (.iload_n 1, 1) := by decide +kernel
theorem dX11_wordAt_20 : decode cX11_wordAt 20 = .ok (.iload 5, 2) := by decide +kernel
theorem dX11_wordAt_22 : decode cX11_wordAt 22 = .ok (.iadd, 1) := by decide +kernel
theorem dX11_wordAt_23 : decode cX11_wordAt 23 = .ok (.iload_n 2, 1) := by decide +kernel
theorem dX11_wordAt_24 : decode cX11_wordAt 24 = .ok (.if_icmp .ge 36, 3) := by decide +kernel
theorem dX11_wordAt_27 : decode cX11_wordAt 27 = .ok (.aload_n 0, 1) := by decide +kernel
theorem dX11_wordAt_28 : decode cX11_wordAt 28 = .ok (.getfield 31, 3) := by decide +kernel
theorem dX11_wordAt_31 : decode cX11_wordAt 31 = .ok (.iload 4, 2) := by decide +kernel
theorem dX11_wordAt_33 : decode cX11_wordAt 33 = .ok (.iconst 1, 1) := by decide +kernel
theorem dX11_wordAt_34 : decode cX11_wordAt 34 = .ok (.iadd, 1) := by decide +kernel
theorem dX11_wordAt_35 : decode cX11_wordAt 35 = .ok (.iload 5, 2) := by decide +kernel
theorem dX11_wordAt_37 : decode cX11_wordAt 37 = .ok (.iadd, 1) := by decide +kernel
theorem dX11_wordAt_38 : decode cX11_wordAt 38 = .ok (.iaload, 1) := by decide +kernel
theorem dX11_wordAt_39 : decode cX11_wordAt 39 = .ok (.aload_n 0, 1) := by decide +kernel
theorem dX11_wordAt_40 : decode cX11_wordAt 40 = .ok (.getfield 28, 3) := by decide +kernel
theorem dX11_wordAt_43 : decode cX11_wordAt 43 = .ok (.iload_n 1, 1) := by decide +kernel
theorem dX11_wordAt_44 : decode cX11_wordAt 44 = .ok (.iload 5, 2) := by decide +kernel
theorem dX11_wordAt_46 : decode cX11_wordAt 46 = .ok (.iadd, 1) := by decide +kernel
theorem dX11_wordAt_47 : decode cX11_wordAt 47 = .ok (.iaload, 1) := by decide +kernel
theorem dX11_wordAt_48 : decode cX11_wordAt 48 = .ok (.if_icmp .ne 12, 3) := by decide +kernel
theorem dX11_wordAt_51 : decode cX11_wordAt 51 = .ok (.iload 5, 2) := by decide +kernel
theorem dX11_wordAt_53 : decode cX11_wordAt 53 = .ok (.iconst 1, 1) := by decide +kernel
theorem dX11_wordAt_54 : decode cX11_wordAt 54 = .ok (.iadd, 1) := by decide +kernel
theorem dX11_wordAt_55 : decode cX11_wordAt 55 = .ok (.istore 5, 2) := by decide +kernel
theorem dX11_wordAt_57 : decode cX11_wordAt 57 = .ok (.goto (-38), 3) := by decide +kernel
theorem dX11_wordAt_60 : decode cX11_wordAt 60 = .ok (.iload_n 1, 1) := by decide +kernel
theorem dX11_wordAt_61 : decode cX11_wordAt 61 = .ok (.iload 5, 2) := by decide +kernel
theorem dX11_wordAt_63 : decode cX11_wordAt 63 = .ok (.iadd, 1) := by decide +kernel
theorem dX11_wordAt_64 : decode cX11_wordAt 64 = .ok (.iload_n 2, 1) := by decide +kernel
theorem dX11_wordAt_65 : decode cX11_wordAt 65 = .ok (.if_icmp .ne 22, 3) := by decide +kernel
theorem dX11_wordAt_68 : decode cX11_wordAt 68 = .ok (.aload_n 0, 1) := by decide +kernel
theorem dX11_wordAt_69 : decode cX11_wordAt 69 = .ok (.getfield 31, 3) := by decide +kernel
theorem dX11_wordAt_72 : decode cX11_wordAt 72 = .ok (.iload 4, 2) := by decide +kernel
theorem dX11_wordAt_74 : decode cX11_wordAt 74 = .ok (.iconst 1, 1) := by decide +kernel
theorem dX11_wordAt_75 : decode cX11_wordAt 75 = .ok (.iadd, 1) := by decide +kernel
theorem dX11_wordAt_76 : decode cX11_wordAt 76 = .ok (.iload 5, 2) := by decide +kernel
theorem dX11_wordAt_78 : decode cX11_wordAt 78 = .ok (.iadd, 1) := by decide +kernel
theorem dX11_wordAt_79 : decode cX11_wordAt 79 = .ok (.iaload, 1) := by decide +kernel
theorem dX11_wordAt_80 : decode cX11_wordAt 80 = .ok (.bipush 32, 2) := by decide +kernel
theorem dX11_wordAt_82 : decode cX11_wordAt 82 = .ok (.if_icmp .ne 5, 3) := by decide +kernel
theorem dX11_wordAt_85 : decode cX11_wordAt 85 = .ok (.iload_n 3, 1) := by decide +kernel
theorem dX11_wordAt_86 : decode cX11_wordAt 86 = .ok (.ireturn, 1) := by decide +kernel
theorem dX11_wordAt_87 : decode cX11_wordAt 87 = .ok (.iload 4, 2) := by decide +kernel
theorem dX11_wordAt_89 : decode cX11_wordAt 89 = .ok (.iconst 1, 1) := by decide +kernel
theorem dX11_wordAt_90 : decode cX11_wordAt 90 = .ok (.iadd, 1) := by decide +kernel
theorem dX11_wordAt_91 : decode cX11_wordAt 91 = .ok (.istore 4, 2) := by decide +kernel
theorem dX11_wordAt_93 : decode cX11_wordAt 93 = .ok (.aload_n 0, 1) := by decide +kernel
theorem dX11_wordAt_94 : decode cX11_wordAt 94 = .ok (.getfield 31, 3) := by decide +kernel
theorem dX11_wordAt_97 : decode cX11_wordAt 97 = .ok (.iload 4, 2) := by decide +kernel
theorem dX11_wordAt_99 : decode cX11_wordAt 99 = .ok (.iaload, 1) := by decide +kernel
theorem dX11_wordAt_100 : decode cX11_wordAt 100 = .ok (.bipush 32, 2) := by decide +kernel
theorem dX11_wordAt_102 : decode cX11_wordAt 102 = .ok (.if_icmp .eq 12, 3) := by decide +kernel
theorem dX11_wordAt_105 : decode cX11_wordAt 105 = .ok (.iload 4, 2) := by decide +kernel
theorem dX11_wordAt_107 : decode cX11_wordAt 107 = .ok (.iconst 1, 1) := by decide +kernel
theorem dX11_wordAt_108 : decode cX11_wordAt 108 = .ok (.iadd, 1) := by decide +kernel
theorem dX11_wordAt_109 : decode cX11_wordAt 109 = .ok (.istore 4, 2) := by decide +kernel
theorem dX11_wordAt_111 : decode cX11_wordAt 111 = .ok (.goto (-18), 3) := by decide +kernel
theorem dX11_wordAt_114 : decode cX11_wordAt 114 = .ok (.goto (-109), 3) := by decide +kernel
theorem dX11_wordAt_117 : decode cX11_wordAt 117 = .ok (.iconst (-1), 1) := by decide +kernel
theorem dX11_wordAt_118 : decode cX11_wordAt 118 = .ok (.ireturn, 1) := by decide +kernel
def f_X11_wordAt_93  (k5 : Int32 × Int32 × Int32 × Int32 × zHp → Option (Int32 × zHp)) (k93 : Int32 × Int32 × Int32 × Int32 × zHp → Option (Int32 × zHp)) (v1 : Int32) (v2 : Int32) (v3 : Int32) (v4 : Int32) (h : zHp) : Option (Int32 × zHp) := zix v4 124 ((if (h 8 v4.toNatClampNeg) = (32 : Int32) then k5 (v1, v2, v3, v4, h) else zlt (v4 + (1 : Int32)) fun x1 => k93 (v1, v2, v3, x1, h)))
set_option maxHeartbeats 4000000 in
set_option maxRecDepth 100000 in
theorem f_X11_wordAt_93_s  (k5 : Int32 × Int32 × Int32 × Int32 × zHp → Option (Int32 × zHp)) (H5 : ∀ v : Int32 × Int32 × Int32 × Int32 × zHp, Sim wM mX11_wordAt 0 rI 5 [(0, .ref 0), (1, .int v.1), (2, .int v.2.1), (3, .int v.2.2.1), (4, .int v.2.2.2.1)] [] v.2.2.2.2 (k5 v)) (k93 : Int32 × Int32 × Int32 × Int32 × zHp → Option (Int32 × zHp)) (H93 : ∀ v : Int32 × Int32 × Int32 × Int32 × zHp, Sim wM mX11_wordAt 0 rI 93 [(0, .ref 0), (1, .int v.1), (2, .int v.2.1), (3, .int v.2.2.1), (4, .int v.2.2.2.1)] [] v.2.2.2.2 (k93 v)) (v1 : Int32) (v2 : Int32) (v3 : Int32) (v4 : Int32) (h : zHp) : Sim wM mX11_wordAt 0 rI 93 [(0, .ref 0), (1, .int v1), (2, .int v2), (3, .int v3), (4, .int v4)] [] h (f_X11_wordAt_93 k5 k93 v1 v2 v3 v4 h) := by
  unfold f_X11_wordAt_93
  refine Sim.aload_n 0 dX11_wordAt_93 rfl ?_
  refine Sim.getR (j := 8) fl_X11_31 dX11_wordAt_94 mR_17 ?_
  refine Sim.iload 4 dX11_wordAt_97 rfl ?_
  refine Sim.iald (n := 124) dX11_wordAt_99 mA_8 ?_
  refine Sim.bipush (v := (32 : Int32)) dX11_wordAt_100 rfl ?_
  refine Sim.icmp_eq 114 dX11_wordAt_102 rfl ?_ ?_
  · refine Sim.goto 5 dX11_wordAt_114 rfl ?_
    exact H5 (v1, v2, v3, v4, h)
  · refine Sim.iload 4 dX11_wordAt_105 rfl ?_
    refine Sim.iconst (v := (1 : Int32)) dX11_wordAt_107 rfl ?_
    refine Sim.iadd dX11_wordAt_108 ?_
    refine Sim.lti (fun x1 => ?_)
    refine Sim.istore (L' := [(4, .int x1), (0, .ref 0), (1, .int v1), (2, .int v2), (3, .int v3)]) dX11_wordAt_109 (Nat.le_of_ble_eq_true rfl) rfl ?_
    refine Sim.goto 93 dX11_wordAt_111 rfl ?_
    refine Sim.locs [1, 2, 3, 4, 0] rfl ?_
    exact H93 (v1, v2, v3, x1, h)
def f_X11_wordAt_93_lp  (k5 : Int32 × Int32 × Int32 × Int32 × zHp → Option (Int32 × zHp)) (n : Nat) (v : Int32 × Int32 × Int32 × Int32 × zHp) : Option (Int32 × zHp) := zlp (fun k93 v => f_X11_wordAt_93 k5 k93 v.1 v.2.1 v.2.2.1 v.2.2.2.1 v.2.2.2.2) n v
theorem f_X11_wordAt_93_ls  (k5 : Int32 × Int32 × Int32 × Int32 × zHp → Option (Int32 × zHp)) (H5 : ∀ v : Int32 × Int32 × Int32 × Int32 × zHp, Sim wM mX11_wordAt 0 rI 5 [(0, .ref 0), (1, .int v.1), (2, .int v.2.1), (3, .int v.2.2.1), (4, .int v.2.2.2.1)] [] v.2.2.2.2 (k5 v)) (n : Nat) (v : Int32 × Int32 × Int32 × Int32 × zHp) : Sim wM mX11_wordAt 0 rI 93 [(0, .ref 0), (1, .int v.1), (2, .int v.2.1), (3, .int v.2.2.1), (4, .int v.2.2.2.1)] [] v.2.2.2.2 (f_X11_wordAt_93_lp k5 n v) :=
  Sim.lp (V := Int32 × Int32 × Int32 × Int32 × zHp) (Lf := fun v => [(0, .ref 0), (1, .int v.1), (2, .int v.2.1), (3, .int v.2.2.1), (4, .int v.2.2.2.1)]) (sf := fun v => []) (hf := fun v => v.2.2.2.2) (fun k93 H93 v => f_X11_wordAt_93_s k5 H5 k93 H93 v.1 v.2.1 v.2.2.1 v.2.2.2.1 v.2.2.2.2) n v
def f_X11_wordAt_60  (k5 : Int32 × Int32 × Int32 × Int32 × zHp → Option (Int32 × zHp)) (v1 : Int32) (v2 : Int32) (v3 : Int32) (v4 : Int32) (v5 : Int32) (h : zHp) : Option (Int32 × zHp) := (if (v1 + v5) = v2 then zix ((v4 + (1 : Int32)) + v5) 124 ((if (h 8 ((v4 + (1 : Int32)) + v5).toNatClampNeg) = (32 : Int32) then some (v3, h) else zlt (v4 + (1 : Int32)) fun x1 => f_X11_wordAt_93_lp k5 zN (v1, v2, v3, x1, h))) else zlt (v4 + (1 : Int32)) fun x2 => f_X11_wordAt_93_lp k5 zN (v1, v2, v3, x2, h))
set_option maxHeartbeats 4000000 in
set_option maxRecDepth 100000 in
theorem f_X11_wordAt_60_s  (k5 : Int32 × Int32 × Int32 × Int32 × zHp → Option (Int32 × zHp)) (H5 : ∀ v : Int32 × Int32 × Int32 × Int32 × zHp, Sim wM mX11_wordAt 0 rI 5 [(0, .ref 0), (1, .int v.1), (2, .int v.2.1), (3, .int v.2.2.1), (4, .int v.2.2.2.1)] [] v.2.2.2.2 (k5 v)) (v1 : Int32) (v2 : Int32) (v3 : Int32) (v4 : Int32) (v5 : Int32) (h : zHp) : Sim wM mX11_wordAt 0 rI 60 [(0, .ref 0), (1, .int v1), (2, .int v2), (3, .int v3), (4, .int v4), (5, .int v5)] [] h (f_X11_wordAt_60 k5 v1 v2 v3 v4 v5 h) := by
  unfold f_X11_wordAt_60
  refine Sim.iload_n 1 dX11_wordAt_60 rfl ?_
  refine Sim.iload 5 dX11_wordAt_61 rfl ?_
  refine Sim.iadd dX11_wordAt_63 ?_
  refine Sim.iload_n 2 dX11_wordAt_64 rfl ?_
  refine Sim.icmp_ne 87 dX11_wordAt_65 rfl ?_ ?_
  · refine Sim.aload_n 0 dX11_wordAt_68 rfl ?_
    refine Sim.getR (j := 8) fl_X11_31 dX11_wordAt_69 mR_17 ?_
    refine Sim.iload 4 dX11_wordAt_72 rfl ?_
    refine Sim.iconst (v := (1 : Int32)) dX11_wordAt_74 rfl ?_
    refine Sim.iadd dX11_wordAt_75 ?_
    refine Sim.iload 5 dX11_wordAt_76 rfl ?_
    refine Sim.iadd dX11_wordAt_78 ?_
    refine Sim.iald (n := 124) dX11_wordAt_79 mA_8 ?_
    refine Sim.bipush (v := (32 : Int32)) dX11_wordAt_80 rfl ?_
    refine Sim.icmp_ne 87 dX11_wordAt_82 rfl ?_ ?_
    · refine Sim.iload_n 3 dX11_wordAt_85 rfl ?_
      exact Sim.iret dX11_wordAt_86 rfl
    · refine Sim.iload 4 dX11_wordAt_87 rfl ?_
      refine Sim.iconst (v := (1 : Int32)) dX11_wordAt_89 rfl ?_
      refine Sim.iadd dX11_wordAt_90 ?_
      refine Sim.lti (fun x1 => ?_)
      refine Sim.istore (L' := [(4, .int x1), (0, .ref 0), (1, .int v1), (2, .int v2), (3, .int v3), (5, .int v5)]) dX11_wordAt_91 (Nat.le_of_ble_eq_true rfl) rfl ?_
      refine Sim.locs [1, 2, 3, 4, 0] rfl ?_
      exact f_X11_wordAt_93_ls k5 H5 zN (v1, v2, v3, x1, h)
  · refine Sim.iload 4 dX11_wordAt_87 rfl ?_
    refine Sim.iconst (v := (1 : Int32)) dX11_wordAt_89 rfl ?_
    refine Sim.iadd dX11_wordAt_90 ?_
    refine Sim.lti (fun x2 => ?_)
    refine Sim.istore (L' := [(4, .int x2), (0, .ref 0), (1, .int v1), (2, .int v2), (3, .int v3), (5, .int v5)]) dX11_wordAt_91 (Nat.le_of_ble_eq_true rfl) rfl ?_
    refine Sim.locs [1, 2, 3, 4, 0] rfl ?_
    exact f_X11_wordAt_93_ls k5 H5 zN (v1, v2, v3, x2, h)
def f_X11_wordAt_19  (k5 : Int32 × Int32 × Int32 × Int32 × zHp → Option (Int32 × zHp)) (k19 : Int32 × Int32 × Int32 × Int32 × Int32 × zHp → Option (Int32 × zHp)) (v1 : Int32) (v2 : Int32) (v3 : Int32) (v4 : Int32) (v5 : Int32) (h : zHp) : Option (Int32 × zHp) := (if (v1 + v5) < v2 then zix ((v4 + (1 : Int32)) + v5) 124 (zix (v1 + v5) 400 ((if (h 8 ((v4 + (1 : Int32)) + v5).toNatClampNeg) = (h 7 (v1 + v5).toNatClampNeg) then zlt (v5 + (1 : Int32)) fun x1 => k19 (v1, v2, v3, v4, x1, h) else f_X11_wordAt_60 k5 v1 v2 v3 v4 v5 h))) else f_X11_wordAt_60 k5 v1 v2 v3 v4 v5 h)
set_option maxHeartbeats 4000000 in
set_option maxRecDepth 100000 in
theorem f_X11_wordAt_19_s  (k5 : Int32 × Int32 × Int32 × Int32 × zHp → Option (Int32 × zHp)) (H5 : ∀ v : Int32 × Int32 × Int32 × Int32 × zHp, Sim wM mX11_wordAt 0 rI 5 [(0, .ref 0), (1, .int v.1), (2, .int v.2.1), (3, .int v.2.2.1), (4, .int v.2.2.2.1)] [] v.2.2.2.2 (k5 v)) (k19 : Int32 × Int32 × Int32 × Int32 × Int32 × zHp → Option (Int32 × zHp)) (H19 : ∀ v : Int32 × Int32 × Int32 × Int32 × Int32 × zHp, Sim wM mX11_wordAt 0 rI 19 [(0, .ref 0), (1, .int v.1), (2, .int v.2.1), (3, .int v.2.2.1), (4, .int v.2.2.2.1), (5, .int v.2.2.2.2.1)] [] v.2.2.2.2.2 (k19 v)) (v1 : Int32) (v2 : Int32) (v3 : Int32) (v4 : Int32) (v5 : Int32) (h : zHp) : Sim wM mX11_wordAt 0 rI 19 [(0, .ref 0), (1, .int v1), (2, .int v2), (3, .int v3), (4, .int v4), (5, .int v5)] [] h (f_X11_wordAt_19 k5 k19 v1 v2 v3 v4 v5 h) := by
  unfold f_X11_wordAt_19
  refine Sim.iload_n 1 dX11_wordAt_19 rfl ?_
  refine Sim.iload 5 dX11_wordAt_20 rfl ?_
  refine Sim.iadd dX11_wordAt_22 ?_
  refine Sim.iload_n 2 dX11_wordAt_23 rfl ?_
  refine Sim.icmp_ge 60 dX11_wordAt_24 rfl ?_ ?_
  · refine Sim.aload_n 0 dX11_wordAt_27 rfl ?_
    refine Sim.getR (j := 8) fl_X11_31 dX11_wordAt_28 mR_17 ?_
    refine Sim.iload 4 dX11_wordAt_31 rfl ?_
    refine Sim.iconst (v := (1 : Int32)) dX11_wordAt_33 rfl ?_
    refine Sim.iadd dX11_wordAt_34 ?_
    refine Sim.iload 5 dX11_wordAt_35 rfl ?_
    refine Sim.iadd dX11_wordAt_37 ?_
    refine Sim.iald (n := 124) dX11_wordAt_38 mA_8 ?_
    refine Sim.aload_n 0 dX11_wordAt_39 rfl ?_
    refine Sim.getR (j := 7) fl_X11_28 dX11_wordAt_40 mR_11 ?_
    refine Sim.iload_n 1 dX11_wordAt_43 rfl ?_
    refine Sim.iload 5 dX11_wordAt_44 rfl ?_
    refine Sim.iadd dX11_wordAt_46 ?_
    refine Sim.iald (n := 400) dX11_wordAt_47 mA_7 ?_
    refine Sim.icmp_ne 60 dX11_wordAt_48 rfl ?_ ?_
    · refine Sim.iload 5 dX11_wordAt_51 rfl ?_
      refine Sim.iconst (v := (1 : Int32)) dX11_wordAt_53 rfl ?_
      refine Sim.iadd dX11_wordAt_54 ?_
      refine Sim.lti (fun x1 => ?_)
      refine Sim.istore (L' := [(5, .int x1), (0, .ref 0), (1, .int v1), (2, .int v2), (3, .int v3), (4, .int v4)]) dX11_wordAt_55 (Nat.le_of_ble_eq_true rfl) rfl ?_
      refine Sim.goto 19 dX11_wordAt_57 rfl ?_
      refine Sim.locs [1, 2, 3, 4, 5, 0] rfl ?_
      exact H19 (v1, v2, v3, v4, x1, h)
    · exact f_X11_wordAt_60_s k5 H5 v1 v2 v3 v4 v5 h
  · exact f_X11_wordAt_60_s k5 H5 v1 v2 v3 v4 v5 h
def f_X11_wordAt_19_lp  (k5 : Int32 × Int32 × Int32 × Int32 × zHp → Option (Int32 × zHp)) (n : Nat) (v : Int32 × Int32 × Int32 × Int32 × Int32 × zHp) : Option (Int32 × zHp) := zlp (fun k19 v => f_X11_wordAt_19 k5 k19 v.1 v.2.1 v.2.2.1 v.2.2.2.1 v.2.2.2.2.1 v.2.2.2.2.2) n v
theorem f_X11_wordAt_19_ls  (k5 : Int32 × Int32 × Int32 × Int32 × zHp → Option (Int32 × zHp)) (H5 : ∀ v : Int32 × Int32 × Int32 × Int32 × zHp, Sim wM mX11_wordAt 0 rI 5 [(0, .ref 0), (1, .int v.1), (2, .int v.2.1), (3, .int v.2.2.1), (4, .int v.2.2.2.1)] [] v.2.2.2.2 (k5 v)) (n : Nat) (v : Int32 × Int32 × Int32 × Int32 × Int32 × zHp) : Sim wM mX11_wordAt 0 rI 19 [(0, .ref 0), (1, .int v.1), (2, .int v.2.1), (3, .int v.2.2.1), (4, .int v.2.2.2.1), (5, .int v.2.2.2.2.1)] [] v.2.2.2.2.2 (f_X11_wordAt_19_lp k5 n v) :=
  Sim.lp (V := Int32 × Int32 × Int32 × Int32 × Int32 × zHp) (Lf := fun v => [(0, .ref 0), (1, .int v.1), (2, .int v.2.1), (3, .int v.2.2.1), (4, .int v.2.2.2.1), (5, .int v.2.2.2.2.1)]) (sf := fun v => []) (hf := fun v => v.2.2.2.2.2) (fun k19 H19 v => f_X11_wordAt_19_s k5 H5 k19 H19 v.1 v.2.1 v.2.2.1 v.2.2.2.1 v.2.2.2.2.1 v.2.2.2.2.2) n v
def f_X11_wordAt_5  (k5 : Int32 × Int32 × Int32 × Int32 × zHp → Option (Int32 × zHp)) (v1 : Int32) (v2 : Int32) (v3 : Int32) (v4 : Int32) (h : zHp) : Option (Int32 × zHp) := (if v4 < (123 : Int32) then zlt (v3 + (1 : Int32)) fun x1 => f_X11_wordAt_19_lp k5 zN (v1, v2, x1, v4, (0 : Int32), h) else some ((-1 : Int32), h))
set_option maxHeartbeats 4000000 in
set_option maxRecDepth 100000 in
theorem f_X11_wordAt_5_s  (k5 : Int32 × Int32 × Int32 × Int32 × zHp → Option (Int32 × zHp)) (H5 : ∀ v : Int32 × Int32 × Int32 × Int32 × zHp, Sim wM mX11_wordAt 0 rI 5 [(0, .ref 0), (1, .int v.1), (2, .int v.2.1), (3, .int v.2.2.1), (4, .int v.2.2.2.1)] [] v.2.2.2.2 (k5 v)) (v1 : Int32) (v2 : Int32) (v3 : Int32) (v4 : Int32) (h : zHp) : Sim wM mX11_wordAt 0 rI 5 [(0, .ref 0), (1, .int v1), (2, .int v2), (3, .int v3), (4, .int v4)] [] h (f_X11_wordAt_5 k5 v1 v2 v3 v4 h) := by
  unfold f_X11_wordAt_5
  refine Sim.iload 4 dX11_wordAt_5 rfl ?_
  refine Sim.bipush (v := (123 : Int32)) dX11_wordAt_7 rfl ?_
  refine Sim.icmp_ge 117 dX11_wordAt_9 rfl ?_ ?_
  · refine Sim.iconst (v := (0 : Int32)) dX11_wordAt_12 rfl ?_
    refine Sim.istore (L' := [(5, .int (0 : Int32)), (0, .ref 0), (1, .int v1), (2, .int v2), (3, .int v3), (4, .int v4)]) dX11_wordAt_13 (Nat.le_of_ble_eq_true rfl) rfl ?_
    refine Sim.iload_n 4 dX11_wordAt_15 rfl ?_
    refine Sim.iconst (v := (1 : Int32)) dX11_wordAt_16 rfl ?_
    refine Sim.iadd dX11_wordAt_17 ?_
    refine Sim.lti (fun x1 => ?_)
    refine Sim.istore_n (L' := [(3, .int x1), (5, .int (0 : Int32)), (0, .ref 0), (1, .int v1), (2, .int v2), (4, .int v4)]) dX11_wordAt_18 (Nat.le_of_ble_eq_true rfl) rfl ?_
    refine Sim.locs [2, 3, 4, 0, 5, 1] rfl ?_
    exact f_X11_wordAt_19_ls k5 H5 zN (v1, v2, x1, v4, (0 : Int32), h)
  · refine Sim.iconst (v := (-1 : Int32)) dX11_wordAt_117 rfl ?_
    exact Sim.iret dX11_wordAt_118 rfl
def f_X11_wordAt_5_lp   (n : Nat) (v : Int32 × Int32 × Int32 × Int32 × zHp) : Option (Int32 × zHp) := zlp (fun k5 v => f_X11_wordAt_5 k5 v.1 v.2.1 v.2.2.1 v.2.2.2.1 v.2.2.2.2) n v
theorem f_X11_wordAt_5_ls  (n : Nat) (v : Int32 × Int32 × Int32 × Int32 × zHp) : Sim wM mX11_wordAt 0 rI 5 [(0, .ref 0), (1, .int v.1), (2, .int v.2.1), (3, .int v.2.2.1), (4, .int v.2.2.2.1)] [] v.2.2.2.2 (f_X11_wordAt_5_lp n v) :=
  Sim.lp (V := Int32 × Int32 × Int32 × Int32 × zHp) (Lf := fun v => [(0, .ref 0), (1, .int v.1), (2, .int v.2.1), (3, .int v.2.2.1), (4, .int v.2.2.2.1)]) (sf := fun v => []) (hf := fun v => v.2.2.2.2) (fun k5 H5 v => f_X11_wordAt_5_s k5 H5 v.1 v.2.1 v.2.2.1 v.2.2.2.1 v.2.2.2.2) n v
def f_X11_wordAt  (a1 : Int32) (a2 : Int32) (h : zHp) : Option (Int32 × zHp) := f_X11_wordAt_5_lp  zN (a1, a2, (-1 : Int32), (0 : Int32), h)
set_option maxHeartbeats 4000000 in
set_option maxRecDepth 100000 in
theorem s_X11_wordAt  (a1 : Int32) (a2 : Int32) (h : zHp) : Fn wM mX11_wordAt 0 rI [.ref 0, .int a1, .int a2] h (f_X11_wordAt a1 a2 h) := by
  refine Fn.of rfl (Nat.le_of_ble_eq_true rfl) ?_
  unfold f_X11_wordAt
  refine Sim.iconst (v := (-1 : Int32)) dX11_wordAt_0 rfl ?_
  refine Sim.istore_n (L' := [(3, .int (-1 : Int32)), (0, .ref 0), (1, .int a1), (2, .int a2)]) dX11_wordAt_1 (Nat.le_of_ble_eq_true rfl) rfl ?_
  refine Sim.iconst (v := (0 : Int32)) dX11_wordAt_2 rfl ?_
  refine Sim.istore (L' := [(4, .int (0 : Int32)), (3, .int (-1 : Int32)), (0, .ref 0), (1, .int a1), (2, .int a2)]) dX11_wordAt_3 (Nat.le_of_ble_eq_true rfl) rfl ?_
  refine Sim.locs [2, 3, 4, 1, 0] rfl ?_
  exact f_X11_wordAt_5_ls  zN (a1, a2, (-1 : Int32), (0 : Int32), h)
theorem mv_X11_wordAt : zMV mX11_wordAt 2 := ⟨⟨zTb_in 1586 (by decide +kernel) rfl, zTb_in 148 (by decide +kernel) rfl, ⟨by decide +kernel, by decide +kernel⟩, by decide +kernel⟩, zTb_in 1585 (by decide +kernel) rfl, zTb_in 50 (by decide +kernel) rfl⟩
