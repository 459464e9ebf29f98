-- ===== RockingPorchModel.isIn(III)Z
abbrev mX11_isIn : zMt := (yX11_isIn, cX11_isIn, 4, some .boolean)
theorem dX11_isIn_0 : decode cX11_isIn 0 = .ok (.iload_n 1, 1) := by decide +kernel
theorem dX11_isIn_1 : decode cX11_isIn 1 = .ok (.iload_n 2, 1) := by decide +kernel
theorem dX11_isIn_2 : decode cX11_isIn 2 = .ok (.if_icmp .lt 12, 3) := by decide +kernel
theorem dX11_isIn_5 : decode cX11_isIn 5 = .ok (.iload_n 1, 1) := by decide +kernel
theorem dX11_isIn_6 : decode cX11_isIn 6 = .ok (.iload_n 3, 1) := by decide +kernel
theorem dX11_isIn_7 : decode cX11_isIn 7 = .ok (.if_icmp .gt 7, 3) := by decide +kernel
theorem dX11_isIn_10 : decode cX11_isIn 10 = .ok (.iconst 1, 1) := by decide +kernel
theorem dX11_isIn_11 : decode cX11_isIn 11 = .ok (.goto 4, 3) := by decide +kernel
theorem dX11_isIn_14 : decode cX11_isIn 14 = .ok (.iconst 0, 1) := by decide +kernel
theorem dX11_isIn_15 : decode cX11_isIn 15 = .ok (.ireturn, 1) := by decide +kernel
def f_X11_isIn  (a1 : Int32) (a2 : Int32) (a3 : Int32) (h : zHp) : Option (Int32 × zHp) := (if a1 < a2 then some ((0 : Int32), h) else (if a3 < a1 then some ((0 : Int32), h) else some ((1 : Int32), h)))
set_option maxHeartbeats 4000000 in
set_option maxRecDepth 100000 in
theorem s_X11_isIn  (a1 : Int32) (a2 : Int32) (a3 : Int32) (h : zHp) : Fn wM mX11_isIn 0 rI [.ref 0, .int a1, .int a2, .int a3] h (f_X11_isIn a1 a2 a3 h) := by
  refine Fn.of rfl (Nat.le_of_ble_eq_true rfl) ?_
  unfold f_X11_isIn
  refine Sim.iload_n 1 dX11_isIn_0 rfl ?_
  refine Sim.iload_n 2 dX11_isIn_1 rfl ?_
  refine Sim.icmp_lt 14 dX11_isIn_2 rfl ?_ ?_
  · refine Sim.iconst (v := (0 : Int32)) dX11_isIn_14 rfl ?_
    exact Sim.nret dX11_isIn_15 rfl rfl
  · refine Sim.iload_n 1 dX11_isIn_5 rfl ?_
    refine Sim.iload_n 3 dX11_isIn_6 rfl ?_
    refine Sim.icmp_gt 14 dX11_isIn_7 rfl ?_ ?_
    · refine Sim.iconst (v := (0 : Int32)) dX11_isIn_14 rfl ?_
      exact Sim.nret dX11_isIn_15 rfl rfl
    · refine Sim.iconst (v := (1 : Int32)) dX11_isIn_10 rfl ?_
      refine Sim.goto 15 dX11_isIn_11 rfl ?_
      exact Sim.nret dX11_isIn_15 rfl rfl
theorem mv_X11_isIn : zMV mX11_isIn 3 := ⟨⟨zTb_in 1522 (by decide +kernel) rfl, zTb_in 148 (by decide +kernel) rfl, ⟨by decide +kernel, by decide +kernel⟩, by decide +kernel⟩, zTb_in 1521 (by decide +kernel) rfl, zTb_in 39 (by decide +kernel) rfl⟩
-- ===== RockingPorchModel.held(III)I
abbrev mX11_held : zMt := (yX11_held, cX11_held, 4, some .int)
theorem dX11_held_0 : decode cX11_held 0 = .ok (.iload_n 1, 1) := by decide +kernel
theorem dX11_held_1 : decode cX11_held 1 = .ok (.iload_n 2, 1) := by decide +kernel
theorem dX11_held_2 : decode cX11_held 2 = .ok (.if_icmp .ge 7, 3) := by decide +kernel
theorem dX11_held_5 : decode cX11_held 5 = .ok (.iload_n 2, 1) := by decide +kernel
theorem dX11_held_6 : decode cX11_held 6 = .ok (.goto 13, 3) := by decide +kernel
theorem dX11_held_9 : decode cX11_held 9 = .ok (.iload_n 1, 1) := by decide +kernel
theorem dX11_held_10 : decode cX11_held 10 = .ok (.iload_n 3, 1) := by decide +kernel
theorem dX11_held_11 : decode cX11_held 11 = .ok (.if_icmp .le 7, 3) := by decide +kernel
theorem dX11_held_14 : decode cX11_held 14 = .ok (.iload_n 3, 1) := by decide +kernel
theorem dX11_held_15 : decode cX11_held 15 = .ok (.goto 4, 3) := by decide +kernel
theorem dX11_held_18 : decode cX11_held 18 = .ok (.iload_n 1, 1) := by decide +kernel
theorem dX11_held_19 : decode cX11_held 19 = .ok (.ireturn, 1) := by decide +kernel
def f_X11_held  (a1 : Int32) (a2 : Int32) (a3 : Int32) (h : zHp) : Option (Int32 × zHp) := (if a1 < a2 then some (a2, h) else (if a3 < a1 then some (a3, h) else some (a1, h)))
set_option maxHeartbeats 4000000 in
set_option maxRecDepth 100000 in
theorem s_X11_held  (a1 : Int32) (a2 : Int32) (a3 : Int32) (h : zHp) : Fn wM mX11_held 0 rI [.ref 0, .int a1, .int a2, .int a3] h (f_X11_held a1 a2 a3 h) := by
  refine Fn.of rfl (Nat.le_of_ble_eq_true rfl) ?_
  unfold f_X11_held
  refine Sim.iload_n 1 dX11_held_0 rfl ?_
  refine Sim.iload_n 2 dX11_held_1 rfl ?_
  refine Sim.icmp_ge 9 dX11_held_2 rfl ?_ ?_
  · refine Sim.iload_n 2 dX11_held_5 rfl ?_
    refine Sim.goto 19 dX11_held_6 rfl ?_
    exact Sim.iret dX11_held_19 rfl
  · refine Sim.iload_n 1 dX11_held_9 rfl ?_
    refine Sim.iload_n 3 dX11_held_10 rfl ?_
    refine Sim.icmp_le 18 dX11_held_11 rfl ?_ ?_
    · refine Sim.iload_n 3 dX11_held_14 rfl ?_
      refine Sim.goto 19 dX11_held_15 rfl ?_
      exact Sim.iret dX11_held_19 rfl
    · refine Sim.iload_n 1 dX11_held_18 rfl ?_
      exact Sim.iret dX11_held_19 rfl
theorem mv_X11_held : zMV mX11_held 3 := ⟨⟨zTb_in 1770 (by decide +kernel) rfl, zTb_in 148 (by decide +kernel) rfl, ⟨by decide +kernel, by decide +kernel⟩, by decide +kernel⟩, zTb_in 1769 (by decide +kernel) rfl, zTb_in 94 (by decide +kernel) rfl⟩
-- ===== RockingPorchModel.common(II)I
abbrev mX11_common : zMt := (yX11_common, cX11_common, 6, some .int)
theorem dX11_common_0 : decode cX11_common 0 = .ok (.iload_n 1, 1) := by decide +kernel
theorem dX11_common_1 : decode cX11_common 1 = .ok (.istore_n 3, 1) := by decide +kernel
theorem dX11_common_2 : decode cX11_common 2 = .ok (.iload_n 2, 1) := by decide +kernel
theorem dX11_common_3 : decode cX11_common 3 = .ok (.istore 4, 2) := by decide +kernel
theorem dX11_common_5 : decode cX11_common 5 = .ok (.iload 4, 2) := by decide +kernel
theorem dX11_common_7 : decode cX11_common 7 = .ok (.ifCond .eq 19, 3) := by decide +kernel
theorem dX11_common_10 : decode cX11_common 10 = .ok (.iload_n 3, 1) := by decide +kernel
theorem dX11_common_11 : decode cX11_common 11 = .ok (.iload 4, 2) := by decide +kernel
theorem dX11_common_13 : decode cX11_common 13 = .ok (.irem, 1) := by decide +kernel
theorem dX11_common_14 : decode cX11_common 14 = .ok (.istore 5, 2) := by decide +kernel
theorem dX11_common_16 : decode cX11_common 16 = .ok (.iload 4, 2) := by decide +kernel
theorem dX11_common_18 : decode cX11_common 18 = .ok (.istore_n 3, 1) := by decide +kernel
theorem dX11_common_19 : decode cX11_common 19 = .ok (.iload 5, 2) := by decide +kernel
theorem dX11_common_21 : decode cX11_common 21 = .ok (.istore 4, 2) := by decide +kernel
theorem dX11_common_23 : decode cX11_common 23 = .ok (.goto (-18), 3) := by decide +kernel
theorem dX11_common_26 : decode cX11_common 26 = .ok (.iload_n 3, 1) := by decide +kernel
theorem dX11_common_27 : decode cX11_common 27 = .ok (.ireturn, 1) := by decide +kernel
def f_X11_common_5  (k5 : Int32 × Int32 × zHp → Option (Int32 × zHp)) (v3 : Int32) (v4 : Int32) (h : zHp) : Option (Int32 × zHp) := (if v4 = 0 then some (v3, h) else zdz v4 (zlt (v3 - v3 / v4 * v4) fun x1 => k5 (v4, x1, h)))
set_option maxHeartbeats 4000000 in
set_option maxRecDepth 100000 in
theorem f_X11_common_5_s  (k5 : Int32 × Int32 × zHp → Option (Int32 × zHp)) (H5 : ∀ v : Int32 × Int32 × zHp, Sim wM mX11_common 0 rI 5 [(3, .int v.1), (4, .int v.2.1)] [] v.2.2 (k5 v)) (v3 : Int32) (v4 : Int32) (h : zHp) : Sim wM mX11_common 0 rI 5 [(3, .int v3), (4, .int v4)] [] h (f_X11_common_5 k5 v3 v4 h) := by
  unfold f_X11_common_5
  refine Sim.iload 1 dX11_common_5 rfl ?_
  refine Sim.if_eq 26 dX11_common_7 rfl ?_ ?_
  · refine Sim.iload_n 0 dX11_common_26 rfl ?_
    exact Sim.iret dX11_common_27 rfl
  · refine Sim.iload_n 0 dX11_common_10 rfl ?_
    refine Sim.iload 1 dX11_common_11 rfl ?_
    refine Sim.irem dX11_common_13 ?_
    refine Sim.lti (fun x1 => ?_)
    refine Sim.istore (L' := [(5, .int x1), (3, .int v3), (4, .int v4)]) dX11_common_14 (Nat.le_of_ble_eq_true rfl) rfl ?_
    refine Sim.iload 2 dX11_common_16 rfl ?_
    refine Sim.istore_n (L' := [(3, .int v4), (5, .int x1), (4, .int v4)]) dX11_common_18 (Nat.le_of_ble_eq_true rfl) rfl ?_
    refine Sim.iload 1 dX11_common_19 rfl ?_
    refine Sim.istore (L' := [(4, .int x1), (3, .int v4), (5, .int x1)]) dX11_common_21 (Nat.le_of_ble_eq_true rfl) rfl ?_
    refine Sim.goto 5 dX11_common_23 rfl ?_
    refine Sim.locs [1, 0] rfl ?_
    exact H5 (v4, x1, h)
def f_X11_common_5_lp   (n : Nat) (v : Int32 × Int32 × zHp) : Option (Int32 × zHp) := zlp (fun k5 v => f_X11_common_5 k5 v.1 v.2.1 v.2.2) n v
theorem f_X11_common_5_ls  (n : Nat) (v : Int32 × Int32 × zHp) : Sim wM mX11_common 0 rI 5 [(3, .int v.1), (4, .int v.2.1)] [] v.2.2 (f_X11_common_5_lp n v) :=
  Sim.lp (V := Int32 × Int32 × zHp) (Lf := fun v => [(3, .int v.1), (4, .int v.2.1)]) (sf := fun v => []) (hf := fun v => v.2.2) (fun k5 H5 v => f_X11_common_5_s k5 H5 v.1 v.2.1 v.2.2) n v
def f_X11_common  (a1 : Int32) (a2 : Int32) (h : zHp) : Option (Int32 × zHp) := f_X11_common_5_lp  zN (a1, a2, h)
set_option maxHeartbeats 4000000 in
set_option maxRecDepth 100000 in
theorem s_X11_common  (a1 : Int32) (a2 : Int32) (h : zHp) : Fn wM mX11_common 0 rI [.ref 0, .int a1, .int a2] h (f_X11_common a1 a2 h) := by
  refine Fn.of rfl (Nat.le_of_ble_eq_true rfl) ?_
  unfold f_X11_common
  refine Sim.iload_n 1 dX11_common_0 rfl ?_
  refine Sim.istore_n (L' := [(3, .int a1), (0, .ref 0), (1, .int a1), (2, .int a2)]) dX11_common_1 (Nat.le_of_ble_eq_true rfl) rfl ?_
  refine Sim.iload_n 3 dX11_common_2 rfl ?_
  refine Sim.istore (L' := [(4, .int a2), (3, .int a1), (0, .ref 0), (1, .int a1), (2, .int a2)]) dX11_common_3 (Nat.le_of_ble_eq_true rfl) rfl ?_
  refine Sim.locs [1, 0] rfl ?_
  exact f_X11_common_5_ls  zN (a1, a2, h)
theorem mv_X11_common : zMV mX11_common 2 := ⟨⟨zTb_in 1876 (by decide +kernel) rfl, zTb_in 148 (by decide +kernel) rfl, ⟨by decide +kernel, by decide +kernel⟩, by decide +kernel⟩, zTb_in 1875 (by decide +kernel) rfl, zTb_in 112 (by decide +kernel) rfl⟩
-- ===== RockingPorchModel.onesOf(I)I
abbrev mX11_onesOf : zMt := (yX11_onesOf, cX11_onesOf, 4, some .int)
theorem dX11_onesOf_0 : decode cX11_onesOf 0 = .ok (.iconst 0, 1) := by decide +kernel
theorem dX11_onesOf_1 : decode cX11_onesOf 1 = .ok (.istore_n 2, 1) := by decide +kernel
theorem dX11_onesOf_2 : decode cX11_onesOf 2 = .ok (.iload_n 1, 1) := by decide +kernel
theorem dX11_onesOf_3 : decode cX11_onesOf 3 = .ok (.istore_n 3, 1) := by decide +kernel
theorem dX11_onesOf_4 : decode cX11_onesOf 4 = .ok (.iload_n 3, 1) := by decide +kernel
theorem dX11_onesOf_5 : decode cX11_onesOf 5 = .ok (.ifCond .eq 16, 3) := by decide +kernel
theorem dX11_onesOf_8 : decode cX11_onesOf 8 = .ok (.iload_n 2, 1) := by decide +kernel
theorem dX11_onesOf_9 : decode cX11_onesOf 9 = .ok (.iconst 1, 1) := by decide +kernel
theorem dX11_onesOf_10 : decode cX11_onesOf 10 = .ok (.iadd, 1) := by decide +kernel
theorem dX11_onesOf_11 : decode cX11_onesOf 11 = .ok (.istore_n 2, 1) := by decide +kernel
theorem dX11_onesOf_12 : decode cX11_onesOf 12 = .ok (.iload_n 3, 1) := by decide +kernel
theorem dX11_onesOf_13 : decode cX11_onesOf 13 = .ok (.iload_n 3, 1) := by decide +kernel
theorem dX11_onesOf_14 : decode cX11_onesOf 14 = .ok (.iconst 1, 1) := by decide +kernel
theorem dX11_onesOf_15 : decode cX11_onesOf 15 = .ok (.isub, 1) := by decide +kernel
theorem dX11_onesOf_16 : decode cX11_onesOf 16 = .ok (.iand, 1) := by decide +kernel
theorem dX11_onesOf_17 : decode cX11_onesOf 17 = .ok (.istore_n 3, 1) := by decide +kernel
theorem dX11_onesOf_18 : decode cX11_onesOf 18 = .ok (.goto (-14), 3) := by decide +kernel
theorem dX11_onesOf_21 : decode cX11_onesOf 21 = .ok (.iload_n 2, 1) := by decide +kernel
theorem dX11_onesOf_22 : decode cX11_onesOf 22 = .ok (.ireturn, 1) := by decide +kernel
def f_X11_onesOf_4  (k4 : Int32 × Int32 × zHp → Option (Int32 × zHp)) (v2 : Int32) (v3 : Int32) (h : zHp) : Option (Int32 × zHp) := (if v3 = 0 then some (v2, h) else zlt (v2 + (1 : Int32)) fun x1 => zlt (v3 &&& (v3 - (1 : Int32))) fun x2 => k4 (x1, x2, h))
set_option maxHeartbeats 4000000 in
set_option maxRecDepth 100000 in
theorem f_X11_onesOf_4_s  (k4 : Int32 × Int32 × zHp → Option (Int32 × zHp)) (H4 : ∀ v : Int32 × Int32 × zHp, Sim wM mX11_onesOf 0 rI 4 [(2, .int v.1), (3, .int v.2.1)] [] v.2.2 (k4 v)) (v2 : Int32) (v3 : Int32) (h : zHp) : Sim wM mX11_onesOf 0 rI 4 [(2, .int v2), (3, .int v3)] [] h (f_X11_onesOf_4 k4 v2 v3 h) := by
  unfold f_X11_onesOf_4
  refine Sim.iload_n 1 dX11_onesOf_4 rfl ?_
  refine Sim.if_eq 21 dX11_onesOf_5 rfl ?_ ?_
  · refine Sim.iload_n 0 dX11_onesOf_21 rfl ?_
    exact Sim.iret dX11_onesOf_22 rfl
  · refine Sim.iload_n 0 dX11_onesOf_8 rfl ?_
    refine Sim.iconst (v := (1 : Int32)) dX11_onesOf_9 rfl ?_
    refine Sim.iadd dX11_onesOf_10 ?_
    refine Sim.lti (fun x1 => ?_)
    refine Sim.istore_n (L' := [(2, .int x1), (3, .int v3)]) dX11_onesOf_11 (Nat.le_of_ble_eq_true rfl) rfl ?_
    refine Sim.iload_n 1 dX11_onesOf_12 rfl ?_
    refine Sim.iload_n 1 dX11_onesOf_13 rfl ?_
    refine Sim.iconst (v := (1 : Int32)) dX11_onesOf_14 rfl ?_
    refine Sim.isub dX11_onesOf_15 ?_
    refine Sim.iand dX11_onesOf_16 ?_
    refine Sim.lti (fun x2 => ?_)
    refine Sim.istore_n (L' := [(3, .int x2), (2, .int x1)]) dX11_onesOf_17 (Nat.le_of_ble_eq_true rfl) rfl ?_
    refine Sim.goto 4 dX11_onesOf_18 rfl ?_
    refine Sim.locs [1, 0] rfl ?_
    exact H4 (x1, x2, h)
def f_X11_onesOf_4_lp   (n : Nat) (v : Int32 × Int32 × zHp) : Option (Int32 × zHp) := zlp (fun k4 v => f_X11_onesOf_4 k4 v.1 v.2.1 v.2.2) n v
theorem f_X11_onesOf_4_ls  (n : Nat) (v : Int32 × Int32 × zHp) : Sim wM mX11_onesOf 0 rI 4 [(2, .int v.1), (3, .int v.2.1)] [] v.2.2 (f_X11_onesOf_4_lp n v) :=
  Sim.lp (V := Int32 × Int32 × zHp) (Lf := fun v => [(2, .int v.1), (3, .int v.2.1)]) (sf := fun v => []) (hf := fun v => v.2.2) (fun k4 H4 v => f_X11_onesOf_4_s k4 H4 v.1 v.2.1 v.2.2) n v
def f_X11_onesOf  (a1 : Int32) (h : zHp) : Option (Int32 × zHp) := f_X11_onesOf_4_lp  zN ((0 : Int32), a1, h)
set_option maxHeartbeats 4000000 in
set_option maxRecDepth 100000 in
theorem s_X11_onesOf  (a1 : Int32) (h : zHp) : Fn wM mX11_onesOf 0 rI [.ref 0, .int a1] h (f_X11_onesOf a1 h) := by
  refine Fn.of rfl (Nat.le_of_ble_eq_true rfl) ?_
  unfold f_X11_onesOf
  refine Sim.iconst (v := (0 : Int32)) dX11_onesOf_0 rfl ?_
  refine Sim.istore_n (L' := [(2, .int (0 : Int32)), (0, .ref 0), (1, .int a1)]) dX11_onesOf_1 (Nat.le_of_ble_eq_true rfl) rfl ?_
  refine Sim.iload_n 2 dX11_onesOf_2 rfl ?_
  refine Sim.istore_n (L' := [(3, .int a1), (2, .int (0 : Int32)), (0, .ref 0), (1, .int a1)]) dX11_onesOf_3 (Nat.le_of_ble_eq_true rfl) rfl ?_
  refine Sim.locs [1, 0] rfl ?_
  exact f_X11_onesOf_4_ls  zN ((0 : Int32), a1, h)
theorem mv_X11_onesOf : zMV mX11_onesOf 1 := ⟨⟨zTb_in 1750 (by decide +kernel) rfl, zTb_in 148 (by decide +kernel) rfl, ⟨by decide +kernel, by decide +kernel⟩, by decide +kernel⟩, zTb_in 1749 (by decide +kernel) rfl, zTb_in 89 (by decide +kernel) rfl⟩
-- ===== RockingPorchModel.keepsAhead()V
abbrev mX11_keepsAhead : zMt := (yX11_keepsAhead, cX11_keepsAhead, 2, none)
theorem fl_X11_13 : zF RX11 13 11 2 := ⟨RX11, TX11, 69, rfl, Nat.le_of_ble_eq_true rfl, zTb_in 1301 (by decide +kernel) rfl, in_X11⟩
theorem fl_X11_131 : zF RX11 131 11 3 := ⟨RX11, TX11, 69, rfl, Nat.le_of_ble_eq_true rfl, zTb_in 1302 (by decide +kernel) rfl, in_X11⟩
theorem fl_X11_7 : zF RX11 7 11 1 := ⟨RX11, TX11, 69, rfl, Nat.le_of_ble_eq_true rfl, zTb_in 1300 (by decide +kernel) rfl, in_X11⟩
theorem fp_X11_131 : zFp RX11 131 11 3 .int := ⟨RX11, TX11, 69, tyX11, rfl, Nat.le_of_ble_eq_true rfl, zTb_in 1302 (by decide +kernel) rfl, in_X11, tyX11_ok, nmX11, rfl, rfl⟩
theorem dX11_keepsAhead_0 : decode cX11_keepsAhead 0 = .ok (.aload_n 0, 1) := by decide +kernel
theorem dX11_keepsAhead_1 : decode cX11_keepsAhead 1 = .ok (.getfield 131, 3) := by decide +kernel
theorem dX11_keepsAhead_4 : decode cX11_keepsAhead 4 = .ok (.bipush 6, 2) := by decide +kernel
theorem dX11_keepsAhead_6 : decode cX11_keepsAhead 6 = .ok (.if_icmp .ne 47, 3) := by decide +kernel
theorem dX11_keepsAhead_9 : decode cX11_keepsAhead 9 = .ok (.aload_n 0, 1) := by decide +kernel
theorem dX11_keepsAhead_10 : decode cX11_keepsAhead 10 = .ok (.aload_n 0, 1) := by decide +kernel
theorem dX11_keepsAhead_11 : decode cX11_keepsAhead 11 = .ok (.getfield 131, 3) := by decide +kernel
theorem dX11_keepsAhead_14 : decode cX11_keepsAhead 14 = .ok (.iconst 1, 1) := by decide +kernel
theorem dX11_keepsAhead_15 : decode cX11_keepsAhead 15 = .ok (.isub, 1) := by decide +kernel
theorem dX11_keepsAhead_16 : decode cX11_keepsAhead 16 = .ok (.putfield 131, 3) := by decide +kernel
theorem dX11_keepsAhead_19 : decode cX11_keepsAhead 19 = .ok (.iconst 0, 1) := by decide +kernel
theorem dX11_keepsAhead_20 : decode cX11_keepsAhead 20 = .ok (.istore_n 1, 1) := by decide +kernel
theorem dX11_keepsAhead_21 : decode cX11_keepsAhead 21 = .ok (.iload_n 1, 1) := by decide +kernel
theorem dX11_keepsAhead_22 : decode cX11_keepsAhead 22 = .ok (.bipush 77, 2) := by decide +kernel
theorem dX11_keepsAhead_24 : decode cX11_keepsAhead 24 = .ok (.aload_n 0, 1) := by decide +kernel
theorem dX11_keepsAhead_25 : decode cX11_keepsAhead 25 = .ok (.getfield 131, 3) := by decide +kernel
theorem dX11_keepsAhead_28 : decode cX11_keepsAhead 28 = .ok (.imul, 1) := by decide +kernel
theorem dX11_keepsAhead_29 : decode cX11_keepsAhead 29 = .ok (.if_icmp .ge 24, 3) := by decide +kernel
theorem dX11_keepsAhead_32 : decode cX11_keepsAhead 32 = .ok (.aload_n 0, 1) := by decide +kernel
theorem dX11_keepsAhead_33 : decode cX11_keepsAhead 33 = .ok (.getfield 13, 3) := by decide +kernel
theorem dX11_keepsAhead_36 : decode cX11_keepsAhead 36 = .ok (.iload_n 1, 1) := by decide +kernel
theorem dX11_keepsAhead_37 : decode cX11_keepsAhead 37 = .ok (.aload_n 0, 1) := by decide +kernel
theorem dX11_keepsAhead_38 : decode cX11_keepsAhead 38 = .ok (.getfield 13, 3) := by decide +kernel
theorem dX11_keepsAhead_41 : decode cX11_keepsAhead 41 = .ok (.iload_n 1, 1) := by decide +kernel
theorem dX11_keepsAhead_42 : decode cX11_keepsAhead 42 = .ok (.bipush 77, 2) := by decide +kernel
theorem dX11_keepsAhead_44 : decode cX11_keepsAhead 44 = .ok (.iadd, 1) := by decide +kernel
theorem dX11_keepsAhead_45 : decode cX11_keepsAhead 45 = .ok (.iaload, 1) := by decide +kernel
theorem dX11_keepsAhead_46 : decode cX11_keepsAhead 46 = .ok (.iastore, 1) := by decide +kernel
theorem dX11_keepsAhead_47 : decode cX11_keepsAhead 47 = .ok (.iinc 1 1, 3) := by decide +kernel
theorem dX11_keepsAhead_50 : decode cX11_keepsAhead 50 = .ok (.goto (-29), 3) := by decide +kernel
theorem dX11_keepsAhead_53 : decode cX11_keepsAhead 53 = .ok (.iconst 0, 1) := by decide +kernel
theorem dX11_keepsAhead_54 : decode cX11_keepsAhead 54 = .ok (.istore_n 1, 1) := by decide +kernel
theorem dX11_keepsAhead_55 : decode cX11_keepsAhead 55 = .ok (.iload_n 1, 1) := by decide +kernel
theorem dX11_keepsAhead_56 : decode cX11_keepsAhead 56 = .ok (.bipush 77, 2) := by decide +kernel
theorem dX11_keepsAhead_58 : decode cX11_keepsAhead 58 = .ok (.if_icmp .ge 29, 3) := by decide +kernel
theorem dX11_keepsAhead_61 : decode cX11_keepsAhead 61 = .ok (.aload_n 0, 1) := by decide +kernel
theorem dX11_keepsAhead_62 : decode cX11_keepsAhead 62 = .ok (.getfield 13, 3) := by decide +kernel
theorem dX11_keepsAhead_65 : decode cX11_keepsAhead 65 = .ok (.bipush 77, 2) := by decide +kernel
theorem dX11_keepsAhead_67 : decode cX11_keepsAhead 67 = .ok (.aload_n 0, 1) := by decide +kernel
theorem dX11_keepsAhead_68 : decode cX11_keepsAhead 68 = .ok (.getfield 131, 3) := by decide +kernel
theorem dX11_keepsAhead_71 : decode cX11_keepsAhead 71 = .ok (.imul, 1) := by decide +kernel
theorem dX11_keepsAhead_72 : decode cX11_keepsAhead 72 = .ok (.iload_n 1, 1) := by decide +kernel
theorem dX11_keepsAhead_73 : decode cX11_keepsAhead 73 = .ok (.iadd, 1) := by decide +kernel
theorem dX11_keepsAhead_74 : decode cX11_keepsAhead 74 = .ok (.aload_n 0, 1) := by decide +kernel
theorem dX11_keepsAhead_75 : decode cX11_keepsAhead 75 = .ok (.getfield 7, 3) := by decide +kernel
theorem dX11_keepsAhead_78 : decode cX11_keepsAhead 78 = .ok (.iload_n 1, 1) := by decide +kernel
theorem dX11_keepsAhead_79 : decode cX11_keepsAhead 79 = .ok (.iaload, 1) := by decide +kernel
theorem dX11_keepsAhead_80 : decode cX11_keepsAhead 80 = .ok (.iastore, 1) := by decide +kernel
theorem dX11_keepsAhead_81 : decode cX11_keepsAhead 81 = .ok (.iinc 1 1, 3) := by decide +kernel
theorem dX11_keepsAhead_84 : decode cX11_keepsAhead 84 = .ok (.goto (-29), 3) := by decide +kernel
theorem dX11_keepsAhead_87 : decode cX11_keepsAhead 87 = .ok (.aload_n 0, 1) := by decide +kernel
theorem dX11_keepsAhead_88 : decode cX11_keepsAhead 88 = .ok (.aload_n 0, 1) := by decide +kernel
theorem dX11_keepsAhead_89 : decode cX11_keepsAhead 89 = .ok (.getfield 131, 3) := by decide +kernel
theorem dX11_keepsAhead_92 : decode cX11_keepsAhead 92 = .ok (.iconst 1, 1) := by decide +kernel
theorem dX11_keepsAhead_93 : decode cX11_keepsAhead 93 = .ok (.iadd, 1) := by decide +kernel
theorem dX11_keepsAhead_94 : decode cX11_keepsAhead 94 = .ok (.putfield 131, 3) := by decide +kernel
theorem dX11_keepsAhead_97 : decode cX11_keepsAhead 97 = .ok (.return_, 1) := by decide +kernel
def f_X11_keepsAhead_55  (k55 : Int32 × zHp → Option (zHp)) (v1 : Int32) (h : zHp) : Option (zHp) := (if v1 < (77 : Int32) then zix v1 77 (zix (((77 : Int32) * (h 0 3)) + v1) 462 (zlt (zst h 2 (((77 : Int32) * (h 0 3)) + v1).toNatClampNeg (h 1 v1.toNatClampNeg)) fun h1 => k55 ((v1 + (1 : Int32)), h1))) else zlt (zst h 0 3 ((h 0 3) + (1 : Int32))) fun h2 => some h2)
set_option maxHeartbeats 4000000 in
set_option maxRecDepth 100000 in
theorem f_X11_keepsAhead_55_s  (k55 : Int32 × zHp → Option (zHp)) (H55 : ∀ v : Int32 × zHp, Sim wM mX11_keepsAhead 0 rV 55 [(0, .ref 0), (1, .int v.1)] [] v.2 (k55 v)) (v1 : Int32) (h : zHp) : Sim wM mX11_keepsAhead 0 rV 55 [(0, .ref 0), (1, .int v1)] [] h (f_X11_keepsAhead_55 k55 v1 h) := by
  unfold f_X11_keepsAhead_55
  refine Sim.iload_n 1 dX11_keepsAhead_55 rfl ?_
  refine Sim.bipush (v := (77 : Int32)) dX11_keepsAhead_56 rfl ?_
  refine Sim.icmp_ge 87 dX11_keepsAhead_58 rfl ?_ ?_
  · refine Sim.aload_n 0 dX11_keepsAhead_61 rfl ?_
    refine Sim.getR (j := 2) fl_X11_13 dX11_keepsAhead_62 mR_2 ?_
    refine Sim.bipush (v := (77 : Int32)) dX11_keepsAhead_65 rfl ?_
    refine Sim.aload_n 0 dX11_keepsAhead_67 rfl ?_
    refine Sim.getI fl_X11_131 dX11_keepsAhead_68 mI_3 ?_
    refine Sim.imul dX11_keepsAhead_71 ?_
    refine Sim.iload_n 1 dX11_keepsAhead_72 rfl ?_
    refine Sim.iadd dX11_keepsAhead_73 ?_
    refine Sim.aload_n 0 dX11_keepsAhead_74 rfl ?_
    refine Sim.getR (j := 1) fl_X11_7 dX11_keepsAhead_75 mR_1 ?_
    refine Sim.iload_n 1 dX11_keepsAhead_78 rfl ?_
    refine Sim.iald (n := 77) dX11_keepsAhead_79 mA_1 ?_
    refine Sim.iast (n := 462) dX11_keepsAhead_80 mA_2 ?_
    refine Sim.lth (fun h1 => ?_)
    refine Sim.iinc (L' := [(1, .int (v1 + (1 : Int32))), (0, .ref 0)]) 1 dX11_keepsAhead_81 rfl rfl (Nat.le_of_ble_eq_true rfl) rfl ?_
    refine Sim.goto 55 dX11_keepsAhead_84 rfl ?_
    refine Sim.locs [1, 0] rfl ?_
    exact H55 ((v1 + (1 : Int32)), h1)
  · refine Sim.aload_n 0 dX11_keepsAhead_87 rfl ?_
    refine Sim.aload_n 0 dX11_keepsAhead_88 rfl ?_
    refine Sim.getI fl_X11_131 dX11_keepsAhead_89 mI_3 ?_
    refine Sim.iconst (v := (1 : Int32)) dX11_keepsAhead_92 rfl ?_
    refine Sim.iadd dX11_keepsAhead_93 ?_
    refine Sim.put fp_X11_131 dX11_keepsAhead_94 mI_3 rfl rfl ?_
    refine Sim.lth (fun h2 => ?_)
    exact Sim.vret dX11_keepsAhead_97 rfl
def f_X11_keepsAhead_55_lp   (n : Nat) (v : Int32 × zHp) : Option (zHp) := zlp (fun k55 v => f_X11_keepsAhead_55 k55 v.1 v.2) n v
theorem f_X11_keepsAhead_55_ls  (n : Nat) (v : Int32 × zHp) : Sim wM mX11_keepsAhead 0 rV 55 [(0, .ref 0), (1, .int v.1)] [] v.2 (f_X11_keepsAhead_55_lp n v) :=
  Sim.lp (V := Int32 × zHp) (Lf := fun v => [(0, .ref 0), (1, .int v.1)]) (sf := fun v => []) (hf := fun v => v.2) (fun k55 H55 v => f_X11_keepsAhead_55_s k55 H55 v.1 v.2) n v
def f_X11_keepsAhead_21  (k21 : Int32 × zHp → Option (zHp)) (v1 : Int32) (h : zHp) : Option (zHp) := (if v1 < ((77 : Int32) * (h 0 3)) then zix (v1 + (77 : Int32)) 462 (zix v1 462 (zlt (zst h 2 v1.toNatClampNeg (h 2 (v1 + (77 : Int32)).toNatClampNeg)) fun h1 => k21 ((v1 + (1 : Int32)), h1))) else f_X11_keepsAhead_55_lp  zN ((0 : Int32), h))
set_option maxHeartbeats 4000000 in
set_option maxRecDepth 100000 in
theorem f_X11_keepsAhead_21_s  (k21 : Int32 × zHp → Option (zHp)) (H21 : ∀ v : Int32 × zHp, Sim wM mX11_keepsAhead 0 rV 21 [(0, .ref 0), (1, .int v.1)] [] v.2 (k21 v)) (v1 : Int32) (h : zHp) : Sim wM mX11_keepsAhead 0 rV 21 [(0, .ref 0), (1, .int v1)] [] h (f_X11_keepsAhead_21 k21 v1 h) := by
  unfold f_X11_keepsAhead_21
  refine Sim.iload_n 1 dX11_keepsAhead_21 rfl ?_
  refine Sim.bipush (v := (77 : Int32)) dX11_keepsAhead_22 rfl ?_
  refine Sim.aload_n 0 dX11_keepsAhead_24 rfl ?_
  refine Sim.getI fl_X11_131 dX11_keepsAhead_25 mI_3 ?_
  refine Sim.imul dX11_keepsAhead_28 ?_
  refine Sim.icmp_ge 53 dX11_keepsAhead_29 rfl ?_ ?_
  · refine Sim.aload_n 0 dX11_keepsAhead_32 rfl ?_
    refine Sim.getR (j := 2) fl_X11_13 dX11_keepsAhead_33 mR_2 ?_
    refine Sim.iload_n 1 dX11_keepsAhead_36 rfl ?_
    refine Sim.aload_n 0 dX11_keepsAhead_37 rfl ?_
    refine Sim.getR (j := 2) fl_X11_13 dX11_keepsAhead_38 mR_2 ?_
    refine Sim.iload_n 1 dX11_keepsAhead_41 rfl ?_
    refine Sim.bipush (v := (77 : Int32)) dX11_keepsAhead_42 rfl ?_
    refine Sim.iadd dX11_keepsAhead_44 ?_
    refine Sim.iald (n := 462) dX11_keepsAhead_45 mA_2 ?_
    refine Sim.iast (n := 462) dX11_keepsAhead_46 mA_2 ?_
    refine Sim.lth (fun h1 => ?_)
    refine Sim.iinc (L' := [(1, .int (v1 + (1 : Int32))), (0, .ref 0)]) 1 dX11_keepsAhead_47 rfl rfl (Nat.le_of_ble_eq_true rfl) rfl ?_
    refine Sim.goto 21 dX11_keepsAhead_50 rfl ?_
    refine Sim.locs [1, 0] rfl ?_
    exact H21 ((v1 + (1 : Int32)), h1)
  · refine Sim.iconst (v := (0 : Int32)) dX11_keepsAhead_53 rfl ?_
    refine Sim.istore_n (L' := [(1, .int (0 : Int32)), (0, .ref 0)]) dX11_keepsAhead_54 (Nat.le_of_ble_eq_true rfl) rfl ?_
    refine Sim.locs [1, 0] rfl ?_
    exact f_X11_keepsAhead_55_ls  zN ((0 : Int32), h)
def f_X11_keepsAhead_21_lp   (n : Nat) (v : Int32 × zHp) : Option (zHp) := zlp (fun k21 v => f_X11_keepsAhead_21 k21 v.1 v.2) n v
theorem f_X11_keepsAhead_21_ls  (n : Nat) (v : Int32 × zHp) : Sim wM mX11_keepsAhead 0 rV 21 [(0, .ref 0), (1, .int v.1)] [] v.2 (f_X11_keepsAhead_21_lp n v) :=
  Sim.lp (V := Int32 × zHp) (Lf := fun v => [(0, .ref 0), (1, .int v.1)]) (sf := fun v => []) (hf := fun v => v.2) (fun k21 H21 v => f_X11_keepsAhead_21_s k21 H21 v.1 v.2) n v
def f_X11_keepsAhead   (h : zHp) : Option (zHp) := (if (h 0 3) = (6 : Int32) then zlt (zst h 0 3 ((h 0 3) - (1 : Int32))) fun h1 => f_X11_keepsAhead_21_lp  zN ((0 : Int32), h1) else f_X11_keepsAhead_55_lp  zN ((0 : Int32), h))
set_option maxHeartbeats 4000000 in
set_option maxRecDepth 100000 in
theorem s_X11_keepsAhead   (h : zHp) : Fn wM mX11_keepsAhead 0 rV [.ref 0] h (f_X11_keepsAhead  h) := by
  refine Fn.of rfl (Nat.le_of_ble_eq_true rfl) ?_
  unfold f_X11_keepsAhead
  refine Sim.aload_n 0 dX11_keepsAhead_0 rfl ?_
  refine Sim.getI fl_X11_131 dX11_keepsAhead_1 mI_3 ?_
  refine Sim.bipush (v := (6 : Int32)) dX11_keepsAhead_4 rfl ?_
  refine Sim.icmp_ne 53 dX11_keepsAhead_6 rfl ?_ ?_
  · refine Sim.aload_n 0 dX11_keepsAhead_9 rfl ?_
    refine Sim.aload_n 0 dX11_keepsAhead_10 rfl ?_
    refine Sim.getI fl_X11_131 dX11_keepsAhead_11 mI_3 ?_
    refine Sim.iconst (v := (1 : Int32)) dX11_keepsAhead_14 rfl ?_
    refine Sim.isub dX11_keepsAhead_15 ?_
    refine Sim.put fp_X11_131 dX11_keepsAhead_16 mI_3 rfl rfl ?_
    refine Sim.lth (fun h1 => ?_)
    refine Sim.iconst (v := (0 : Int32)) dX11_keepsAhead_19 rfl ?_
    refine Sim.istore_n (L' := [(1, .int (0 : Int32)), (0, .ref 0)]) dX11_keepsAhead_20 (Nat.le_of_ble_eq_true rfl) rfl ?_
    refine Sim.locs [1, 0] rfl ?_
    exact f_X11_keepsAhead_21_ls  zN ((0 : Int32), h1)
  · refine Sim.iconst (v := (0 : Int32)) dX11_keepsAhead_53 rfl ?_
    refine Sim.istore_n (L' := [(1, .int (0 : Int32)), (0, .ref 0)]) dX11_keepsAhead_54 (Nat.le_of_ble_eq_true rfl) rfl ?_
    refine Sim.locs [1, 0] rfl ?_
    exact f_X11_keepsAhead_55_ls  zN ((0 : Int32), h)
theorem mv_X11_keepsAhead : zMV mX11_keepsAhead 0 := ⟨⟨zTb_in 1718 (by decide +kernel) rfl, zTb_in 148 (by decide +kernel) rfl, ⟨by decide +kernel, by decide +kernel⟩, by decide +kernel⟩, zTb_in 1717 (by decide +kernel) rfl, zTb_in 81 (by decide +kernel) rfl⟩
-- ===== RockingPorchModel.undo()Z
abbrev mX11_undo : zMt := (yX11_undo, cX11_undo, 2, some .boolean)
theorem fp_X11_128 : zFp RX11 128 11 0 .int := ⟨RX11, TX11, 69, tyX11, rfl, Nat.le_of_ble_eq_true rfl, zTb_in 1299 (by decide +kernel) rfl, in_X11, tyX11_ok, nmX11, rfl, rfl⟩
theorem dX11_undo_0 : decode cX11_undo 0 = .ok (.aload_n 0, 1) := by decide +kernel
theorem dX11_undo_1 : decode cX11_undo 1 = .ok (.iconst 0, 1) := by decide +kernel
theorem dX11_undo_2 : decode cX11_undo 2 = .ok (.putfield 128, 3) := by decide +kernel
theorem dX11_undo_5 : decode cX11_undo 5 = .ok (.aload_n 0, 1) := by decide +kernel
theorem dX11_undo_6 : decode cX11_undo 6 = .ok (.getfield 131, 3) := by decide +kernel
theorem dX11_undo_9 : decode cX11_undo 9 = .ok (.ifCond .ne 5, 3) := by decide +kernel
theorem dX11_undo_12 : decode cX11_undo 12 = .ok (.iconst 0, 1) := by decide +kernel
theorem dX11_undo_13 : decode cX11_undo 13 = .ok (.ireturn, 1) := by decide +kernel
theorem dX11_undo_14 : decode cX11_undo 14 = .ok (.aload_n 0, 1) := by decide +kernel
theorem dX11_undo_15 : decode cX11_undo 15 = .ok (.aload_n 0, 1) := by decide +kernel
theorem dX11_undo_16 : decode cX11_undo 16 = .ok (.getfield 131, 3) := by decide +kernel
theorem dX11_undo_19 : decode cX11_undo 19 = .ok (.iconst 1, 1) := by decide +kernel
theorem dX11_undo_20 : decode cX11_undo 20 = .ok (.isub, 1) := by decide +kernel
theorem dX11_undo_21 : decode cX11_undo 21 = .ok (.putfield 131, 3) := by decide +kernel
theorem dX11_undo_24 : decode cX11_undo 24 = .ok (.iconst 0, 1) := by decide +kernel
theorem dX11_undo_25 : decode cX11_undo 25 = .ok (.istore_n 1, 1) := by decide +kernel
theorem dX11_undo_26 : decode cX11_undo 26 = .ok (.iload_n 1, 1) := by decide +kernel
theorem dX11_undo_27 : decode cX11_undo 27 = .ok (.bipush 77, 2) := by decide +kernel
theorem dX11_undo_29 : decode cX11_undo 29 = .ok (.if_icmp .ge 29, 3) := by decide +kernel
theorem dX11_undo_32 : decode cX11_undo 32 = .ok (.aload_n 0, 1) := by decide +kernel
theorem dX11_undo_33 : decode cX11_undo 33 = .ok (.getfield 7, 3) := by decide +kernel
theorem dX11_undo_36 : decode cX11_undo 36 = .ok (.iload_n 1, 1) := by decide +kernel
theorem dX11_undo_37 : decode cX11_undo 37 = .ok (.aload_n 0, 1) := by decide +kernel
theorem dX11_undo_38 : decode cX11_undo 38 = .ok (.getfield 13, 3) := by decide +kernel
theorem dX11_undo_41 : decode cX11_undo 41 = .ok (.bipush 77, 2) := by decide +kernel
theorem dX11_undo_43 : decode cX11_undo 43 = .ok (.aload_n 0, 1) := by decide +kernel
theorem dX11_undo_44 : decode cX11_undo 44 = .ok (.getfield 131, 3) := by decide +kernel
theorem dX11_undo_47 : decode cX11_undo 47 = .ok (.imul, 1) := by decide +kernel
theorem dX11_undo_48 : decode cX11_undo 48 = .ok (.iload_n 1, 1) := by decide +kernel
theorem dX11_undo_49 : decode cX11_undo 49 = .ok (.iadd, 1) := by decide +kernel
theorem dX11_undo_50 : decode cX11_undo 50 = .ok (.iaload, 1) := by decide +kernel
theorem dX11_undo_51 : decode cX11_undo 51 = .ok (.iastore, 1) := by decide +kernel
theorem dX11_undo_52 : decode cX11_undo 52 = .ok (.iinc 1 1, 3) := by decide +kernel
theorem dX11_undo_55 : decode cX11_undo 55 = .ok (.goto (-29), 3) := by decide +kernel
theorem dX11_undo_58 : decode cX11_undo 58 = .ok (.iconst 1, 1) := by decide +kernel
theorem dX11_undo_59 : decode cX11_undo 59 = .ok (.ireturn, 1) := by decide +kernel
def f_X11_undo_26  (k26 : Int32 × zHp → Option (Int32 × zHp)) (v1 : Int32) (h : zHp) : Option (Int32 × zHp) := (if v1 < (77 : Int32) then zix (((77 : Int32) * (h 0 3)) + v1) 462 (zix v1 77 (zlt (zst h 1 v1.toNatClampNeg (h 2 (((77 : Int32) * (h 0 3)) + v1).toNatClampNeg)) fun h1 => k26 ((v1 + (1 : Int32)), h1))) else some ((1 : Int32), h))
set_option maxHeartbeats 4000000 in
set_option maxRecDepth 100000 in
theorem f_X11_undo_26_s  (k26 : Int32 × zHp → Option (Int32 × zHp)) (H26 : ∀ v : Int32 × zHp, Sim wM mX11_undo 0 rI 26 [(0, .ref 0), (1, .int v.1)] [] v.2 (k26 v)) (v1 : Int32) (h : zHp) : Sim wM mX11_undo 0 rI 26 [(0, .ref 0), (1, .int v1)] [] h (f_X11_undo_26 k26 v1 h) := by
  unfold f_X11_undo_26
  refine Sim.iload_n 1 dX11_undo_26 rfl ?_
  refine Sim.bipush (v := (77 : Int32)) dX11_undo_27 rfl ?_
  refine Sim.icmp_ge 58 dX11_undo_29 rfl ?_ ?_
  · refine Sim.aload_n 0 dX11_undo_32 rfl ?_
    refine Sim.getR (j := 1) fl_X11_7 dX11_undo_33 mR_1 ?_
    refine Sim.iload_n 1 dX11_undo_36 rfl ?_
    refine Sim.aload_n 0 dX11_undo_37 rfl ?_
    refine Sim.getR (j := 2) fl_X11_13 dX11_undo_38 mR_2 ?_
    refine Sim.bipush (v := (77 : Int32)) dX11_undo_41 rfl ?_
    refine Sim.aload_n 0 dX11_undo_43 rfl ?_
    refine Sim.getI fl_X11_131 dX11_undo_44 mI_3 ?_
    refine Sim.imul dX11_undo_47 ?_
    refine Sim.iload_n 1 dX11_undo_48 rfl ?_
    refine Sim.iadd dX11_undo_49 ?_
    refine Sim.iald (n := 462) dX11_undo_50 mA_2 ?_
    refine Sim.iast (n := 77) dX11_undo_51 mA_1 ?_
    refine Sim.lth (fun h1 => ?_)
    refine Sim.iinc (L' := [(1, .int (v1 + (1 : Int32))), (0, .ref 0)]) 1 dX11_undo_52 rfl rfl (Nat.le_of_ble_eq_true rfl) rfl ?_
    refine Sim.goto 26 dX11_undo_55 rfl ?_
    refine Sim.locs [1, 0] rfl ?_
    exact H26 ((v1 + (1 : Int32)), h1)
  · refine Sim.iconst (v := (1 : Int32)) dX11_undo_58 rfl ?_
    exact Sim.nret dX11_undo_59 rfl rfl
def f_X11_undo_26_lp   (n : Nat) (v : Int32 × zHp) : Option (Int32 × zHp) := zlp (fun k26 v => f_X11_undo_26 k26 v.1 v.2) n v
theorem f_X11_undo_26_ls  (n : Nat) (v : Int32 × zHp) : Sim wM mX11_undo 0 rI 26 [(0, .ref 0), (1, .int v.1)] [] v.2 (f_X11_undo_26_lp n v) :=
  Sim.lp (V := Int32 × zHp) (Lf := fun v => [(0, .ref 0), (1, .int v.1)]) (sf := fun v => []) (hf := fun v => v.2) (fun k26 H26 v => f_X11_undo_26_s k26 H26 v.1 v.2) n v
def f_X11_undo   (h : zHp) : Option (Int32 × zHp) := zlt (zst h 0 0 (0 : Int32)) fun h1 => (if (h1 0 3) = 0 then some ((0 : Int32), h1) else zlt (zst h1 0 3 ((h1 0 3) - (1 : Int32))) fun h2 => f_X11_undo_26_lp  zN ((0 : Int32), h2))
set_option maxHeartbeats 4000000 in
set_option maxRecDepth 100000 in
theorem s_X11_undo   (h : zHp) : Fn wM mX11_undo 0 rI [.ref 0] h (f_X11_undo  h) := by
  refine Fn.of rfl (Nat.le_of_ble_eq_true rfl) ?_
  unfold f_X11_undo
  refine Sim.aload_n 0 dX11_undo_0 rfl ?_
  refine Sim.iconst (v := (0 : Int32)) dX11_undo_1 rfl ?_
  refine Sim.put fp_X11_128 dX11_undo_2 mI_0 rfl rfl ?_
  refine Sim.lth (fun h1 => ?_)
  refine Sim.aload_n 0 dX11_undo_5 rfl ?_
  refine Sim.getI fl_X11_131 dX11_undo_6 mI_3 ?_
  refine Sim.if_ne 14 dX11_undo_9 rfl ?_ ?_
  · refine Sim.iconst (v := (0 : Int32)) dX11_undo_12 rfl ?_
    exact Sim.nret dX11_undo_13 rfl rfl
  · refine Sim.aload_n 0 dX11_undo_14 rfl ?_
    refine Sim.aload_n 0 dX11_undo_15 rfl ?_
    refine Sim.getI fl_X11_131 dX11_undo_16 mI_3 ?_
    refine Sim.iconst (v := (1 : Int32)) dX11_undo_19 rfl ?_
    refine Sim.isub dX11_undo_20 ?_
    refine Sim.put fp_X11_131 dX11_undo_21 mI_3 rfl rfl ?_
    refine Sim.lth (fun h2 => ?_)
    refine Sim.iconst (v := (0 : Int32)) dX11_undo_24 rfl ?_
    refine Sim.istore_n (L' := [(1, .int (0 : Int32)), (0, .ref 0)]) dX11_undo_25 (Nat.le_of_ble_eq_true rfl) rfl ?_
    refine Sim.locs [1, 0] rfl ?_
    exact f_X11_undo_26_ls  zN ((0 : Int32), h2)
theorem mv_X11_undo : zMV mX11_undo 0 := ⟨⟨zTb_in 1510 (by decide +kernel) rfl, zTb_in 148 (by decide +kernel) rfl, ⟨by decide +kernel, by decide +kernel⟩, by decide +kernel⟩, zTb_in 1508 (by decide +kernel) rfl, zTb_in 1509 (by decide +kernel) rfl⟩
-- ===== RockingPorchModel.chair(I)I
abbrev mX11_chair : zMt := (yX11_chair, cX11_chair, 2, some .int)
theorem fl_X11_140 : zF RX11 140 11 6 := ⟨RX11, TX11, 69, rfl, Nat.le_of_ble_eq_true rfl, zTb_in 1305 (by decide +kernel) rfl, in_X11⟩
theorem fl_X11_19 : zF RX11 19 11 8 := ⟨RX11, TX11, 69, rfl, Nat.le_of_ble_eq_true rfl, zTb_in 1307 (by decide +kernel) rfl, in_X11⟩
theorem fp_X11_140 : zFp RX11 140 11 6 .int := ⟨RX11, TX11, 69, tyX11, rfl, Nat.le_of_ble_eq_true rfl, zTb_in 1305 (by decide +kernel) rfl, in_X11, tyX11_ok, nmX11, rfl, rfl⟩
theorem ml_X11_154 : Cond.methodLink RX11 154 yX11_isIn ∈ zTb := zTb_in 1519 (by decide +kernel) rfl
theorem dX11_chair_0 : decode cX11_chair 0 = .ok (.aload_n 0, 1) := by decide +kernel
theorem dX11_chair_1 : decode cX11_chair 1 = .ok (.iconst 0, 1) := by decide +kernel
theorem dX11_chair_2 : decode cX11_chair 2 = .ok (.putfield 128, 3) := by decide +kernel
theorem dX11_chair_5 : decode cX11_chair 5 = .ok (.aload_n 0, 1) := by decide +kernel
theorem dX11_chair_6 : decode cX11_chair 6 = .ok (.iload_n 1, 1) := by decide +kernel
theorem dX11_chair_7 : decode cX11_chair 7 = .ok (.iconst 0, 1) := by decide +kernel
theorem dX11_chair_8 : decode cX11_chair 8 = .ok (.bipush 9, 2) := by decide +kernel
theorem dX11_chair_10 : decode cX11_chair 10 = .ok (.invokevirtual 154, 3) := by decide +kernel
theorem dX11_chair_13 : decode cX11_chair 13 = .ok (.ifCond .eq 12, 3) := by decide +kernel
theorem dX11_chair_16 : decode cX11_chair 16 = .ok (.aload_n 0, 1) := by decide +kernel
theorem dX11_chair_17 : decode cX11_chair 17 = .ok (.getfield 140, 3) := by decide +kernel
theorem dX11_chair_20 : decode cX11_chair 20 = .ok (.bipush 10, 2) := by decide +kernel
theorem dX11_chair_22 : decode cX11_chair 22 = .ok (.if_icmp .ne 5, 3) := by decide +kernel
theorem dX11_chair_25 : decode cX11_chair 25 = .ok (.iconst (-1), 1) := by decide +kernel
theorem dX11_chair_26 : decode cX11_chair 26 = .ok (.ireturn, 1) := by decide +kernel
theorem dX11_chair_27 : decode cX11_chair 27 = .ok (.aload_n 0, 1) := by decide +kernel
theorem dX11_chair_28 : decode cX11_chair 28 = .ok (.getfield 19, 3) := by decide +kernel
theorem dX11_chair_31 : decode cX11_chair 31 = .ok (.aload_n 0, 1) := by decide +kernel
theorem dX11_chair_32 : decode cX11_chair 32 = .ok (.getfield 140, 3) := by decide +kernel
theorem dX11_chair_35 : decode cX11_chair 35 = .ok (.iload_n 1, 1) := by decide +kernel
theorem dX11_chair_36 : decode cX11_chair 36 = .ok (.iastore, 1) := by decide +kernel
theorem dX11_chair_37 : decode cX11_chair 37 = .ok (.aload_n 0, 1) := by decide +kernel
theorem dX11_chair_38 : decode cX11_chair 38 = .ok (.getfield 7, 3) := by decide +kernel
theorem dX11_chair_41 : decode cX11_chair 41 = .ok (.iconst 5, 1) := by decide +kernel
theorem dX11_chair_42 : decode cX11_chair 42 = .ok (.aload_n 0, 1) := by decide +kernel
theorem dX11_chair_43 : decode cX11_chair 43 = .ok (.getfield 140, 3) := by decide +kernel
theorem dX11_chair_46 : decode cX11_chair 46 = .ok (.iadd, 1) := by decide +kernel
theorem dX11_chair_47 : decode cX11_chair 47 = .ok (.iconst 0, 1) := by decide +kernel
theorem dX11_chair_48 : decode cX11_chair 48 = .ok (.iastore, 1) := by decide +kernel
theorem dX11_chair_49 : decode cX11_chair 49 = .ok (.aload_n 0, 1) := by decide +kernel
theorem dX11_chair_50 : decode cX11_chair 50 = .ok (.getfield 7, 3) := by decide +kernel
theorem dX11_chair_53 : decode cX11_chair 53 = .ok (.bipush 15, 2) := by decide +kernel
theorem dX11_chair_55 : decode cX11_chair 55 = .ok (.aload_n 0, 1) := by decide +kernel
theorem dX11_chair_56 : decode cX11_chair 56 = .ok (.getfield 140, 3) := by decide +kernel
theorem dX11_chair_59 : decode cX11_chair 59 = .ok (.iadd, 1) := by decide +kernel
theorem dX11_chair_60 : decode cX11_chair 60 = .ok (.iconst 0, 1) := by decide +kernel
theorem dX11_chair_61 : decode cX11_chair 61 = .ok (.iastore, 1) := by decide +kernel
theorem dX11_chair_62 : decode cX11_chair 62 = .ok (.aload_n 0, 1) := by decide +kernel
theorem dX11_chair_63 : decode cX11_chair 63 = .ok (.getfield 7, 3) := by decide +kernel
theorem dX11_chair_66 : decode cX11_chair 66 = .ok (.bipush 25, 2) := by decide +kernel
theorem dX11_chair_68 : decode cX11_chair 68 = .ok (.aload_n 0, 1) := by decide +kernel
theorem dX11_chair_69 : decode cX11_chair 69 = .ok (.getfield 140, 3) := by decide +kernel
theorem dX11_chair_72 : decode cX11_chair 72 = .ok (.iadd, 1) := by decide +kernel
theorem dX11_chair_73 : decode cX11_chair 73 = .ok (.iconst 0, 1) := by decide +kernel
theorem dX11_chair_74 : decode cX11_chair 74 = .ok (.iastore, 1) := by decide +kernel
theorem dX11_chair_75 : decode cX11_chair 75 = .ok (.aload_n 0, 1) := by decide +kernel
theorem dX11_chair_76 : decode cX11_chair 76 = .ok (.aload_n 0, 1) := by decide +kernel
theorem dX11_chair_77 : decode cX11_chair 77 = .ok (.getfield 140, 3) := by decide +kernel
theorem dX11_chair_80 : decode cX11_chair 80 = .ok (.iconst 1, 1) := by decide +kernel
theorem dX11_chair_81 : decode cX11_chair 81 = .ok (.iadd, 1) := by decide +kernel
theorem dX11_chair_82 : decode cX11_chair 82 = .ok (.putfield 140, 3) := by decide +kernel
theorem dX11_chair_85 : decode cX11_chair 85 = .ok (.aload_n 0, 1) := by decide +kernel
theorem dX11_chair_86 : decode cX11_chair 86 = .ok (.iconst 0, 1) := by decide +kernel
theorem dX11_chair_87 : decode cX11_chair 87 = .ok (.putfield 131, 3) := by decide +kernel
theorem dX11_chair_90 : decode cX11_chair 90 = .ok (.aload_n 0, 1) := by decide +kernel
theorem dX11_chair_91 : decode cX11_chair 91 = .ok (.getfield 140, 3) := by decide +kernel
theorem dX11_chair_94 : decode cX11_chair 94 = .ok (.iconst 1, 1) := by decide +kernel
theorem dX11_chair_95 : decode cX11_chair 95 = .ok (.isub, 1) := by decide +kernel
theorem dX11_chair_96 : decode cX11_chair 96 = .ok (.ireturn, 1) := by decide +kernel
def f_X11_chair  (a1 : Int32) (h : zHp) : Option (Int32 × zHp) := zlt (zst h 0 0 (0 : Int32)) fun h1 => (f_X11_isIn a1 (0 : Int32) (9 : Int32) h1).bind fun x2 => (if x2.1 = 0 then some ((-1 : Int32), x2.2) else (if (x2.2 0 6) = (10 : Int32) then some ((-1 : Int32), x2.2) else zix (x2.2 0 6) 10 (zlt (zst x2.2 4 (x2.2 0 6).toNatClampNeg a1) fun h3 => zix ((5 : Int32) + (h3 0 6)) 77 (zlt (zst h3 1 ((5 : Int32) + (h3 0 6)).toNatClampNeg (0 : Int32)) fun h4 => zix ((15 : Int32) + (h4 0 6)) 77 (zlt (zst h4 1 ((15 : Int32) + (h4 0 6)).toNatClampNeg (0 : Int32)) fun h5 => zix ((25 : Int32) + (h5 0 6)) 77 (zlt (zst h5 1 ((25 : Int32) + (h5 0 6)).toNatClampNeg (0 : Int32)) fun h6 => zlt (zst h6 0 6 ((h6 0 6) + (1 : Int32))) fun h7 => zlt (zst h7 0 3 (0 : Int32)) fun h8 => some (((h8 0 6) - (1 : Int32)), h8)))))))
set_option maxHeartbeats 4000000 in
set_option maxRecDepth 100000 in
theorem s_X11_chair  (a1 : Int32) (h : zHp) : Fn wM mX11_chair 1 rI [.ref 0, .int a1] h (f_X11_chair a1 h) := by
  refine Fn.of rfl (Nat.le_of_ble_eq_true rfl) ?_
  unfold f_X11_chair
  refine Sim.aload_n 0 dX11_chair_0 rfl ?_
  refine Sim.iconst (v := (0 : Int32)) dX11_chair_1 rfl ?_
  refine Sim.put fp_X11_128 dX11_chair_2 mI_0 rfl rfl ?_
  refine Sim.lth (fun h1 => ?_)
  refine Sim.aload_n 0 dX11_chair_5 rfl ?_
  refine Sim.iload_n 1 dX11_chair_6 rfl ?_
  refine Sim.iconst (v := (0 : Int32)) dX11_chair_7 rfl ?_
  refine Sim.bipush (v := (9 : Int32)) dX11_chair_8 rfl ?_
  refine Sim.callV3I (d1 := 0) (s_X11_isIn a1 (0 : Int32) (9 : Int32) h1) dX11_chair_10 ml_X11_154 mv_X11_isIn mC (Nat.le_of_ble_eq_true rfl) (Nat.le_of_ble_eq_true rfl) (Nat.le_of_ble_eq_true rfl) (fun x2 => ?_)
  refine Sim.if_eq 25 dX11_chair_13 rfl ?_ ?_
  · refine Sim.iconst (v := (-1 : Int32)) dX11_chair_25 rfl ?_
    exact Sim.iret dX11_chair_26 rfl
  · refine Sim.aload_n 0 dX11_chair_16 rfl ?_
    refine Sim.getI fl_X11_140 dX11_chair_17 mI_6 ?_
    refine Sim.bipush (v := (10 : Int32)) dX11_chair_20 rfl ?_
    refine Sim.icmp_ne 27 dX11_chair_22 rfl ?_ ?_
    · refine Sim.iconst (v := (-1 : Int32)) dX11_chair_25 rfl ?_
      exact Sim.iret dX11_chair_26 rfl
    · refine Sim.aload_n 0 dX11_chair_27 rfl ?_
      refine Sim.getR (j := 4) fl_X11_19 dX11_chair_28 mR_8 ?_
      refine Sim.aload_n 0 dX11_chair_31 rfl ?_
      refine Sim.getI fl_X11_140 dX11_chair_32 mI_6 ?_
      refine Sim.iload_n 1 dX11_chair_35 rfl ?_
      refine Sim.iast (n := 10) dX11_chair_36 mA_4 ?_
      refine Sim.lth (fun h3 => ?_)
      refine Sim.aload_n 0 dX11_chair_37 rfl ?_
      refine Sim.getR (j := 1) fl_X11_7 dX11_chair_38 mR_1 ?_
      refine Sim.iconst (v := (5 : Int32)) dX11_chair_41 rfl ?_
      refine Sim.aload_n 0 dX11_chair_42 rfl ?_
      refine Sim.getI fl_X11_140 dX11_chair_43 mI_6 ?_
      refine Sim.iadd dX11_chair_46 ?_
      refine Sim.iconst (v := (0 : Int32)) dX11_chair_47 rfl ?_
      refine Sim.iast (n := 77) dX11_chair_48 mA_1 ?_
      refine Sim.lth (fun h4 => ?_)
      refine Sim.aload_n 0 dX11_chair_49 rfl ?_
      refine Sim.getR (j := 1) fl_X11_7 dX11_chair_50 mR_1 ?_
      refine Sim.bipush (v := (15 : Int32)) dX11_chair_53 rfl ?_
      refine Sim.aload_n 0 dX11_chair_55 rfl ?_
      refine Sim.getI fl_X11_140 dX11_chair_56 mI_6 ?_
      refine Sim.iadd dX11_chair_59 ?_
      refine Sim.iconst (v := (0 : Int32)) dX11_chair_60 rfl ?_
      refine Sim.iast (n := 77) dX11_chair_61 mA_1 ?_
      refine Sim.lth (fun h5 => ?_)
      refine Sim.aload_n 0 dX11_chair_62 rfl ?_
      refine Sim.getR (j := 1) fl_X11_7 dX11_chair_63 mR_1 ?_
      refine Sim.bipush (v := (25 : Int32)) dX11_chair_66 rfl ?_
      refine Sim.aload_n 0 dX11_chair_68 rfl ?_
      refine Sim.getI fl_X11_140 dX11_chair_69 mI_6 ?_
      refine Sim.iadd dX11_chair_72 ?_
      refine Sim.iconst (v := (0 : Int32)) dX11_chair_73 rfl ?_
      refine Sim.iast (n := 77) dX11_chair_74 mA_1 ?_
      refine Sim.lth (fun h6 => ?_)
      refine Sim.aload_n 0 dX11_chair_75 rfl ?_
      refine Sim.aload_n 0 dX11_chair_76 rfl ?_
      refine Sim.getI fl_X11_140 dX11_chair_77 mI_6 ?_
      refine Sim.iconst (v := (1 : Int32)) dX11_chair_80 rfl ?_
      refine Sim.iadd dX11_chair_81 ?_
      refine Sim.put fp_X11_140 dX11_chair_82 mI_6 rfl rfl ?_
      refine Sim.lth (fun h7 => ?_)
      refine Sim.aload_n 0 dX11_chair_85 rfl ?_
      refine Sim.iconst (v := (0 : Int32)) dX11_chair_86 rfl ?_
      refine Sim.put fp_X11_131 dX11_chair_87 mI_3 rfl rfl ?_
      refine Sim.lth (fun h8 => ?_)
      refine Sim.aload_n 0 dX11_chair_90 rfl ?_
      refine Sim.getI fl_X11_140 dX11_chair_91 mI_6 ?_
      refine Sim.iconst (v := (1 : Int32)) dX11_chair_94 rfl ?_
      refine Sim.isub dX11_chair_95 ?_
      exact Sim.iret dX11_chair_96 rfl
theorem mv_X11_chair : zMV mX11_chair 1 := ⟨⟨zTb_in 1518 (by decide +kernel) rfl, zTb_in 148 (by decide +kernel) rfl, ⟨by decide +kernel, by decide +kernel⟩, by decide +kernel⟩, zTb_in 1516 (by decide +kernel) rfl, zTb_in 1517 (by decide +kernel) rfl⟩
