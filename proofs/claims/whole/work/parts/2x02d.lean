-- ===== RockingPorch$Puzzles.isLost(I)Z
abbrev mX5_isLost : zMt := (yX5_isLost, cX5_isLost, 4, some .boolean)
theorem ml_X5_120 : Cond.methodLink RX5 120 yX5_roomBelow ∈ zTb := zTb_in 1244 (by decide +kernel) rfl
theorem dX5_isLost_0 : decode cX5_isLost 0 = .ok (.iconst 0, 1) := by decide +kernel
theorem dX5_isLost_1 : decode cX5_isLost 1 = .ok (.istore_n 2, 1) := by decide +kernel
theorem dX5_isLost_2 : decode cX5_isLost 2 = .ok (.iload_n 1, 1) := by decide +kernel
theorem dX5_isLost_3 : decode cX5_isLost 3 = .ok (.bipush 10, 2) := by decide +kernel
theorem dX5_isLost_5 : decode cX5_isLost 5 = .ok (.invokestatic 71, 3) := by decide +kernel
theorem dX5_isLost_8 : decode cX5_isLost 8 = .ok (.iconst 1, 1) := by decide +kernel
theorem dX5_isLost_9 : decode cX5_isLost 9 = .ok (.isub, 1) := by decide +kernel
theorem dX5_isLost_10 : decode cX5_isLost 10 = .ok (.istore_n 3, 1) := by decide +kernel
theorem dX5_isLost_11 : decode cX5_isLost 11 = .ok (.iload_n 3, 1) := by decide +kernel
theorem dX5_isLost_12 : decode cX5_isLost 12 = .ok (.ifCond .lt 17, 3) := by decide +kernel
theorem dX5_isLost_15 : decode cX5_isLost 15 = .ok (.iload_n 2, 1) := by decide +kernel
theorem dX5_isLost_16 : decode cX5_isLost 16 = .ok (.aload_n 0, 1) := by decide +kernel
theorem dX5_isLost_17 : decode cX5_isLost 17 = .ok (.iload_n 3, 1) := by decide +kernel
theorem dX5_isLost_18 : decode cX5_isLost 18 = .ok (.invokevirtual 120, 3) := by decide +kernel
theorem dX5_isLost_21 : decode cX5_isLost 21 = .ok (.ixor, 1) := by decide +kernel
theorem dX5_isLost_22 : decode cX5_isLost 22 = .ok (.istore_n 2, 1) := by decide +kernel
theorem dX5_isLost_23 : decode cX5_isLost 23 = .ok (.iinc 3 (-2), 3) := by decide +kernel
theorem dX5_isLost_26 : decode cX5_isLost 26 = .ok (.goto (-15), 3) := by decide +kernel
theorem dX5_isLost_29 : decode cX5_isLost 29 = .ok (.iload_n 2, 1) := by decide +kernel
theorem dX5_isLost_30 : decode cX5_isLost 30 = .ok (.ifCond .ne 7, 3) := by decide +kernel
theorem dX5_isLost_33 : decode cX5_isLost 33 = .ok (.iconst 1, 1) := by decide +kernel
theorem dX5_isLost_34 : decode cX5_isLost 34 = .ok (.goto 4, 3) := by decide +kernel
theorem dX5_isLost_37 : decode cX5_isLost 37 = .ok (.iconst 0, 1) := by decide +kernel
theorem dX5_isLost_38 : decode cX5_isLost 38 = .ok (.ireturn, 1) := by decide +kernel
def f_X5_isLost_11  (k11 : Int32 × Int32 × zHp → Option (Int32 × zHp)) (v2 : Int32) (v3 : Int32) (h : zHp) : Option (Int32 × zHp) := (if v3 < 0 then (if v2 = 0 then some ((1 : Int32), h) else some ((0 : Int32), h)) else (f_X5_roomBelow v3 h).bind fun x1 => zlt (v2 ^^^ x1.1) fun x2 => k11 (x2, (v3 + (-2 : Int32)), x1.2))
set_option maxHeartbeats 4000000 in
set_option maxRecDepth 100000 in
theorem f_X5_isLost_11_s  (k11 : Int32 × Int32 × zHp → Option (Int32 × zHp)) (H11 : ∀ v : Int32 × Int32 × zHp, Sim wX mX5_isLost 1 rI 11 [(0, .ref 161), (2, .int v.1), (3, .int v.2.1)] [] v.2.2 (k11 v)) (v2 : Int32) (v3 : Int32) (h : zHp) : Sim wX mX5_isLost 1 rI 11 [(0, .ref 161), (2, .int v2), (3, .int v3)] [] h (f_X5_isLost_11 k11 v2 v3 h) := by
  unfold f_X5_isLost_11
  have H11' : ∀ (a b : Int32) (h : zHp), Sim wX mX5_isLost 1 rI 11 [(0, .ref 161), (2, .int a), (3, .int b)] [] h (k11 (a, b, h)) := fun a b h => H11 (a, b, h)
  refine Sim.iload_n 2 dX5_isLost_11 rfl ?_
  refine Sim.if_lt 29 dX5_isLost_12 rfl ?_ ?_
  · refine Sim.iload_n 1 dX5_isLost_29 rfl ?_
    refine Sim.if_ne 37 dX5_isLost_30 rfl ?_ ?_
    · refine Sim.iconst (v := (1 : Int32)) dX5_isLost_33 rfl ?_
      refine Sim.goto 38 dX5_isLost_34 rfl ?_
      exact Sim.nret dX5_isLost_38 rfl rfl
    · refine Sim.iconst (v := (0 : Int32)) dX5_isLost_37 rfl ?_
      exact Sim.nret dX5_isLost_38 rfl rfl
  · refine Sim.iload_n 1 dX5_isLost_15 rfl ?_
    refine Sim.aload_n 0 dX5_isLost_16 rfl ?_
    refine Sim.iload_n 2 dX5_isLost_17 rfl ?_
    refine Sim.callV1I (d1 := 0) (s_X5_roomBelow v3 h) dX5_isLost_18 ml_X5_120 mv_X5_roomBelow xO_X5 (Nat.le_of_ble_eq_true rfl) (Nat.le_of_ble_eq_true rfl) (Nat.le_of_ble_eq_true rfl) (fun x1 => ?_)
    refine Sim.ixor dX5_isLost_21 ?_
    refine Sim.lti (fun x2 => ?_)
    refine Sim.istore_n (L' := [(2, .int x2), (0, .ref 161), (3, .int v3)]) dX5_isLost_22 (Nat.le_of_ble_eq_true rfl) rfl ?_
    refine Sim.iinc (L' := [(3, .int (v3 + (-2 : Int32))), (2, .int x2), (0, .ref 161)]) 2 dX5_isLost_23 rfl (congrArg (fun q : Int32 => v3 + q) (show Int32.ofInt (-2) = (-2 : Int32) by decide)) (Nat.le_of_ble_eq_true rfl) rfl ?_
    refine Sim.goto 11 dX5_isLost_26 rfl ?_
    refine Sim.locs [2, 1, 0] rfl ?_
    exact H11' x2 (v3 + (-2 : Int32)) x1.2
def f_X5_isLost_11_lp   (n : Nat) (v : Int32 × Int32 × zHp) : Option (Int32 × zHp) := zlp (fun k11 v => f_X5_isLost_11 k11 v.1 v.2.1 v.2.2) n v
theorem f_X5_isLost_11_ls  (n : Nat) (v : Int32 × Int32 × zHp) : Sim wX mX5_isLost 1 rI 11 [(0, .ref 161), (2, .int v.1), (3, .int v.2.1)] [] v.2.2 (f_X5_isLost_11_lp n v) :=
  Sim.lp (V := Int32 × Int32 × zHp) (Lf := fun v => [(0, .ref 161), (2, .int v.1), (3, .int v.2.1)]) (sf := fun v => []) (hf := fun v => v.2.2) (fun k11 H11 v => f_X5_isLost_11_s k11 H11 v.1 v.2.1 v.2.2) n v
def f_X5_isLost  (a1 : Int32) (h : zHp) : Option (Int32 × zHp) := zlt ((if (10 : Int32) < a1 then (10 : Int32) else a1) - (1 : Int32)) fun x1 => f_X5_isLost_11_lp  zN ((0 : Int32), x1, h)
set_option maxHeartbeats 4000000 in
set_option maxRecDepth 100000 in
theorem s_X5_isLost  (a1 : Int32) (h : zHp) : Fn wX mX5_isLost 1 rI [.ref 161, .int a1] h (f_X5_isLost a1 h) := by
  refine Fn.of rfl (Nat.le_of_ble_eq_true rfl) ?_
  unfold f_X5_isLost
  refine Sim.iconst (v := (0 : Int32)) dX5_isLost_0 rfl ?_
  refine Sim.istore_n (L' := [(2, .int (0 : Int32)), (0, .ref 161), (1, .int a1)]) dX5_isLost_1 (Nat.le_of_ble_eq_true rfl) rfl ?_
  refine Sim.iload_n 2 dX5_isLost_2 rfl ?_
  refine Sim.bipush (v := (10 : Int32)) dX5_isLost_3 rfl ?_
  refine Sim.mmin dX5_isLost_5 ml_X5_71 ms_min ms_Math mc_min (Nat.le_of_ble_eq_true rfl) (Nat.le_of_ble_eq_true rfl) ?_
  refine Sim.iconst (v := (1 : Int32)) dX5_isLost_8 rfl ?_
  refine Sim.isub dX5_isLost_9 ?_
  refine Sim.lti (fun x1 => ?_)
  refine Sim.istore_n (L' := [(3, .int x1), (2, .int (0 : Int32)), (0, .ref 161), (1, .int a1)]) dX5_isLost_10 (Nat.le_of_ble_eq_true rfl) rfl ?_
  refine Sim.locs [2, 1, 0] rfl ?_
  exact f_X5_isLost_11_ls  zN ((0 : Int32), x1, h)
theorem mv_X5_isLost : zMV mX5_isLost 1 := ⟨⟨zTb_in 1251 (by decide +kernel) rfl, zTb_in 147 (by decide +kernel) rfl, ⟨by decide +kernel, by decide +kernel⟩, by decide +kernel⟩, zTb_in 1250 (by decide +kernel) rfl, zTb_in 38 (by decide +kernel) rfl⟩
