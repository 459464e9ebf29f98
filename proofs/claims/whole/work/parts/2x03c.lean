-- ===== RockingPorch$Row.add(I)I
abbrev mX7_add : zMt := (yX7_add, cX7_add, 2, some .int)
theorem dX7_add_0 : decode cX7_add 0 = .ok (.aload_n 0, 1) := by decide +kernel
theorem dX7_add_1 : decode cX7_add 1 = .ok (.getfield 9, 3) := by decide +kernel
theorem dX7_add_4 : decode cX7_add 4 = .ok (.aload_n 0, 1) := by decide +kernel
theorem dX7_add_5 : decode cX7_add 5 = .ok (.getfield 15, 3) := by decide +kernel
theorem dX7_add_8 : decode cX7_add 8 = .ok (.arraylength, 1) := by decide +kernel
theorem dX7_add_9 : decode cX7_add 9 = .ok (.if_icmp .lt 5, 3) := by decide +kernel
theorem dX7_add_12 : decode cX7_add 12 = .ok (.iconst (-1), 1) := by decide +kernel
theorem dX7_add_13 : decode cX7_add 13 = .ok (.ireturn, 1) := by decide +kernel
theorem dX7_add_14 : decode cX7_add 14 = .ok (.aload_n 0, 1) := by decide +kernel
theorem dX7_add_15 : decode cX7_add 15 = .ok (.getfield 15, 3) := by decide +kernel
theorem dX7_add_18 : decode cX7_add 18 = .ok (.aload_n 0, 1) := by decide +kernel
theorem dX7_add_19 : decode cX7_add 19 = .ok (.getfield 9, 3) := by decide +kernel
theorem dX7_add_22 : decode cX7_add 22 = .ok (.iload_n 1, 1) := by decide +kernel
theorem dX7_add_23 : decode cX7_add 23 = .ok (.iastore, 1) := by decide +kernel
theorem dX7_add_24 : decode cX7_add 24 = .ok (.aload_n 0, 1) := by decide +kernel
theorem dX7_add_25 : decode cX7_add 25 = .ok (.dup, 1) := by decide +kernel
theorem dX7_add_26 : decode cX7_add 26 = .ok (.getfield 9, 3) := by decide +kernel
theorem dX7_add_29 : decode cX7_add 29 = .ok (.iconst 1, 1) := by decide +kernel
theorem dX7_add_30 : decode cX7_add 30 = .ok (.iadd, 1) := by decide +kernel
theorem dX7_add_31 : decode cX7_add 31 = .ok (.putfield 9, 3) := by decide +kernel
theorem dX7_add_34 : decode cX7_add 34 = .ok (.aload_n 0, 1) := by decide +kernel
theorem dX7_add_35 : decode cX7_add 35 = .ok (.getfield 9, 3) := by decide +kernel
theorem dX7_add_38 : decode cX7_add 38 = .ok (.ireturn, 1) := by decide +kernel
def f_X7_add (o : Nat) (a1 : Int32) (h : zHp) : Option (Int32 × zHp) := (if (h o 1) < (Int32.ofNat (zln wX (o + 1))) then zix (h o 1) (zln wX (o + 1)) (zlt (zst h (o + 1) (h o 1).toNatClampNeg a1) fun h1 => zlt (zst h1 o 1 ((h1 o 1) + (1 : Int32))) fun h2 => some ((h2 o 1), h2)) else some ((-1 : Int32), h))
set_option maxHeartbeats 4000000 in
set_option maxRecDepth 100000 in
theorem s_X7_add (o : Nat) (ho : o ∈ xRow) (a1 : Int32) (h : zHp) : Fn wX mX7_add 0 rI [.ref o, .int a1] h (f_X7_add o a1 h) := by
  refine Fn.of rfl (Nat.le_of_ble_eq_true rfl) ?_
  unfold f_X7_add
  refine Sim.aload_n 0 dX7_add_0 rfl ?_
  refine Sim.getI fl_X7_9 dX7_add_1 (xI_X7_1 _ ho) ?_
  refine Sim.aload_n 0 dX7_add_4 rfl ?_
  refine Sim.getR (j := (o + 1)) fl_X7_15 dX7_add_5 (xR_X7_0 _ ho) ?_
  refine Sim.alen (n := (zln wX (o + 1))) dX7_add_8 (xA_X7_0 _ ho) ?_
  refine Sim.icmp_lt 14 dX7_add_9 rfl ?_ ?_
  · refine Sim.aload_n 0 dX7_add_14 rfl ?_
    refine Sim.getR (j := (o + 1)) fl_X7_15 dX7_add_15 (xR_X7_0 _ ho) ?_
    refine Sim.aload_n 0 dX7_add_18 rfl ?_
    refine Sim.getI fl_X7_9 dX7_add_19 (xI_X7_1 _ ho) ?_
    refine Sim.iload_n 1 dX7_add_22 rfl ?_
    refine Sim.iast (n := (zln wX (o + 1))) dX7_add_23 (xA_X7_0 _ ho) ?_
    refine Sim.lth (fun h1 => ?_)
    refine Sim.aload_n 0 dX7_add_24 rfl ?_
    refine Sim.dup dX7_add_25 rfl ?_
    refine Sim.getI fl_X7_9 dX7_add_26 (xI_X7_1 _ ho) ?_
    refine Sim.iconst (v := (1 : Int32)) dX7_add_29 rfl ?_
    refine Sim.iadd dX7_add_30 ?_
    refine Sim.put fp_X7_9 dX7_add_31 (xI_X7_1 _ ho) rfl rfl ?_
    refine Sim.lth (fun h2 => ?_)
    refine Sim.aload_n 0 dX7_add_34 rfl ?_
    refine Sim.getI fl_X7_9 dX7_add_35 (xI_X7_1 _ ho) ?_
    exact Sim.iret dX7_add_38 rfl
  · refine Sim.iconst (v := (-1 : Int32)) dX7_add_12 rfl ?_
    exact Sim.iret dX7_add_13 rfl
theorem mv_X7_add : zMV mX7_add 1 := ⟨⟨zTb_in 1046 (by decide +kernel) rfl, zTb_in 143 (by decide +kernel) rfl, ⟨by decide +kernel, by decide +kernel⟩, by decide +kernel⟩, zTb_in 1044 (by decide +kernel) rfl, zTb_in 1045 (by decide +kernel) rfl⟩
-- ===== RockingPorch$Row.addUnlike(I)I
abbrev mX7_addUnlike : zMt := (yX7_addUnlike, cX7_addUnlike, 3, some .int)
theorem ml_X7_19 : Cond.methodLink RX7 19 yX7_add ∈ zTb := zTb_in 1097 (by decide +kernel) rfl
theorem dX7_addUnlike_0 : decode cX7_addUnlike 0 = .ok (.iconst 0, 1) := by decide +kernel
theorem dX7_addUnlike_1 : decode cX7_addUnlike 1 = .ok (.istore_n 2, 1) := by decide +kernel
theorem dX7_addUnlike_2 : decode cX7_addUnlike 2 = .ok (.iload_n 2, 1) := by decide +kernel
theorem dX7_addUnlike_3 : decode cX7_addUnlike 3 = .ok (.aload_n 0, 1) := by decide +kernel
theorem dX7_addUnlike_4 : decode cX7_addUnlike 4 = .ok (.getfield 9, 3) := by decide +kernel
theorem dX7_addUnlike_7 : decode cX7_addUnlike 7 = .ok (.if_icmp .ge 30, 3) := by decide +kernel
theorem dX7_addUnlike_10 : decode cX7_addUnlike 10 = .ok (.iload_n 2, 1) := by decide +kernel
theorem dX7_addUnlike_11 : decode cX7_addUnlike 11 = .ok (.aload_n 0, 1) := by decide +kernel
theorem dX7_addUnlike_12 : decode cX7_addUnlike 12 = .ok (.getfield 15, 3) := by decide +kernel
theorem dX7_addUnlike_15 : decode cX7_addUnlike 15 = .ok (.arraylength, 1) := by decide +kernel
theorem dX7_addUnlike_16 : decode cX7_addUnlike 16 = .ok (.if_icmp .ge 21, 3) := by decide +kernel
theorem dX7_addUnlike_19 : decode cX7_addUnlike 19 = .ok (.aload_n 0, 1) := by decide +kernel
theorem dX7_addUnlike_20 : decode cX7_addUnlike 20 = .ok (.getfield 15, 3) := by decide +kernel
theorem dX7_addUnlike_23 : decode cX7_addUnlike 23 = .ok (.iload_n 2, 1) := by decide +kernel
theorem dX7_addUnlike_24 : decode cX7_addUnlike 24 = .ok (.iaload, 1) := by decide +kernel
theorem dX7_addUnlike_25 : decode cX7_addUnlike 25 = .ok (.iload_n 1, 1) := by decide +kernel
theorem dX7_addUnlike_26 : decode cX7_addUnlike 26 = .ok (.if_icmp .ne 5, 3) := by decide +kernel
theorem dX7_addUnlike_29 : decode cX7_addUnlike 29 = .ok (.iconst (-1), 1) := by decide +kernel
theorem dX7_addUnlike_30 : decode cX7_addUnlike 30 = .ok (.ireturn, 1) := by decide +kernel
theorem dX7_addUnlike_31 : decode cX7_addUnlike 31 = .ok (.iinc 2 1, 3) := by decide +kernel
theorem dX7_addUnlike_34 : decode cX7_addUnlike 34 = .ok (.goto (-32), 3) := by decide +kernel
theorem dX7_addUnlike_37 : decode cX7_addUnlike 37 = .ok (.aload_n 0, 1) := by decide +kernel
theorem dX7_addUnlike_38 : decode cX7_addUnlike 38 = .ok (.iload_n 1, 1) := by decide +kernel
theorem dX7_addUnlike_39 : decode cX7_addUnlike 39 = .ok (.invokevirtual 19, 3) := by decide +kernel
theorem dX7_addUnlike_42 : decode cX7_addUnlike 42 = .ok (.ireturn, 1) := by decide +kernel
def f_X7_addUnlike_2 (o : Nat) (k2 : Int32 × Int32 × zHp → Option (Int32 × zHp)) (v1 : Int32) (v2 : Int32) (h : zHp) : Option (Int32 × zHp) := (if v2 < (h o 1) then (if v2 < (Int32.ofNat (zln wX (o + 1))) then zix v2 (zln wX (o + 1)) ((if (h (o + 1) v2.toNatClampNeg) = v1 then some ((-1 : Int32), h) else k2 (v1, (v2 + (1 : Int32)), h))) else (f_X7_add o v1 h).bind fun x1 => some (x1.1, x1.2)) else (f_X7_add o v1 h).bind fun x2 => some (x2.1, x2.2))
set_option maxHeartbeats 4000000 in
set_option maxRecDepth 100000 in
theorem f_X7_addUnlike_2_s (o : Nat) (ho : o ∈ xRow) (k2 : Int32 × Int32 × zHp → Option (Int32 × zHp)) (H2 : ∀ v : Int32 × Int32 × zHp, Sim wX mX7_addUnlike 1 rI 2 [(0, .ref o), (1, .int v.1), (2, .int v.2.1)] [] v.2.2 (k2 v)) (v1 : Int32) (v2 : Int32) (h : zHp) : Sim wX mX7_addUnlike 1 rI 2 [(0, .ref o), (1, .int v1), (2, .int v2)] [] h (f_X7_addUnlike_2 o k2 v1 v2 h) := by
  unfold f_X7_addUnlike_2
  refine Sim.iload_n 2 dX7_addUnlike_2 rfl ?_
  refine Sim.aload_n 0 dX7_addUnlike_3 rfl ?_
  refine Sim.getI fl_X7_9 dX7_addUnlike_4 (xI_X7_1 _ ho) ?_
  refine Sim.icmp_ge 37 dX7_addUnlike_7 rfl ?_ ?_
  · refine Sim.iload_n 2 dX7_addUnlike_10 rfl ?_
    refine Sim.aload_n 0 dX7_addUnlike_11 rfl ?_
    refine Sim.getR (j := (o + 1)) fl_X7_15 dX7_addUnlike_12 (xR_X7_0 _ ho) ?_
    refine Sim.alen (n := (zln wX (o + 1))) dX7_addUnlike_15 (xA_X7_0 _ ho) ?_
    refine Sim.icmp_ge 37 dX7_addUnlike_16 rfl ?_ ?_
    · refine Sim.aload_n 0 dX7_addUnlike_19 rfl ?_
      refine Sim.getR (j := (o + 1)) fl_X7_15 dX7_addUnlike_20 (xR_X7_0 _ ho) ?_
      refine Sim.iload_n 2 dX7_addUnlike_23 rfl ?_
      refine Sim.iald (n := (zln wX (o + 1))) dX7_addUnlike_24 (xA_X7_0 _ ho) ?_
      refine Sim.iload_n 1 dX7_addUnlike_25 rfl ?_
      refine Sim.icmp_ne 31 dX7_addUnlike_26 rfl ?_ ?_
      · refine Sim.iconst (v := (-1 : Int32)) dX7_addUnlike_29 rfl ?_
        exact Sim.iret dX7_addUnlike_30 rfl
      · refine Sim.iinc (L' := [(2, .int (v2 + (1 : Int32))), (0, .ref o), (1, .int v1)]) 2 dX7_addUnlike_31 rfl rfl (Nat.le_of_ble_eq_true rfl) rfl ?_
        refine Sim.goto 2 dX7_addUnlike_34 rfl ?_
        refine Sim.locs [1, 2, 0] rfl ?_
        exact H2 (v1, (v2 + (1 : Int32)), h)
    · refine Sim.aload_n 0 dX7_addUnlike_37 rfl ?_
      refine Sim.iload_n 1 dX7_addUnlike_38 rfl ?_
      refine Sim.callV1I (d1 := 0) (s_X7_add o ho v1 h) dX7_addUnlike_39 ml_X7_19 mv_X7_add (xOC_X7 _ ho) (Nat.le_of_ble_eq_true rfl) (Nat.le_of_ble_eq_true rfl) (Nat.le_of_ble_eq_true rfl) (fun x1 => ?_)
      exact Sim.iret dX7_addUnlike_42 rfl
  · refine Sim.aload_n 0 dX7_addUnlike_37 rfl ?_
    refine Sim.iload_n 1 dX7_addUnlike_38 rfl ?_
    refine Sim.callV1I (d1 := 0) (s_X7_add o ho v1 h) dX7_addUnlike_39 ml_X7_19 mv_X7_add (xOC_X7 _ ho) (Nat.le_of_ble_eq_true rfl) (Nat.le_of_ble_eq_true rfl) (Nat.le_of_ble_eq_true rfl) (fun x2 => ?_)
    exact Sim.iret dX7_addUnlike_42 rfl
def f_X7_addUnlike_2_lp (o : Nat)  (n : Nat) (v : Int32 × Int32 × zHp) : Option (Int32 × zHp) := zlp (fun k2 v => f_X7_addUnlike_2 o k2 v.1 v.2.1 v.2.2) n v
theorem f_X7_addUnlike_2_ls (o : Nat) (ho : o ∈ xRow) (n : Nat) (v : Int32 × Int32 × zHp) : Sim wX mX7_addUnlike 1 rI 2 [(0, .ref o), (1, .int v.1), (2, .int v.2.1)] [] v.2.2 (f_X7_addUnlike_2_lp o n v) :=
  Sim.lp (V := Int32 × Int32 × zHp) (Lf := fun v => [(0, .ref o), (1, .int v.1), (2, .int v.2.1)]) (sf := fun v => []) (hf := fun v => v.2.2) (fun k2 H2 v => f_X7_addUnlike_2_s o ho k2 H2 v.1 v.2.1 v.2.2) n v
def f_X7_addUnlike (o : Nat) (a1 : Int32) (h : zHp) : Option (Int32 × zHp) := f_X7_addUnlike_2_lp o zN (a1, (0 : Int32), h)
set_option maxHeartbeats 4000000 in
set_option maxRecDepth 100000 in
theorem s_X7_addUnlike (o : Nat) (ho : o ∈ xRow) (a1 : Int32) (h : zHp) : Fn wX mX7_addUnlike 1 rI [.ref o, .int a1] h (f_X7_addUnlike o a1 h) := by
  refine Fn.of rfl (Nat.le_of_ble_eq_true rfl) ?_
  unfold f_X7_addUnlike
  refine Sim.iconst (v := (0 : Int32)) dX7_addUnlike_0 rfl ?_
  refine Sim.istore_n (L' := [(2, .int (0 : Int32)), (0, .ref o), (1, .int a1)]) dX7_addUnlike_1 (Nat.le_of_ble_eq_true rfl) rfl ?_
  refine Sim.locs [1, 2, 0] rfl ?_
  exact f_X7_addUnlike_2_ls o ho zN (a1, (0 : Int32), h)
theorem mv_X7_addUnlike : zMV mX7_addUnlike 1 := ⟨⟨zTb_in 1096 (by decide +kernel) rfl, zTb_in 143 (by decide +kernel) rfl, ⟨by decide +kernel, by decide +kernel⟩, by decide +kernel⟩, zTb_in 1094 (by decide +kernel) rfl, zTb_in 1095 (by decide +kernel) rfl⟩
-- ===== RockingPorch$Row.greatest()I
abbrev mX7_greatest : zMt := (yX7_greatest, cX7_greatest, 3, some .int)
theorem ml_X7_23 : Cond.methodLink RX7 23 Lib.Math.max.name ∈ zTb := zTb_in 1163 (by decide +kernel) rfl
theorem dX7_greatest_0 : decode cX7_greatest 0 = .ok (.iconst 0, 1) := by decide +kernel
theorem dX7_greatest_1 : decode cX7_greatest 1 = .ok (.istore_n 1, 1) := by decide +kernel
theorem dX7_greatest_2 : decode cX7_greatest 2 = .ok (.iconst 0, 1) := by decide +kernel
theorem dX7_greatest_3 : decode cX7_greatest 3 = .ok (.istore_n 2, 1) := by decide +kernel
theorem dX7_greatest_4 : decode cX7_greatest 4 = .ok (.iload_n 2, 1) := by decide +kernel
theorem dX7_greatest_5 : decode cX7_greatest 5 = .ok (.aload_n 0, 1) := by decide +kernel
theorem dX7_greatest_6 : decode cX7_greatest 6 = .ok (.getfield 9, 3) := by decide +kernel
theorem dX7_greatest_9 : decode cX7_greatest 9 = .ok (.if_icmp .ge 29, 3) := by decide +kernel
theorem dX7_greatest_12 : decode cX7_greatest 12 = .ok (.iload_n 2, 1) := by decide +kernel
theorem dX7_greatest_13 : decode cX7_greatest 13 = .ok (.aload_n 0, 1) := by decide +kernel
theorem dX7_greatest_14 : decode cX7_greatest 14 = .ok (.getfield 15, 3) := by decide +kernel
theorem dX7_greatest_17 : decode cX7_greatest 17 = .ok (.arraylength, 1) := by decide +kernel
theorem dX7_greatest_18 : decode cX7_greatest 18 = .ok (.if_icmp .ge 20, 3) := by decide +kernel
theorem dX7_greatest_21 : decode cX7_greatest 21 = .ok (.iload_n 1, 1) := by decide +kernel
theorem dX7_greatest_22 : decode cX7_greatest 22 = .ok (.aload_n 0, 1) := by decide +kernel
theorem dX7_greatest_23 : decode cX7_greatest 23 = .ok (.getfield 15, 3) := by decide +kernel
theorem dX7_greatest_26 : decode cX7_greatest 26 = .ok (.iload_n 2, 1) := by decide +kernel
theorem dX7_greatest_27 : decode cX7_greatest 27 = .ok (.iaload, 1) := by decide +kernel
theorem dX7_greatest_28 : decode cX7_greatest 28 = .ok (.invokestatic 23, 3) := by decide +kernel
theorem dX7_greatest_31 : decode cX7_greatest 31 = .ok (.istore_n 1, 1) := by decide +kernel
theorem dX7_greatest_32 : decode cX7_greatest 32 = .ok (.iinc 2 1, 3) := by decide +kernel
theorem dX7_greatest_35 : decode cX7_greatest 35 = .ok (.goto (-31), 3) := by decide +kernel
theorem dX7_greatest_38 : decode cX7_greatest 38 = .ok (.iload_n 1, 1) := by decide +kernel
theorem dX7_greatest_39 : decode cX7_greatest 39 = .ok (.ireturn, 1) := by decide +kernel
def f_X7_greatest_4 (o : Nat) (k4 : Int32 × Int32 × zHp → Option (Int32 × zHp)) (v1 : Int32) (v2 : Int32) (h : zHp) : Option (Int32 × zHp) := (if v2 < (h o 1) then (if v2 < (Int32.ofNat (zln wX (o + 1))) then zix v2 (zln wX (o + 1)) (zlt (if v1 < (h (o + 1) v2.toNatClampNeg) then (h (o + 1) v2.toNatClampNeg) else v1) fun x1 => k4 (x1, (v2 + (1 : Int32)), h)) else some (v1, h)) else some (v1, h))
set_option maxHeartbeats 4000000 in
set_option maxRecDepth 100000 in
theorem f_X7_greatest_4_s (o : Nat) (ho : o ∈ xRow) (k4 : Int32 × Int32 × zHp → Option (Int32 × zHp)) (H4 : ∀ v : Int32 × Int32 × zHp, Sim wX mX7_greatest 1 rI 4 [(0, .ref o), (1, .int v.1), (2, .int v.2.1)] [] v.2.2 (k4 v)) (v1 : Int32) (v2 : Int32) (h : zHp) : Sim wX mX7_greatest 1 rI 4 [(0, .ref o), (1, .int v1), (2, .int v2)] [] h (f_X7_greatest_4 o k4 v1 v2 h) := by
  unfold f_X7_greatest_4
  refine Sim.iload_n 2 dX7_greatest_4 rfl ?_
  refine Sim.aload_n 0 dX7_greatest_5 rfl ?_
  refine Sim.getI fl_X7_9 dX7_greatest_6 (xI_X7_1 _ ho) ?_
  refine Sim.icmp_ge 38 dX7_greatest_9 rfl ?_ ?_
  · refine Sim.iload_n 2 dX7_greatest_12 rfl ?_
    refine Sim.aload_n 0 dX7_greatest_13 rfl ?_
    refine Sim.getR (j := (o + 1)) fl_X7_15 dX7_greatest_14 (xR_X7_0 _ ho) ?_
    refine Sim.alen (n := (zln wX (o + 1))) dX7_greatest_17 (xA_X7_0 _ ho) ?_
    refine Sim.icmp_ge 38 dX7_greatest_18 rfl ?_ ?_
    · refine Sim.iload_n 1 dX7_greatest_21 rfl ?_
      refine Sim.aload_n 0 dX7_greatest_22 rfl ?_
      refine Sim.getR (j := (o + 1)) fl_X7_15 dX7_greatest_23 (xR_X7_0 _ ho) ?_
      refine Sim.iload_n 2 dX7_greatest_26 rfl ?_
      refine Sim.iald (n := (zln wX (o + 1))) dX7_greatest_27 (xA_X7_0 _ ho) ?_
      refine Sim.mmax dX7_greatest_28 ml_X7_23 ms_max ms_Math mc_max (Nat.le_of_ble_eq_true rfl) (Nat.le_of_ble_eq_true rfl) ?_
      refine Sim.lti (fun x1 => ?_)
      refine Sim.istore_n (L' := [(1, .int x1), (0, .ref o), (2, .int v2)]) dX7_greatest_31 (Nat.le_of_ble_eq_true rfl) rfl ?_
      refine Sim.iinc (L' := [(2, .int (v2 + (1 : Int32))), (1, .int x1), (0, .ref o)]) 2 dX7_greatest_32 rfl rfl (Nat.le_of_ble_eq_true rfl) rfl ?_
      refine Sim.goto 4 dX7_greatest_35 rfl ?_
      refine Sim.locs [2, 1, 0] rfl ?_
      exact H4 (x1, (v2 + (1 : Int32)), h)
    · refine Sim.iload_n 1 dX7_greatest_38 rfl ?_
      exact Sim.iret dX7_greatest_39 rfl
  · refine Sim.iload_n 1 dX7_greatest_38 rfl ?_
    exact Sim.iret dX7_greatest_39 rfl
def f_X7_greatest_4_lp (o : Nat)  (n : Nat) (v : Int32 × Int32 × zHp) : Option (Int32 × zHp) := zlp (fun k4 v => f_X7_greatest_4 o k4 v.1 v.2.1 v.2.2) n v
theorem f_X7_greatest_4_ls (o : Nat) (ho : o ∈ xRow) (n : Nat) (v : Int32 × Int32 × zHp) : Sim wX mX7_greatest 1 rI 4 [(0, .ref o), (1, .int v.1), (2, .int v.2.1)] [] v.2.2 (f_X7_greatest_4_lp o n v) :=
  Sim.lp (V := Int32 × Int32 × zHp) (Lf := fun v => [(0, .ref o), (1, .int v.1), (2, .int v.2.1)]) (sf := fun v => []) (hf := fun v => v.2.2) (fun k4 H4 v => f_X7_greatest_4_s o ho k4 H4 v.1 v.2.1 v.2.2) n v
def f_X7_greatest (o : Nat)  (h : zHp) : Option (Int32 × zHp) := f_X7_greatest_4_lp o zN ((0 : Int32), (0 : Int32), h)
set_option maxHeartbeats 4000000 in
set_option maxRecDepth 100000 in
theorem s_X7_greatest (o : Nat) (ho : o ∈ xRow)  (h : zHp) : Fn wX mX7_greatest 1 rI [.ref o] h (f_X7_greatest o h) := by
  refine Fn.of rfl (Nat.le_of_ble_eq_true rfl) ?_
  unfold f_X7_greatest
  refine Sim.iconst (v := (0 : Int32)) dX7_greatest_0 rfl ?_
  refine Sim.istore_n (L' := [(1, .int (0 : Int32)), (0, .ref o)]) dX7_greatest_1 (Nat.le_of_ble_eq_true rfl) rfl ?_
  refine Sim.iconst (v := (0 : Int32)) dX7_greatest_2 rfl ?_
  refine Sim.istore_n (L' := [(2, .int (0 : Int32)), (1, .int (0 : Int32)), (0, .ref o)]) dX7_greatest_3 (Nat.le_of_ble_eq_true rfl) rfl ?_
  refine Sim.locs [2, 1, 0] rfl ?_
  exact f_X7_greatest_4_ls o ho zN ((0 : Int32), (0 : Int32), h)
theorem mv_X7_greatest : zMV mX7_greatest 0 := ⟨⟨zTb_in 1162 (by decide +kernel) rfl, zTb_in 143 (by decide +kernel) rfl, ⟨by decide +kernel, by decide +kernel⟩, by decide +kernel⟩, zTb_in 1160 (by decide +kernel) rfl, zTb_in 1161 (by decide +kernel) rfl⟩
-- ===== RockingPorch$Row.copyFrom(LRockingPorch$Row;)V
abbrev mX7_copyFrom : zMt := (yX7_copyFrom, cX7_copyFrom, 2, none)
theorem ml_X7_29 : Cond.methodLink RX7 29 arraycopyName ∈ zTb := zTb_in 1277 (by decide +kernel) rfl
theorem dX7_copyFrom_0 : decode cX7_copyFrom 0 = .ok (.aload_n 1, 1) := by decide +kernel
theorem dX7_copyFrom_1 : decode cX7_copyFrom 1 = .ok (.getfield 15, 3) := by decide +kernel
theorem dX7_copyFrom_4 : decode cX7_copyFrom 4 = .ok (.arraylength, 1) := by decide +kernel
theorem dX7_copyFrom_5 : decode cX7_copyFrom 5 = .ok (.aload_n 0, 1) := by decide +kernel
theorem dX7_copyFrom_6 : decode cX7_copyFrom 6 = .ok (.getfield 15, 3) := by decide +kernel
theorem dX7_copyFrom_9 : decode cX7_copyFrom 9 = .ok (.arraylength, 1) := by decide +kernel
theorem dX7_copyFrom_10 : decode cX7_copyFrom 10 = .ok (.if_icmp .ne 29, 3) := by decide +kernel
theorem dX7_copyFrom_13 : decode cX7_copyFrom 13 = .ok (.aload_n 1, 1) := by decide +kernel
theorem dX7_copyFrom_14 : decode cX7_copyFrom 14 = .ok (.getfield 15, 3) := by decide +kernel
theorem dX7_copyFrom_17 : decode cX7_copyFrom 17 = .ok (.iconst 0, 1) := by decide +kernel
theorem dX7_copyFrom_18 : decode cX7_copyFrom 18 = .ok (.aload_n 0, 1) := by decide +kernel
theorem dX7_copyFrom_19 : decode cX7_copyFrom 19 = .ok (.getfield 15, 3) := by decide +kernel
theorem dX7_copyFrom_22 : decode cX7_copyFrom 22 = .ok (.iconst 0, 1) := by decide +kernel
theorem dX7_copyFrom_23 : decode cX7_copyFrom 23 = .ok (.aload_n 0, 1) := by decide +kernel
theorem dX7_copyFrom_24 : decode cX7_copyFrom 24 = .ok (.getfield 15, 3) := by decide +kernel
theorem dX7_copyFrom_27 : decode cX7_copyFrom 27 = .ok (.arraylength, 1) := by decide +kernel
theorem dX7_copyFrom_28 : decode cX7_copyFrom 28 = .ok (.invokestatic 29, 3) := by decide +kernel
theorem dX7_copyFrom_31 : decode cX7_copyFrom 31 = .ok (.aload_n 0, 1) := by decide +kernel
theorem dX7_copyFrom_32 : decode cX7_copyFrom 32 = .ok (.aload_n 1, 1) := by decide +kernel
theorem dX7_copyFrom_33 : decode cX7_copyFrom 33 = .ok (.getfield 9, 3) := by decide +kernel
theorem dX7_copyFrom_36 : decode cX7_copyFrom 36 = .ok (.putfield 9, 3) := by decide +kernel
theorem dX7_copyFrom_39 : decode cX7_copyFrom 39 = .ok (.return_, 1) := by decide +kernel
def f_X7_copyFrom (o : Nat) (b1 : Nat)  (h : zHp) : Option (zHp) := (if (Int32.ofNat (zln wX (b1 + 1))) = (Int32.ofNat (zln wX (o + 1))) then zac (0 : Int32) (0 : Int32) (Int32.ofNat (zln wX (o + 1))) (zln wX (b1 + 1)) (zln wX (o + 1)) (zlt (zcp h (b1 + 1) (0 : Int32).toNatClampNeg (o + 1) (0 : Int32).toNatClampNeg (Int32.ofNat (zln wX (o + 1))).toNatClampNeg) fun h1 => zlt (zst h1 o 1 (h1 b1 1)) fun h2 => some h2) else some h)
set_option maxHeartbeats 4000000 in
set_option maxRecDepth 100000 in
theorem s_X7_copyFrom (o : Nat) (ho : o ∈ xRow) (b1 : Nat) (hb1 : b1 ∈ xRow)  (h : zHp) : Fn wX mX7_copyFrom 1 rV [.ref o, .ref b1] h (f_X7_copyFrom o b1 h) := by
  refine Fn.of rfl (Nat.le_of_ble_eq_true rfl) ?_
  unfold f_X7_copyFrom
  refine Sim.aload_n 1 dX7_copyFrom_0 rfl ?_
  refine Sim.getR (j := (b1 + 1)) fl_X7_15 dX7_copyFrom_1 (xR_X7_0 _ hb1) ?_
  refine Sim.alen (n := (zln wX (b1 + 1))) dX7_copyFrom_4 (xA_X7_0 _ hb1) ?_
  refine Sim.aload_n 0 dX7_copyFrom_5 rfl ?_
  refine Sim.getR (j := (o + 1)) fl_X7_15 dX7_copyFrom_6 (xR_X7_0 _ ho) ?_
  refine Sim.alen (n := (zln wX (o + 1))) dX7_copyFrom_9 (xA_X7_0 _ ho) ?_
  refine Sim.icmp_ne 39 dX7_copyFrom_10 rfl ?_ ?_
  · refine Sim.aload_n 1 dX7_copyFrom_13 rfl ?_
    refine Sim.getR (j := (b1 + 1)) fl_X7_15 dX7_copyFrom_14 (xR_X7_0 _ hb1) ?_
    refine Sim.iconst (v := (0 : Int32)) dX7_copyFrom_17 rfl ?_
    refine Sim.aload_n 0 dX7_copyFrom_18 rfl ?_
    refine Sim.getR (j := (o + 1)) fl_X7_15 dX7_copyFrom_19 (xR_X7_0 _ ho) ?_
    refine Sim.iconst (v := (0 : Int32)) dX7_copyFrom_22 rfl ?_
    refine Sim.aload_n 0 dX7_copyFrom_23 rfl ?_
    refine Sim.getR (j := (o + 1)) fl_X7_15 dX7_copyFrom_24 (xR_X7_0 _ ho) ?_
    refine Sim.alen (n := (zln wX (o + 1))) dX7_copyFrom_27 (xA_X7_0 _ ho) ?_
    refine Sim.acpy (n0 := (zln wX (b1 + 1))) (n1 := (zln wX (o + 1))) dX7_copyFrom_28 ml_X7_29 ac_n ac_s ac_i (xA_X7_0 _ hb1) (xA_X7_0 _ ho) (Nat.le_of_ble_eq_true rfl) (Nat.le_of_ble_eq_true rfl) ?_
    refine Sim.lth (fun h1 => ?_)
    refine Sim.aload_n 0 dX7_copyFrom_31 rfl ?_
    refine Sim.aload_n 1 dX7_copyFrom_32 rfl ?_
    refine Sim.getI fl_X7_9 dX7_copyFrom_33 (xI_X7_1 _ hb1) ?_
    refine Sim.put fp_X7_9 dX7_copyFrom_36 (xI_X7_1 _ ho) rfl rfl ?_
    refine Sim.lth (fun h2 => ?_)
    exact Sim.vret dX7_copyFrom_39 rfl
  · exact Sim.vret dX7_copyFrom_39 rfl
theorem mv_X7_copyFrom : zMV mX7_copyFrom 1 := ⟨⟨zTb_in 1276 (by decide +kernel) rfl, zTb_in 143 (by decide +kernel) rfl, ⟨by decide +kernel, by decide +kernel⟩, by decide +kernel⟩, zTb_in 1274 (by decide +kernel) rfl, zTb_in 1275 (by decide +kernel) rfl⟩
-- ===== RockingPorch$Told.pair(II)I
abbrev mX8_pair : zMt := (yX8_pair, cX8_pair, 2, some .int)
theorem dX8_pair_0 : decode cX8_pair 0 = .ok (.iload_n 0, 1) := by decide +kernel
theorem dX8_pair_1 : decode cX8_pair 1 = .ok (.bipush 32, 2) := by decide +kernel
theorem dX8_pair_3 : decode cX8_pair 3 = .ok (.imul, 1) := by decide +kernel
theorem dX8_pair_4 : decode cX8_pair 4 = .ok (.iload_n 1, 1) := by decide +kernel
theorem dX8_pair_5 : decode cX8_pair 5 = .ok (.iadd, 1) := by decide +kernel
theorem dX8_pair_6 : decode cX8_pair 6 = .ok (.ireturn, 1) := by decide +kernel
def f_X8_pair  (a1 : Int32) (a2 : Int32) (h : zHp) : Option (Int32 × zHp) := some (((a1 * (32 : Int32)) + a2), h)
set_option maxHeartbeats 4000000 in
set_option maxRecDepth 100000 in
theorem s_X8_pair  (a1 : Int32) (a2 : Int32) (h : zHp) : Fn wX mX8_pair 0 rI [.int a1, .int a2] h (f_X8_pair a1 a2 h) := by
  refine Fn.of rfl (Nat.le_of_ble_eq_true rfl) ?_
  unfold f_X8_pair
  refine Sim.iload_n 0 dX8_pair_0 rfl ?_
  refine Sim.bipush (v := (32 : Int32)) dX8_pair_1 rfl ?_
  refine Sim.imul dX8_pair_3 ?_
  refine Sim.iload_n 1 dX8_pair_4 rfl ?_
  refine Sim.iadd dX8_pair_5 ?_
  exact Sim.iret dX8_pair_6 rfl
theorem mv_X8_pair : zMS mX8_pair 2 := ⟨⟨zTb_in 1042 (by decide +kernel) rfl, zTb_in 142 (by decide +kernel) rfl, ⟨by decide +kernel, by decide +kernel⟩, by decide +kernel⟩, zTb_in 1041 (by decide +kernel) rfl⟩
-- ===== RockingPorch$Told.copyFrom(LRockingPorch$Told;)V
abbrev mX8_copyFrom : zMt := (yX8_copyFrom, cX8_copyFrom, 2, none)
theorem fl_X8_14 : zF RX8 14 8 0 := ⟨RX8, TX8, 7, rfl, Nat.le_of_ble_eq_true rfl, zTb_in 324 (by decide +kernel) rfl, in_X8⟩
theorem fl_X8_20 : zF RX8 20 8 1 := ⟨RX8, TX8, 7, rfl, Nat.le_of_ble_eq_true rfl, zTb_in 327 (by decide +kernel) rfl, in_X8⟩
theorem fl_X8_23 : zF RX8 23 8 2 := ⟨RX8, TX8, 7, rfl, Nat.le_of_ble_eq_true rfl, zTb_in 330 (by decide +kernel) rfl, in_X8⟩
theorem fl_X8_26 : zF RX8 26 8 3 := ⟨RX8, TX8, 7, rfl, Nat.le_of_ble_eq_true rfl, zTb_in 333 (by decide +kernel) rfl, in_X8⟩
theorem fl_X8_29 : zF RX8 29 8 4 := ⟨RX8, TX8, 7, rfl, Nat.le_of_ble_eq_true rfl, zTb_in 336 (by decide +kernel) rfl, in_X8⟩
theorem fl_X8_32 : zF RX8 32 8 5 := ⟨RX8, TX8, 7, rfl, Nat.le_of_ble_eq_true rfl, zTb_in 339 (by decide +kernel) rfl, in_X8⟩
theorem fl_X8_35 : zF RX8 35 8 6 := ⟨RX8, TX8, 7, rfl, Nat.le_of_ble_eq_true rfl, zTb_in 342 (by decide +kernel) rfl, in_X8⟩
theorem ml_X8_39 : Cond.methodLink RX8 39 yX7_copyFrom ∈ zTb := zTb_in 1273 (by decide +kernel) rfl
theorem ml_X8_43 : Cond.methodLink RX8 43 arraycopyName ∈ zTb := zTb_in 1278 (by decide +kernel) rfl
theorem dX8_copyFrom_0 : decode cX8_copyFrom 0 = .ok (.aload_n 0, 1) := by decide +kernel
theorem dX8_copyFrom_1 : decode cX8_copyFrom 1 = .ok (.getfield 14, 3) := by decide +kernel
theorem dX8_copyFrom_4 : decode cX8_copyFrom 4 = .ok (.aload_n 1, 1) := by decide +kernel
theorem dX8_copyFrom_5 : decode cX8_copyFrom 5 = .ok (.getfield 14, 3) := by decide +kernel
theorem dX8_copyFrom_8 : decode cX8_copyFrom 8 = .ok (.invokevirtual 39, 3) := by decide +kernel
theorem dX8_copyFrom_11 : decode cX8_copyFrom 11 = .ok (.aload_n 0, 1) := by decide +kernel
theorem dX8_copyFrom_12 : decode cX8_copyFrom 12 = .ok (.getfield 20, 3) := by decide +kernel
theorem dX8_copyFrom_15 : decode cX8_copyFrom 15 = .ok (.aload_n 1, 1) := by decide +kernel
theorem dX8_copyFrom_16 : decode cX8_copyFrom 16 = .ok (.getfield 20, 3) := by decide +kernel
theorem dX8_copyFrom_19 : decode cX8_copyFrom 19 = .ok (.invokevirtual 39, 3) := by decide +kernel
theorem dX8_copyFrom_22 : decode cX8_copyFrom 22 = .ok (.aload_n 0, 1) := by decide +kernel
theorem dX8_copyFrom_23 : decode cX8_copyFrom 23 = .ok (.getfield 23, 3) := by decide +kernel
theorem dX8_copyFrom_26 : decode cX8_copyFrom 26 = .ok (.aload_n 1, 1) := by decide +kernel
theorem dX8_copyFrom_27 : decode cX8_copyFrom 27 = .ok (.getfield 23, 3) := by decide +kernel
theorem dX8_copyFrom_30 : decode cX8_copyFrom 30 = .ok (.invokevirtual 39, 3) := by decide +kernel
theorem dX8_copyFrom_33 : decode cX8_copyFrom 33 = .ok (.aload_n 0, 1) := by decide +kernel
theorem dX8_copyFrom_34 : decode cX8_copyFrom 34 = .ok (.getfield 26, 3) := by decide +kernel
theorem dX8_copyFrom_37 : decode cX8_copyFrom 37 = .ok (.aload_n 1, 1) := by decide +kernel
theorem dX8_copyFrom_38 : decode cX8_copyFrom 38 = .ok (.getfield 26, 3) := by decide +kernel
theorem dX8_copyFrom_41 : decode cX8_copyFrom 41 = .ok (.invokevirtual 39, 3) := by decide +kernel
theorem dX8_copyFrom_44 : decode cX8_copyFrom 44 = .ok (.aload_n 0, 1) := by decide +kernel
theorem dX8_copyFrom_45 : decode cX8_copyFrom 45 = .ok (.getfield 29, 3) := by decide +kernel
theorem dX8_copyFrom_48 : decode cX8_copyFrom 48 = .ok (.aload_n 1, 1) := by decide +kernel
theorem dX8_copyFrom_49 : decode cX8_copyFrom 49 = .ok (.getfield 29, 3) := by decide +kernel
theorem dX8_copyFrom_52 : decode cX8_copyFrom 52 = .ok (.invokevirtual 39, 3) := by decide +kernel
theorem dX8_copyFrom_55 : decode cX8_copyFrom 55 = .ok (.aload_n 0, 1) := by decide +kernel
theorem dX8_copyFrom_56 : decode cX8_copyFrom 56 = .ok (.getfield 32, 3) := by decide +kernel
theorem dX8_copyFrom_59 : decode cX8_copyFrom 59 = .ok (.aload_n 1, 1) := by decide +kernel
theorem dX8_copyFrom_60 : decode cX8_copyFrom 60 = .ok (.getfield 32, 3) := by decide +kernel
theorem dX8_copyFrom_63 : decode cX8_copyFrom 63 = .ok (.invokevirtual 39, 3) := by decide +kernel
theorem dX8_copyFrom_66 : decode cX8_copyFrom 66 = .ok (.aload_n 1, 1) := by decide +kernel
theorem dX8_copyFrom_67 : decode cX8_copyFrom 67 = .ok (.getfield 35, 3) := by decide +kernel
theorem dX8_copyFrom_70 : decode cX8_copyFrom 70 = .ok (.iconst 0, 1) := by decide +kernel
theorem dX8_copyFrom_71 : decode cX8_copyFrom 71 = .ok (.aload_n 0, 1) := by decide +kernel
theorem dX8_copyFrom_72 : decode cX8_copyFrom 72 = .ok (.getfield 35, 3) := by decide +kernel
theorem dX8_copyFrom_75 : decode cX8_copyFrom 75 = .ok (.iconst 0, 1) := by decide +kernel
theorem dX8_copyFrom_76 : decode cX8_copyFrom 76 = .ok (.aload_n 0, 1) := by decide +kernel
theorem dX8_copyFrom_77 : decode cX8_copyFrom 77 = .ok (.getfield 35, 3) := by decide +kernel
theorem dX8_copyFrom_80 : decode cX8_copyFrom 80 = .ok (.arraylength, 1) := by decide +kernel
theorem dX8_copyFrom_81 : decode cX8_copyFrom 81 = .ok (.invokestatic 43, 3) := by decide +kernel
theorem dX8_copyFrom_84 : decode cX8_copyFrom 84 = .ok (.return_, 1) := by decide +kernel
def f_X8_copyFrom (o : Nat) (b1 : Nat)  (h : zHp) : Option (zHp) := (f_X7_copyFrom (o + 1) (b1 + 1) h).bind fun x1 => (f_X7_copyFrom (o + 3) (b1 + 3) x1).bind fun x2 => (f_X7_copyFrom (o + 5) (b1 + 5) x2).bind fun x3 => (f_X7_copyFrom (o + 7) (b1 + 7) x3).bind fun x4 => (f_X7_copyFrom (o + 9) (b1 + 9) x4).bind fun x5 => (f_X7_copyFrom (o + 11) (b1 + 11) x5).bind fun x6 => zac (0 : Int32) (0 : Int32) (Int32.ofNat 36) 36 36 (zlt (zcp x6 (b1 + 13) (0 : Int32).toNatClampNeg (o + 13) (0 : Int32).toNatClampNeg (Int32.ofNat 36).toNatClampNeg) fun h7 => some h7)
set_option maxHeartbeats 4000000 in
set_option maxRecDepth 100000 in
theorem s_X8_copyFrom (o : Nat) (ho : o ∈ xTold) (b1 : Nat) (hb1 : b1 ∈ xTold)  (h : zHp) : Fn wX mX8_copyFrom 2 rV [.ref o, .ref b1] h (f_X8_copyFrom o b1 h) := by
  refine Fn.of rfl (Nat.le_of_ble_eq_true rfl) ?_
  unfold f_X8_copyFrom
  refine Sim.aload_n 0 dX8_copyFrom_0 rfl ?_
  refine Sim.getR (j := (o + 1)) fl_X8_14 dX8_copyFrom_1 (xR_X8_0 _ ho) ?_
  refine Sim.aload_n 1 dX8_copyFrom_4 rfl ?_
  refine Sim.getR (j := (b1 + 1)) fl_X8_14 dX8_copyFrom_5 (xR_X8_0 _ hb1) ?_
  refine Sim.callV1U (d1 := 1) (s_X7_copyFrom (o + 1) (xC_X8_0 _ ho) (b1 + 1) (xC_X8_0 _ hb1) h) dX8_copyFrom_8 ml_X8_39 mv_X7_copyFrom (xOC_X7 _ (xC_X8_0 _ ho)) (Nat.le_of_ble_eq_true rfl) (Nat.le_of_ble_eq_true rfl) (Nat.le_of_ble_eq_true rfl) (fun x1 => ?_)
  refine Sim.aload_n 0 dX8_copyFrom_11 rfl ?_
  refine Sim.getR (j := (o + 3)) fl_X8_20 dX8_copyFrom_12 (xR_X8_1 _ ho) ?_
  refine Sim.aload_n 1 dX8_copyFrom_15 rfl ?_
  refine Sim.getR (j := (b1 + 3)) fl_X8_20 dX8_copyFrom_16 (xR_X8_1 _ hb1) ?_
  refine Sim.callV1U (d1 := 1) (s_X7_copyFrom (o + 3) (xC_X8_1 _ ho) (b1 + 3) (xC_X8_1 _ hb1) x1) dX8_copyFrom_19 ml_X8_39 mv_X7_copyFrom (xOC_X7 _ (xC_X8_1 _ ho)) (Nat.le_of_ble_eq_true rfl) (Nat.le_of_ble_eq_true rfl) (Nat.le_of_ble_eq_true rfl) (fun x2 => ?_)
  refine Sim.aload_n 0 dX8_copyFrom_22 rfl ?_
  refine Sim.getR (j := (o + 5)) fl_X8_23 dX8_copyFrom_23 (xR_X8_2 _ ho) ?_
  refine Sim.aload_n 1 dX8_copyFrom_26 rfl ?_
  refine Sim.getR (j := (b1 + 5)) fl_X8_23 dX8_copyFrom_27 (xR_X8_2 _ hb1) ?_
  refine Sim.callV1U (d1 := 1) (s_X7_copyFrom (o + 5) (xC_X8_2 _ ho) (b1 + 5) (xC_X8_2 _ hb1) x2) dX8_copyFrom_30 ml_X8_39 mv_X7_copyFrom (xOC_X7 _ (xC_X8_2 _ ho)) (Nat.le_of_ble_eq_true rfl) (Nat.le_of_ble_eq_true rfl) (Nat.le_of_ble_eq_true rfl) (fun x3 => ?_)
  refine Sim.aload_n 0 dX8_copyFrom_33 rfl ?_
  refine Sim.getR (j := (o + 7)) fl_X8_26 dX8_copyFrom_34 (xR_X8_3 _ ho) ?_
  refine Sim.aload_n 1 dX8_copyFrom_37 rfl ?_
  refine Sim.getR (j := (b1 + 7)) fl_X8_26 dX8_copyFrom_38 (xR_X8_3 _ hb1) ?_
  refine Sim.callV1U (d1 := 1) (s_X7_copyFrom (o + 7) (xC_X8_3 _ ho) (b1 + 7) (xC_X8_3 _ hb1) x3) dX8_copyFrom_41 ml_X8_39 mv_X7_copyFrom (xOC_X7 _ (xC_X8_3 _ ho)) (Nat.le_of_ble_eq_true rfl) (Nat.le_of_ble_eq_true rfl) (Nat.le_of_ble_eq_true rfl) (fun x4 => ?_)
  refine Sim.aload_n 0 dX8_copyFrom_44 rfl ?_
  refine Sim.getR (j := (o + 9)) fl_X8_29 dX8_copyFrom_45 (xR_X8_4 _ ho) ?_
  refine Sim.aload_n 1 dX8_copyFrom_48 rfl ?_
  refine Sim.getR (j := (b1 + 9)) fl_X8_29 dX8_copyFrom_49 (xR_X8_4 _ hb1) ?_
  refine Sim.callV1U (d1 := 1) (s_X7_copyFrom (o + 9) (xC_X8_4 _ ho) (b1 + 9) (xC_X8_4 _ hb1) x4) dX8_copyFrom_52 ml_X8_39 mv_X7_copyFrom (xOC_X7 _ (xC_X8_4 _ ho)) (Nat.le_of_ble_eq_true rfl) (Nat.le_of_ble_eq_true rfl) (Nat.le_of_ble_eq_true rfl) (fun x5 => ?_)
  refine Sim.aload_n 0 dX8_copyFrom_55 rfl ?_
  refine Sim.getR (j := (o + 11)) fl_X8_32 dX8_copyFrom_56 (xR_X8_5 _ ho) ?_
  refine Sim.aload_n 1 dX8_copyFrom_59 rfl ?_
  refine Sim.getR (j := (b1 + 11)) fl_X8_32 dX8_copyFrom_60 (xR_X8_5 _ hb1) ?_
  refine Sim.callV1U (d1 := 1) (s_X7_copyFrom (o + 11) (xC_X8_5 _ ho) (b1 + 11) (xC_X8_5 _ hb1) x5) dX8_copyFrom_63 ml_X8_39 mv_X7_copyFrom (xOC_X7 _ (xC_X8_5 _ ho)) (Nat.le_of_ble_eq_true rfl) (Nat.le_of_ble_eq_true rfl) (Nat.le_of_ble_eq_true rfl) (fun x6 => ?_)
  refine Sim.aload_n 1 dX8_copyFrom_66 rfl ?_
  refine Sim.getR (j := (b1 + 13)) fl_X8_35 dX8_copyFrom_67 (xR_X8_6 _ hb1) ?_
  refine Sim.iconst (v := (0 : Int32)) dX8_copyFrom_70 rfl ?_
  refine Sim.aload_n 0 dX8_copyFrom_71 rfl ?_
  refine Sim.getR (j := (o + 13)) fl_X8_35 dX8_copyFrom_72 (xR_X8_6 _ ho) ?_
  refine Sim.iconst (v := (0 : Int32)) dX8_copyFrom_75 rfl ?_
  refine Sim.aload_n 0 dX8_copyFrom_76 rfl ?_
  refine Sim.getR (j := (o + 13)) fl_X8_35 dX8_copyFrom_77 (xR_X8_6 _ ho) ?_
  refine Sim.alen (n := 36) dX8_copyFrom_80 (xA_X8_6 _ ho) ?_
  refine Sim.acpy (n0 := 36) (n1 := 36) dX8_copyFrom_81 ml_X8_43 ac_n ac_s ac_i (xA_X8_6 _ hb1) (xA_X8_6 _ ho) (Nat.le_of_ble_eq_true rfl) (Nat.le_of_ble_eq_true rfl) ?_
  refine Sim.lth (fun h7 => ?_)
  exact Sim.vret dX8_copyFrom_84 rfl
theorem mv_X8_copyFrom : zMV mX8_copyFrom 1 := ⟨⟨zTb_in 1272 (by decide +kernel) rfl, zTb_in 142 (by decide +kernel) rfl, ⟨by decide +kernel, by decide +kernel⟩, by decide +kernel⟩, zTb_in 1270 (by decide +kernel) rfl, zTb_in 1271 (by decide +kernel) rfl⟩
-- ===== RockingPorch$Whole.copyFrom(LRockingPorch$Whole;)V
abbrev mX9_copyFrom : zMt := (yX9_copyFrom, cX9_copyFrom, 2, none)
theorem fl_X9_14 : zF RX9 14 9 0 := ⟨RX9, TX9, 7, rfl, Nat.le_of_ble_eq_true rfl, zTb_in 360 (by decide +kernel) rfl, in_X9⟩
theorem fl_X9_25 : zF RX9 25 9 1 := ⟨RX9, TX9, 7, rfl, Nat.le_of_ble_eq_true rfl, zTb_in 362 (by decide +kernel) rfl, in_X9⟩
theorem fl_X9_32 : zF RX9 32 9 2 := ⟨RX9, TX9, 7, rfl, Nat.le_of_ble_eq_true rfl, zTb_in 365 (by decide +kernel) rfl, in_X9⟩
theorem fl_X9_36 : zF RX9 36 9 3 := ⟨RX9, TX9, 7, rfl, Nat.le_of_ble_eq_true rfl, zTb_in 368 (by decide +kernel) rfl, in_X9⟩
theorem fl_X9_39 : zF RX9 39 9 4 := ⟨RX9, TX9, 7, rfl, Nat.le_of_ble_eq_true rfl, zTb_in 371 (by decide +kernel) rfl, in_X9⟩
theorem fl_X9_42 : zF RX9 42 9 5 := ⟨RX9, TX9, 7, rfl, Nat.le_of_ble_eq_true rfl, zTb_in 374 (by decide +kernel) rfl, in_X9⟩
theorem fl_X9_48 : zF RX9 48 9 6 := ⟨RX9, TX9, 7, rfl, Nat.le_of_ble_eq_true rfl, zTb_in 377 (by decide +kernel) rfl, in_X9⟩
theorem ml_X9_52 : Cond.methodLink RX9 52 yX4_copyFrom ∈ zTb := zTb_in 1268 (by decide +kernel) rfl
theorem ml_X9_56 : Cond.methodLink RX9 56 yX2_copyFrom ∈ zTb := zTb_in 983 (by decide +kernel) rfl
theorem ml_X9_59 : Cond.methodLink RX9 59 yX1_copyFrom ∈ zTb := zTb_in 978 (by decide +kernel) rfl
theorem ml_X9_62 : Cond.methodLink RX9 62 yX8_copyFrom ∈ zTb := zTb_in 1269 (by decide +kernel) rfl
theorem dX9_copyFrom_0 : decode cX9_copyFrom 0 = .ok (.aload_n 0, 1) := by decide +kernel
theorem dX9_copyFrom_1 : decode cX9_copyFrom 1 = .ok (.getfield 14, 3) := by decide +kernel
theorem dX9_copyFrom_4 : decode cX9_copyFrom 4 = .ok (.aload_n 1, 1) := by decide +kernel
theorem dX9_copyFrom_5 : decode cX9_copyFrom 5 = .ok (.getfield 14, 3) := by decide +kernel
theorem dX9_copyFrom_8 : decode cX9_copyFrom 8 = .ok (.invokevirtual 52, 3) := by decide +kernel
theorem dX9_copyFrom_11 : decode cX9_copyFrom 11 = .ok (.aload_n 0, 1) := by decide +kernel
theorem dX9_copyFrom_12 : decode cX9_copyFrom 12 = .ok (.getfield 25, 3) := by decide +kernel
theorem dX9_copyFrom_15 : decode cX9_copyFrom 15 = .ok (.aload_n 1, 1) := by decide +kernel
theorem dX9_copyFrom_16 : decode cX9_copyFrom 16 = .ok (.getfield 25, 3) := by decide +kernel
theorem dX9_copyFrom_19 : decode cX9_copyFrom 19 = .ok (.invokevirtual 56, 3) := by decide +kernel
theorem dX9_copyFrom_22 : decode cX9_copyFrom 22 = .ok (.aload_n 0, 1) := by decide +kernel
theorem dX9_copyFrom_23 : decode cX9_copyFrom 23 = .ok (.getfield 32, 3) := by decide +kernel
theorem dX9_copyFrom_26 : decode cX9_copyFrom 26 = .ok (.aload_n 1, 1) := by decide +kernel
theorem dX9_copyFrom_27 : decode cX9_copyFrom 27 = .ok (.getfield 32, 3) := by decide +kernel
theorem dX9_copyFrom_30 : decode cX9_copyFrom 30 = .ok (.invokevirtual 59, 3) := by decide +kernel
theorem dX9_copyFrom_33 : decode cX9_copyFrom 33 = .ok (.aload_n 0, 1) := by decide +kernel
theorem dX9_copyFrom_34 : decode cX9_copyFrom 34 = .ok (.getfield 36, 3) := by decide +kernel
theorem dX9_copyFrom_37 : decode cX9_copyFrom 37 = .ok (.aload_n 1, 1) := by decide +kernel
theorem dX9_copyFrom_38 : decode cX9_copyFrom 38 = .ok (.getfield 36, 3) := by decide +kernel
theorem dX9_copyFrom_41 : decode cX9_copyFrom 41 = .ok (.invokevirtual 56, 3) := by decide +kernel
theorem dX9_copyFrom_44 : decode cX9_copyFrom 44 = .ok (.aload_n 0, 1) := by decide +kernel
theorem dX9_copyFrom_45 : decode cX9_copyFrom 45 = .ok (.getfield 39, 3) := by decide +kernel
theorem dX9_copyFrom_48 : decode cX9_copyFrom 48 = .ok (.aload_n 1, 1) := by decide +kernel
theorem dX9_copyFrom_49 : decode cX9_copyFrom 49 = .ok (.getfield 39, 3) := by decide +kernel
theorem dX9_copyFrom_52 : decode cX9_copyFrom 52 = .ok (.invokevirtual 56, 3) := by decide +kernel
theorem dX9_copyFrom_55 : decode cX9_copyFrom 55 = .ok (.aload_n 0, 1) := by decide +kernel
theorem dX9_copyFrom_56 : decode cX9_copyFrom 56 = .ok (.getfield 42, 3) := by decide +kernel
theorem dX9_copyFrom_59 : decode cX9_copyFrom 59 = .ok (.aload_n 1, 1) := by decide +kernel
theorem dX9_copyFrom_60 : decode cX9_copyFrom 60 = .ok (.getfield 42, 3) := by decide +kernel
theorem dX9_copyFrom_63 : decode cX9_copyFrom 63 = .ok (.invokevirtual 56, 3) := by decide +kernel
theorem dX9_copyFrom_66 : decode cX9_copyFrom 66 = .ok (.aload_n 0, 1) := by decide +kernel
theorem dX9_copyFrom_67 : decode cX9_copyFrom 67 = .ok (.getfield 48, 3) := by decide +kernel
theorem dX9_copyFrom_70 : decode cX9_copyFrom 70 = .ok (.aload_n 1, 1) := by decide +kernel
theorem dX9_copyFrom_71 : decode cX9_copyFrom 71 = .ok (.getfield 48, 3) := by decide +kernel
theorem dX9_copyFrom_74 : decode cX9_copyFrom 74 = .ok (.invokevirtual 62, 3) := by decide +kernel
theorem dX9_copyFrom_77 : decode cX9_copyFrom 77 = .ok (.return_, 1) := by decide +kernel
def f_X9_copyFrom (o : Nat) (b1 : Nat)  (h : zHp) : Option (zHp) := (f_X4_copyFrom (o + 1) (b1 + 1) h).bind fun x1 => (f_X2_copyFrom (o + 10) (b1 + 10) x1).bind fun x2 => (f_X1_copyFrom (o + 12) (b1 + 12) x2).bind fun x3 => (f_X2_copyFrom (o + 19) (b1 + 19) x3).bind fun x4 => (f_X2_copyFrom (o + 21) (b1 + 21) x4).bind fun x5 => (f_X2_copyFrom (o + 23) (b1 + 23) x5).bind fun x6 => (f_X8_copyFrom (o + 25) (b1 + 25) x6).bind fun x7 => some x7
set_option maxHeartbeats 4000000 in
set_option maxRecDepth 100000 in
theorem s_X9_copyFrom (o : Nat) (ho : o ∈ xWhole) (b1 : Nat) (hb1 : b1 ∈ xWhole)  (h : zHp) : Fn wX mX9_copyFrom 3 rV [.ref o, .ref b1] h (f_X9_copyFrom o b1 h) := by
  refine Fn.of rfl (Nat.le_of_ble_eq_true rfl) ?_
  unfold f_X9_copyFrom
  refine Sim.aload_n 0 dX9_copyFrom_0 rfl ?_
  refine Sim.getR (j := (o + 1)) fl_X9_14 dX9_copyFrom_1 (xR_X9_0 _ ho) ?_
  refine Sim.aload_n 1 dX9_copyFrom_4 rfl ?_
  refine Sim.getR (j := (b1 + 1)) fl_X9_14 dX9_copyFrom_5 (xR_X9_0 _ hb1) ?_
  refine Sim.callV1U (d1 := 1) (s_X4_copyFrom (o + 1) (xC_X9_0 _ ho) (b1 + 1) (xC_X9_0 _ hb1) h) dX9_copyFrom_8 ml_X9_52 mv_X4_copyFrom (xOC_X4 _ (xC_X9_0 _ ho)) (Nat.le_of_ble_eq_true rfl) (Nat.le_of_ble_eq_true rfl) (Nat.le_of_ble_eq_true rfl) (fun x1 => ?_)
  refine Sim.aload_n 0 dX9_copyFrom_11 rfl ?_
  refine Sim.getR (j := (o + 10)) fl_X9_25 dX9_copyFrom_12 (xR_X9_1 _ ho) ?_
  refine Sim.aload_n 1 dX9_copyFrom_15 rfl ?_
  refine Sim.getR (j := (b1 + 10)) fl_X9_25 dX9_copyFrom_16 (xR_X9_1 _ hb1) ?_
  refine Sim.callV1U (d1 := 1) (s_X2_copyFrom (o + 10) (xC_X9_1 _ ho) (b1 + 10) (xC_X9_1 _ hb1) x1) dX9_copyFrom_19 ml_X9_56 mv_X2_copyFrom (xOC_X2 _ (xC_X9_1 _ ho)) (Nat.le_of_ble_eq_true rfl) (Nat.le_of_ble_eq_true rfl) (Nat.le_of_ble_eq_true rfl) (fun x2 => ?_)
  refine Sim.aload_n 0 dX9_copyFrom_22 rfl ?_
  refine Sim.getR (j := (o + 12)) fl_X9_32 dX9_copyFrom_23 (xR_X9_2 _ ho) ?_
  refine Sim.aload_n 1 dX9_copyFrom_26 rfl ?_
  refine Sim.getR (j := (b1 + 12)) fl_X9_32 dX9_copyFrom_27 (xR_X9_2 _ hb1) ?_
  refine Sim.callV1U (d1 := 1) (s_X1_copyFrom (o + 12) (xC_X9_2 _ ho) (b1 + 12) (xC_X9_2 _ hb1) x2) dX9_copyFrom_30 ml_X9_59 mv_X1_copyFrom (xOC_X1 _ (xC_X9_2 _ ho)) (Nat.le_of_ble_eq_true rfl) (Nat.le_of_ble_eq_true rfl) (Nat.le_of_ble_eq_true rfl) (fun x3 => ?_)
  refine Sim.aload_n 0 dX9_copyFrom_33 rfl ?_
  refine Sim.getR (j := (o + 19)) fl_X9_36 dX9_copyFrom_34 (xR_X9_3 _ ho) ?_
  refine Sim.aload_n 1 dX9_copyFrom_37 rfl ?_
  refine Sim.getR (j := (b1 + 19)) fl_X9_36 dX9_copyFrom_38 (xR_X9_3 _ hb1) ?_
  refine Sim.callV1U (d1 := 1) (s_X2_copyFrom (o + 19) (xC_X9_3 _ ho) (b1 + 19) (xC_X9_3 _ hb1) x3) dX9_copyFrom_41 ml_X9_56 mv_X2_copyFrom (xOC_X2 _ (xC_X9_3 _ ho)) (Nat.le_of_ble_eq_true rfl) (Nat.le_of_ble_eq_true rfl) (Nat.le_of_ble_eq_true rfl) (fun x4 => ?_)
  refine Sim.aload_n 0 dX9_copyFrom_44 rfl ?_
  refine Sim.getR (j := (o + 21)) fl_X9_39 dX9_copyFrom_45 (xR_X9_4 _ ho) ?_
  refine Sim.aload_n 1 dX9_copyFrom_48 rfl ?_
  refine Sim.getR (j := (b1 + 21)) fl_X9_39 dX9_copyFrom_49 (xR_X9_4 _ hb1) ?_
  refine Sim.callV1U (d1 := 1) (s_X2_copyFrom (o + 21) (xC_X9_4 _ ho) (b1 + 21) (xC_X9_4 _ hb1) x4) dX9_copyFrom_52 ml_X9_56 mv_X2_copyFrom (xOC_X2 _ (xC_X9_4 _ ho)) (Nat.le_of_ble_eq_true rfl) (Nat.le_of_ble_eq_true rfl) (Nat.le_of_ble_eq_true rfl) (fun x5 => ?_)
  refine Sim.aload_n 0 dX9_copyFrom_55 rfl ?_
  refine Sim.getR (j := (o + 23)) fl_X9_42 dX9_copyFrom_56 (xR_X9_5 _ ho) ?_
  refine Sim.aload_n 1 dX9_copyFrom_59 rfl ?_
  refine Sim.getR (j := (b1 + 23)) fl_X9_42 dX9_copyFrom_60 (xR_X9_5 _ hb1) ?_
  refine Sim.callV1U (d1 := 1) (s_X2_copyFrom (o + 23) (xC_X9_5 _ ho) (b1 + 23) (xC_X9_5 _ hb1) x5) dX9_copyFrom_63 ml_X9_56 mv_X2_copyFrom (xOC_X2 _ (xC_X9_5 _ ho)) (Nat.le_of_ble_eq_true rfl) (Nat.le_of_ble_eq_true rfl) (Nat.le_of_ble_eq_true rfl) (fun x6 => ?_)
  refine Sim.aload_n 0 dX9_copyFrom_66 rfl ?_
  refine Sim.getR (j := (o + 25)) fl_X9_48 dX9_copyFrom_67 (xR_X9_6 _ ho) ?_
  refine Sim.aload_n 1 dX9_copyFrom_70 rfl ?_
  refine Sim.getR (j := (b1 + 25)) fl_X9_48 dX9_copyFrom_71 (xR_X9_6 _ hb1) ?_
  refine Sim.callV1U (d1 := 2) (s_X8_copyFrom (o + 25) (xC_X9_6 _ ho) (b1 + 25) (xC_X9_6 _ hb1) x6) dX9_copyFrom_74 ml_X9_62 mv_X8_copyFrom (xOC_X8 _ (xC_X9_6 _ ho)) (Nat.le_of_ble_eq_true rfl) (Nat.le_of_ble_eq_true rfl) (Nat.le_of_ble_eq_true rfl) (fun x7 => ?_)
  exact Sim.vret dX9_copyFrom_77 rfl
theorem mv_X9_copyFrom : zMV mX9_copyFrom 1 := ⟨⟨zTb_in 1267 (by decide +kernel) rfl, zTb_in 138 (by decide +kernel) rfl, ⟨by decide +kernel, by decide +kernel⟩, by decide +kernel⟩, zTb_in 1265 (by decide +kernel) rfl, zTb_in 1266 (by decide +kernel) rfl⟩
-- ===== RockingPorch$Whole.learn(ILRockingPorch$Reader;)V
abbrev mX9_learn : zMt := (yX9_learn, cX9_learn, 3, none)
theorem fl_X9_65 : zF RX9 65 6 10 := ⟨RX6, TX6, 14, rfl, Nat.le_of_ble_eq_true rfl, zTb_in 441 (by decide +kernel) rfl, in_X6⟩
theorem fl_X9_68 : zF RX9 68 6 11 := ⟨RX6, TX6, 14, rfl, Nat.le_of_ble_eq_true rfl, zTb_in 443 (by decide +kernel) rfl, in_X6⟩
theorem dX9_learn_0 : decode cX9_learn 0 = .ok (.iload_n 1, 1) := by decide +kernel
theorem dX9_learn_1 : decode cX9_learn 1 = .ok (.tableswitch 69 0 2 #[27, 41, 55], 27) := by decide +kernel
theorem dX9_learn_28 : decode cX9_learn 28 = .ok (.aload_n 0, 1) := by decide +kernel
theorem dX9_learn_29 : decode cX9_learn 29 = .ok (.getfield 32, 3) := by decide +kernel
theorem dX9_learn_32 : decode cX9_learn 32 = .ok (.aload_n 2, 1) := by decide +kernel
theorem dX9_learn_33 : decode cX9_learn 33 = .ok (.getfield 65, 3) := by decide +kernel
theorem dX9_learn_36 : decode cX9_learn 36 = .ok (.invokevirtual 59, 3) := by decide +kernel
theorem dX9_learn_39 : decode cX9_learn 39 = .ok (.goto 42, 3) := by decide +kernel
theorem dX9_learn_42 : decode cX9_learn 42 = .ok (.aload_n 0, 1) := by decide +kernel
theorem dX9_learn_43 : decode cX9_learn 43 = .ok (.getfield 36, 3) := by decide +kernel
theorem dX9_learn_46 : decode cX9_learn 46 = .ok (.aload_n 2, 1) := by decide +kernel
theorem dX9_learn_47 : decode cX9_learn 47 = .ok (.getfield 68, 3) := by decide +kernel
theorem dX9_learn_50 : decode cX9_learn 50 = .ok (.invokevirtual 56, 3) := by decide +kernel
theorem dX9_learn_53 : decode cX9_learn 53 = .ok (.goto 28, 3) := by decide +kernel
theorem dX9_learn_56 : decode cX9_learn 56 = .ok (.aload_n 0, 1) := by decide +kernel
theorem dX9_learn_57 : decode cX9_learn 57 = .ok (.getfield 39, 3) := by decide +kernel
theorem dX9_learn_60 : decode cX9_learn 60 = .ok (.aload_n 2, 1) := by decide +kernel
theorem dX9_learn_61 : decode cX9_learn 61 = .ok (.getfield 68, 3) := by decide +kernel
theorem dX9_learn_64 : decode cX9_learn 64 = .ok (.invokevirtual 56, 3) := by decide +kernel
theorem dX9_learn_67 : decode cX9_learn 67 = .ok (.goto 14, 3) := by decide +kernel
theorem dX9_learn_70 : decode cX9_learn 70 = .ok (.aload_n 0, 1) := by decide +kernel
theorem dX9_learn_71 : decode cX9_learn 71 = .ok (.getfield 42, 3) := by decide +kernel
theorem dX9_learn_74 : decode cX9_learn 74 = .ok (.aload_n 2, 1) := by decide +kernel
theorem dX9_learn_75 : decode cX9_learn 75 = .ok (.getfield 68, 3) := by decide +kernel
theorem dX9_learn_78 : decode cX9_learn 78 = .ok (.invokevirtual 56, 3) := by decide +kernel
theorem dX9_learn_81 : decode cX9_learn 81 = .ok (.return_, 1) := by decide +kernel
def f_X9_learn (o : Nat) (a1 : Int32) (h : zHp) : Option (zHp) := (if a1 = (0 : Int32) then (f_X1_copyFrom (o + 12) 150 h).bind fun x2 => some x2 else (if a1 = (1 : Int32) then (f_X2_copyFrom (o + 19) 157 h).bind fun x4 => some x4 else (if a1 = (2 : Int32) then (f_X2_copyFrom (o + 21) 157 h).bind fun x6 => some x6 else (f_X2_copyFrom (o + 23) 157 h).bind fun x7 => some x7)))
set_option maxHeartbeats 4000000 in
set_option maxRecDepth 100000 in
theorem s_X9_learn (o : Nat) (ho : o ∈ xWhole) (a1 : Int32) (h : zHp) : Fn wX mX9_learn 2 rV [.ref o, .int a1, .ref 145] h (f_X9_learn o a1 h) := by
  refine Fn.of rfl (Nat.le_of_ble_eq_true rfl) ?_
  unfold f_X9_learn
  refine Sim.iload_n 1 dX9_learn_0 rfl ?_
  refine Sim.ite _ (fun q1 => ?_) (fun q1 => ?_)
  · refine Sim.tswIn 28 dX9_learn_1 q1 (by decide) (by decide) rfl rfl ?_
    refine Sim.aload_n 0 dX9_learn_28 rfl ?_
    refine Sim.getR (j := (o + 12)) fl_X9_32 dX9_learn_29 (xR_X9_2 _ ho) ?_
    refine Sim.aload_n 2 dX9_learn_32 rfl ?_
    refine Sim.getR (j := 150) fl_X9_65 dX9_learn_33 xR_145_10 ?_
    refine Sim.callV1U (d1 := 1) (s_X1_copyFrom (o + 12) (xC_X9_2 _ ho) 150 xL_X1_150 h) dX9_learn_36 ml_X9_59 mv_X1_copyFrom (xOC_X1 _ (xC_X9_2 _ ho)) (Nat.le_of_ble_eq_true rfl) (Nat.le_of_ble_eq_true rfl) (Nat.le_of_ble_eq_true rfl) (fun x2 => ?_)
    refine Sim.goto 81 dX9_learn_39 rfl ?_
    exact Sim.vret dX9_learn_81 rfl
  refine Sim.ite _ (fun q3 => ?_) (fun q3 => ?_)
  · refine Sim.tswIn 42 dX9_learn_1 q3 (by decide) (by decide) rfl rfl ?_
    refine Sim.aload_n 0 dX9_learn_42 rfl ?_
    refine Sim.getR (j := (o + 19)) fl_X9_36 dX9_learn_43 (xR_X9_3 _ ho) ?_
    refine Sim.aload_n 2 dX9_learn_46 rfl ?_
    refine Sim.getR (j := 157) fl_X9_68 dX9_learn_47 xR_145_11 ?_
    refine Sim.callV1U (d1 := 1) (s_X2_copyFrom (o + 19) (xC_X9_3 _ ho) 157 xL_X2_157 h) dX9_learn_50 ml_X9_56 mv_X2_copyFrom (xOC_X2 _ (xC_X9_3 _ ho)) (Nat.le_of_ble_eq_true rfl) (Nat.le_of_ble_eq_true rfl) (Nat.le_of_ble_eq_true rfl) (fun x4 => ?_)
    refine Sim.goto 81 dX9_learn_53 rfl ?_
    exact Sim.vret dX9_learn_81 rfl
  refine Sim.ite _ (fun q5 => ?_) (fun q5 => ?_)
  · refine Sim.tswIn 56 dX9_learn_1 q5 (by decide) (by decide) rfl rfl ?_
    refine Sim.aload_n 0 dX9_learn_56 rfl ?_
    refine Sim.getR (j := (o + 21)) fl_X9_39 dX9_learn_57 (xR_X9_4 _ ho) ?_
    refine Sim.aload_n 2 dX9_learn_60 rfl ?_
    refine Sim.getR (j := 157) fl_X9_68 dX9_learn_61 xR_145_11 ?_
    refine Sim.callV1U (d1 := 1) (s_X2_copyFrom (o + 21) (xC_X9_4 _ ho) 157 xL_X2_157 h) dX9_learn_64 ml_X9_56 mv_X2_copyFrom (xOC_X2 _ (xC_X9_4 _ ho)) (Nat.le_of_ble_eq_true rfl) (Nat.le_of_ble_eq_true rfl) (Nat.le_of_ble_eq_true rfl) (fun x6 => ?_)
    refine Sim.goto 81 dX9_learn_67 rfl ?_
    exact Sim.vret dX9_learn_81 rfl
  refine Sim.tswOut 70 dX9_learn_1 (by have aq1 : a1.toInt ≠ 0 := fun w => q1 (Int32.toInt_inj.mp w); have aq3 : a1.toInt ≠ 1 := fun w => q3 (Int32.toInt_inj.mp w); have aq5 : a1.toInt ≠ 2 := fun w => q5 (Int32.toInt_inj.mp w); omega) rfl ?_
  refine Sim.aload_n 0 dX9_learn_70 rfl ?_
  refine Sim.getR (j := (o + 23)) fl_X9_42 dX9_learn_71 (xR_X9_5 _ ho) ?_
  refine Sim.aload_n 2 dX9_learn_74 rfl ?_
  refine Sim.getR (j := 157) fl_X9_68 dX9_learn_75 xR_145_11 ?_
  refine Sim.callV1U (d1 := 1) (s_X2_copyFrom (o + 23) (xC_X9_5 _ ho) 157 xL_X2_157 h) dX9_learn_78 ml_X9_56 mv_X2_copyFrom (xOC_X2 _ (xC_X9_5 _ ho)) (Nat.le_of_ble_eq_true rfl) (Nat.le_of_ble_eq_true rfl) (Nat.le_of_ble_eq_true rfl) (fun x7 => ?_)
  exact Sim.vret dX9_learn_81 rfl
theorem mv_X9_learn : zMV mX9_learn 2 := ⟨⟨zTb_in 977 (by decide +kernel) rfl, zTb_in 138 (by decide +kernel) rfl, ⟨by decide +kernel, by decide +kernel⟩, by decide +kernel⟩, zTb_in 975 (by decide +kernel) rfl, zTb_in 976 (by decide +kernel) rfl⟩
-- ===== RockingPorch.state(I)I
abbrev mX10_state : zMt := (yX10_state, cX10_state, 3, some .int)
theorem fl_X10_12 : zF RX10 12 10 0 := ⟨RX10, TX10, 8, rfl, Nat.le_of_ble_eq_true rfl, zTb_in 513 (by decide +kernel) rfl, in_X10⟩
theorem fl_X10_26 : zF RX10 26 10 3 := ⟨RX10, TX10, 8, rfl, Nat.le_of_ble_eq_true rfl, zTb_in 516 (by decide +kernel) rfl, in_X10⟩
theorem fl_X10_68 : zF RX10 68 9 0 := ⟨RX9, TX9, 7, rfl, Nat.le_of_ble_eq_true rfl, zTb_in 361 (by decide +kernel) rfl, in_X9⟩
theorem fl_X10_71 : zF RX10 71 4 14 := ⟨RX4, TX4, 15, rfl, Nat.le_of_ble_eq_true rfl, zTb_in 218 (by decide +kernel) rfl, in_X4⟩
theorem fp_X10_71 : zFp RX10 71 4 14 .int := ⟨RX4, TX4, 15, tyX4, rfl, Nat.le_of_ble_eq_true rfl, zTb_in 218 (by decide +kernel) rfl, in_X4, tyX4_ok, nmX4, rfl, rfl⟩
theorem ml_X10_75 : Cond.methodLink RX10 75 yX3_forget ∈ zTb := zTb_in 542 (by decide +kernel) rfl
theorem dX10_state_0 : decode cX10_state 0 = .ok (.aload_n 0, 1) := by decide +kernel
theorem dX10_state_1 : decode cX10_state 1 = .ok (.getfield 12, 3) := by decide +kernel
theorem dX10_state_4 : decode cX10_state 4 = .ok (.getfield 68, 3) := by decide +kernel
theorem dX10_state_7 : decode cX10_state 7 = .ok (.getfield 71, 3) := by decide +kernel
theorem dX10_state_10 : decode cX10_state 10 = .ok (.istore_n 2, 1) := by decide +kernel
theorem dX10_state_11 : decode cX10_state 11 = .ok (.aload_n 0, 1) := by decide +kernel
theorem dX10_state_12 : decode cX10_state 12 = .ok (.getfield 12, 3) := by decide +kernel
theorem dX10_state_15 : decode cX10_state 15 = .ok (.getfield 68, 3) := by decide +kernel
theorem dX10_state_18 : decode cX10_state 18 = .ok (.iload_n 1, 1) := by decide +kernel
theorem dX10_state_19 : decode cX10_state 19 = .ok (.putfield 71, 3) := by decide +kernel
theorem dX10_state_22 : decode cX10_state 22 = .ok (.aload_n 0, 1) := by decide +kernel
theorem dX10_state_23 : decode cX10_state 23 = .ok (.getfield 26, 3) := by decide +kernel
theorem dX10_state_26 : decode cX10_state 26 = .ok (.invokevirtual 75, 3) := by decide +kernel
theorem dX10_state_29 : decode cX10_state 29 = .ok (.iload_n 2, 1) := by decide +kernel
theorem dX10_state_30 : decode cX10_state 30 = .ok (.ireturn, 1) := by decide +kernel
def f_X10_state  (a1 : Int32) (h : zHp) : Option (Int32 × zHp) := zlt (h 2 14) fun x1 => zlt (zst h 2 14 a1) fun h2 => (f_X3_forget h2).bind fun x3 => some (x1, x3)
set_option maxHeartbeats 4000000 in
set_option maxRecDepth 100000 in
theorem s_X10_state  (a1 : Int32) (h : zHp) : Fn wX mX10_state 1 rI [.ref 0, .int a1] h (f_X10_state a1 h) := by
  refine Fn.of rfl (Nat.le_of_ble_eq_true rfl) ?_
  unfold f_X10_state
  refine Sim.aload_n 0 dX10_state_0 rfl ?_
  refine Sim.getR (j := 1) fl_X10_12 dX10_state_1 xR_0_0 ?_
  refine Sim.getR (j := 2) fl_X10_68 dX10_state_4 (xR_X9_0 _ xL_X9_1) ?_
  refine Sim.getI fl_X10_71 dX10_state_7 (xI_X4_14 _ xL_X4_2) ?_
  refine Sim.lti (fun x1 => ?_)
  refine Sim.istore_n (L' := [(2, .int x1), (0, .ref 0), (1, .int a1)]) dX10_state_10 (Nat.le_of_ble_eq_true rfl) rfl ?_
  refine Sim.aload_n 1 dX10_state_11 rfl ?_
  refine Sim.getR (j := 1) fl_X10_12 dX10_state_12 xR_0_0 ?_
  refine Sim.getR (j := 2) fl_X10_68 dX10_state_15 (xR_X9_0 _ xL_X9_1) ?_
  refine Sim.iload_n 2 dX10_state_18 rfl ?_
  refine Sim.put fp_X10_71 dX10_state_19 (xI_X4_14 _ xL_X4_2) rfl rfl ?_
  refine Sim.lth (fun h2 => ?_)
  refine Sim.aload_n 1 dX10_state_22 rfl ?_
  refine Sim.getR (j := 79) fl_X10_26 dX10_state_23 xR_0_3 ?_
  refine Sim.callV0U (d1 := 0) (s_X3_forget h2) dX10_state_26 ml_X10_75 mv_X3_forget xO_X3 (Nat.le_of_ble_eq_true rfl) (Nat.le_of_ble_eq_true rfl) (Nat.le_of_ble_eq_true rfl) (fun x3 => ?_)
  refine Sim.iload_n 0 dX10_state_29 rfl ?_
  exact Sim.iret dX10_state_30 rfl
theorem mv_X10_state : zMV mX10_state 1 := ⟨⟨zTb_in 541 (by decide +kernel) rfl, zTb_in 137 (by decide +kernel) rfl, ⟨by decide +kernel, by decide +kernel⟩, by decide +kernel⟩, zTb_in 539 (by decide +kernel) rfl, zTb_in 540 (by decide +kernel) rfl⟩
-- ===== RockingPorch.within(II)Z
abbrev mX10_within : zMt := (yX10_within, cX10_within, 2, some .boolean)
theorem dX10_within_0 : decode cX10_within 0 = .ok (.iload_n 0, 1) := by decide +kernel
theorem dX10_within_1 : decode cX10_within 1 = .ok (.ifCond .lt 12, 3) := by decide +kernel
theorem dX10_within_4 : decode cX10_within 4 = .ok (.iload_n 0, 1) := by decide +kernel
theorem dX10_within_5 : decode cX10_within 5 = .ok (.iload_n 1, 1) := by decide +kernel
theorem dX10_within_6 : decode cX10_within 6 = .ok (.if_icmp .gt 7, 3) := by decide +kernel
theorem dX10_within_9 : decode cX10_within 9 = .ok (.iconst 1, 1) := by decide +kernel
theorem dX10_within_10 : decode cX10_within 10 = .ok (.goto 4, 3) := by decide +kernel
theorem dX10_within_13 : decode cX10_within 13 = .ok (.iconst 0, 1) := by decide +kernel
theorem dX10_within_14 : decode cX10_within 14 = .ok (.ireturn, 1) := by decide +kernel
def f_X10_within  (a1 : Int32) (a2 : Int32) (h : zHp) : Option (Int32 × zHp) := (if a1 < 0 then some ((0 : Int32), h) else (if a2 < a1 then some ((0 : Int32), h) else some ((1 : Int32), h)))
set_option maxHeartbeats 4000000 in
set_option maxRecDepth 100000 in
theorem s_X10_within  (a1 : Int32) (a2 : Int32) (h : zHp) : Fn wX mX10_within 0 rI [.int a1, .int a2] h (f_X10_within a1 a2 h) := by
  refine Fn.of rfl (Nat.le_of_ble_eq_true rfl) ?_
  unfold f_X10_within
  refine Sim.iload_n 0 dX10_within_0 rfl ?_
  refine Sim.if_lt 13 dX10_within_1 rfl ?_ ?_
  · refine Sim.iconst (v := (0 : Int32)) dX10_within_13 rfl ?_
    exact Sim.nret dX10_within_14 rfl rfl
  · refine Sim.iload_n 0 dX10_within_4 rfl ?_
    refine Sim.iload_n 1 dX10_within_5 rfl ?_
    refine Sim.icmp_gt 13 dX10_within_6 rfl ?_ ?_
    · refine Sim.iconst (v := (0 : Int32)) dX10_within_13 rfl ?_
      exact Sim.nret dX10_within_14 rfl rfl
    · refine Sim.iconst (v := (1 : Int32)) dX10_within_9 rfl ?_
      refine Sim.goto 14 dX10_within_10 rfl ?_
      exact Sim.nret dX10_within_14 rfl rfl
theorem mv_X10_within : zMS mX10_within 2 := ⟨⟨zTb_in 552 (by decide +kernel) rfl, zTb_in 137 (by decide +kernel) rfl, ⟨by decide +kernel, by decide +kernel⟩, by decide +kernel⟩, zTb_in 551 (by decide +kernel) rfl⟩
-- ===== RockingPorch.chair(I)I
abbrev mX10_chair : zMt := (yX10_chair, cX10_chair, 2, some .int)
theorem fl_X10_82 : zF RX10 82 4 9 := ⟨RX4, TX4, 15, rfl, Nat.le_of_ble_eq_true rfl, zTb_in 204 (by decide +kernel) rfl, in_X4⟩
theorem ml_X10_78 : Cond.methodLink RX10 78 yX10_within ∈ zTb := zTb_in 550 (by decide +kernel) rfl
theorem ml_X10_85 : Cond.methodLink RX10 85 yX4_addChair ∈ zTb := zTb_in 553 (by decide +kernel) rfl
theorem dX10_chair_0 : decode cX10_chair 0 = .ok (.iload_n 1, 1) := by decide +kernel
theorem dX10_chair_1 : decode cX10_chair 1 = .ok (.bipush 9, 2) := by decide +kernel
theorem dX10_chair_3 : decode cX10_chair 3 = .ok (.invokestatic 78, 3) := by decide +kernel
theorem dX10_chair_6 : decode cX10_chair 6 = .ok (.ifCond .eq 18, 3) := by decide +kernel
theorem dX10_chair_9 : decode cX10_chair 9 = .ok (.aload_n 0, 1) := by decide +kernel
theorem dX10_chair_10 : decode cX10_chair 10 = .ok (.getfield 12, 3) := by decide +kernel
theorem dX10_chair_13 : decode cX10_chair 13 = .ok (.getfield 68, 3) := by decide +kernel
theorem dX10_chair_16 : decode cX10_chair 16 = .ok (.getfield 82, 3) := by decide +kernel
theorem dX10_chair_19 : decode cX10_chair 19 = .ok (.bipush 10, 2) := by decide +kernel
theorem dX10_chair_21 : decode cX10_chair 21 = .ok (.if_icmp .lt 5, 3) := by decide +kernel
theorem dX10_chair_24 : decode cX10_chair 24 = .ok (.iconst (-1), 1) := by decide +kernel
theorem dX10_chair_25 : decode cX10_chair 25 = .ok (.ireturn, 1) := by decide +kernel
theorem dX10_chair_26 : decode cX10_chair 26 = .ok (.aload_n 0, 1) := by decide +kernel
theorem dX10_chair_27 : decode cX10_chair 27 = .ok (.getfield 26, 3) := by decide +kernel
theorem dX10_chair_30 : decode cX10_chair 30 = .ok (.invokevirtual 75, 3) := by decide +kernel
theorem dX10_chair_33 : decode cX10_chair 33 = .ok (.aload_n 0, 1) := by decide +kernel
theorem dX10_chair_34 : decode cX10_chair 34 = .ok (.getfield 12, 3) := by decide +kernel
theorem dX10_chair_37 : decode cX10_chair 37 = .ok (.getfield 68, 3) := by decide +kernel
theorem dX10_chair_40 : decode cX10_chair 40 = .ok (.iload_n 1, 1) := by decide +kernel
theorem dX10_chair_41 : decode cX10_chair 41 = .ok (.invokevirtual 85, 3) := by decide +kernel
theorem dX10_chair_44 : decode cX10_chair 44 = .ok (.ireturn, 1) := by decide +kernel
def f_X10_chair  (a1 : Int32) (h : zHp) : Option (Int32 × zHp) := (f_X10_within a1 (9 : Int32) h).bind fun x1 => (if x1.1 = 0 then some ((-1 : Int32), x1.2) else (if (x1.2 2 9) < (10 : Int32) then (f_X3_forget x1.2).bind fun x2 => (f_X4_addChair 2 a1 x2).bind fun x3 => some (x3.1, x3.2) else some ((-1 : Int32), x1.2)))
set_option maxHeartbeats 4000000 in
set_option maxRecDepth 100000 in
theorem s_X10_chair  (a1 : Int32) (h : zHp) : Fn wX mX10_chair 2 rI [.ref 0, .int a1] h (f_X10_chair a1 h) := by
  refine Fn.of rfl (Nat.le_of_ble_eq_true rfl) ?_
  unfold f_X10_chair
  refine Sim.iload_n 1 dX10_chair_0 rfl ?_
  refine Sim.bipush (v := (9 : Int32)) dX10_chair_1 rfl ?_
  refine Sim.callS2I (d1 := 0) (s_X10_within a1 (9 : Int32) h) dX10_chair_3 ml_X10_78 mv_X10_within (Nat.le_of_ble_eq_true rfl) (Nat.le_of_ble_eq_true rfl) (Nat.le_of_ble_eq_true rfl) (fun x1 => ?_)
  refine Sim.if_eq 24 dX10_chair_6 rfl ?_ ?_
  · refine Sim.iconst (v := (-1 : Int32)) dX10_chair_24 rfl ?_
    exact Sim.iret dX10_chair_25 rfl
  · refine Sim.aload_n 0 dX10_chair_9 rfl ?_
    refine Sim.getR (j := 1) fl_X10_12 dX10_chair_10 xR_0_0 ?_
    refine Sim.getR (j := 2) fl_X10_68 dX10_chair_13 (xR_X9_0 _ xL_X9_1) ?_
    refine Sim.getI fl_X10_82 dX10_chair_16 (xI_X4_9 _ xL_X4_2) ?_
    refine Sim.bipush (v := (10 : Int32)) dX10_chair_19 rfl ?_
    refine Sim.icmp_lt 26 dX10_chair_21 rfl ?_ ?_
    · refine Sim.aload_n 0 dX10_chair_26 rfl ?_
      refine Sim.getR (j := 79) fl_X10_26 dX10_chair_27 xR_0_3 ?_
      refine Sim.callV0U (d1 := 0) (s_X3_forget x1.2) dX10_chair_30 ml_X10_75 mv_X3_forget xO_X3 (Nat.le_of_ble_eq_true rfl) (Nat.le_of_ble_eq_true rfl) (Nat.le_of_ble_eq_true rfl) (fun x2 => ?_)
      refine Sim.aload_n 0 dX10_chair_33 rfl ?_
      refine Sim.getR (j := 1) fl_X10_12 dX10_chair_34 xR_0_0 ?_
      refine Sim.getR (j := 2) fl_X10_68 dX10_chair_37 (xR_X9_0 _ xL_X9_1) ?_
      refine Sim.iload_n 1 dX10_chair_40 rfl ?_
      refine Sim.callV1I (d1 := 1) (s_X4_addChair 2 xL_X4_2 a1 x2) dX10_chair_41 ml_X10_85 mv_X4_addChair (xOC_X4 _ xL_X4_2) (Nat.le_of_ble_eq_true rfl) (Nat.le_of_ble_eq_true rfl) (Nat.le_of_ble_eq_true rfl) (fun x3 => ?_)
      exact Sim.iret dX10_chair_44 rfl
    · refine Sim.iconst (v := (-1 : Int32)) dX10_chair_24 rfl ?_
      exact Sim.iret dX10_chair_25 rfl
theorem mv_X10_chair : zMV mX10_chair 1 := ⟨⟨zTb_in 549 (by decide +kernel) rfl, zTb_in 137 (by decide +kernel) rfl, ⟨by decide +kernel, by decide +kernel⟩, by decide +kernel⟩, zTb_in 547 (by decide +kernel) rfl, zTb_in 548 (by decide +kernel) rfl⟩
-- ===== RockingPorch.person(I)I
abbrev mX10_person : zMt := (yX10_person, cX10_person, 2, some .int)
theorem fl_X10_89 : zF RX10 89 4 10 := ⟨RX4, TX4, 15, rfl, Nat.le_of_ble_eq_true rfl, zTb_in 208 (by decide +kernel) rfl, in_X4⟩
theorem ml_X10_92 : Cond.methodLink RX10 92 yX4_addPerson ∈ zTb := zTb_in 565 (by decide +kernel) rfl
theorem dX10_person_0 : decode cX10_person 0 = .ok (.iload_n 1, 1) := by decide +kernel
theorem dX10_person_1 : decode cX10_person 1 = .ok (.bipush 9, 2) := by decide +kernel
theorem dX10_person_3 : decode cX10_person 3 = .ok (.invokestatic 78, 3) := by decide +kernel
theorem dX10_person_6 : decode cX10_person 6 = .ok (.ifCond .eq 18, 3) := by decide +kernel
theorem dX10_person_9 : decode cX10_person 9 = .ok (.aload_n 0, 1) := by decide +kernel
theorem dX10_person_10 : decode cX10_person 10 = .ok (.getfield 12, 3) := by decide +kernel
theorem dX10_person_13 : decode cX10_person 13 = .ok (.getfield 68, 3) := by decide +kernel
theorem dX10_person_16 : decode cX10_person 16 = .ok (.getfield 89, 3) := by decide +kernel
theorem dX10_person_19 : decode cX10_person 19 = .ok (.bipush 14, 2) := by decide +kernel
theorem dX10_person_21 : decode cX10_person 21 = .ok (.if_icmp .lt 5, 3) := by decide +kernel
theorem dX10_person_24 : decode cX10_person 24 = .ok (.iconst (-1), 1) := by decide +kernel
theorem dX10_person_25 : decode cX10_person 25 = .ok (.ireturn, 1) := by decide +kernel
theorem dX10_person_26 : decode cX10_person 26 = .ok (.aload_n 0, 1) := by decide +kernel
theorem dX10_person_27 : decode cX10_person 27 = .ok (.getfield 26, 3) := by decide +kernel
theorem dX10_person_30 : decode cX10_person 30 = .ok (.invokevirtual 75, 3) := by decide +kernel
theorem dX10_person_33 : decode cX10_person 33 = .ok (.aload_n 0, 1) := by decide +kernel
theorem dX10_person_34 : decode cX10_person 34 = .ok (.getfield 12, 3) := by decide +kernel
theorem dX10_person_37 : decode cX10_person 37 = .ok (.getfield 68, 3) := by decide +kernel
theorem dX10_person_40 : decode cX10_person 40 = .ok (.iload_n 1, 1) := by decide +kernel
theorem dX10_person_41 : decode cX10_person 41 = .ok (.invokevirtual 92, 3) := by decide +kernel
theorem dX10_person_44 : decode cX10_person 44 = .ok (.ireturn, 1) := by decide +kernel
def f_X10_person  (a1 : Int32) (h : zHp) : Option (Int32 × zHp) := (f_X10_within a1 (9 : Int32) h).bind fun x1 => (if x1.1 = 0 then some ((-1 : Int32), x1.2) else (if (x1.2 2 10) < (14 : Int32) then (f_X3_forget x1.2).bind fun x2 => (f_X4_addPerson 2 a1 x2).bind fun x3 => some (x3.1, x3.2) else some ((-1 : Int32), x1.2)))
set_option maxHeartbeats 4000000 in
set_option maxRecDepth 100000 in
theorem s_X10_person  (a1 : Int32) (h : zHp) : Fn wX mX10_person 1 rI [.ref 0, .int a1] h (f_X10_person a1 h) := by
  refine Fn.of rfl (Nat.le_of_ble_eq_true rfl) ?_
  unfold f_X10_person
  refine Sim.iload_n 1 dX10_person_0 rfl ?_
  refine Sim.bipush (v := (9 : Int32)) dX10_person_1 rfl ?_
  refine Sim.callS2I (d1 := 0) (s_X10_within a1 (9 : Int32) h) dX10_person_3 ml_X10_78 mv_X10_within (Nat.le_of_ble_eq_true rfl) (Nat.le_of_ble_eq_true rfl) (Nat.le_of_ble_eq_true rfl) (fun x1 => ?_)
  refine Sim.if_eq 24 dX10_person_6 rfl ?_ ?_
  · refine Sim.iconst (v := (-1 : Int32)) dX10_person_24 rfl ?_
    exact Sim.iret dX10_person_25 rfl
  · refine Sim.aload_n 0 dX10_person_9 rfl ?_
    refine Sim.getR (j := 1) fl_X10_12 dX10_person_10 xR_0_0 ?_
    refine Sim.getR (j := 2) fl_X10_68 dX10_person_13 (xR_X9_0 _ xL_X9_1) ?_
    refine Sim.getI fl_X10_89 dX10_person_16 (xI_X4_10 _ xL_X4_2) ?_
    refine Sim.bipush (v := (14 : Int32)) dX10_person_19 rfl ?_
    refine Sim.icmp_lt 26 dX10_person_21 rfl ?_ ?_
    · refine Sim.aload_n 0 dX10_person_26 rfl ?_
      refine Sim.getR (j := 79) fl_X10_26 dX10_person_27 xR_0_3 ?_
      refine Sim.callV0U (d1 := 0) (s_X3_forget x1.2) dX10_person_30 ml_X10_75 mv_X3_forget xO_X3 (Nat.le_of_ble_eq_true rfl) (Nat.le_of_ble_eq_true rfl) (Nat.le_of_ble_eq_true rfl) (fun x2 => ?_)
      refine Sim.aload_n 0 dX10_person_33 rfl ?_
      refine Sim.getR (j := 1) fl_X10_12 dX10_person_34 xR_0_0 ?_
      refine Sim.getR (j := 2) fl_X10_68 dX10_person_37 (xR_X9_0 _ xL_X9_1) ?_
      refine Sim.iload_n 1 dX10_person_40 rfl ?_
      refine Sim.callV1I (d1 := 0) (s_X4_addPerson 2 xL_X4_2 a1 x2) dX10_person_41 ml_X10_92 mv_X4_addPerson (xOC_X4 _ xL_X4_2) (Nat.le_of_ble_eq_true rfl) (Nat.le_of_ble_eq_true rfl) (Nat.le_of_ble_eq_true rfl) (fun x3 => ?_)
      exact Sim.iret dX10_person_44 rfl
    · refine Sim.iconst (v := (-1 : Int32)) dX10_person_24 rfl ?_
      exact Sim.iret dX10_person_25 rfl
theorem mv_X10_person : zMV mX10_person 1 := ⟨⟨zTb_in 564 (by decide +kernel) rfl, zTb_in 137 (by decide +kernel) rfl, ⟨by decide +kernel, by decide +kernel⟩, by decide +kernel⟩, zTb_in 562 (by decide +kernel) rfl, zTb_in 563 (by decide +kernel) rfl⟩
-- ===== RockingPorch.mayBeSet(III)Z
abbrev mX10_mayBeSet : zMt := (yX10_mayBeSet, cX10_mayBeSet, 4, some .boolean)
theorem ml_X10_116 : Cond.methodLink RX10 116 yX4_isChair ∈ zTb := zTb_in 577 (by decide +kernel) rfl
theorem ml_X10_120 : Cond.methodLink RX10 120 yX4_isPerson ∈ zTb := zTb_in 581 (by decide +kernel) rfl
theorem ml_X10_123 : Cond.methodLink RX10 123 yX4_rocks ∈ zTb := zTb_in 585 (by decide +kernel) rfl
theorem dX10_mayBeSet_0 : decode cX10_mayBeSet 0 = .ok (.iload_n 1, 1) := by decide +kernel
theorem dX10_mayBeSet_1 : decode cX10_mayBeSet 1 = .ok (.tableswitch 125 0 3 #[31, 60, 89, 118], 31) := by decide +kernel
theorem dX10_mayBeSet_32 : decode cX10_mayBeSet 32 = .ok (.aload_n 0, 1) := by decide +kernel
theorem dX10_mayBeSet_33 : decode cX10_mayBeSet 33 = .ok (.getfield 12, 3) := by decide +kernel
theorem dX10_mayBeSet_36 : decode cX10_mayBeSet 36 = .ok (.getfield 68, 3) := by decide +kernel
theorem dX10_mayBeSet_39 : decode cX10_mayBeSet 39 = .ok (.iload_n 2, 1) := by decide +kernel
theorem dX10_mayBeSet_40 : decode cX10_mayBeSet 40 = .ok (.invokevirtual 116, 3) := by decide +kernel
theorem dX10_mayBeSet_43 : decode cX10_mayBeSet 43 = .ok (.ifCond .eq 16, 3) := by decide +kernel
theorem dX10_mayBeSet_46 : decode cX10_mayBeSet 46 = .ok (.iload_n 3, 1) := by decide +kernel
theorem dX10_mayBeSet_47 : decode cX10_mayBeSet 47 = .ok (.bipush 9, 2) := by decide +kernel
theorem dX10_mayBeSet_49 : decode cX10_mayBeSet 49 = .ok (.invokestatic 78, 3) := by decide +kernel
theorem dX10_mayBeSet_52 : decode cX10_mayBeSet 52 = .ok (.ifCond .eq 7, 3) := by decide +kernel
theorem dX10_mayBeSet_55 : decode cX10_mayBeSet 55 = .ok (.iconst 1, 1) := by decide +kernel
theorem dX10_mayBeSet_56 : decode cX10_mayBeSet 56 = .ok (.goto 4, 3) := by decide +kernel
theorem dX10_mayBeSet_59 : decode cX10_mayBeSet 59 = .ok (.iconst 0, 1) := by decide +kernel
theorem dX10_mayBeSet_60 : decode cX10_mayBeSet 60 = .ok (.ireturn, 1) := by decide +kernel
theorem dX10_mayBeSet_61 : decode cX10_mayBeSet 61 = .ok (.aload_n 0, 1) := by decide +kernel
theorem dX10_mayBeSet_62 : decode cX10_mayBeSet 62 = .ok (.getfield 12, 3) := by decide +kernel
theorem dX10_mayBeSet_65 : decode cX10_mayBeSet 65 = .ok (.getfield 68, 3) := by decide +kernel
theorem dX10_mayBeSet_68 : decode cX10_mayBeSet 68 = .ok (.iload_n 2, 1) := by decide +kernel
theorem dX10_mayBeSet_69 : decode cX10_mayBeSet 69 = .ok (.invokevirtual 120, 3) := by decide +kernel
theorem dX10_mayBeSet_72 : decode cX10_mayBeSet 72 = .ok (.ifCond .eq 16, 3) := by decide +kernel
theorem dX10_mayBeSet_75 : decode cX10_mayBeSet 75 = .ok (.iload_n 3, 1) := by decide +kernel
theorem dX10_mayBeSet_76 : decode cX10_mayBeSet 76 = .ok (.bipush 9, 2) := by decide +kernel
theorem dX10_mayBeSet_78 : decode cX10_mayBeSet 78 = .ok (.invokestatic 78, 3) := by decide +kernel
theorem dX10_mayBeSet_81 : decode cX10_mayBeSet 81 = .ok (.ifCond .eq 7, 3) := by decide +kernel
theorem dX10_mayBeSet_84 : decode cX10_mayBeSet 84 = .ok (.iconst 1, 1) := by decide +kernel
theorem dX10_mayBeSet_85 : decode cX10_mayBeSet 85 = .ok (.goto 4, 3) := by decide +kernel
theorem dX10_mayBeSet_88 : decode cX10_mayBeSet 88 = .ok (.iconst 0, 1) := by decide +kernel
theorem dX10_mayBeSet_89 : decode cX10_mayBeSet 89 = .ok (.ireturn, 1) := by decide +kernel
theorem dX10_mayBeSet_90 : decode cX10_mayBeSet 90 = .ok (.aload_n 0, 1) := by decide +kernel
theorem dX10_mayBeSet_91 : decode cX10_mayBeSet 91 = .ok (.getfield 12, 3) := by decide +kernel
theorem dX10_mayBeSet_94 : decode cX10_mayBeSet 94 = .ok (.getfield 68, 3) := by decide +kernel
theorem dX10_mayBeSet_97 : decode cX10_mayBeSet 97 = .ok (.iload_n 2, 1) := by decide +kernel
theorem dX10_mayBeSet_98 : decode cX10_mayBeSet 98 = .ok (.invokevirtual 123, 3) := by decide +kernel
theorem dX10_mayBeSet_101 : decode cX10_mayBeSet 101 = .ok (.ifCond .eq 16, 3) := by decide +kernel
theorem dX10_mayBeSet_104 : decode cX10_mayBeSet 104 = .ok (.iload_n 3, 1) := by decide +kernel
theorem dX10_mayBeSet_105 : decode cX10_mayBeSet 105 = .ok (.bipush 99, 2) := by decide +kernel
theorem dX10_mayBeSet_107 : decode cX10_mayBeSet 107 = .ok (.invokestatic 78, 3) := by decide +kernel
theorem dX10_mayBeSet_110 : decode cX10_mayBeSet 110 = .ok (.ifCond .eq 7, 3) := by decide +kernel
theorem dX10_mayBeSet_113 : decode cX10_mayBeSet 113 = .ok (.iconst 1, 1) := by decide +kernel
theorem dX10_mayBeSet_114 : decode cX10_mayBeSet 114 = .ok (.goto 4, 3) := by decide +kernel
theorem dX10_mayBeSet_117 : decode cX10_mayBeSet 117 = .ok (.iconst 0, 1) := by decide +kernel
theorem dX10_mayBeSet_118 : decode cX10_mayBeSet 118 = .ok (.ireturn, 1) := by decide +kernel
theorem dX10_mayBeSet_119 : decode cX10_mayBeSet 119 = .ok (.iload_n 3, 1) := by decide +kernel
theorem dX10_mayBeSet_120 : decode cX10_mayBeSet 120 = .ok (.bipush 9, 2) := by decide +kernel
theorem dX10_mayBeSet_122 : decode cX10_mayBeSet 122 = .ok (.invokestatic 78, 3) := by decide +kernel
theorem dX10_mayBeSet_125 : decode cX10_mayBeSet 125 = .ok (.ireturn, 1) := by decide +kernel
theorem dX10_mayBeSet_126 : decode cX10_mayBeSet 126 = .ok (.iconst 0, 1) := by decide +kernel
theorem dX10_mayBeSet_127 : decode cX10_mayBeSet 127 = .ok (.ireturn, 1) := by decide +kernel
def f_X10_mayBeSet  (a1 : Int32) (a2 : Int32) (a3 : Int32) (h : zHp) : Option (Int32 × zHp) := (if a1 = (0 : Int32) then (f_X4_isChair 2 a2 h).bind fun x2 => (if x2.1 = 0 then some ((0 : Int32), x2.2) else (f_X10_within a3 (9 : Int32) x2.2).bind fun x3 => (if x3.1 = 0 then some ((0 : Int32), x3.2) else some ((1 : Int32), x3.2))) else (if a1 = (1 : Int32) then (f_X4_isPerson 2 a2 h).bind fun x5 => (if x5.1 = 0 then some ((0 : Int32), x5.2) else (f_X10_within a3 (9 : Int32) x5.2).bind fun x6 => (if x6.1 = 0 then some ((0 : Int32), x6.2) else some ((1 : Int32), x6.2))) else (if a1 = (2 : Int32) then (f_X4_rocks 2 a2 h).bind fun x8 => (if x8.1 = 0 then some ((0 : Int32), x8.2) else (f_X10_within a3 (99 : Int32) x8.2).bind fun x9 => (if x9.1 = 0 then some ((0 : Int32), x9.2) else some ((1 : Int32), x9.2))) else (if a1 = (3 : Int32) then (f_X10_within a3 (9 : Int32) h).bind fun x11 => zzb x11.1 (some (x11.1, x11.2)) else some ((0 : Int32), h)))))
set_option maxHeartbeats 4000000 in
set_option maxRecDepth 100000 in
theorem s_X10_mayBeSet  (a1 : Int32) (a2 : Int32) (a3 : Int32) (h : zHp) : Fn wX mX10_mayBeSet 2 rI [.ref 0, .int a1, .int a2, .int a3] h (f_X10_mayBeSet a1 a2 a3 h) := by
  refine Fn.of rfl (Nat.le_of_ble_eq_true rfl) ?_
  unfold f_X10_mayBeSet
  refine Sim.iload_n 1 dX10_mayBeSet_0 rfl ?_
  refine Sim.ite _ (fun q1 => ?_) (fun q1 => ?_)
  · refine Sim.tswIn 32 dX10_mayBeSet_1 q1 (by decide) (by decide) rfl rfl ?_
    refine Sim.aload_n 0 dX10_mayBeSet_32 rfl ?_
    refine Sim.getR (j := 1) fl_X10_12 dX10_mayBeSet_33 xR_0_0 ?_
    refine Sim.getR (j := 2) fl_X10_68 dX10_mayBeSet_36 (xR_X9_0 _ xL_X9_1) ?_
    refine Sim.iload_n 2 dX10_mayBeSet_39 rfl ?_
    refine Sim.callV1I (d1 := 0) (s_X4_isChair 2 xL_X4_2 a2 h) dX10_mayBeSet_40 ml_X10_116 mv_X4_isChair (xOC_X4 _ xL_X4_2) (Nat.le_of_ble_eq_true rfl) (Nat.le_of_ble_eq_true rfl) (Nat.le_of_ble_eq_true rfl) (fun x2 => ?_)
    refine Sim.if_eq 59 dX10_mayBeSet_43 rfl ?_ ?_
    · refine Sim.iconst (v := (0 : Int32)) dX10_mayBeSet_59 rfl ?_
      exact Sim.nret dX10_mayBeSet_60 rfl rfl
    · refine Sim.iload_n 3 dX10_mayBeSet_46 rfl ?_
      refine Sim.bipush (v := (9 : Int32)) dX10_mayBeSet_47 rfl ?_
      refine Sim.callS2I (d1 := 0) (s_X10_within a3 (9 : Int32) x2.2) dX10_mayBeSet_49 ml_X10_78 mv_X10_within (Nat.le_of_ble_eq_true rfl) (Nat.le_of_ble_eq_true rfl) (Nat.le_of_ble_eq_true rfl) (fun x3 => ?_)
      refine Sim.if_eq 59 dX10_mayBeSet_52 rfl ?_ ?_
      · refine Sim.iconst (v := (0 : Int32)) dX10_mayBeSet_59 rfl ?_
        exact Sim.nret dX10_mayBeSet_60 rfl rfl
      · refine Sim.iconst (v := (1 : Int32)) dX10_mayBeSet_55 rfl ?_
        refine Sim.goto 60 dX10_mayBeSet_56 rfl ?_
        exact Sim.nret dX10_mayBeSet_60 rfl rfl
  refine Sim.ite _ (fun q4 => ?_) (fun q4 => ?_)
  · refine Sim.tswIn 61 dX10_mayBeSet_1 q4 (by decide) (by decide) rfl rfl ?_
    refine Sim.aload_n 0 dX10_mayBeSet_61 rfl ?_
    refine Sim.getR (j := 1) fl_X10_12 dX10_mayBeSet_62 xR_0_0 ?_
    refine Sim.getR (j := 2) fl_X10_68 dX10_mayBeSet_65 (xR_X9_0 _ xL_X9_1) ?_
    refine Sim.iload_n 2 dX10_mayBeSet_68 rfl ?_
    refine Sim.callV1I (d1 := 0) (s_X4_isPerson 2 xL_X4_2 a2 h) dX10_mayBeSet_69 ml_X10_120 mv_X4_isPerson (xOC_X4 _ xL_X4_2) (Nat.le_of_ble_eq_true rfl) (Nat.le_of_ble_eq_true rfl) (Nat.le_of_ble_eq_true rfl) (fun x5 => ?_)
    refine Sim.if_eq 88 dX10_mayBeSet_72 rfl ?_ ?_
    · refine Sim.iconst (v := (0 : Int32)) dX10_mayBeSet_88 rfl ?_
      exact Sim.nret dX10_mayBeSet_89 rfl rfl
    · refine Sim.iload_n 3 dX10_mayBeSet_75 rfl ?_
      refine Sim.bipush (v := (9 : Int32)) dX10_mayBeSet_76 rfl ?_
      refine Sim.callS2I (d1 := 0) (s_X10_within a3 (9 : Int32) x5.2) dX10_mayBeSet_78 ml_X10_78 mv_X10_within (Nat.le_of_ble_eq_true rfl) (Nat.le_of_ble_eq_true rfl) (Nat.le_of_ble_eq_true rfl) (fun x6 => ?_)
      refine Sim.if_eq 88 dX10_mayBeSet_81 rfl ?_ ?_
      · refine Sim.iconst (v := (0 : Int32)) dX10_mayBeSet_88 rfl ?_
        exact Sim.nret dX10_mayBeSet_89 rfl rfl
      · refine Sim.iconst (v := (1 : Int32)) dX10_mayBeSet_84 rfl ?_
        refine Sim.goto 89 dX10_mayBeSet_85 rfl ?_
        exact Sim.nret dX10_mayBeSet_89 rfl rfl
  refine Sim.ite _ (fun q7 => ?_) (fun q7 => ?_)
  · refine Sim.tswIn 90 dX10_mayBeSet_1 q7 (by decide) (by decide) rfl rfl ?_
    refine Sim.aload_n 0 dX10_mayBeSet_90 rfl ?_
    refine Sim.getR (j := 1) fl_X10_12 dX10_mayBeSet_91 xR_0_0 ?_
    refine Sim.getR (j := 2) fl_X10_68 dX10_mayBeSet_94 (xR_X9_0 _ xL_X9_1) ?_
    refine Sim.iload_n 2 dX10_mayBeSet_97 rfl ?_
    refine Sim.callV1I (d1 := 1) (s_X4_rocks 2 xL_X4_2 a2 h) dX10_mayBeSet_98 ml_X10_123 mv_X4_rocks (xOC_X4 _ xL_X4_2) (Nat.le_of_ble_eq_true rfl) (Nat.le_of_ble_eq_true rfl) (Nat.le_of_ble_eq_true rfl) (fun x8 => ?_)
    refine Sim.if_eq 117 dX10_mayBeSet_101 rfl ?_ ?_
    · refine Sim.iconst (v := (0 : Int32)) dX10_mayBeSet_117 rfl ?_
      exact Sim.nret dX10_mayBeSet_118 rfl rfl
    · refine Sim.iload_n 3 dX10_mayBeSet_104 rfl ?_
      refine Sim.bipush (v := (99 : Int32)) dX10_mayBeSet_105 rfl ?_
      refine Sim.callS2I (d1 := 0) (s_X10_within a3 (99 : Int32) x8.2) dX10_mayBeSet_107 ml_X10_78 mv_X10_within (Nat.le_of_ble_eq_true rfl) (Nat.le_of_ble_eq_true rfl) (Nat.le_of_ble_eq_true rfl) (fun x9 => ?_)
      refine Sim.if_eq 117 dX10_mayBeSet_110 rfl ?_ ?_
      · refine Sim.iconst (v := (0 : Int32)) dX10_mayBeSet_117 rfl ?_
        exact Sim.nret dX10_mayBeSet_118 rfl rfl
      · refine Sim.iconst (v := (1 : Int32)) dX10_mayBeSet_113 rfl ?_
        refine Sim.goto 118 dX10_mayBeSet_114 rfl ?_
        exact Sim.nret dX10_mayBeSet_118 rfl rfl
  refine Sim.ite _ (fun q10 => ?_) (fun q10 => ?_)
  · refine Sim.tswIn 119 dX10_mayBeSet_1 q10 (by decide) (by decide) rfl rfl ?_
    refine Sim.iload_n 3 dX10_mayBeSet_119 rfl ?_
    refine Sim.bipush (v := (9 : Int32)) dX10_mayBeSet_120 rfl ?_
    refine Sim.callS2I (d1 := 0) (s_X10_within a3 (9 : Int32) h) dX10_mayBeSet_122 ml_X10_78 mv_X10_within (Nat.le_of_ble_eq_true rfl) (Nat.le_of_ble_eq_true rfl) (Nat.le_of_ble_eq_true rfl) (fun x11 => ?_)
    exact Sim.zret dX10_mayBeSet_125 rfl
  refine Sim.tswOut 126 dX10_mayBeSet_1 (by have aq1 : a1.toInt ≠ 0 := fun w => q1 (Int32.toInt_inj.mp w); have aq4 : a1.toInt ≠ 1 := fun w => q4 (Int32.toInt_inj.mp w); have aq7 : a1.toInt ≠ 2 := fun w => q7 (Int32.toInt_inj.mp w); have aq10 : a1.toInt ≠ 3 := fun w => q10 (Int32.toInt_inj.mp w); omega) rfl ?_
  refine Sim.iconst (v := (0 : Int32)) dX10_mayBeSet_126 rfl ?_
  exact Sim.nret dX10_mayBeSet_127 rfl rfl
theorem mv_X10_mayBeSet : zMV mX10_mayBeSet 3 := ⟨⟨zTb_in 576 (by decide +kernel) rfl, zTb_in 137 (by decide +kernel) rfl, ⟨by decide +kernel, by decide +kernel⟩, by decide +kernel⟩, zTb_in 575 (by decide +kernel) rfl, zTb_in 0 (by decide +kernel) rfl⟩
-- ===== RockingPorch.set(III)Z
abbrev mX10_set : zMt := (yX10_set, cX10_set, 5, some .boolean)
theorem fl_X10_103 : zF RX10 103 4 5 := ⟨RX4, TX4, 15, rfl, Nat.le_of_ble_eq_true rfl, zTb_in 193 (by decide +kernel) rfl, in_X4⟩
theorem fl_X10_106 : zF RX10 106 4 3 := ⟨RX4, TX4, 15, rfl, Nat.le_of_ble_eq_true rfl, zTb_in 186 (by decide +kernel) rfl, in_X4⟩
theorem fl_X10_99 : zF RX10 99 4 1 := ⟨RX4, TX4, 15, rfl, Nat.le_of_ble_eq_true rfl, zTb_in 181 (by decide +kernel) rfl, in_X4⟩
theorem fp_X10_113 : zFp RX10 113 4 11 .int := ⟨RX4, TX4, 15, tyX4, rfl, Nat.le_of_ble_eq_true rfl, zTb_in 211 (by decide +kernel) rfl, in_X4, tyX4_ok, nmX4, rfl, rfl⟩
theorem ml_X10_109 : Cond.methodLink RX10 109 yX4_rock ∈ zTb := zTb_in 590 (by decide +kernel) rfl
theorem ml_X10_95 : Cond.methodLink RX10 95 yX10_mayBeSet ∈ zTb := zTb_in 573 (by decide +kernel) rfl
theorem dX10_set_0 : decode cX10_set 0 = .ok (.aload_n 0, 1) := by decide +kernel
theorem dX10_set_1 : decode cX10_set 1 = .ok (.iload_n 1, 1) := by decide +kernel
theorem dX10_set_2 : decode cX10_set 2 = .ok (.iload_n 2, 1) := by decide +kernel
theorem dX10_set_3 : decode cX10_set 3 = .ok (.iload_n 3, 1) := by decide +kernel
theorem dX10_set_4 : decode cX10_set 4 = .ok (.invokevirtual 95, 3) := by decide +kernel
theorem dX10_set_7 : decode cX10_set 7 = .ok (.ifCond .ne 5, 3) := by decide +kernel
theorem dX10_set_10 : decode cX10_set 10 = .ok (.iconst 0, 1) := by decide +kernel
theorem dX10_set_11 : decode cX10_set 11 = .ok (.ireturn, 1) := by decide +kernel
theorem dX10_set_12 : decode cX10_set 12 = .ok (.aload_n 0, 1) := by decide +kernel
theorem dX10_set_13 : decode cX10_set 13 = .ok (.getfield 26, 3) := by decide +kernel
theorem dX10_set_16 : decode cX10_set 16 = .ok (.invokevirtual 75, 3) := by decide +kernel
theorem dX10_set_19 : decode cX10_set 19 = .ok (.aload_n 0, 1) := by decide +kernel
theorem dX10_set_20 : decode cX10_set 20 = .ok (.getfield 12, 3) := by decide +kernel
theorem dX10_set_23 : decode cX10_set 23 = .ok (.getfield 68, 3) := by decide +kernel
theorem dX10_set_26 : decode cX10_set 26 = .ok (.astore 4, 2) := by decide +kernel
theorem dX10_set_28 : decode cX10_set 28 = .ok (.iload_n 1, 1) := by decide +kernel
theorem dX10_set_29 : decode cX10_set 29 = .ok (.tableswitch 66 0 2 #[27, 38, 49], 27) := by decide +kernel
theorem dX10_set_56 : decode cX10_set 56 = .ok (.aload 4, 2) := by decide +kernel
theorem dX10_set_58 : decode cX10_set 58 = .ok (.getfield 99, 3) := by decide +kernel
theorem dX10_set_61 : decode cX10_set 61 = .ok (.iload_n 2, 1) := by decide +kernel
theorem dX10_set_62 : decode cX10_set 62 = .ok (.iload_n 3, 1) := by decide +kernel
theorem dX10_set_63 : decode cX10_set 63 = .ok (.iastore, 1) := by decide +kernel
theorem dX10_set_64 : decode cX10_set 64 = .ok (.goto 37, 3) := by decide +kernel
theorem dX10_set_67 : decode cX10_set 67 = .ok (.aload 4, 2) := by decide +kernel
theorem dX10_set_69 : decode cX10_set 69 = .ok (.getfield 103, 3) := by decide +kernel
theorem dX10_set_72 : decode cX10_set 72 = .ok (.iload_n 2, 1) := by decide +kernel
theorem dX10_set_73 : decode cX10_set 73 = .ok (.iload_n 3, 1) := by decide +kernel
theorem dX10_set_74 : decode cX10_set 74 = .ok (.iastore, 1) := by decide +kernel
theorem dX10_set_75 : decode cX10_set 75 = .ok (.goto 26, 3) := by decide +kernel
theorem dX10_set_78 : decode cX10_set 78 = .ok (.aload 4, 2) := by decide +kernel
theorem dX10_set_80 : decode cX10_set 80 = .ok (.iload_n 2, 1) := by decide +kernel
theorem dX10_set_81 : decode cX10_set 81 = .ok (.iload_n 3, 1) := by decide +kernel
theorem dX10_set_82 : decode cX10_set 82 = .ok (.aload 4, 2) := by decide +kernel
theorem dX10_set_84 : decode cX10_set 84 = .ok (.getfield 106, 3) := by decide +kernel
theorem dX10_set_87 : decode cX10_set 87 = .ok (.iload_n 2, 1) := by decide +kernel
theorem dX10_set_88 : decode cX10_set 88 = .ok (.iaload, 1) := by decide +kernel
theorem dX10_set_89 : decode cX10_set 89 = .ok (.invokevirtual 109, 3) := by decide +kernel
theorem dX10_set_92 : decode cX10_set 92 = .ok (.goto 9, 3) := by decide +kernel
theorem dX10_set_95 : decode cX10_set 95 = .ok (.aload 4, 2) := by decide +kernel
theorem dX10_set_97 : decode cX10_set 97 = .ok (.iload_n 3, 1) := by decide +kernel
theorem dX10_set_98 : decode cX10_set 98 = .ok (.putfield 113, 3) := by decide +kernel
theorem dX10_set_101 : decode cX10_set 101 = .ok (.iconst 1, 1) := by decide +kernel
theorem dX10_set_102 : decode cX10_set 102 = .ok (.ireturn, 1) := by decide +kernel
def f_X10_set  (a1 : Int32) (a2 : Int32) (a3 : Int32) (h : zHp) : Option (Int32 × zHp) := (f_X10_mayBeSet a1 a2 a3 h).bind fun x1 => (if x1.1 = 0 then some ((0 : Int32), x1.2) else (f_X3_forget x1.2).bind fun x2 => (if a1 = (0 : Int32) then zix a2 10 (zlt (zst x2 3 a2.toNatClampNeg a3) fun h4 => some ((1 : Int32), h4)) else (if a1 = (1 : Int32) then zix a2 14 (zlt (zst x2 7 a2.toNatClampNeg a3) fun h6 => some ((1 : Int32), h6)) else (if a1 = (2 : Int32) then zix a2 10 ((f_X4_rock 2 a2 a3 (x2 5 a2.toNatClampNeg) x2).bind fun x8 => some ((1 : Int32), x8)) else zlt (zst x2 2 11 a3) fun h9 => some ((1 : Int32), h9)))))
set_option maxHeartbeats 4000000 in
set_option maxRecDepth 100000 in
theorem s_X10_set  (a1 : Int32) (a2 : Int32) (a3 : Int32) (h : zHp) : Fn wX mX10_set 3 rI [.ref 0, .int a1, .int a2, .int a3] h (f_X10_set a1 a2 a3 h) := by
  refine Fn.of rfl (Nat.le_of_ble_eq_true rfl) ?_
  unfold f_X10_set
  refine Sim.aload_n 0 dX10_set_0 rfl ?_
  refine Sim.iload_n 1 dX10_set_1 rfl ?_
  refine Sim.iload_n 2 dX10_set_2 rfl ?_
  refine Sim.iload_n 3 dX10_set_3 rfl ?_
  refine Sim.callV3I (d1 := 2) (s_X10_mayBeSet a1 a2 a3 h) dX10_set_4 ml_X10_95 mv_X10_mayBeSet xO_X10 (Nat.le_of_ble_eq_true rfl) (Nat.le_of_ble_eq_true rfl) (Nat.le_of_ble_eq_true rfl) (fun x1 => ?_)
  refine Sim.if_ne 12 dX10_set_7 rfl ?_ ?_
  · refine Sim.iconst (v := (0 : Int32)) dX10_set_10 rfl ?_
    exact Sim.nret dX10_set_11 rfl rfl
  · refine Sim.aload_n 0 dX10_set_12 rfl ?_
    refine Sim.getR (j := 79) fl_X10_26 dX10_set_13 xR_0_3 ?_
    refine Sim.callV0U (d1 := 0) (s_X3_forget x1.2) dX10_set_16 ml_X10_75 mv_X3_forget xO_X3 (Nat.le_of_ble_eq_true rfl) (Nat.le_of_ble_eq_true rfl) (Nat.le_of_ble_eq_true rfl) (fun x2 => ?_)
    refine Sim.aload_n 0 dX10_set_19 rfl ?_
    refine Sim.getR (j := 1) fl_X10_12 dX10_set_20 xR_0_0 ?_
    refine Sim.getR (j := 2) fl_X10_68 dX10_set_23 (xR_X9_0 _ xL_X9_1) ?_
    refine Sim.astore (L' := [(4, .ref 2), (0, .ref 0), (1, .int a1), (2, .int a2), (3, .int a3)]) dX10_set_26 (Nat.le_of_ble_eq_true rfl) rfl ?_
    refine Sim.iload_n 2 dX10_set_28 rfl ?_
    refine Sim.ite _ (fun q3 => ?_) (fun q3 => ?_)
    · refine Sim.tswIn 56 dX10_set_29 q3 (by decide) (by decide) rfl rfl ?_
      refine Sim.aload 0 dX10_set_56 rfl ?_
      refine Sim.getR (j := 3) fl_X10_99 dX10_set_58 (xR_X4_1 _ xL_X4_2) ?_
      refine Sim.iload_n 3 dX10_set_61 rfl ?_
      refine Sim.iload_n 4 dX10_set_62 rfl ?_
      refine Sim.iast (n := 10) dX10_set_63 xA_3 ?_
      refine Sim.lth (fun h4 => ?_)
      refine Sim.goto 101 dX10_set_64 rfl ?_
      refine Sim.iconst (v := (1 : Int32)) dX10_set_101 rfl ?_
      exact Sim.nret dX10_set_102 rfl rfl
    refine Sim.ite _ (fun q5 => ?_) (fun q5 => ?_)
    · refine Sim.tswIn 67 dX10_set_29 q5 (by decide) (by decide) rfl rfl ?_
      refine Sim.aload 0 dX10_set_67 rfl ?_
      refine Sim.getR (j := 7) fl_X10_103 dX10_set_69 (xR_X4_5 _ xL_X4_2) ?_
      refine Sim.iload_n 3 dX10_set_72 rfl ?_
      refine Sim.iload_n 4 dX10_set_73 rfl ?_
      refine Sim.iast (n := 14) dX10_set_74 xA_7 ?_
      refine Sim.lth (fun h6 => ?_)
      refine Sim.goto 101 dX10_set_75 rfl ?_
      refine Sim.iconst (v := (1 : Int32)) dX10_set_101 rfl ?_
      exact Sim.nret dX10_set_102 rfl rfl
    refine Sim.ite _ (fun q7 => ?_) (fun q7 => ?_)
    · refine Sim.tswIn 78 dX10_set_29 q7 (by decide) (by decide) rfl rfl ?_
      refine Sim.aload 0 dX10_set_78 rfl ?_
      refine Sim.iload_n 3 dX10_set_80 rfl ?_
      refine Sim.iload_n 4 dX10_set_81 rfl ?_
      refine Sim.aload 0 dX10_set_82 rfl ?_
      refine Sim.getR (j := 5) fl_X10_106 dX10_set_84 (xR_X4_3 _ xL_X4_2) ?_
      refine Sim.iload_n 3 dX10_set_87 rfl ?_
      refine Sim.iald (n := 10) dX10_set_88 xA_5 ?_
      refine Sim.callV3U (d1 := 0) (s_X4_rock 2 xL_X4_2 a2 a3 (x2 5 a2.toNatClampNeg) x2) dX10_set_89 ml_X10_109 mv_X4_rock (xOC_X4 _ xL_X4_2) (Nat.le_of_ble_eq_true rfl) (Nat.le_of_ble_eq_true rfl) (Nat.le_of_ble_eq_true rfl) (fun x8 => ?_)
      refine Sim.goto 101 dX10_set_92 rfl ?_
      refine Sim.iconst (v := (1 : Int32)) dX10_set_101 rfl ?_
      exact Sim.nret dX10_set_102 rfl rfl
    refine Sim.tswOut 95 dX10_set_29 (by have aq3 : a1.toInt ≠ 0 := fun w => q3 (Int32.toInt_inj.mp w); have aq5 : a1.toInt ≠ 1 := fun w => q5 (Int32.toInt_inj.mp w); have aq7 : a1.toInt ≠ 2 := fun w => q7 (Int32.toInt_inj.mp w); omega) rfl ?_
    refine Sim.aload 0 dX10_set_95 rfl ?_
    refine Sim.iload_n 4 dX10_set_97 rfl ?_
    refine Sim.put fp_X10_113 dX10_set_98 (xI_X4_11 _ xL_X4_2) rfl rfl ?_
    refine Sim.lth (fun h9 => ?_)
    refine Sim.iconst (v := (1 : Int32)) dX10_set_101 rfl ?_
    exact Sim.nret dX10_set_102 rfl rfl
theorem mv_X10_set : zMV mX10_set 3 := ⟨⟨zTb_in 572 (by decide +kernel) rfl, zTb_in 137 (by decide +kernel) rfl, ⟨by decide +kernel, by decide +kernel⟩, by decide +kernel⟩, zTb_in 570 (by decide +kernel) rfl, zTb_in 571 (by decide +kernel) rfl⟩
-- ===== RockingPorch.mayBeDone(III)Z
abbrev mX10_mayBeDone : zMt := (yX10_mayBeDone, cX10_mayBeDone, 4, some .boolean)
theorem ml_X10_152 : Cond.methodLink RX10 152 yX4_is ∈ zTb := zTb_in 599 (by decide +kernel) rfl
theorem ml_X10_155 : Cond.methodLink RX10 155 yX4_isFree ∈ zTb := zTb_in 604 (by decide +kernel) rfl
theorem dX10_mayBeDone_0 : decode cX10_mayBeDone 0 = .ok (.iload_n 1, 1) := by decide +kernel
theorem dX10_mayBeDone_1 : decode cX10_mayBeDone 1 = .ok (.tableswitch 91 0 3 #[31, 66, 79, 79], 31) := by decide +kernel
theorem dX10_mayBeDone_32 : decode cX10_mayBeDone 32 = .ok (.aload_n 0, 1) := by decide +kernel
theorem dX10_mayBeDone_33 : decode cX10_mayBeDone 33 = .ok (.getfield 12, 3) := by decide +kernel
theorem dX10_mayBeDone_36 : decode cX10_mayBeDone 36 = .ok (.getfield 68, 3) := by decide +kernel
theorem dX10_mayBeDone_39 : decode cX10_mayBeDone 39 = .ok (.iload_n 2, 1) := by decide +kernel
theorem dX10_mayBeDone_40 : decode cX10_mayBeDone 40 = .ok (.iconst 1, 1) := by decide +kernel
theorem dX10_mayBeDone_41 : decode cX10_mayBeDone 41 = .ok (.invokevirtual 152, 3) := by decide +kernel
theorem dX10_mayBeDone_44 : decode cX10_mayBeDone 44 = .ok (.ifCond .eq 21, 3) := by decide +kernel
theorem dX10_mayBeDone_47 : decode cX10_mayBeDone 47 = .ok (.aload_n 0, 1) := by decide +kernel
theorem dX10_mayBeDone_48 : decode cX10_mayBeDone 48 = .ok (.getfield 12, 3) := by decide +kernel
theorem dX10_mayBeDone_51 : decode cX10_mayBeDone 51 = .ok (.getfield 68, 3) := by decide +kernel
theorem dX10_mayBeDone_54 : decode cX10_mayBeDone 54 = .ok (.iload_n 3, 1) := by decide +kernel
theorem dX10_mayBeDone_55 : decode cX10_mayBeDone 55 = .ok (.invokevirtual 155, 3) := by decide +kernel
theorem dX10_mayBeDone_58 : decode cX10_mayBeDone 58 = .ok (.ifCond .eq 7, 3) := by decide +kernel
theorem dX10_mayBeDone_61 : decode cX10_mayBeDone 61 = .ok (.iconst 1, 1) := by decide +kernel
theorem dX10_mayBeDone_62 : decode cX10_mayBeDone 62 = .ok (.goto 4, 3) := by decide +kernel
theorem dX10_mayBeDone_65 : decode cX10_mayBeDone 65 = .ok (.iconst 0, 1) := by decide +kernel
theorem dX10_mayBeDone_66 : decode cX10_mayBeDone 66 = .ok (.ireturn, 1) := by decide +kernel
theorem dX10_mayBeDone_67 : decode cX10_mayBeDone 67 = .ok (.aload_n 0, 1) := by decide +kernel
theorem dX10_mayBeDone_68 : decode cX10_mayBeDone 68 = .ok (.getfield 12, 3) := by decide +kernel
theorem dX10_mayBeDone_71 : decode cX10_mayBeDone 71 = .ok (.getfield 68, 3) := by decide +kernel
theorem dX10_mayBeDone_74 : decode cX10_mayBeDone 74 = .ok (.iload_n 2, 1) := by decide +kernel
theorem dX10_mayBeDone_75 : decode cX10_mayBeDone 75 = .ok (.iconst 2, 1) := by decide +kernel
theorem dX10_mayBeDone_76 : decode cX10_mayBeDone 76 = .ok (.invokevirtual 152, 3) := by decide +kernel
theorem dX10_mayBeDone_79 : decode cX10_mayBeDone 79 = .ok (.ireturn, 1) := by decide +kernel
theorem dX10_mayBeDone_80 : decode cX10_mayBeDone 80 = .ok (.aload_n 0, 1) := by decide +kernel
theorem dX10_mayBeDone_81 : decode cX10_mayBeDone 81 = .ok (.getfield 12, 3) := by decide +kernel
theorem dX10_mayBeDone_84 : decode cX10_mayBeDone 84 = .ok (.getfield 68, 3) := by decide +kernel
theorem dX10_mayBeDone_87 : decode cX10_mayBeDone 87 = .ok (.iload_n 2, 1) := by decide +kernel
theorem dX10_mayBeDone_88 : decode cX10_mayBeDone 88 = .ok (.invokevirtual 123, 3) := by decide +kernel
theorem dX10_mayBeDone_91 : decode cX10_mayBeDone 91 = .ok (.ireturn, 1) := by decide +kernel
theorem dX10_mayBeDone_92 : decode cX10_mayBeDone 92 = .ok (.iconst 0, 1) := by decide +kernel
theorem dX10_mayBeDone_93 : decode cX10_mayBeDone 93 = .ok (.ireturn, 1) := by decide +kernel
def f_X10_mayBeDone  (a1 : Int32) (a2 : Int32) (a3 : Int32) (h : zHp) : Option (Int32 × zHp) := (if a1 = (0 : Int32) then (f_X4_is 2 a2 (1 : Int32) h).bind fun x2 => (if x2.1 = 0 then some ((0 : Int32), x2.2) else (f_X4_isFree 2 a3 x2.2).bind fun x3 => (if x3.1 = 0 then some ((0 : Int32), x3.2) else some ((1 : Int32), x3.2))) else (if a1 = (1 : Int32) then (f_X4_is 2 a2 (2 : Int32) h).bind fun x5 => zzb x5.1 (some (x5.1, x5.2)) else (if a1 = (2 : Int32) then (f_X4_rocks 2 a2 h).bind fun x7 => zzb x7.1 (some (x7.1, x7.2)) else (if a1 = (3 : Int32) then (f_X4_rocks 2 a2 h).bind fun x9 => zzb x9.1 (some (x9.1, x9.2)) else some ((0 : Int32), h)))))
set_option maxHeartbeats 4000000 in
set_option maxRecDepth 100000 in
theorem s_X10_mayBeDone  (a1 : Int32) (a2 : Int32) (a3 : Int32) (h : zHp) : Fn wX mX10_mayBeDone 2 rI [.ref 0, .int a1, .int a2, .int a3] h (f_X10_mayBeDone a1 a2 a3 h) := by
  refine Fn.of rfl (Nat.le_of_ble_eq_true rfl) ?_
  unfold f_X10_mayBeDone
  refine Sim.iload_n 1 dX10_mayBeDone_0 rfl ?_
  refine Sim.ite _ (fun q1 => ?_) (fun q1 => ?_)
  · refine Sim.tswIn 32 dX10_mayBeDone_1 q1 (by decide) (by decide) rfl rfl ?_
    refine Sim.aload_n 0 dX10_mayBeDone_32 rfl ?_
    refine Sim.getR (j := 1) fl_X10_12 dX10_mayBeDone_33 xR_0_0 ?_
    refine Sim.getR (j := 2) fl_X10_68 dX10_mayBeDone_36 (xR_X9_0 _ xL_X9_1) ?_
    refine Sim.iload_n 2 dX10_mayBeDone_39 rfl ?_
    refine Sim.iconst (v := (1 : Int32)) dX10_mayBeDone_40 rfl ?_
    refine Sim.callV2I (d1 := 1) (s_X4_is 2 xL_X4_2 a2 (1 : Int32) h) dX10_mayBeDone_41 ml_X10_152 mv_X4_is (xOC_X4 _ xL_X4_2) (Nat.le_of_ble_eq_true rfl) (Nat.le_of_ble_eq_true rfl) (Nat.le_of_ble_eq_true rfl) (fun x2 => ?_)
    refine Sim.if_eq 65 dX10_mayBeDone_44 rfl ?_ ?_
    · refine Sim.iconst (v := (0 : Int32)) dX10_mayBeDone_65 rfl ?_
      exact Sim.nret dX10_mayBeDone_66 rfl rfl
    · refine Sim.aload_n 0 dX10_mayBeDone_47 rfl ?_
      refine Sim.getR (j := 1) fl_X10_12 dX10_mayBeDone_48 xR_0_0 ?_
      refine Sim.getR (j := 2) fl_X10_68 dX10_mayBeDone_51 (xR_X9_0 _ xL_X9_1) ?_
      refine Sim.iload_n 3 dX10_mayBeDone_54 rfl ?_
      refine Sim.callV1I (d1 := 1) (s_X4_isFree 2 xL_X4_2 a3 x2.2) dX10_mayBeDone_55 ml_X10_155 mv_X4_isFree (xOC_X4 _ xL_X4_2) (Nat.le_of_ble_eq_true rfl) (Nat.le_of_ble_eq_true rfl) (Nat.le_of_ble_eq_true rfl) (fun x3 => ?_)
      refine Sim.if_eq 65 dX10_mayBeDone_58 rfl ?_ ?_
      · refine Sim.iconst (v := (0 : Int32)) dX10_mayBeDone_65 rfl ?_
        exact Sim.nret dX10_mayBeDone_66 rfl rfl
      · refine Sim.iconst (v := (1 : Int32)) dX10_mayBeDone_61 rfl ?_
        refine Sim.goto 66 dX10_mayBeDone_62 rfl ?_
        exact Sim.nret dX10_mayBeDone_66 rfl rfl
  refine Sim.ite _ (fun q4 => ?_) (fun q4 => ?_)
  · refine Sim.tswIn 67 dX10_mayBeDone_1 q4 (by decide) (by decide) rfl rfl ?_
    refine Sim.aload_n 0 dX10_mayBeDone_67 rfl ?_
    refine Sim.getR (j := 1) fl_X10_12 dX10_mayBeDone_68 xR_0_0 ?_
    refine Sim.getR (j := 2) fl_X10_68 dX10_mayBeDone_71 (xR_X9_0 _ xL_X9_1) ?_
    refine Sim.iload_n 2 dX10_mayBeDone_74 rfl ?_
    refine Sim.iconst (v := (2 : Int32)) dX10_mayBeDone_75 rfl ?_
    refine Sim.callV2I (d1 := 1) (s_X4_is 2 xL_X4_2 a2 (2 : Int32) h) dX10_mayBeDone_76 ml_X10_152 mv_X4_is (xOC_X4 _ xL_X4_2) (Nat.le_of_ble_eq_true rfl) (Nat.le_of_ble_eq_true rfl) (Nat.le_of_ble_eq_true rfl) (fun x5 => ?_)
    exact Sim.zret dX10_mayBeDone_79 rfl
  refine Sim.ite _ (fun q6 => ?_) (fun q6 => ?_)
  · refine Sim.tswIn 80 dX10_mayBeDone_1 q6 (by decide) (by decide) rfl rfl ?_
    refine Sim.aload_n 0 dX10_mayBeDone_80 rfl ?_
    refine Sim.getR (j := 1) fl_X10_12 dX10_mayBeDone_81 xR_0_0 ?_
    refine Sim.getR (j := 2) fl_X10_68 dX10_mayBeDone_84 (xR_X9_0 _ xL_X9_1) ?_
    refine Sim.iload_n 2 dX10_mayBeDone_87 rfl ?_
    refine Sim.callV1I (d1 := 1) (s_X4_rocks 2 xL_X4_2 a2 h) dX10_mayBeDone_88 ml_X10_123 mv_X4_rocks (xOC_X4 _ xL_X4_2) (Nat.le_of_ble_eq_true rfl) (Nat.le_of_ble_eq_true rfl) (Nat.le_of_ble_eq_true rfl) (fun x7 => ?_)
    exact Sim.zret dX10_mayBeDone_91 rfl
  refine Sim.ite _ (fun q8 => ?_) (fun q8 => ?_)
  · refine Sim.tswIn 80 dX10_mayBeDone_1 q8 (by decide) (by decide) rfl rfl ?_
    refine Sim.aload_n 0 dX10_mayBeDone_80 rfl ?_
    refine Sim.getR (j := 1) fl_X10_12 dX10_mayBeDone_81 xR_0_0 ?_
    refine Sim.getR (j := 2) fl_X10_68 dX10_mayBeDone_84 (xR_X9_0 _ xL_X9_1) ?_
    refine Sim.iload_n 2 dX10_mayBeDone_87 rfl ?_
    refine Sim.callV1I (d1 := 1) (s_X4_rocks 2 xL_X4_2 a2 h) dX10_mayBeDone_88 ml_X10_123 mv_X4_rocks (xOC_X4 _ xL_X4_2) (Nat.le_of_ble_eq_true rfl) (Nat.le_of_ble_eq_true rfl) (Nat.le_of_ble_eq_true rfl) (fun x9 => ?_)
    exact Sim.zret dX10_mayBeDone_91 rfl
  refine Sim.tswOut 92 dX10_mayBeDone_1 (by have aq1 : a1.toInt ≠ 0 := fun w => q1 (Int32.toInt_inj.mp w); have aq4 : a1.toInt ≠ 1 := fun w => q4 (Int32.toInt_inj.mp w); have aq6 : a1.toInt ≠ 2 := fun w => q6 (Int32.toInt_inj.mp w); have aq8 : a1.toInt ≠ 3 := fun w => q8 (Int32.toInt_inj.mp w); omega) rfl ?_
  refine Sim.iconst (v := (0 : Int32)) dX10_mayBeDone_92 rfl ?_
  exact Sim.nret dX10_mayBeDone_93 rfl rfl
theorem mv_X10_mayBeDone : zMV mX10_mayBeDone 3 := ⟨⟨zTb_in 598 (by decide +kernel) rfl, zTb_in 137 (by decide +kernel) rfl, ⟨by decide +kernel, by decide +kernel⟩, by decide +kernel⟩, zTb_in 597 (by decide +kernel) rfl, zTb_in 1 (by decide +kernel) rfl⟩
-- ===== RockingPorch.act(III)Z
abbrev mX10_act : zMt := (yX10_act, cX10_act, 5, some .boolean)
theorem fl_X10_129 : zF RX10 129 9 1 := ⟨RX9, TX9, 7, rfl, Nat.le_of_ble_eq_true rfl, zTb_in 364 (by decide +kernel) rfl, in_X9⟩
theorem fl_X10_133 : zF RX10 133 2 2 := ⟨RX2, TX2, 3, rfl, Nat.le_of_ble_eq_true rfl, zTb_in 262 (by decide +kernel) rfl, in_X2⟩
theorem fl_X10_51 : zF RX10 51 10 6 := ⟨RX10, TX10, 8, rfl, Nat.le_of_ble_eq_true rfl, zTb_in 519 (by decide +kernel) rfl, in_X10⟩
theorem ml_X10_126 : Cond.methodLink RX10 126 yX10_mayBeDone ∈ zTb := zTb_in 595 (by decide +kernel) rfl
theorem ml_X10_138 : Cond.methodLink RX10 138 yX3_keep ∈ zTb := zTb_in 608 (by decide +kernel) rfl
theorem ml_X10_142 : Cond.methodLink RX10 142 yX0_sitDown ∈ zTb := zTb_in 622 (by decide +kernel) rfl
theorem ml_X10_146 : Cond.methodLink RX10 146 yX0_getUp ∈ zTb := zTb_in 636 (by decide +kernel) rfl
theorem ml_X10_149 : Cond.methodLink RX10 149 yX0_letCat ∈ zTb := zTb_in 690 (by decide +kernel) rfl
theorem dX10_act_0 : decode cX10_act 0 = .ok (.aload_n 0, 1) := by decide +kernel
theorem dX10_act_1 : decode cX10_act 1 = .ok (.iload_n 1, 1) := by decide +kernel
theorem dX10_act_2 : decode cX10_act 2 = .ok (.iload_n 2, 1) := by decide +kernel
theorem dX10_act_3 : decode cX10_act 3 = .ok (.iload_n 3, 1) := by decide +kernel
theorem dX10_act_4 : decode cX10_act 4 = .ok (.invokevirtual 126, 3) := by decide +kernel
theorem dX10_act_7 : decode cX10_act 7 = .ok (.ifCond .ne 5, 3) := by decide +kernel
theorem dX10_act_10 : decode cX10_act 10 = .ok (.iconst 0, 1) := by decide +kernel
theorem dX10_act_11 : decode cX10_act 11 = .ok (.ireturn, 1) := by decide +kernel
theorem dX10_act_12 : decode cX10_act 12 = .ok (.aload_n 0, 1) := by decide +kernel
theorem dX10_act_13 : decode cX10_act 13 = .ok (.getfield 12, 3) := by decide +kernel
theorem dX10_act_16 : decode cX10_act 16 = .ok (.getfield 68, 3) := by decide +kernel
theorem dX10_act_19 : decode cX10_act 19 = .ok (.astore 4, 2) := by decide +kernel
theorem dX10_act_21 : decode cX10_act 21 = .ok (.aload_n 0, 1) := by decide +kernel
theorem dX10_act_22 : decode cX10_act 22 = .ok (.getfield 26, 3) := by decide +kernel
theorem dX10_act_25 : decode cX10_act 25 = .ok (.aload 4, 2) := by decide +kernel
theorem dX10_act_27 : decode cX10_act 27 = .ok (.aload_n 0, 1) := by decide +kernel
theorem dX10_act_28 : decode cX10_act 28 = .ok (.getfield 12, 3) := by decide +kernel
theorem dX10_act_31 : decode cX10_act 31 = .ok (.getfield 129, 3) := by decide +kernel
theorem dX10_act_34 : decode cX10_act 34 = .ok (.getfield 133, 3) := by decide +kernel
theorem dX10_act_37 : decode cX10_act 37 = .ok (.invokevirtual 138, 3) := by decide +kernel
theorem dX10_act_40 : decode cX10_act 40 = .ok (.iload_n 1, 1) := by decide +kernel
theorem dX10_act_41 : decode cX10_act 41 = .ok (.tableswitch 68 0 2 #[27, 42, 55], 27) := by decide +kernel
theorem dX10_act_68 : decode cX10_act 68 = .ok (.aload_n 0, 1) := by decide +kernel
theorem dX10_act_69 : decode cX10_act 69 = .ok (.getfield 51, 3) := by decide +kernel
theorem dX10_act_72 : decode cX10_act 72 = .ok (.aload 4, 2) := by decide +kernel
theorem dX10_act_74 : decode cX10_act 74 = .ok (.iload_n 2, 1) := by decide +kernel
theorem dX10_act_75 : decode cX10_act 75 = .ok (.iload_n 3, 1) := by decide +kernel
theorem dX10_act_76 : decode cX10_act 76 = .ok (.invokevirtual 142, 3) := by decide +kernel
theorem dX10_act_79 : decode cX10_act 79 = .ok (.pop, 1) := by decide +kernel
theorem dX10_act_80 : decode cX10_act 80 = .ok (.goto 37, 3) := by decide +kernel
theorem dX10_act_83 : decode cX10_act 83 = .ok (.aload_n 0, 1) := by decide +kernel
theorem dX10_act_84 : decode cX10_act 84 = .ok (.getfield 51, 3) := by decide +kernel
theorem dX10_act_87 : decode cX10_act 87 = .ok (.aload 4, 2) := by decide +kernel
theorem dX10_act_89 : decode cX10_act 89 = .ok (.iload_n 2, 1) := by decide +kernel
theorem dX10_act_90 : decode cX10_act 90 = .ok (.invokevirtual 146, 3) := by decide +kernel
theorem dX10_act_93 : decode cX10_act 93 = .ok (.goto 24, 3) := by decide +kernel
theorem dX10_act_96 : decode cX10_act 96 = .ok (.aload_n 0, 1) := by decide +kernel
theorem dX10_act_97 : decode cX10_act 97 = .ok (.getfield 51, 3) := by decide +kernel
theorem dX10_act_100 : decode cX10_act 100 = .ok (.aload 4, 2) := by decide +kernel
theorem dX10_act_102 : decode cX10_act 102 = .ok (.iload_n 2, 1) := by decide +kernel
theorem dX10_act_103 : decode cX10_act 103 = .ok (.invokevirtual 149, 3) := by decide +kernel
theorem dX10_act_106 : decode cX10_act 106 = .ok (.goto 11, 3) := by decide +kernel
theorem dX10_act_109 : decode cX10_act 109 = .ok (.aload 4, 2) := by decide +kernel
theorem dX10_act_111 : decode cX10_act 111 = .ok (.iload_n 2, 1) := by decide +kernel
theorem dX10_act_112 : decode cX10_act 112 = .ok (.iconst 0, 1) := by decide +kernel
theorem dX10_act_113 : decode cX10_act 113 = .ok (.iconst (-1), 1) := by decide +kernel
theorem dX10_act_114 : decode cX10_act 114 = .ok (.invokevirtual 109, 3) := by decide +kernel
theorem dX10_act_117 : decode cX10_act 117 = .ok (.iconst 1, 1) := by decide +kernel
theorem dX10_act_118 : decode cX10_act 118 = .ok (.ireturn, 1) := by decide +kernel
def f_X10_act  (a1 : Int32) (a2 : Int32) (a3 : Int32) (h : zHp) : Option (Int32 × zHp) := (f_X10_mayBeDone a1 a2 a3 h).bind fun x1 => (if x1.1 = 0 then some ((0 : Int32), x1.2) else (f_X3_keep 2 (x1.2 11 2) x1.2).bind fun x2 => (if a1 = (0 : Int32) then (f_X0_sitDown 2 a2 a3 x2).bind fun x4 => some ((1 : Int32), x4.2) else (if a1 = (1 : Int32) then (f_X0_getUp 2 a2 x2).bind fun x6 => some ((1 : Int32), x6) else (if a1 = (2 : Int32) then (f_X0_letCat 2 a2 x2).bind fun x8 => some ((1 : Int32), x8) else (f_X4_rock 2 a2 (0 : Int32) (-1 : Int32) x2).bind fun x9 => some ((1 : Int32), x9)))))
set_option maxHeartbeats 4000000 in
set_option maxRecDepth 100000 in
theorem s_X10_act  (a1 : Int32) (a2 : Int32) (a3 : Int32) (h : zHp) : Fn wX mX10_act 5 rI [.ref 0, .int a1, .int a2, .int a3] h (f_X10_act a1 a2 a3 h) := by
  refine Fn.of rfl (Nat.le_of_ble_eq_true rfl) ?_
  unfold f_X10_act
  refine Sim.aload_n 0 dX10_act_0 rfl ?_
  refine Sim.iload_n 1 dX10_act_1 rfl ?_
  refine Sim.iload_n 2 dX10_act_2 rfl ?_
  refine Sim.iload_n 3 dX10_act_3 rfl ?_
  refine Sim.callV3I (d1 := 2) (s_X10_mayBeDone a1 a2 a3 h) dX10_act_4 ml_X10_126 mv_X10_mayBeDone xO_X10 (Nat.le_of_ble_eq_true rfl) (Nat.le_of_ble_eq_true rfl) (Nat.le_of_ble_eq_true rfl) (fun x1 => ?_)
  refine Sim.if_ne 12 dX10_act_7 rfl ?_ ?_
  · refine Sim.iconst (v := (0 : Int32)) dX10_act_10 rfl ?_
    exact Sim.nret dX10_act_11 rfl rfl
  · refine Sim.aload_n 0 dX10_act_12 rfl ?_
    refine Sim.getR (j := 1) fl_X10_12 dX10_act_13 xR_0_0 ?_
    refine Sim.getR (j := 2) fl_X10_68 dX10_act_16 (xR_X9_0 _ xL_X9_1) ?_
    refine Sim.astore (L' := [(4, .ref 2), (0, .ref 0), (1, .int a1), (2, .int a2), (3, .int a3)]) dX10_act_19 (Nat.le_of_ble_eq_true rfl) rfl ?_
    refine Sim.aload_n 1 dX10_act_21 rfl ?_
    refine Sim.getR (j := 79) fl_X10_26 dX10_act_22 xR_0_3 ?_
    refine Sim.aload 0 dX10_act_25 rfl ?_
    refine Sim.aload_n 1 dX10_act_27 rfl ?_
    refine Sim.getR (j := 1) fl_X10_12 dX10_act_28 xR_0_0 ?_
    refine Sim.getR (j := 11) fl_X10_129 dX10_act_31 (xR_X9_1 _ xL_X9_1) ?_
    refine Sim.getI fl_X10_133 dX10_act_34 (xI_X2_2 _ xL_X2_11) ?_
    refine Sim.callV2U (d1 := 2) (s_X3_keep 2 xL_X4_2 (x1.2 11 2) x1.2) dX10_act_37 ml_X10_138 mv_X3_keep xO_X3 (Nat.le_of_ble_eq_true rfl) (Nat.le_of_ble_eq_true rfl) (Nat.le_of_ble_eq_true rfl) (fun x2 => ?_)
    refine Sim.iload_n 2 dX10_act_40 rfl ?_
    refine Sim.ite _ (fun q3 => ?_) (fun q3 => ?_)
    · refine Sim.tswIn 68 dX10_act_41 q3 (by decide) (by decide) rfl rfl ?_
      refine Sim.aload_n 1 dX10_act_68 rfl ?_
      refine Sim.getR (j := 159) fl_X10_51 dX10_act_69 xR_0_6 ?_
      refine Sim.aload 0 dX10_act_72 rfl ?_
      refine Sim.iload_n 3 dX10_act_74 rfl ?_
      refine Sim.iload_n 4 dX10_act_75 rfl ?_
      refine Sim.callV3I (d1 := 2) (s_X0_sitDown 2 xL_X4_2 a2 a3 x2) dX10_act_76 ml_X10_142 mv_X0_sitDown xO_X0 (Nat.le_of_ble_eq_true rfl) (Nat.le_of_ble_eq_true rfl) (Nat.le_of_ble_eq_true rfl) (fun x4 => ?_)
      refine Sim.pop dX10_act_79 rfl ?_
      refine Sim.goto 117 dX10_act_80 rfl ?_
      refine Sim.iconst (v := (1 : Int32)) dX10_act_117 rfl ?_
      exact Sim.nret dX10_act_118 rfl rfl
    refine Sim.ite _ (fun q5 => ?_) (fun q5 => ?_)
    · refine Sim.tswIn 83 dX10_act_41 q5 (by decide) (by decide) rfl rfl ?_
      refine Sim.aload_n 1 dX10_act_83 rfl ?_
      refine Sim.getR (j := 159) fl_X10_51 dX10_act_84 xR_0_6 ?_
      refine Sim.aload 0 dX10_act_87 rfl ?_
      refine Sim.iload_n 3 dX10_act_89 rfl ?_
      refine Sim.callV2U (d1 := 4) (s_X0_getUp 2 xL_X4_2 a2 x2) dX10_act_90 ml_X10_146 mv_X0_getUp xO_X0 (Nat.le_of_ble_eq_true rfl) (Nat.le_of_ble_eq_true rfl) (Nat.le_of_ble_eq_true rfl) (fun x6 => ?_)
      refine Sim.goto 117 dX10_act_93 rfl ?_
      refine Sim.iconst (v := (1 : Int32)) dX10_act_117 rfl ?_
      exact Sim.nret dX10_act_118 rfl rfl
    refine Sim.ite _ (fun q7 => ?_) (fun q7 => ?_)
    · refine Sim.tswIn 96 dX10_act_41 q7 (by decide) (by decide) rfl rfl ?_
      refine Sim.aload_n 1 dX10_act_96 rfl ?_
      refine Sim.getR (j := 159) fl_X10_51 dX10_act_97 xR_0_6 ?_
      refine Sim.aload 0 dX10_act_100 rfl ?_
      refine Sim.iload_n 3 dX10_act_102 rfl ?_
      refine Sim.callV2U (d1 := 4) (s_X0_letCat 2 xL_X4_2 a2 x2) dX10_act_103 ml_X10_149 mv_X0_letCat xO_X0 (Nat.le_of_ble_eq_true rfl) (Nat.le_of_ble_eq_true rfl) (Nat.le_of_ble_eq_true rfl) (fun x8 => ?_)
      refine Sim.goto 117 dX10_act_106 rfl ?_
      refine Sim.iconst (v := (1 : Int32)) dX10_act_117 rfl ?_
      exact Sim.nret dX10_act_118 rfl rfl
    refine Sim.tswOut 109 dX10_act_41 (by have aq3 : a1.toInt ≠ 0 := fun w => q3 (Int32.toInt_inj.mp w); have aq5 : a1.toInt ≠ 1 := fun w => q5 (Int32.toInt_inj.mp w); have aq7 : a1.toInt ≠ 2 := fun w => q7 (Int32.toInt_inj.mp w); omega) rfl ?_
    refine Sim.aload 0 dX10_act_109 rfl ?_
    refine Sim.iload_n 3 dX10_act_111 rfl ?_
    refine Sim.iconst (v := (0 : Int32)) dX10_act_112 rfl ?_
    refine Sim.iconst (v := (-1 : Int32)) dX10_act_113 rfl ?_
    refine Sim.callV3U (d1 := 0) (s_X4_rock 2 xL_X4_2 a2 (0 : Int32) (-1 : Int32) x2) dX10_act_114 ml_X10_109 mv_X4_rock (xOC_X4 _ xL_X4_2) (Nat.le_of_ble_eq_true rfl) (Nat.le_of_ble_eq_true rfl) (Nat.le_of_ble_eq_true rfl) (fun x9 => ?_)
    refine Sim.iconst (v := (1 : Int32)) dX10_act_117 rfl ?_
    exact Sim.nret dX10_act_118 rfl rfl
theorem mv_X10_act : zMV mX10_act 3 := ⟨⟨zTb_in 594 (by decide +kernel) rfl, zTb_in 137 (by decide +kernel) rfl, ⟨by decide +kernel, by decide +kernel⟩, by decide +kernel⟩, zTb_in 592 (by decide +kernel) rfl, zTb_in 593 (by decide +kernel) rfl⟩
-- ===== RockingPorch.minutes(I)I
abbrev mX10_minutes : zMt := (yX10_minutes, cX10_minutes, 4, some .int)
theorem fl_X10_158 : zF RX10 158 4 13 := ⟨RX4, TX4, 15, rfl, Nat.le_of_ble_eq_true rfl, zTb_in 216 (by decide +kernel) rfl, in_X4⟩
theorem ml_X10_161 : Cond.methodLink RX10 161 yX0_passMinute ∈ zTb := zTb_in 705 (by decide +kernel) rfl
theorem dX10_minutes_0 : decode cX10_minutes 0 = .ok (.iload_n 1, 1) := by decide +kernel
theorem dX10_minutes_1 : decode cX10_minutes 1 = .ok (.iconst 1, 1) := by decide +kernel
theorem dX10_minutes_2 : decode cX10_minutes 2 = .ok (.if_icmp .lt 27, 3) := by decide +kernel
theorem dX10_minutes_5 : decode cX10_minutes 5 = .ok (.iload_n 1, 1) := by decide +kernel
theorem dX10_minutes_6 : decode cX10_minutes 6 = .ok (.bipush 60, 2) := by decide +kernel
theorem dX10_minutes_8 : decode cX10_minutes 8 = .ok (.if_icmp .gt 21, 3) := by decide +kernel
theorem dX10_minutes_11 : decode cX10_minutes 11 = .ok (.aload_n 0, 1) := by decide +kernel
theorem dX10_minutes_12 : decode cX10_minutes 12 = .ok (.getfield 12, 3) := by decide +kernel
theorem dX10_minutes_15 : decode cX10_minutes 15 = .ok (.getfield 68, 3) := by decide +kernel
theorem dX10_minutes_18 : decode cX10_minutes 18 = .ok (.getfield 158, 3) := by decide +kernel
theorem dX10_minutes_21 : decode cX10_minutes 21 = .ok (.iload_n 1, 1) := by decide +kernel
theorem dX10_minutes_22 : decode cX10_minutes 22 = .ok (.iadd, 1) := by decide +kernel
theorem dX10_minutes_23 : decode cX10_minutes 23 = .ok (.sipush 9999, 3) := by decide +kernel
theorem dX10_minutes_26 : decode cX10_minutes 26 = .ok (.if_icmp .le 5, 3) := by decide +kernel
theorem dX10_minutes_29 : decode cX10_minutes 29 = .ok (.iconst (-1), 1) := by decide +kernel
theorem dX10_minutes_30 : decode cX10_minutes 30 = .ok (.ireturn, 1) := by decide +kernel
theorem dX10_minutes_31 : decode cX10_minutes 31 = .ok (.iconst 0, 1) := by decide +kernel
theorem dX10_minutes_32 : decode cX10_minutes 32 = .ok (.istore_n 2, 1) := by decide +kernel
theorem dX10_minutes_33 : decode cX10_minutes 33 = .ok (.iconst 0, 1) := by decide +kernel
theorem dX10_minutes_34 : decode cX10_minutes 34 = .ok (.istore_n 3, 1) := by decide +kernel
theorem dX10_minutes_35 : decode cX10_minutes 35 = .ok (.iload_n 3, 1) := by decide +kernel
theorem dX10_minutes_36 : decode cX10_minutes 36 = .ok (.iload_n 1, 1) := by decide +kernel
theorem dX10_minutes_37 : decode cX10_minutes 37 = .ok (.if_icmp .ge 50, 3) := by decide +kernel
theorem dX10_minutes_40 : decode cX10_minutes 40 = .ok (.aload_n 0, 1) := by decide +kernel
theorem dX10_minutes_41 : decode cX10_minutes 41 = .ok (.getfield 26, 3) := by decide +kernel
theorem dX10_minutes_44 : decode cX10_minutes 44 = .ok (.aload_n 0, 1) := by decide +kernel
theorem dX10_minutes_45 : decode cX10_minutes 45 = .ok (.getfield 12, 3) := by decide +kernel
theorem dX10_minutes_48 : decode cX10_minutes 48 = .ok (.getfield 68, 3) := by decide +kernel
theorem dX10_minutes_51 : decode cX10_minutes 51 = .ok (.aload_n 0, 1) := by decide +kernel
theorem dX10_minutes_52 : decode cX10_minutes 52 = .ok (.getfield 12, 3) := by decide +kernel
theorem dX10_minutes_55 : decode cX10_minutes 55 = .ok (.getfield 129, 3) := by decide +kernel
theorem dX10_minutes_58 : decode cX10_minutes 58 = .ok (.getfield 133, 3) := by decide +kernel
theorem dX10_minutes_61 : decode cX10_minutes 61 = .ok (.invokevirtual 138, 3) := by decide +kernel
theorem dX10_minutes_64 : decode cX10_minutes 64 = .ok (.iload_n 2, 1) := by decide +kernel
theorem dX10_minutes_65 : decode cX10_minutes 65 = .ok (.aload_n 0, 1) := by decide +kernel
theorem dX10_minutes_66 : decode cX10_minutes 66 = .ok (.getfield 51, 3) := by decide +kernel
theorem dX10_minutes_69 : decode cX10_minutes 69 = .ok (.aload_n 0, 1) := by decide +kernel
theorem dX10_minutes_70 : decode cX10_minutes 70 = .ok (.getfield 12, 3) := by decide +kernel
theorem dX10_minutes_73 : decode cX10_minutes 73 = .ok (.getfield 68, 3) := by decide +kernel
theorem dX10_minutes_76 : decode cX10_minutes 76 = .ok (.invokevirtual 161, 3) := by decide +kernel
theorem dX10_minutes_79 : decode cX10_minutes 79 = .ok (.iadd, 1) := by decide +kernel
theorem dX10_minutes_80 : decode cX10_minutes 80 = .ok (.istore_n 2, 1) := by decide +kernel
theorem dX10_minutes_81 : decode cX10_minutes 81 = .ok (.iinc 3 1, 3) := by decide +kernel
theorem dX10_minutes_84 : decode cX10_minutes 84 = .ok (.goto (-49), 3) := by decide +kernel
theorem dX10_minutes_87 : decode cX10_minutes 87 = .ok (.iload_n 2, 1) := by decide +kernel
theorem dX10_minutes_88 : decode cX10_minutes 88 = .ok (.ireturn, 1) := by decide +kernel
def f_X10_minutes_35  (k35 : Int32 × Int32 × Int32 × zHp → Option (Int32 × zHp)) (v1 : Int32) (v2 : Int32) (v3 : Int32) (h : zHp) : Option (Int32 × zHp) := (if v3 < v1 then (f_X3_keep 2 (h 11 2) h).bind fun x1 => (f_X0_passMinute 2 x1).bind fun x2 => zlt (v2 + x2.1) fun x3 => k35 (v1, x3, (v3 + (1 : Int32)), x2.2) else some (v2, h))
set_option maxHeartbeats 4000000 in
set_option maxRecDepth 100000 in
theorem f_X10_minutes_35_s  (k35 : Int32 × Int32 × Int32 × zHp → Option (Int32 × zHp)) (H35 : ∀ v : Int32 × Int32 × Int32 × zHp, Sim wX mX10_minutes 7 rI 35 [(0, .ref 0), (1, .int v.1), (2, .int v.2.1), (3, .int v.2.2.1)] [] v.2.2.2 (k35 v)) (v1 : Int32) (v2 : Int32) (v3 : Int32) (h : zHp) : Sim wX mX10_minutes 7 rI 35 [(0, .ref 0), (1, .int v1), (2, .int v2), (3, .int v3)] [] h (f_X10_minutes_35 k35 v1 v2 v3 h) := by
  unfold f_X10_minutes_35
  refine Sim.iload_n 3 dX10_minutes_35 rfl ?_
  refine Sim.iload_n 1 dX10_minutes_36 rfl ?_
  refine Sim.icmp_ge 87 dX10_minutes_37 rfl ?_ ?_
  · refine Sim.aload_n 0 dX10_minutes_40 rfl ?_
    refine Sim.getR (j := 79) fl_X10_26 dX10_minutes_41 xR_0_3 ?_
    refine Sim.aload_n 0 dX10_minutes_44 rfl ?_
    refine Sim.getR (j := 1) fl_X10_12 dX10_minutes_45 xR_0_0 ?_
    refine Sim.getR (j := 2) fl_X10_68 dX10_minutes_48 (xR_X9_0 _ xL_X9_1) ?_
    refine Sim.aload_n 0 dX10_minutes_51 rfl ?_
    refine Sim.getR (j := 1) fl_X10_12 dX10_minutes_52 xR_0_0 ?_
    refine Sim.getR (j := 11) fl_X10_129 dX10_minutes_55 (xR_X9_1 _ xL_X9_1) ?_
    refine Sim.getI fl_X10_133 dX10_minutes_58 (xI_X2_2 _ xL_X2_11) ?_
    refine Sim.callV2U (d1 := 2) (s_X3_keep 2 xL_X4_2 (h 11 2) h) dX10_minutes_61 ml_X10_138 mv_X3_keep xO_X3 (Nat.le_of_ble_eq_true rfl) (Nat.le_of_ble_eq_true rfl) (Nat.le_of_ble_eq_true rfl) (fun x1 => ?_)
    refine Sim.iload_n 2 dX10_minutes_64 rfl ?_
    refine Sim.aload_n 0 dX10_minutes_65 rfl ?_
    refine Sim.getR (j := 159) fl_X10_51 dX10_minutes_66 xR_0_6 ?_
    refine Sim.aload_n 0 dX10_minutes_69 rfl ?_
    refine Sim.getR (j := 1) fl_X10_12 dX10_minutes_70 xR_0_0 ?_
    refine Sim.getR (j := 2) fl_X10_68 dX10_minutes_73 (xR_X9_0 _ xL_X9_1) ?_
    refine Sim.callV1I (d1 := 6) (s_X0_passMinute 2 xL_X4_2 x1) dX10_minutes_76 ml_X10_161 mv_X0_passMinute xO_X0 (Nat.le_of_ble_eq_true rfl) (Nat.le_of_ble_eq_true rfl) (Nat.le_of_ble_eq_true rfl) (fun x2 => ?_)
    refine Sim.iadd dX10_minutes_79 ?_
    refine Sim.lti (fun x3 => ?_)
    refine Sim.istore_n (L' := [(2, .int x3), (0, .ref 0), (1, .int v1), (3, .int v3)]) dX10_minutes_80 (Nat.le_of_ble_eq_true rfl) rfl ?_
    refine Sim.iinc (L' := [(3, .int (v3 + (1 : Int32))), (2, .int x3), (0, .ref 0), (1, .int v1)]) 3 dX10_minutes_81 rfl rfl (Nat.le_of_ble_eq_true rfl) rfl ?_
    refine Sim.goto 35 dX10_minutes_84 rfl ?_
    refine Sim.locs [2, 3, 1, 0] rfl ?_
    exact H35 (v1, x3, (v3 + (1 : Int32)), x2.2)
  · refine Sim.iload_n 2 dX10_minutes_87 rfl ?_
    exact Sim.iret dX10_minutes_88 rfl
def f_X10_minutes_35_lp   (n : Nat) (v : Int32 × Int32 × Int32 × zHp) : Option (Int32 × zHp) := zlp (fun k35 v => f_X10_minutes_35 k35 v.1 v.2.1 v.2.2.1 v.2.2.2) n v
theorem f_X10_minutes_35_ls  (n : Nat) (v : Int32 × Int32 × Int32 × zHp) : Sim wX mX10_minutes 7 rI 35 [(0, .ref 0), (1, .int v.1), (2, .int v.2.1), (3, .int v.2.2.1)] [] v.2.2.2 (f_X10_minutes_35_lp n v) :=
  Sim.lp (V := Int32 × Int32 × Int32 × zHp) (Lf := fun v => [(0, .ref 0), (1, .int v.1), (2, .int v.2.1), (3, .int v.2.2.1)]) (sf := fun v => []) (hf := fun v => v.2.2.2) (fun k35 H35 v => f_X10_minutes_35_s k35 H35 v.1 v.2.1 v.2.2.1 v.2.2.2) n v
def f_X10_minutes  (a1 : Int32) (h : zHp) : Option (Int32 × zHp) := (if a1 < (1 : Int32) then some ((-1 : Int32), h) else (if (60 : Int32) < a1 then some ((-1 : Int32), h) else (if (9999 : Int32) < ((h 2 13) + a1) then some ((-1 : Int32), h) else f_X10_minutes_35_lp  zN (a1, (0 : Int32), (0 : Int32), h))))
set_option maxHeartbeats 4000000 in
set_option maxRecDepth 100000 in
theorem s_X10_minutes  (a1 : Int32) (h : zHp) : Fn wX mX10_minutes 7 rI [.ref 0, .int a1] h (f_X10_minutes a1 h) := by
  refine Fn.of rfl (Nat.le_of_ble_eq_true rfl) ?_
  unfold f_X10_minutes
  refine Sim.iload_n 1 dX10_minutes_0 rfl ?_
  refine Sim.iconst (v := (1 : Int32)) dX10_minutes_1 rfl ?_
  refine Sim.icmp_lt 29 dX10_minutes_2 rfl ?_ ?_
  · refine Sim.iconst (v := (-1 : Int32)) dX10_minutes_29 rfl ?_
    exact Sim.iret dX10_minutes_30 rfl
  · refine Sim.iload_n 1 dX10_minutes_5 rfl ?_
    refine Sim.bipush (v := (60 : Int32)) dX10_minutes_6 rfl ?_
    refine Sim.icmp_gt 29 dX10_minutes_8 rfl ?_ ?_
    · refine Sim.iconst (v := (-1 : Int32)) dX10_minutes_29 rfl ?_
      exact Sim.iret dX10_minutes_30 rfl
    · refine Sim.aload_n 0 dX10_minutes_11 rfl ?_
      refine Sim.getR (j := 1) fl_X10_12 dX10_minutes_12 xR_0_0 ?_
      refine Sim.getR (j := 2) fl_X10_68 dX10_minutes_15 (xR_X9_0 _ xL_X9_1) ?_
      refine Sim.getI fl_X10_158 dX10_minutes_18 (xI_X4_13 _ xL_X4_2) ?_
      refine Sim.iload_n 1 dX10_minutes_21 rfl ?_
      refine Sim.iadd dX10_minutes_22 ?_
      refine Sim.sipush (v := (9999 : Int32)) dX10_minutes_23 rfl ?_
      refine Sim.icmp_le 31 dX10_minutes_26 rfl ?_ ?_
      · refine Sim.iconst (v := (-1 : Int32)) dX10_minutes_29 rfl ?_
        exact Sim.iret dX10_minutes_30 rfl
      · refine Sim.iconst (v := (0 : Int32)) dX10_minutes_31 rfl ?_
        refine Sim.istore_n (L' := [(2, .int (0 : Int32)), (0, .ref 0), (1, .int a1)]) dX10_minutes_32 (Nat.le_of_ble_eq_true rfl) rfl ?_
        refine Sim.iconst (v := (0 : Int32)) dX10_minutes_33 rfl ?_
        refine Sim.istore_n (L' := [(3, .int (0 : Int32)), (2, .int (0 : Int32)), (0, .ref 0), (1, .int a1)]) dX10_minutes_34 (Nat.le_of_ble_eq_true rfl) rfl ?_
        refine Sim.locs [2, 3, 1, 0] rfl ?_
        exact f_X10_minutes_35_ls  zN (a1, (0 : Int32), (0 : Int32), h)
theorem mv_X10_minutes : zMV mX10_minutes 1 := ⟨⟨zTb_in 704 (by decide +kernel) rfl, zTb_in 137 (by decide +kernel) rfl, ⟨by decide +kernel, by decide +kernel⟩, by decide +kernel⟩, zTb_in 702 (by decide +kernel) rfl, zTb_in 703 (by decide +kernel) rfl⟩
-- ===== RockingPorch.feed(IIIII)I
abbrev mX10_feed : zMt := (yX10_feed, cX10_feed, 6, some .int)
theorem fl_X10_165 : zF RX10 165 6 1 := ⟨RX6, TX6, 14, rfl, Nat.le_of_ble_eq_true rfl, zTb_in 431 (by decide +kernel) rfl, in_X6⟩
theorem fl_X10_42 : zF RX10 42 10 5 := ⟨RX10, TX10, 8, rfl, Nat.le_of_ble_eq_true rfl, zTb_in 518 (by decide +kernel) rfl, in_X10⟩
theorem ml_X10_168 : Cond.methodLink RX10 168 yX6_hear ∈ zTb := zTb_in 752 (by decide +kernel) rfl
theorem dX10_feed_0 : decode cX10_feed 0 = .ok (.aload_n 0, 1) := by decide +kernel
theorem dX10_feed_1 : decode cX10_feed 1 = .ok (.getfield 42, 3) := by decide +kernel
theorem dX10_feed_4 : decode cX10_feed 4 = .ok (.getfield 165, 3) := by decide +kernel
theorem dX10_feed_7 : decode cX10_feed 7 = .ok (.bipush 20, 2) := by decide +kernel
theorem dX10_feed_9 : decode cX10_feed 9 = .ok (.iadd, 1) := by decide +kernel
theorem dX10_feed_10 : decode cX10_feed 10 = .ok (.sipush 400, 3) := by decide +kernel
theorem dX10_feed_13 : decode cX10_feed 13 = .ok (.if_icmp .le 5, 3) := by decide +kernel
theorem dX10_feed_16 : decode cX10_feed 16 = .ok (.iconst (-1), 1) := by decide +kernel
theorem dX10_feed_17 : decode cX10_feed 17 = .ok (.ireturn, 1) := by decide +kernel
theorem dX10_feed_18 : decode cX10_feed 18 = .ok (.aload_n 0, 1) := by decide +kernel
theorem dX10_feed_19 : decode cX10_feed 19 = .ok (.getfield 42, 3) := by decide +kernel
theorem dX10_feed_22 : decode cX10_feed 22 = .ok (.iload_n 1, 1) := by decide +kernel
theorem dX10_feed_23 : decode cX10_feed 23 = .ok (.invokevirtual 168, 3) := by decide +kernel
theorem dX10_feed_26 : decode cX10_feed 26 = .ok (.aload_n 0, 1) := by decide +kernel
theorem dX10_feed_27 : decode cX10_feed 27 = .ok (.getfield 42, 3) := by decide +kernel
theorem dX10_feed_30 : decode cX10_feed 30 = .ok (.iload_n 2, 1) := by decide +kernel
theorem dX10_feed_31 : decode cX10_feed 31 = .ok (.invokevirtual 168, 3) := by decide +kernel
theorem dX10_feed_34 : decode cX10_feed 34 = .ok (.aload_n 0, 1) := by decide +kernel
theorem dX10_feed_35 : decode cX10_feed 35 = .ok (.getfield 42, 3) := by decide +kernel
theorem dX10_feed_38 : decode cX10_feed 38 = .ok (.iload_n 3, 1) := by decide +kernel
theorem dX10_feed_39 : decode cX10_feed 39 = .ok (.invokevirtual 168, 3) := by decide +kernel
theorem dX10_feed_42 : decode cX10_feed 42 = .ok (.aload_n 0, 1) := by decide +kernel
theorem dX10_feed_43 : decode cX10_feed 43 = .ok (.getfield 42, 3) := by decide +kernel
theorem dX10_feed_46 : decode cX10_feed 46 = .ok (.iload 4, 2) := by decide +kernel
theorem dX10_feed_48 : decode cX10_feed 48 = .ok (.invokevirtual 168, 3) := by decide +kernel
theorem dX10_feed_51 : decode cX10_feed 51 = .ok (.aload_n 0, 1) := by decide +kernel
theorem dX10_feed_52 : decode cX10_feed 52 = .ok (.getfield 42, 3) := by decide +kernel
theorem dX10_feed_55 : decode cX10_feed 55 = .ok (.iload 5, 2) := by decide +kernel
theorem dX10_feed_57 : decode cX10_feed 57 = .ok (.invokevirtual 168, 3) := by decide +kernel
theorem dX10_feed_60 : decode cX10_feed 60 = .ok (.aload_n 0, 1) := by decide +kernel
theorem dX10_feed_61 : decode cX10_feed 61 = .ok (.getfield 42, 3) := by decide +kernel
theorem dX10_feed_64 : decode cX10_feed 64 = .ok (.getfield 165, 3) := by decide +kernel
theorem dX10_feed_67 : decode cX10_feed 67 = .ok (.ireturn, 1) := by decide +kernel
def f_X10_feed  (a1 : Int32) (a2 : Int32) (a3 : Int32) (a4 : Int32) (a5 : Int32) (h : zHp) : Option (Int32 × zHp) := (if (400 : Int32) < ((h 145 1) + (20 : Int32)) then some ((-1 : Int32), h) else (f_X6_hear a1 h).bind fun x1 => (f_X6_hear a2 x1).bind fun x2 => (f_X6_hear a3 x2).bind fun x3 => (f_X6_hear a4 x3).bind fun x4 => (f_X6_hear a5 x4).bind fun x5 => some ((x5 145 1), x5))
set_option maxHeartbeats 4000000 in
set_option maxRecDepth 100000 in
theorem s_X10_feed  (a1 : Int32) (a2 : Int32) (a3 : Int32) (a4 : Int32) (a5 : Int32) (h : zHp) : Fn wX mX10_feed 1 rI [.ref 0, .int a1, .int a2, .int a3, .int a4, .int a5] h (f_X10_feed a1 a2 a3 a4 a5 h) := by
  refine Fn.of rfl (Nat.le_of_ble_eq_true rfl) ?_
  unfold f_X10_feed
  refine Sim.aload_n 0 dX10_feed_0 rfl ?_
  refine Sim.getR (j := 145) fl_X10_42 dX10_feed_1 xR_0_5 ?_
  refine Sim.getI fl_X10_165 dX10_feed_4 xI_145_1 ?_
  refine Sim.bipush (v := (20 : Int32)) dX10_feed_7 rfl ?_
  refine Sim.iadd dX10_feed_9 ?_
  refine Sim.sipush (v := (400 : Int32)) dX10_feed_10 rfl ?_
  refine Sim.icmp_le 18 dX10_feed_13 rfl ?_ ?_
  · refine Sim.iconst (v := (-1 : Int32)) dX10_feed_16 rfl ?_
    exact Sim.iret dX10_feed_17 rfl
  · refine Sim.aload_n 0 dX10_feed_18 rfl ?_
    refine Sim.getR (j := 145) fl_X10_42 dX10_feed_19 xR_0_5 ?_
    refine Sim.iload_n 1 dX10_feed_22 rfl ?_
    refine Sim.callV1U (d1 := 0) (s_X6_hear a1 h) dX10_feed_23 ml_X10_168 mv_X6_hear xO_X6 (Nat.le_of_ble_eq_true rfl) (Nat.le_of_ble_eq_true rfl) (Nat.le_of_ble_eq_true rfl) (fun x1 => ?_)
    refine Sim.aload_n 0 dX10_feed_26 rfl ?_
    refine Sim.getR (j := 145) fl_X10_42 dX10_feed_27 xR_0_5 ?_
    refine Sim.iload_n 2 dX10_feed_30 rfl ?_
    refine Sim.callV1U (d1 := 0) (s_X6_hear a2 x1) dX10_feed_31 ml_X10_168 mv_X6_hear xO_X6 (Nat.le_of_ble_eq_true rfl) (Nat.le_of_ble_eq_true rfl) (Nat.le_of_ble_eq_true rfl) (fun x2 => ?_)
    refine Sim.aload_n 0 dX10_feed_34 rfl ?_
    refine Sim.getR (j := 145) fl_X10_42 dX10_feed_35 xR_0_5 ?_
    refine Sim.iload_n 3 dX10_feed_38 rfl ?_
    refine Sim.callV1U (d1 := 0) (s_X6_hear a3 x2) dX10_feed_39 ml_X10_168 mv_X6_hear xO_X6 (Nat.le_of_ble_eq_true rfl) (Nat.le_of_ble_eq_true rfl) (Nat.le_of_ble_eq_true rfl) (fun x3 => ?_)
    refine Sim.aload_n 0 dX10_feed_42 rfl ?_
    refine Sim.getR (j := 145) fl_X10_42 dX10_feed_43 xR_0_5 ?_
    refine Sim.iload 4 dX10_feed_46 rfl ?_
    refine Sim.callV1U (d1 := 0) (s_X6_hear a4 x3) dX10_feed_48 ml_X10_168 mv_X6_hear xO_X6 (Nat.le_of_ble_eq_true rfl) (Nat.le_of_ble_eq_true rfl) (Nat.le_of_ble_eq_true rfl) (fun x4 => ?_)
    refine Sim.aload_n 0 dX10_feed_51 rfl ?_
    refine Sim.getR (j := 145) fl_X10_42 dX10_feed_52 xR_0_5 ?_
    refine Sim.iload 5 dX10_feed_55 rfl ?_
    refine Sim.callV1U (d1 := 0) (s_X6_hear a5 x4) dX10_feed_57 ml_X10_168 mv_X6_hear xO_X6 (Nat.le_of_ble_eq_true rfl) (Nat.le_of_ble_eq_true rfl) (Nat.le_of_ble_eq_true rfl) (fun x5 => ?_)
    refine Sim.aload_n 0 dX10_feed_60 rfl ?_
    refine Sim.getR (j := 145) fl_X10_42 dX10_feed_61 xR_0_5 ?_
    refine Sim.getI fl_X10_165 dX10_feed_64 xI_145_1 ?_
    exact Sim.iret dX10_feed_67 rfl
theorem mv_X10_feed : zMV mX10_feed 5 := ⟨⟨zTb_in 751 (by decide +kernel) rfl, zTb_in 137 (by decide +kernel) rfl, ⟨by decide +kernel, by decide +kernel⟩, by decide +kernel⟩, zTb_in 749 (by decide +kernel) rfl, zTb_in 750 (by decide +kernel) rfl⟩
