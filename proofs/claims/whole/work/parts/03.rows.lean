/-! ROWS: an instruction of the machine, as a step of Sim -/
section Rows
variable {R : Type} {w : zWd} {M : zMt} {d : Nat} {rv : R → Option Value × zHp} {pc : Nat} {L : List (Nat × Value)} {st : List Value} {h : zHp} {t : Option R}
theorem Sim.iconst {n : Int} {v : Int32} (hd : decode M.2.1 pc = .ok (.iconst n, 1)) (hv : Int32.ofInt n = v) (k : Sim w M d rv (pc + 1) L (.int v :: st) h t) : Sim w M d rv pc L (st) h t :=
  fun z hz p l e s m args below meth c H locs D g r ls C hl hP hS => lv_iconst C.1 C.2.1 hd hv (k z hz p l e s m args below meth c H locs D g r ls C hl hP hS)
theorem Sim.bipush {n : Int} {v : Int32} (hd : decode M.2.1 pc = .ok (.bipush n, 2)) (hv : (Int8.ofInt n).toInt32 = v) (k : Sim w M d rv (pc + 2) L (.int v :: st) h t) : Sim w M d rv pc L (st) h t :=
  fun z hz p l e s m args below meth c H locs D g r ls C hl hP hS => lv_bipush C.1 C.2.1 hd hv (k z hz p l e s m args below meth c H locs D g r ls C hl hP hS)
theorem Sim.sipush {n : Int} {v : Int32} (hd : decode M.2.1 pc = .ok (.sipush n, 3)) (hv : (Int16.ofInt n).toInt32 = v) (k : Sim w M d rv (pc + 3) L (.int v :: st) h t) : Sim w M d rv pc L (st) h t :=
  fun z hz p l e s m args below meth c H locs D g r ls C hl hP hS => lv_sipush C.1 C.2.1 hd hv (k z hz p l e s m args below meth c H locs D g r ls C hl hP hS)
theorem Sim.ldc {n : Nat} {v : Int32} (hd : decode M.2.1 pc = .ok (.ldc n, 2)) (hv : Cond.constant M.1.cls n v ∈ zTb) (k : Sim w M d rv (pc + 2) L (.int v :: st) h t) : Sim w M d rv pc L (st) h t :=
  fun z hz p l e s m args below meth c H locs D g r ls C hl hP hS => lv_ldc C.1 C.2.1 C.2.2.2.2.1 (C.2.2.2.2.2.1 _ hv) hd (k z hz p l e s m args below meth c H locs D g r ls C hl hP hS)
theorem Sim.ldc_w {n : Nat} {v : Int32} (hd : decode M.2.1 pc = .ok (.ldc_w n, 3)) (hv : Cond.constant M.1.cls n v ∈ zTb) (k : Sim w M d rv (pc + 3) L (.int v :: st) h t) : Sim w M d rv pc L (st) h t :=
  fun z hz p l e s m args below meth c H locs D g r ls C hl hP hS => lv_ldcw C.1 C.2.1 C.2.2.2.2.1 (C.2.2.2.2.2.1 _ hv) hd (k z hz p l e s m args below meth c H locs D g r ls C hl hP hS)
theorem Sim.lconst {n : Fin 2} {v : Int64} (hd : decode M.2.1 pc = .ok (.lconst n, 1)) (hv : Int64.ofNat (n : Nat) = v) (k : Sim w M d rv (pc + 1) L (.long v :: st) h t) : Sim w M d rv pc L (st) h t :=
  fun z hz p l e s m args below meth c H locs D g r ls C hl hP hS => lv_lconst C.1 C.2.1 hd hv (k z hz p l e s m args below meth c H locs D g r ls C hl hP hS)
theorem Sim.iload_n {n : Fin 4} {x : Int32} (q : Nat) (hd : decode M.2.1 pc = .ok (.iload_n n, 1)) (hq : L[q]? = some ((n : Nat), .int x)) (k : Sim w M d rv (pc + 1) L (.int x :: st) h t) : Sim w M d rv pc L (st) h t :=
  fun z hz p l e s m args below meth c H locs D g r ls C hl hP hS => lv_iload_n C.1 C.2.1 hd rfl (lv_at hl q (zL_at hq)) (k z hz p l e s m args below meth c H locs D g r ls C hl hP hS)
theorem Sim.aload_n {n : Fin 4} {x : Nat} (q : Nat) (hd : decode M.2.1 pc = .ok (.aload_n n, 1)) (hq : L[q]? = some ((n : Nat), .ref x)) (k : Sim w M d rv (pc + 1) L (.ref x :: st) h t) : Sim w M d rv pc L (st) h t :=
  fun z hz p l e s m args below meth c H locs D g r ls C hl hP hS => lv_aload_n C.1 C.2.1 hd rfl (lv_at hl q (zL_at hq)) (k z hz p l e s m args below meth c H locs D g r ls C hl hP hS)
theorem Sim.lload_n {n : Fin 4} {x : Int64} (q : Nat) (hd : decode M.2.1 pc = .ok (.lload_n n, 1)) (hq : L[q]? = some ((n : Nat), .long x)) (k : Sim w M d rv (pc + 1) L (.long x :: st) h t) : Sim w M d rv pc L (st) h t :=
  fun z hz p l e s m args below meth c H locs D g r ls C hl hP hS => lv_lload_n C.1 C.2.1 hd rfl (lv_at hl q (zL_at hq)) (k z hz p l e s m args below meth c H locs D g r ls C hl hP hS)
theorem Sim.iload {n : Nat} {x : Int32} (q : Nat) (hd : decode M.2.1 pc = .ok (.iload n, 2)) (hq : L[q]? = some (n, .int x)) (k : Sim w M d rv (pc + 2) L (.int x :: st) h t) : Sim w M d rv pc L (st) h t :=
  fun z hz p l e s m args below meth c H locs D g r ls C hl hP hS => lv_iload C.1 C.2.1 hd (lv_at hl q (zL_at hq)) (k z hz p l e s m args below meth c H locs D g r ls C hl hP hS)
theorem Sim.aload {n : Nat} {x : Nat} (q : Nat) (hd : decode M.2.1 pc = .ok (.aload n, 2)) (hq : L[q]? = some (n, .ref x)) (k : Sim w M d rv (pc + 2) L (.ref x :: st) h t) : Sim w M d rv pc L (st) h t :=
  fun z hz p l e s m args below meth c H locs D g r ls C hl hP hS => lv_aload C.1 C.2.1 hd (lv_at hl q (zL_at hq)) (k z hz p l e s m args below meth c H locs D g r ls C hl hP hS)
theorem Sim.lload {n : Nat} {x : Int64} (q : Nat) (hd : decode M.2.1 pc = .ok (.lload n, 2)) (hq : L[q]? = some (n, .long x)) (k : Sim w M d rv (pc + 2) L (.long x :: st) h t) : Sim w M d rv pc L (st) h t :=
  fun z hz p l e s m args below meth c H locs D g r ls C hl hP hS => lv_lload C.1 C.2.1 hd (lv_at hl q (zL_at hq)) (k z hz p l e s m args below meth c H locs D g r ls C hl hP hS)
theorem Sim.istore_n {n : Fin 4} {x : Int32} {L' : List (Nat × Value)} (hd : decode M.2.1 pc = .ok (.istore_n n, 1)) (hn : (n : Nat) < M.2.2.1) (hq : ((n : Nat), Value.int x) :: L.filter (fun q => !(q.1 == (n : Nat)) && !(q.1 + 1 == (n : Nat) && q.2.category == 2)) = L') (k : Sim w M d rv (pc + 1) L' st h t) : Sim w M d rv pc L (.int x :: st) h t :=
  fun z hz p l e s m args below meth c H locs D g r ls C hl hP hS => lv_istore_n (lv' := zL r L') C.1 C.2.1 hd rfl hl hn (by rw [zL_filt r _ (fun q => by simp only [zcat])]; rw [← hq]; rfl) (fun ls hl => (k z hz p l e s m args below meth c H locs D g r ls C hl hP hS))
theorem Sim.astore_n {n : Fin 4} {x : Nat} {L' : List (Nat × Value)} (hd : decode M.2.1 pc = .ok (.astore_n n, 1)) (hn : (n : Nat) < M.2.2.1) (hq : ((n : Nat), Value.ref x) :: L.filter (fun q => !(q.1 == (n : Nat)) && !(q.1 + 1 == (n : Nat) && q.2.category == 2)) = L') (k : Sim w M d rv (pc + 1) L' st h t) : Sim w M d rv pc L (.ref x :: st) h t :=
  fun z hz p l e s m args below meth c H locs D g r ls C hl hP hS => lv_astore_n (lv' := zL r L') C.1 C.2.1 hd rfl hl hn (by rw [zL_filt r _ (fun q => by simp only [zcat])]; rw [← hq]; rfl) (fun ls hl => (k z hz p l e s m args below meth c H locs D g r ls C hl hP hS))
theorem Sim.istore {n : Nat} {x : Int32} {L' : List (Nat × Value)} (hd : decode M.2.1 pc = .ok (.istore n, 2)) (hn : n < M.2.2.1) (hq : (n, Value.int x) :: L.filter (fun q => !(q.1 == n) && !(q.1 + 1 == n && q.2.category == 2)) = L') (k : Sim w M d rv (pc + 2) L' st h t) : Sim w M d rv pc L (.int x :: st) h t :=
  fun z hz p l e s m args below meth c H locs D g r ls C hl hP hS => lv_istore (lv' := zL r L') C.1 C.2.1 hd hl hn (by rw [zL_filt r _ (fun q => by simp only [zcat])]; rw [← hq]; rfl) (fun ls hl => (k z hz p l e s m args below meth c H locs D g r ls C hl hP hS))
theorem Sim.astore {n : Nat} {x : Nat} {L' : List (Nat × Value)} (hd : decode M.2.1 pc = .ok (.astore n, 2)) (hn : n < M.2.2.1) (hq : (n, Value.ref x) :: L.filter (fun q => !(q.1 == n) && !(q.1 + 1 == n && q.2.category == 2)) = L') (k : Sim w M d rv (pc + 2) L' st h t) : Sim w M d rv pc L (.ref x :: st) h t :=
  fun z hz p l e s m args below meth c H locs D g r ls C hl hP hS => lv_astore (lv' := zL r L') C.1 C.2.1 hd hl hn (by rw [zL_filt r _ (fun q => by simp only [zcat])]; rw [← hq]; rfl) (fun ls hl => (k z hz p l e s m args below meth c H locs D g r ls C hl hP hS))
theorem Sim.lstore_n {n : Fin 4} {x : Int64} {L' : List (Nat × Value)} (hd : decode M.2.1 pc = .ok (.lstore_n n, 1)) (hn : (n : Nat) + 1 < M.2.2.1) (hq : ((n : Nat), Value.long x) :: L.filter (fun q => !(q.1 == (n : Nat)) && (!(q.1 == (n : Nat) + 1) && !(q.1 + 1 == (n : Nat) && q.2.category == 2))) = L') (k : Sim w M d rv (pc + 1) L' st h t) : Sim w M d rv pc L (.long x :: st) h t :=
  fun z hz p l e s m args below meth c H locs D g r ls C hl hP hS => lv_lstore_n (lv' := zL r L') C.1 C.2.1 hd rfl hl hn (by rw [zL_filt r _ (fun q => by simp only [zcat])]; rw [← hq]; rfl) (fun ls hl => (k z hz p l e s m args below meth c H locs D g r ls C hl hP hS))
theorem Sim.iinc {i : Nat} {n : Int} {x v : Int32} {L' : List (Nat × Value)} (q : Nat) (hd : decode M.2.1 pc = .ok (.iinc i n, 3)) (hx : L[q]? = some (i, .int x)) (hv : x + Int32.ofInt n = v) (hn : i < M.2.2.1) (hq : (i, Value.int v) :: L.filter (fun q => !(q.1 == i) && !(q.1 + 1 == i && q.2.category == 2)) = L') (k : Sim w M d rv (pc + 3) L' st h t) : Sim w M d rv pc L st h t :=
  fun z hz p l e s m args below meth c H locs D g r ls C hl hP hS => lv_iinc (lv' := zL r L') C.1 C.2.1 hd hl (k := q) (zL_at hx) hv hn (by rw [zL_filt r _ (fun q => by simp only [zcat])]; rw [← hq]; rfl) (fun ls hl => (k z hz p l e s m args below meth c H locs D g r ls C hl hP hS))
theorem Sim.iadd {x y : Int32} (hd : decode M.2.1 pc = .ok (.iadd, 1)) (k : Sim w M d rv (pc + 1) L (.int (x + y) :: st) h t) : Sim w M d rv pc L (.int y :: .int x :: st) h t :=
  fun z hz p l e s m args below meth c H locs D g r ls C hl hP hS => lv_iadd C.1 C.2.1 hd (k z hz p l e s m args below meth c H locs D g r ls C hl hP hS)
theorem Sim.isub {x y : Int32} (hd : decode M.2.1 pc = .ok (.isub, 1)) (k : Sim w M d rv (pc + 1) L (.int (x - y) :: st) h t) : Sim w M d rv pc L (.int y :: .int x :: st) h t :=
  fun z hz p l e s m args below meth c H locs D g r ls C hl hP hS => lv_isub C.1 C.2.1 hd (k z hz p l e s m args below meth c H locs D g r ls C hl hP hS)
theorem Sim.imul {x y : Int32} (hd : decode M.2.1 pc = .ok (.imul, 1)) (k : Sim w M d rv (pc + 1) L (.int (x * y) :: st) h t) : Sim w M d rv pc L (.int y :: .int x :: st) h t :=
  fun z hz p l e s m args below meth c H locs D g r ls C hl hP hS => lv_imul C.1 C.2.1 hd (k z hz p l e s m args below meth c H locs D g r ls C hl hP hS)
theorem Sim.ishl {x y : Int32} (hd : decode M.2.1 pc = .ok (.ishl, 1)) (k : Sim w M d rv (pc + 1) L (.int (x <<< (y &&& 31)) :: st) h t) : Sim w M d rv pc L (.int y :: .int x :: st) h t :=
  fun z hz p l e s m args below meth c H locs D g r ls C hl hP hS => lv_ishl C.1 C.2.1 hd (k z hz p l e s m args below meth c H locs D g r ls C hl hP hS)
theorem Sim.ishr {x y : Int32} (hd : decode M.2.1 pc = .ok (.ishr, 1)) (k : Sim w M d rv (pc + 1) L (.int (x >>> (y &&& 31)) :: st) h t) : Sim w M d rv pc L (.int y :: .int x :: st) h t :=
  fun z hz p l e s m args below meth c H locs D g r ls C hl hP hS => lv_ishr C.1 C.2.1 hd (k z hz p l e s m args below meth c H locs D g r ls C hl hP hS)
theorem Sim.iand {x y : Int32} (hd : decode M.2.1 pc = .ok (.iand, 1)) (k : Sim w M d rv (pc + 1) L (.int (x &&& y) :: st) h t) : Sim w M d rv pc L (.int y :: .int x :: st) h t :=
  fun z hz p l e s m args below meth c H locs D g r ls C hl hP hS => lv_iand C.1 C.2.1 hd (k z hz p l e s m args below meth c H locs D g r ls C hl hP hS)
theorem Sim.ior {x y : Int32} (hd : decode M.2.1 pc = .ok (.ior, 1)) (k : Sim w M d rv (pc + 1) L (.int (x ||| y) :: st) h t) : Sim w M d rv pc L (.int y :: .int x :: st) h t :=
  fun z hz p l e s m args below meth c H locs D g r ls C hl hP hS => lv_ior C.1 C.2.1 hd (k z hz p l e s m args below meth c H locs D g r ls C hl hP hS)
theorem Sim.ixor {x y : Int32} (hd : decode M.2.1 pc = .ok (.ixor, 1)) (k : Sim w M d rv (pc + 1) L (.int (x ^^^ y) :: st) h t) : Sim w M d rv pc L (.int y :: .int x :: st) h t :=
  fun z hz p l e s m args below meth c H locs D g r ls C hl hP hS => lv_ixor C.1 C.2.1 hd (k z hz p l e s m args below meth c H locs D g r ls C hl hP hS)
theorem Sim.iushr {x y : Int32} (hd : decode M.2.1 pc = .ok (.iushr, 1)) (k : Sim w M d rv (pc + 1) L (.int ((x.toUInt32 >>> (y.toUInt32 &&& Int32.toUInt32 31)).toInt32) :: st) h t) : Sim w M d rv pc L (.int y :: .int x :: st) h t :=
  fun z hz p l e s m args below meth c H locs D g r ls C hl hP hS => lv_iushr C.1 C.2.1 hd rfl (k z hz p l e s m args below meth c H locs D g r ls C hl hP hS)
theorem Sim.ineg {x : Int32} (hd : decode M.2.1 pc = .ok (.ineg, 1)) (k : Sim w M d rv (pc + 1) L (.int (-x) :: st) h t) : Sim w M d rv pc L (.int x :: st) h t :=
  fun z hz p l e s m args below meth c H locs D g r ls C hl hP hS => lv_ineg C.1 C.2.1 hd (k z hz p l e s m args below meth c H locs D g r ls C hl hP hS)
theorem Sim.i2c {x : Int32} (hd : decode M.2.1 pc = .ok (.i2c, 1)) (k : Sim w M d rv (pc + 1) L (.int ((x.toUInt32 % 65536).toInt32) :: st) h t) : Sim w M d rv pc L (.int x :: st) h t :=
  fun z hz p l e s m args below meth c H locs D g r ls C hl hP hS => lv_i2c C.1 C.2.1 hd rfl (k z hz p l e s m args below meth c H locs D g r ls C hl hP hS)
theorem Sim.i2b {x : Int32} (hd : decode M.2.1 pc = .ok (.i2b, 1)) (k : Sim w M d rv (pc + 1) L (.int (x.toInt8.toInt32) :: st) h t) : Sim w M d rv pc L (.int x :: st) h t :=
  fun z hz p l e s m args below meth c H locs D g r ls C hl hP hS => lv_i2b C.1 C.2.1 hd rfl (k z hz p l e s m args below meth c H locs D g r ls C hl hP hS)
theorem Sim.i2l {x : Int32} (hd : decode M.2.1 pc = .ok (.i2l, 1)) (k : Sim w M d rv (pc + 1) L (.long x.toInt64 :: st) h t) : Sim w M d rv pc L (.int x :: st) h t :=
  fun z hz p l e s m args below meth c H locs D g r ls C hl hP hS => lv_i2l C.1 C.2.1 hd rfl (k z hz p l e s m args below meth c H locs D g r ls C hl hP hS)
theorem Sim.lshl {x : Int64} {y : Int32} (hd : decode M.2.1 pc = .ok (.lshl, 1)) (k : Sim w M d rv (pc + 1) L (.long (x <<< (y.toInt64 &&& 63)) :: st) h t) : Sim w M d rv pc L (.int y :: .long x :: st) h t :=
  fun z hz p l e s m args below meth c H locs D g r ls C hl hP hS => lv_lshl C.1 C.2.1 hd rfl (k z hz p l e s m args below meth c H locs D g r ls C hl hP hS)
theorem Sim.lshr {x : Int64} {y : Int32} (hd : decode M.2.1 pc = .ok (.lshr, 1)) (k : Sim w M d rv (pc + 1) L (.long (x >>> (y.toInt64 &&& 63)) :: st) h t) : Sim w M d rv pc L (.int y :: .long x :: st) h t :=
  fun z hz p l e s m args below meth c H locs D g r ls C hl hP hS => lv_lshr C.1 C.2.1 hd rfl (k z hz p l e s m args below meth c H locs D g r ls C hl hP hS)
theorem Sim.lor {x y : Int64} (hd : decode M.2.1 pc = .ok (.lor, 1)) (k : Sim w M d rv (pc + 1) L (.long (x ||| y) :: st) h t) : Sim w M d rv pc L (.long y :: .long x :: st) h t :=
  fun z hz p l e s m args below meth c H locs D g r ls C hl hP hS => lv_lor C.1 C.2.1 hd (k z hz p l e s m args below meth c H locs D g r ls C hl hP hS)
theorem Sim.land {x y : Int64} (hd : decode M.2.1 pc = .ok (.land, 1)) (k : Sim w M d rv (pc + 1) L (.long (x &&& y) :: st) h t) : Sim w M d rv pc L (.long y :: .long x :: st) h t :=
  fun z hz p l e s m args below meth c H locs D g r ls C hl hP hS => lv_land C.1 C.2.1 hd (k z hz p l e s m args below meth c H locs D g r ls C hl hP hS)
theorem Sim.lcmp {x y : Int64} (hd : decode M.2.1 pc = .ok (.lcmp, 1)) (k : Sim w M d rv (pc + 1) L (.int (lg_cmp x y) :: st) h t) : Sim w M d rv pc L (.long y :: .long x :: st) h t :=
  fun z hz p l e s m args below meth c H locs D g r ls C hl hP hS => W.lcmp C.1 C.2.1 hd (k z hz p l e s m args below meth c H locs D g r ls C hl hP hS)
theorem Sim.idivL {x y : Int32} (hd : decode M.2.1 pc = .ok (.idiv, 1)) (hy : ¬ y = 0) (k : Sim w M d rv (pc + 1) L (.int (x / y) :: st) h t) : Sim w M d rv pc L (.int y :: .int x :: st) h t :=
  fun z hz p l e s m args below meth c H locs D g r ls C hl hP hS => lv_idiv C.1 C.2.1 hd hy (k z hz p l e s m args below meth c H locs D g r ls C hl hP hS)
theorem Sim.iremL {x y : Int32} (hd : decode M.2.1 pc = .ok (.irem, 1)) (hy : ¬ y = 0) (k : Sim w M d rv (pc + 1) L (.int (x - x / y * y) :: st) h t) : Sim w M d rv pc L (.int y :: .int x :: st) h t :=
  fun z hz p l e s m args below meth c H locs D g r ls C hl hP hS => lv_irem C.1 C.2.1 hd hy (k z hz p l e s m args below meth c H locs D g r ls C hl hP hS)
theorem Sim.pop {v : Value} (hd : decode M.2.1 pc = .ok (.pop, 1)) (hv : v.category = 1) (k : Sim w M d rv (pc + 1) L (st) h t) : Sim w M d rv pc L (v :: st) h t :=
  fun z hz p l e s m args below meth c H locs D g r ls C hl hP hS => lv_pop C.1 C.2.1 hd ((zcat r v).trans hv) (k z hz p l e s m args below meth c H locs D g r ls C hl hP hS)
theorem Sim.dup {v : Value} (hd : decode M.2.1 pc = .ok (.dup, 1)) (hv : v.category = 1) (k : Sim w M d rv (pc + 1) L (v :: v :: st) h t) : Sim w M d rv pc L (v :: st) h t :=
  fun z hz p l e s m args below meth c H locs D g r ls C hl hP hS => lv_dup C.1 C.2.1 hd ((zcat r v).trans hv) (k z hz p l e s m args below meth c H locs D g r ls C hl hP hS)
theorem Sim.dup2 {v u : Value} (hd : decode M.2.1 pc = .ok (.dup2, 1)) (hv : v.category = 1) (hu : u.category = 1) (k : Sim w M d rv (pc + 1) L (v :: u :: v :: u :: st) h t) : Sim w M d rv pc L (v :: u :: st) h t :=
  fun z hz p l e s m args below meth c H locs D g r ls C hl hP hS => lv_dup2_11 C.1 C.2.1 hd ((zcat r v).trans hv) ((zcat r u).trans hu) (k z hz p l e s m args below meth c H locs D g r ls C hl hP hS)
def zdz {R : Type} (y : Int32) (t : Option R) : Option R := if y = 0 then none else t
theorem Sim.idiv {x y : Int32} (hd : decode M.2.1 pc = .ok (.idiv, 1)) (k : Sim w M d rv (pc + 1) L (.int (x / y) :: st) h t) : Sim w M d rv pc L (.int y :: .int x :: st) h (zdz y t) := by
  unfold zdz
  by_cases hy : y = 0
  · rw [if_pos hy]; intro z hz; cases hz
  · rw [if_neg hy]; exact Sim.idivL hd hy k
theorem Sim.irem {x y : Int32} (hd : decode M.2.1 pc = .ok (.irem, 1)) (k : Sim w M d rv (pc + 1) L (.int (x - x / y * y) :: st) h t) : Sim w M d rv pc L (.int y :: .int x :: st) h (zdz y t) := by
  unfold zdz
  by_cases hy : y = 0
  · rw [if_pos hy]; intro z hz; cases hz
  · rw [if_neg hy]; exact Sim.iremL hd hy k
theorem Sim.goto {off : Int} (tgt : Nat) (hd : decode M.2.1 pc = .ok (.goto off, 3)) (ht : (pc : Int) + off = (tgt : Int)) (k : Sim w M d rv tgt L st h t) : Sim w M d rv pc L st h t :=
  fun z hz p l e s m args below meth c H locs D g r ls C hl hP hS => lv_goto C.1 C.2.1 hd ht (k z hz p l e s m args below meth c H locs D g r ls C hl hP hS)
theorem Sim.ifnonnull {off : Int} {x : Nat} (tgt : Nat) (hd : decode M.2.1 pc = .ok (.ifnonnull off, 3)) (ht : (pc : Int) + off = (tgt : Int)) (k : Sim w M d rv tgt L st h t) : Sim w M d rv pc L (.ref x :: st) h t :=
  fun z hz p l e s m args below meth c H locs D g r ls C hl hP hS => lv_ifnonnull C.1 C.2.1 hd ht (k z hz p l e s m args below meth c H locs D g r ls C hl hP hS)
theorem z_nle {a b : Int32} : ¬ b ≤ a ↔ a < b := by rw [Int32.not_le]
theorem Sim.icmp_eq {x y : Int32} {off : Int} {t1 t2 : Option R} (tgt : Nat) (hd : decode M.2.1 pc = .ok (.if_icmp .eq off, 3)) (ht : (pc : Int) + off = (tgt : Int)) (k1 : Sim w M d rv tgt L st h t1) (k2 : Sim w M d rv (pc + 3) L st h t2) : Sim w M d rv pc L (.int y :: .int x :: st) h (if x = y then t1 else t2) := by
  intro z hz p l e s m args below meth c H locs D g r ls C hl hP hS
  refine lv_icmp_eq C.1 C.2.1 hd ht (fun q => ?_) (fun q => ?_)
  · rw [if_pos q] at hz; exact (k1 z hz p l e s m args below meth c H locs D g r ls C hl hP hS)
  · rw [if_neg q] at hz; exact (k2 z hz p l e s m args below meth c H locs D g r ls C hl hP hS)
theorem Sim.icmp_ne {x y : Int32} {off : Int} {t1 t2 : Option R} (tgt : Nat) (hd : decode M.2.1 pc = .ok (.if_icmp .ne off, 3)) (ht : (pc : Int) + off = (tgt : Int)) (k1 : Sim w M d rv (pc + 3) L st h t1) (k2 : Sim w M d rv tgt L st h t2) : Sim w M d rv pc L (.int y :: .int x :: st) h (if x = y then t1 else t2) := by
  intro z hz p l e s m args below meth c H locs D g r ls C hl hP hS
  refine lv_icmp_ne C.1 C.2.1 hd ht (fun q => ?_) (fun q => ?_)
  · rw [if_neg q] at hz; exact (k2 z hz p l e s m args below meth c H locs D g r ls C hl hP hS)
  · rw [if_pos q] at hz; exact (k1 z hz p l e s m args below meth c H locs D g r ls C hl hP hS)
theorem Sim.icmp_lt {x y : Int32} {off : Int} {t1 t2 : Option R} (tgt : Nat) (hd : decode M.2.1 pc = .ok (.if_icmp .lt off, 3)) (ht : (pc : Int) + off = (tgt : Int)) (k1 : Sim w M d rv tgt L st h t1) (k2 : Sim w M d rv (pc + 3) L st h t2) : Sim w M d rv pc L (.int y :: .int x :: st) h (if x < y then t1 else t2) := by
  intro z hz p l e s m args below meth c H locs D g r ls C hl hP hS
  refine lv_icmp_lt C.1 C.2.1 hd ht (fun q => ?_) (fun q => ?_)
  · rw [if_pos q] at hz; exact (k1 z hz p l e s m args below meth c H locs D g r ls C hl hP hS)
  · rw [if_neg q] at hz; exact (k2 z hz p l e s m args below meth c H locs D g r ls C hl hP hS)
theorem Sim.icmp_ge {x y : Int32} {off : Int} {t1 t2 : Option R} (tgt : Nat) (hd : decode M.2.1 pc = .ok (.if_icmp .ge off, 3)) (ht : (pc : Int) + off = (tgt : Int)) (k1 : Sim w M d rv (pc + 3) L st h t1) (k2 : Sim w M d rv tgt L st h t2) : Sim w M d rv pc L (.int y :: .int x :: st) h (if x < y then t1 else t2) := by
  intro z hz p l e s m args below meth c H locs D g r ls C hl hP hS
  refine lv_icmp_ge C.1 C.2.1 hd ht (fun q => ?_) (fun q => ?_)
  · rw [if_neg (Int32.not_lt.mpr q)] at hz; exact (k2 z hz p l e s m args below meth c H locs D g r ls C hl hP hS)
  · rw [if_pos (Int32.not_le.mp q)] at hz; exact (k1 z hz p l e s m args below meth c H locs D g r ls C hl hP hS)
theorem Sim.icmp_gt {x y : Int32} {off : Int} {t1 t2 : Option R} (tgt : Nat) (hd : decode M.2.1 pc = .ok (.if_icmp .gt off, 3)) (ht : (pc : Int) + off = (tgt : Int)) (k1 : Sim w M d rv tgt L st h t1) (k2 : Sim w M d rv (pc + 3) L st h t2) : Sim w M d rv pc L (.int y :: .int x :: st) h (if y < x then t1 else t2) := by
  intro z hz p l e s m args below meth c H locs D g r ls C hl hP hS
  refine lv_icmp_gt C.1 C.2.1 hd ht (fun q => ?_) (fun q => ?_)
  · rw [if_pos q] at hz; exact (k1 z hz p l e s m args below meth c H locs D g r ls C hl hP hS)
  · rw [if_neg q] at hz; exact (k2 z hz p l e s m args below meth c H locs D g r ls C hl hP hS)
theorem Sim.icmp_le {x y : Int32} {off : Int} {t1 t2 : Option R} (tgt : Nat) (hd : decode M.2.1 pc = .ok (.if_icmp .le off, 3)) (ht : (pc : Int) + off = (tgt : Int)) (k1 : Sim w M d rv (pc + 3) L st h t1) (k2 : Sim w M d rv tgt L st h t2) : Sim w M d rv pc L (.int y :: .int x :: st) h (if y < x then t1 else t2) := by
  intro z hz p l e s m args below meth c H locs D g r ls C hl hP hS
  refine lv_icmp_le C.1 C.2.1 hd ht (fun q => ?_) (fun q => ?_)
  · rw [if_neg (Int32.not_lt.mpr q)] at hz; exact (k2 z hz p l e s m args below meth c H locs D g r ls C hl hP hS)
  · rw [if_pos (Int32.not_le.mp q)] at hz; exact (k1 z hz p l e s m args below meth c H locs D g r ls C hl hP hS)
theorem Sim.if_eq {x : Int32} {off : Int} {t1 t2 : Option R} (tgt : Nat) (hd : decode M.2.1 pc = .ok (.ifCond .eq off, 3)) (ht : (pc : Int) + off = (tgt : Int)) (k1 : Sim w M d rv tgt L st h t1) (k2 : Sim w M d rv (pc + 3) L st h t2) : Sim w M d rv pc L (.int x :: st) h (if x = 0 then t1 else t2) := by
  intro z hz p l e s m args below meth c H locs D g r ls C hl hP hS
  refine lv_if_eq C.1 C.2.1 hd ht (fun q => ?_) (fun q => ?_)
  · rw [if_pos q] at hz; exact (k1 z hz p l e s m args below meth c H locs D g r ls C hl hP hS)
  · rw [if_neg q] at hz; exact (k2 z hz p l e s m args below meth c H locs D g r ls C hl hP hS)
theorem Sim.if_ne {x : Int32} {off : Int} {t1 t2 : Option R} (tgt : Nat) (hd : decode M.2.1 pc = .ok (.ifCond .ne off, 3)) (ht : (pc : Int) + off = (tgt : Int)) (k1 : Sim w M d rv (pc + 3) L st h t1) (k2 : Sim w M d rv tgt L st h t2) : Sim w M d rv pc L (.int x :: st) h (if x = 0 then t1 else t2) := by
  intro z hz p l e s m args below meth c H locs D g r ls C hl hP hS
  refine lv_if_ne C.1 C.2.1 hd ht (fun q => ?_) (fun q => ?_)
  · rw [if_neg q] at hz; exact (k2 z hz p l e s m args below meth c H locs D g r ls C hl hP hS)
  · rw [if_pos q] at hz; exact (k1 z hz p l e s m args below meth c H locs D g r ls C hl hP hS)
theorem Sim.if_lt {x : Int32} {off : Int} {t1 t2 : Option R} (tgt : Nat) (hd : decode M.2.1 pc = .ok (.ifCond .lt off, 3)) (ht : (pc : Int) + off = (tgt : Int)) (k1 : Sim w M d rv tgt L st h t1) (k2 : Sim w M d rv (pc + 3) L st h t2) : Sim w M d rv pc L (.int x :: st) h (if x < 0 then t1 else t2) := by
  intro z hz p l e s m args below meth c H locs D g r ls C hl hP hS
  refine lv_if_lt C.1 C.2.1 hd ht (fun q => ?_) (fun q => ?_)
  · rw [if_pos q] at hz; exact (k1 z hz p l e s m args below meth c H locs D g r ls C hl hP hS)
  · rw [if_neg q] at hz; exact (k2 z hz p l e s m args below meth c H locs D g r ls C hl hP hS)
theorem Sim.if_ge {x : Int32} {off : Int} {t1 t2 : Option R} (tgt : Nat) (hd : decode M.2.1 pc = .ok (.ifCond .ge off, 3)) (ht : (pc : Int) + off = (tgt : Int)) (k1 : Sim w M d rv (pc + 3) L st h t1) (k2 : Sim w M d rv tgt L st h t2) : Sim w M d rv pc L (.int x :: st) h (if x < 0 then t1 else t2) := by
  intro z hz p l e s m args below meth c H locs D g r ls C hl hP hS
  refine lv_if_ge C.1 C.2.1 hd ht (fun q => ?_) (fun q => ?_)
  · rw [if_neg (Int32.not_lt.mpr q)] at hz; exact (k2 z hz p l e s m args below meth c H locs D g r ls C hl hP hS)
  · rw [if_pos (Int32.not_le.mp q)] at hz; exact (k1 z hz p l e s m args below meth c H locs D g r ls C hl hP hS)
theorem Sim.if_gt {x : Int32} {off : Int} {t1 t2 : Option R} (tgt : Nat) (hd : decode M.2.1 pc = .ok (.ifCond .gt off, 3)) (ht : (pc : Int) + off = (tgt : Int)) (k1 : Sim w M d rv tgt L st h t1) (k2 : Sim w M d rv (pc + 3) L st h t2) : Sim w M d rv pc L (.int x :: st) h (if 0 < x then t1 else t2) := by
  intro z hz p l e s m args below meth c H locs D g r ls C hl hP hS
  refine lv_if_gt C.1 C.2.1 hd ht (fun q => ?_) (fun q => ?_)
  · rw [if_pos q] at hz; exact (k1 z hz p l e s m args below meth c H locs D g r ls C hl hP hS)
  · rw [if_neg q] at hz; exact (k2 z hz p l e s m args below meth c H locs D g r ls C hl hP hS)
theorem Sim.if_le {x : Int32} {off : Int} {t1 t2 : Option R} (tgt : Nat) (hd : decode M.2.1 pc = .ok (.ifCond .le off, 3)) (ht : (pc : Int) + off = (tgt : Int)) (k1 : Sim w M d rv (pc + 3) L st h t1) (k2 : Sim w M d rv tgt L st h t2) : Sim w M d rv pc L (.int x :: st) h (if 0 < x then t1 else t2) := by
  intro z hz p l e s m args below meth c H locs D g r ls C hl hP hS
  refine lv_if_le C.1 C.2.1 hd ht (fun q => ?_) (fun q => ?_)
  · rw [if_neg (Int32.not_lt.mpr q)] at hz; exact (k2 z hz p l e s m args below meth c H locs D g r ls C hl hP hS)
  · rw [if_pos (Int32.not_le.mp q)] at hz; exact (k1 z hz p l e s m args below meth c H locs D g r ls C hl hP hS)
theorem Sim.non : Sim w M d rv pc L st h (none : Option R) := fun z hz => by cases hz
theorem Sim.ite (c : Prop) {hcd : Decidable c} {t1 t2 : Option R} (k1 : c → Sim w M d rv pc L st h t1) (k2 : ¬ c → Sim w M d rv pc L st h t2) : Sim w M d rv pc L st h (if c then t1 else t2) := by
  by_cases hc : c
  · rw [if_pos hc]; exact k1 hc
  · rw [if_neg hc]; exact k2 hc
theorem Sim.tswIn {dflt lo hi off : Int} {offs : Array Int} {len : Nat} {x v : Int32} (tgt : Nat) (hd : decode M.2.1 pc = .ok (.tableswitch dflt lo hi offs, len)) (hx : x = v) (h1 : ¬ v.toInt < lo) (h2 : ¬ hi < v.toInt) (ho : offs[(v.toInt - lo).toNat]? = some off) (ht : (pc : Int) + off = (tgt : Int)) (k : Sim w M d rv tgt L st h t) : Sim w M d rv pc L (.int x :: st) h t := by
  subst hx
  exact fun z hz p l e s m args below meth c H locs D g r ls C hl hP hS => lv_tableIn C.1 C.2.1 hd h1 h2 ho ht (k z hz p l e s m args below meth c H locs D g r ls C hl hP hS)
theorem Sim.tswOut {dflt lo hi : Int} {offs : Array Int} {len : Nat} {x : Int32} (tgt : Nat) (hd : decode M.2.1 pc = .ok (.tableswitch dflt lo hi offs, len)) (hx : x.toInt < lo ∨ hi < x.toInt) (ht : (pc : Int) + dflt = (tgt : Int)) (k : Sim w M d rv tgt L st h t) : Sim w M d rv pc L (.int x :: st) h t :=
  fun z hz p l e s m args below meth c H locs D g r ls C hl hP hS => lv_tableOut C.1 C.2.1 hd hx ht (k z hz p l e s m args below meth c H locs D g r ls C hl hP hS)
theorem Sim.lsw {dflt off : Int} {ps : Array (Int × Int)} {len : Nat} {x : Int32} (tgt : Nat) (hd : decode M.2.1 pc = .ok (.lookupswitch dflt ps, len)) (hp : (ps.toList.zip (ps.toList.drop 1)).all (fun (a, next) => a.1 < next.1) = true) (ho : Op.lookupswitch.offset ps.toList dflt x.toInt = off) (ht : (pc : Int) + off = (tgt : Int)) (k : Sim w M d rv tgt L st h t) : Sim w M d rv pc L (.int x :: st) h t :=
  fun z hz p l e s m args below meth c H locs D g r ls C hl hP hS => lv_lookup C.1 C.2.1 hd hp ho ht (k z hz p l e s m args below meth c H locs D g r ls C hl hP hS)
theorem Sim.locs {L' : List (Nat × Value)} (ks : List Nat) (hq : lv_pick L ks = L') (k : Sim w M d rv pc L' st h t) : Sim w M d rv pc L st h t :=
  fun z hz p l e s m args below meth c H locs D g r ls C hl hP hS => (k z hz p l e s m args below meth c H locs D g r ls C (lv_sub hl ks (by rw [← hq]; unfold lv_pick zL; rw [List.map_filterMap]; congr 1; funext i; rw [List.getElem?_map])) hP hS)
theorem zQ_ret {D : va_G} {g : zG} {r : Nat → Nat} {s : State} {H : Heap} {locs : List Loc} {args : Array Value} {x : Option Value × zHp} (hP : va_P D vwCl (zW g r w x.2) H) (hS : va_S (zA r w) s.heap H locs) : ∀ t : State, t.heap = H → s.WarmedH t.vm → zQ D g r w x args s (.returned (x.1.map (zv r))) t := fun t ht _ => ⟨rfl, by rw [ht]; exact hP, hS.F ht⟩
theorem Sim.iret {v : Int32} (hd : decode M.2.1 pc = .ok (.ireturn, 1)) (hr : M.2.2.2 = some .int) : Sim w M d rI pc L [.int v] h (some (v, h)) := by
  intro z hz p l e s m args below meth c H locs D g r ls C hl hP hS
  cases hz
  exact W.iret C.1 C.2.1 (C.2.2.1.trans hr) (zQ_ret (x := (some (.int v), h)) hP hS) hS.2.2 hd C.2.2.2.2.2.2.1
theorem Sim.nret {v : Int32} {ty : FieldType} (hd : decode M.2.1 pc = .ok (.ireturn, 1)) (hr : M.2.2.2 = some ty) (hn : narrow ty (.int v) = .int v) : Sim w M d rI pc L [.int v] h (some (v, h)) := by
  intro z hz p l e s m args below meth c H locs D g r ls C hl hP hS
  cases hz
  exact W.zret C.1 C.2.1 (C.2.2.1.trans hr) hn (zQ_ret (x := (some (.int v), h)) hP hS) hS.2.2 hd C.2.2.2.2.2.2.1
def zzb {R : Type} (v : Int32) (t : Option R) : Option R := if v = 0 ∨ v = 1 then t else none
theorem zz_n {v : Int32} (h : v = 0 ∨ v = 1) : narrow .boolean (.int v) = .int v := by rcases h with rfl | rfl <;> rfl
theorem zz_f {v : Int32} (h : v = 0 ∨ v = 1) : fits .boolean (.int v) = true := by rcases h with rfl | rfl <;> rfl
theorem Sim.zret {v : Int32} (hd : decode M.2.1 pc = .ok (.ireturn, 1)) (hr : M.2.2.2 = some .boolean) : Sim w M d rI pc L [.int v] h (zzb v (some (v, h))) := by
  unfold zzb
  exact Sim.ite _ (fun hv => Sim.nret hd hr (zz_n hv)) (fun _ => Sim.non)
theorem Sim.lret {v : Int64} (hd : decode M.2.1 pc = .ok (.lreturn, 1)) (hr : M.2.2.2 = some .long) : Sim w M d rJ pc L [.long v] h (some (v, h)) := by
  intro z hz p l e s m args below meth c H locs D g r ls C hl hP hS
  cases hz
  exact W.lret C.1 C.2.1 (C.2.2.1.trans hr) (zQ_ret (x := (some (.long v), h)) hP hS) hS.2.2 hd C.2.2.2.2.2.2.1
theorem Sim.vret (hd : decode M.2.1 pc = .ok (.return_, 1)) (hr : M.2.2.2 = none) : Sim w M d rV pc L [] h (some h) := by
  intro z hz p l e s m args below meth c H locs D g r ls C hl hP hS
  cases hz
  exact W.vret C.1 C.2.1 (C.2.2.1.trans hr) (zQ_ret (x := (none, h)) hP hS) hS.2.2 hd C.2.2.2.2.2.2.1
/-- a field's link: class ci's slot k -/
def zF (own : String) (ix ci k : Nat) : Prop := ∃ (C : String) (T : u_T) (N : Nat), vwCl[ci]? = some (C, T, N) ∧ k < N ∧ Cond.fieldLink own ix (T k).1 (T k).2.1 (T k).2.2.1 ∈ zTb ∧ ∀ q ∈ u_ws C T N, q ∈ zTb
/-- the same, and what a putfield needs: its type, not final -/
def zFp (own : String) (ix ci k : Nat) (ty : FieldType) : Prop := ∃ (C : String) (T : u_T) (N : Nat) (ty0 : Nat → FieldType), vwCl[ci]? = some (C, T, N) ∧ k < N ∧ Cond.fieldLink own ix (T k).1 (T k).2.1 (T k).2.2.1 ∈ zTb ∧ (∀ q ∈ u_ws C T N, q ∈ zTb) ∧ (∀ k, k < N → parseFieldDescriptor (T k).2.2.1 = some (ty0 k)) ∧ (∀ a, a < N → ∀ b, b < N → a ≠ b → (T a).2.1 ≠ (T b).2.1) ∧ (T k).2.2.2 = false ∧ ty0 k = ty
def zoI (w : zWd) (o ci k : Nat) : Prop := o < w.1 ∧ (w.2 o).1 = ci + 3 ∧ k < (w.2 o).2.1 ∧ (w.2 o).2.2 k = none
def zoR (w : zWd) (o ci k j : Nat) : Prop := o < w.1 ∧ (w.2 o).1 = ci + 3 ∧ k < (w.2 o).2.1 ∧ (w.2 o).2.2 k = some j
def zaI (w : zWd) (a n : Nat) : Prop := a < w.1 ∧ (w.2 a).1 = 0 ∧ (w.2 a).2.1 = n
def zaC (w : zWd) (a n : Nat) : Prop := a < w.1 ∧ (w.2 a).1 = 1 ∧ (w.2 a).2.1 = n
def zaP (w : zWd) (a n : Nat) (j : Nat → Nat) : Prop := a < w.1 ∧ (w.2 a).1 = 2 ∧ (w.2 a).2.1 = n ∧ ∀ i, i < n → (w.2 a).2.2 i = some (j i)
theorem zfd_at {r : Nat → Nat} {f : Nat → Option Nat} {q : Nat → Int32} {n k : Nat} (hk : k < n) : ((List.range n).map (zfd r f q))[k]? = some (zfd r f q k) := by simp [hk]
theorem Sim.getI {ix ci n o : Nat} (hf : zF M.1.cls ix ci n) (hd : decode M.2.1 pc = .ok (.getfield ix, 3)) (ho : zoI w o ci n) (k : Sim w M d rv (pc + 3) L (.int (h o n) :: st) h t) : Sim w M d rv pc L (.ref o :: st) h t := by
  intro z hz p l e s m args below meth c H locs D g r ls C hl hP hS
  obtain ⟨Cn, T, N, f1, f2, f3, f4⟩ := hf
  obtain ⟨o1, o2, o3, o4⟩ := ho
  exact va_get (v := .int (h o n)) C.1 C.2.1 C.2.2.2.2.2.1 f4 C.2.2.2.2.1 C.2.2.2.2.2.2.2.1 hP o ((zW_at o1).trans (by rw [zE_o o2])) f1 n f2 (C.2.2.2.2.2.1 _ f3) (fun _ q => q) (by rw [zfd_at o3]; unfold zfd; rw [o4]) hd (k z hz p l e s m args below meth c H locs D g r ls C hl hP hS)
theorem Sim.getR {ix ci n o j : Nat} (hf : zF M.1.cls ix ci n) (hd : decode M.2.1 pc = .ok (.getfield ix, 3)) (ho : zoR w o ci n j) (k : Sim w M d rv (pc + 3) L (.ref j :: st) h t) : Sim w M d rv pc L (.ref o :: st) h t := by
  intro z hz p l e s m args below meth c H locs D g r ls C hl hP hS
  obtain ⟨Cn, T, N, f1, f2, f3, f4⟩ := hf
  obtain ⟨o1, o2, o3, o4⟩ := ho
  exact va_get (v := .ref (r j)) C.1 C.2.1 C.2.2.2.2.2.1 f4 C.2.2.2.2.1 C.2.2.2.2.2.2.2.1 hP o ((zW_at o1).trans (by rw [zE_o o2])) f1 n f2 (C.2.2.2.2.2.1 _ f3) (fun _ q => q) (by rw [zfd_at o3]; unfold zfd; rw [o4]) hd (k z hz p l e s m args below meth c H locs D g r ls C hl hP hS)
theorem zfd_set {r : Nat → Nat} {f : Nat → Option Nat} {q : Nat → Int32} {n k : Nat} {v : Int32} (hk : f k = none) : ((List.range n).map (zfd r f q)).set k (.int v) = (List.range n).map (zfd r f (upd q k v)) := by
  apply List.ext_getElem?
  intro j
  rw [List.getElem?_set]
  by_cases hj : k = j
  · subst hj
    by_cases h : k < n
    · simp [h, zfd, hk, upd]
    · simp [h]
  · rw [if_neg hj]
    by_cases h : j < n
    · simp only [List.getElem?_map, List.getElem?_range h, Option.map_some]
      unfold zfd
      have : upd q k v j = q j := by unfold upd; rw [if_neg (fun e => hj e.symm)]
      rw [this]
    · simp [h]
theorem Sim.put {ix ci n o : Nat} {ty : FieldType} {v : Int32} (hf : zFp M.1.cls ix ci n ty) (hd : decode M.2.1 pc = .ok (.putfield ix, 3)) (ho : zoI w o ci n) (hn : narrow ty (.int v) = .int v) (hfit : fits ty (.int v) = true) (k : Sim w M d rv (pc + 3) L st (zst h o n v) t) : Sim w M d rv pc L (.int v :: .ref o :: st) h t := by
  intro z hz p l e s m args below meth c H locs D g r ls C hl hP hS
  obtain ⟨Cn, T, N, ty0, f1, f2, f3, f4, f5, f6, f7, f8⟩ := hf
  obtain ⟨o1, o2, o3, o4⟩ := ho
  refine va_put (a := r o) (v := .int v) (ty := ty) (ci := ci) (ws := zW g r w h) (A := zA r w) C.1 C.2.1 C.2.2.2.2.2.1 f4 ty0 f5 f6 C.2.2.2.2.1 C.2.2.2.2.2.2.2.1 hP (zD C.2.2.2.2.2.2.2.2.1) hS o ((zW_at o1).trans (by rw [zE_o o2])) f1 n f2 (C.2.2.2.2.2.1 _ f3) (fun _ q => q) f7 (by rw [f5 n f2, f8]) hn hfit (by simp [o3]) hd (fun H1 locs1 hP1 _ hS1 => ?_)
  refine k z hz p l e s m args below meth c H1 locs1 D g r ls C hl ?_ hS1
  have e1 : zE g r w (zst h o n v) o = .inr (ci, ((List.range (w.2 o).2.1).map (zfd r (w.2 o).2.2 (h o))).set n (.int v)) := by rw [zE_o o2, zst_s, zfd_set o4]
  rw [← zW_set (h := h) (k := o) (fun j hj => zst_o hj), e1]
  exact hP1
theorem Sim.putZ {ix ci n o : Nat} {v : Int32} (hf : zFp M.1.cls ix ci n .boolean) (hd : decode M.2.1 pc = .ok (.putfield ix, 3)) (ho : zoI w o ci n) (k : Sim w M d rv (pc + 3) L st (zst h o n v) t) : Sim w M d rv pc L (.int v :: .ref o :: st) h (zzb v t) := by
  unfold zzb
  exact Sim.ite _ (fun hv => Sim.put hf hd ho (zz_n hv) (zz_f hv) k) (fun _ => Sim.non)
def zix {R : Type} (i : Int32) (n : Nat) (t : Option R) : Option R := if i < 0 ∨ n ≤ i.toNatClampNeg then none else t
theorem Sim.ix {i : Int32} {n : Nat} (k : vp_in i n → Sim w M d rv pc L st h t) : Sim w M d rv pc L st h (zix i n t) := by
  unfold zix
  by_cases hi : i < 0 ∨ n ≤ i.toNatClampNeg
  · rw [if_pos hi]; exact Sim.non
  · rw [if_neg hi]; exact k hi
theorem Sim.iald {a n : Nat} {i : Int32} (hd : decode M.2.1 pc = .ok (.iaload, 1)) (ha : zaI w a n) (k : Sim w M d rv (pc + 1) L (.int (h a i.toNatClampNeg) :: st) h t) : Sim w M d rv pc L (.int i :: .ref a :: st) h (zix i n t) := by
  refine Sim.ix (fun hi => ?_)
  intro z hz p l e s m args below meth c H locs D g r ls C hl hP hS
  obtain ⟨a1, a2, a3⟩ := ha
  exact va_iald (f := h a) (n := n) C.1 C.2.1 C.2.2.2.2.2.2.2.1 hP a 0 ((zW_at a1).trans (by rw [zE_i a2, a3])) rfl hi hd (k z hz p l e s m args below meth c H locs D g r ls C hl hP hS)
theorem Sim.cald {a n : Nat} {i : Int32} (hd : decode M.2.1 pc = .ok (.caload, 1)) (ha : zaC w a n) (k : Sim w M d rv (pc + 1) L (.int (h a i.toNatClampNeg) :: st) h t) : Sim w M d rv pc L (.int i :: .ref a :: st) h (zix i n t) := by
  refine Sim.ix (fun hi => ?_)
  intro z hz p l e s m args below meth c H locs D g r ls C hl hP hS
  obtain ⟨a1, a2, a3⟩ := ha
  exact va_cald (f := h a) (n := n) C.1 C.2.1 C.2.2.2.2.2.2.2.1 hP a 1 ((zW_at a1).trans (by rw [zE_c a2, a3])) rfl hi hd (k z hz p l e s m args below meth c H locs D g r ls C hl hP hS)
theorem Sim.aald {a n : Nat} {j : Nat → Nat} {i : Int32} (hd : decode M.2.1 pc = .ok (.aaload, 1)) (ha : zaP w a n j) (k : vp_in i n → Sim w M d rv (pc + 1) L (.ref (j i.toNatClampNeg) :: st) h t) : Sim w M d rv pc L (.int i :: .ref a :: st) h (zix i n t) := by
  refine Sim.ix (fun hi => ?_)
  intro z hz p l e s m args below meth c H locs D g r ls C hl hP hS
  obtain ⟨a1, a2, a3, a4⟩ := ha
  have hlt : i.toNatClampNeg < n := Nat.not_le.mp fun q => hi (Or.inr q)
  refine va_aldq (f := fun i => ((w.2 a).2.2 i).map r) (n := n) C.1 C.2.1 C.2.2.2.2.2.2.2.1 hP a 2 ((zW_at a1).trans (by rw [zE_p a2, a3])) rfl hi hd ?_
  rw [a4 _ hlt]
  exact k hi z hz p l e s m args below meth c H locs D g r ls C hl hP hS
theorem Sim.iast {a n : Nat} {i v : Int32} (hd : decode M.2.1 pc = .ok (.iastore, 1)) (ha : zaI w a n) (k : Sim w M d rv (pc + 1) L st (zst h a i.toNatClampNeg v) t) : Sim w M d rv pc L (.int v :: .int i :: .ref a :: st) h (zix i n t) := by
  refine Sim.ix (fun hi => ?_)
  intro z hz p l e s m args below meth c H locs D g r ls C hl hP hS
  obtain ⟨a1, a2, a3⟩ := ha
  refine va_iast (f := h a) (n := n) (A := zA r w) C.1 C.2.1 C.2.2.2.2.2.2.2.1 hP (zD C.2.2.2.2.2.2.2.2.1) hS a 0 ((zW_at a1).trans (by rw [zE_i a2, a3])) rfl hi hd (fun H1 locs1 hP1 _ hS1 => ?_)
  refine k z hz p l e s m args below meth c H1 locs1 D g r ls C hl ?_ hS1
  have e1 : zE g r w (zst h a i.toNatClampNeg v) a = .inl (g.1, n, .inl (upd (h a) i.toNatClampNeg v)) := by rw [zE_i a2, a3, zst_s]
  rw [← zW_set (h := h) (k := a) (fun j hj => zst_o hj), e1]
  exact hP1
theorem Sim.cast {a n : Nat} {i v : Int32} (hd : decode M.2.1 pc = .ok (.castore, 1)) (ha : zaC w a n) (k : Sim w M d rv (pc + 1) L st (zst h a i.toNatClampNeg (vp_nar .char v)) t) : Sim w M d rv pc L (.int v :: .int i :: .ref a :: st) h (zix i n t) := by
  refine Sim.ix (fun hi => ?_)
  intro z hz p l e s m args below meth c H locs D g r ls C hl hP hS
  obtain ⟨a1, a2, a3⟩ := ha
  refine va_cast (f := h a) (n := n) (A := zA r w) C.1 C.2.1 C.2.2.2.2.2.2.2.1 hP (zD C.2.2.2.2.2.2.2.2.1) hS a 1 ((zW_at a1).trans (by rw [zE_c a2, a3])) rfl hi hd (fun H1 locs1 hP1 _ hS1 => ?_)
  refine k z hz p l e s m args below meth c H1 locs1 D g r ls C hl ?_ hS1
  have e1 : zE g r w (zst h a i.toNatClampNeg (vp_nar .char v)) a = .inl (g.2.1, n, .inl (upd (h a) i.toNatClampNeg (vp_nar .char v))) := by rw [zE_c a2, a3, zst_s]
  rw [← zW_set (h := h) (k := a) (fun j hj => zst_o hj), e1]
  exact hP1
theorem Sim.alen {a n : Nat} (hd : decode M.2.1 pc = .ok (.arraylength, 1)) (ha : zaI w a n) (k : Sim w M d rv (pc + 1) L (.int (Int32.ofNat n) :: st) h t) : Sim w M d rv pc L (.ref a :: st) h t := by
  intro z hz p l e s m args below meth c H locs D g r ls C hl hP hS
  obtain ⟨a1, a2, a3⟩ := ha
  exact va_alen (x := (n, .inl (h a))) C.1 C.2.1 C.2.2.2.2.2.2.2.1 hP a 0 ((zW_at a1).trans (by rw [zE_i a2, a3])) rfl rfl hd (k z hz p l e s m args below meth c H locs D g r ls C hl hP hS)
def zac {R : Type} (sp dp n : Int32) (n0 n1 : Nat) (t : Option R) : Option R := if sp < 0 ∨ dp < 0 ∨ n < 0 ∨ n0 < sp.toNatClampNeg + n.toNatClampNeg ∨ n1 < dp.toNatClampNeg + n.toNatClampNeg then none else t
theorem Sim.acpy {ix a0 a1 n0 n1 : Nat} {sp dp n : Int32} (hd : decode M.2.1 pc = .ok (.invokestatic ix, 3)) (hm : Cond.methodLink M.1.cls ix arraycopyName ∈ zTb) (hnat : Cond.native arraycopyName ∈ zTb) (hst : Cond.static arraycopyName ∈ zTb) (hini : Cond.initialized "java/lang/System" ∈ zTb) (ha0 : zaI w a0 n0) (ha1 : zaI w a1 n1) (hdd : 1 ≤ d) (hw : (st.map fun v => v.category).sum + (nativeFrameWords "java/lang/System" "arraycopy" 5 + 11) ≤ 64)
    (k : Sim w M d rv (pc + 3) L st (zcp h a0 sp.toNatClampNeg a1 dp.toNatClampNeg n.toNatClampNeg) t) : Sim w M d rv pc L (.int n :: .int dp :: .ref a1 :: .int sp :: .ref a0 :: st) h (zac sp dp n n0 n1 t) := by
  unfold zac
  refine Sim.ite _ (fun _ => Sim.non) (fun hb => ?_)
  intro z hz p l e s m args below meth c H locs D g r ls C hl hP hS
  obtain ⟨p1, p2, p3⟩ := ha0
  obtain ⟨q1, q2, q3⟩ := ha1
  simp only [not_or, Nat.not_lt] at hb
  obtain ⟨b1, b2, b3, b4, b5⟩ := hb
  have hcs : ((st.map (zv r)).map fun v => v.category).sum = (st.map fun v => v.category).sum := by
    rw [List.map_map]; congr 1; apply List.map_congr_left; intro v _; exact zcat r v
  refine va_copyi (f := h a0) (g := h a1) (n0 := n0) (n1 := n1) (A := zA r w) C.1 C.2.1 (C.2.2.2.1.trans hl.1.symm) C.2.2.2.2.1 (C.2.2.2.2.2.1 _ hm) (C.2.2.2.2.2.1 _ hnat) (C.2.2.2.2.2.1 _ hst) (C.2.2.2.2.2.1 _ hini) C.2.2.2.2.2.2.2.1 hP (zD C.2.2.2.2.2.2.2.2.1) hS a0 a1 0 0 ((zW_at p1).trans (by rw [zE_i p2, p3])) ((zW_at q1).trans (by rw [zE_i q2, q3])) rfl rfl rfl b1 b2 b3 b4 b5 (fun _ _ => rfl) hdd (by rw [hcs]; show _ ≤ 64 * d; omega) hd (fun H1 locs1 hP1 _ hS1 => ?_)
  refine k z hz p l e s m args below meth c H1 locs1 D g r ls C hl ?_ hS1
  have e1 : zE g r w (zcp h a0 sp.toNatClampNeg a1 dp.toNatClampNeg n.toNatClampNeg) a1 = .inl (g.1, n1, .inl (va_cpy (h a0) (h a1) sp.toNatClampNeg dp.toNatClampNeg n.toNatClampNeg)) := by
    rw [zE_i q2, q3]; unfold zcp; rw [if_pos rfl]
  rw [← zW_set (h := h) (k := a1) (fun j hj => by unfold zcp; rw [if_neg hj]), e1]
  exact hP1
theorem Sim.mmax {ix : Nat} {x y : Int32} (hd : decode M.2.1 pc = .ok (.invokestatic ix, 3)) (hm : Cond.methodLink M.1.cls ix Lib.Math.max.name ∈ zTb) (hst : Cond.static Lib.Math.max.name ∈ zTb) (hini : Cond.initialized "java/lang/Math" ∈ zTb) (hc : Cond.code Lib.Math.max.name Lib.Math.max.code 2 (some .int) ∈ zTb) (hdd : 1 ≤ d) (hw : (st.map fun v => v.category).sum + 13 ≤ 64) (k : Sim w M d rv (pc + 3) L (.int (if x < y then y else x) :: st) h t) : Sim w M d rv pc L (.int y :: .int x :: st) h t := by
  intro z hz p l e s m args below meth c H locs D g r ls C hl hP hS
  have hcs : ((st.map (zv r)).map fun v => v.category).sum = (st.map fun v => v.category).sum := by
    rw [List.map_map]; congr 1; apply List.map_congr_left; intro v _; exact zcat r v
  exact va_mmax C.1 C.2.1 (C.2.2.2.1.trans hl.1.symm) C.2.2.2.2.1 (C.2.2.2.2.2.1 _ hm) (C.2.2.2.2.2.1 _ hst) (C.2.2.2.2.2.1 _ hini) (C.2.2.2.2.2.1 _ hc) hdd (by rw [hcs]; show _ ≤ 64 * d; omega) (Nat.zero_le _) (Nat.zero_le _) hd (k z hz p l e s m args below meth c H locs D g r ls C hl hP hS)
theorem Sim.mmin {ix : Nat} {x y : Int32} (hd : decode M.2.1 pc = .ok (.invokestatic ix, 3)) (hm : Cond.methodLink M.1.cls ix Lib.Math.min.name ∈ zTb) (hst : Cond.static Lib.Math.min.name ∈ zTb) (hini : Cond.initialized "java/lang/Math" ∈ zTb) (hc : Cond.code Lib.Math.min.name Lib.Math.min.code 2 (some .int) ∈ zTb) (hdd : 1 ≤ d) (hw : (st.map fun v => v.category).sum + 13 ≤ 64) (k : Sim w M d rv (pc + 3) L (.int (if y < x then y else x) :: st) h t) : Sim w M d rv pc L (.int y :: .int x :: st) h t := by
  intro z hz p l e s m args below meth c H locs D g r ls C hl hP hS
  have hcs : ((st.map (zv r)).map fun v => v.category).sum = (st.map fun v => v.category).sum := by
    rw [List.map_map]; congr 1; apply List.map_congr_left; intro v _; exact zcat r v
  exact va_mmin C.1 C.2.1 (C.2.2.2.1.trans hl.1.symm) C.2.2.2.2.1 (C.2.2.2.2.2.1 _ hm) (C.2.2.2.2.2.1 _ hst) (C.2.2.2.2.2.1 _ hini) (C.2.2.2.2.2.1 _ hc) hdd (by rw [hcs]; show _ ≤ 64 * d; omega) (Nat.zero_le _) (Nat.zero_le _) hd (k z hz p l e s m args below meth c H locs D g r ls C hl hP hS)
/-- what a call needs of a method: its words, how many it takes -/
def zMm (M1 : zMt) (n : Nat) : Prop := Cond.code M1.1 M1.2.1 M1.2.2.1 M1.2.2.2 ∈ zTb ∧ Cond.initialized M1.1.cls ∈ zTb ∧ (M1.1.cls ≠ "java/lang/invoke/MethodHandle" ∧ M1.1.cls ≠ "java/lang/invoke/VarHandle") ∧ (parseMethodDescriptor M1.1.desc).map (fun q => q.parameters.length) = some n
def zMV (M1 : zMt) (n : Nat) : Prop := zMm M1 n ∧ Cond.instanceMethod M1.1 ∈ zTb ∧ Cond.selects M1.1.cls M1.1 M1.1 ∈ zTb
def zMS (M1 : zMt) (n : Nat) : Prop := zMm M1 n ∧ Cond.static M1.1 ∈ zTb
/-- a cell is an object of the class of that name -/
def zoC (w : zWd) (o : Nat) (C : String) : Prop := ∃ (ci : Nat) (q : vw_C), o < w.1 ∧ (w.2 o).1 = ci + 3 ∧ vwCl[ci]? = some q ∧ q.1 = C
theorem zS.same {D : va_G} {g : zG} {r : Nat → Nat} {u U : State} (hv : U.vm = u.vm) (hh : U.heap = u.heap) (q : zS w D g r u) : zS w D g r U := by
  obtain ⟨h1, h2, h3, h4, h5, h6, h7⟩ := q
  have ha : u.vm.Alike U.vm := by rw [hv]; exact Vm.Alike.refl _
  exact ⟨va_K.moved ha h1, h2, by rw [hh]; exact ⟨vk_S.moved ha h3, vk_R.same hv h4, vk_R.same hv h5, va_Z.moved ha h6, h7.imp (va_Z.moved ha) (va_Z.moved ha)⟩⟩
theorem zS.go {D : va_G} {g : zG} {r : Nat → Nat} {s U : State} {H : Heap} {locs : List Loc} (h : zS w D g r s) (hS : va_S (zA r w) s.heap H locs) (hU : U.heap = H) (hW : s.WarmedH U.vm) : zS w D g r U := ⟨va_K.moved hW.alike h.1, h.2.1, h.2.2.go hS hU hW⟩
theorem z_blind {D : va_G} {g : zG} {r : Nat → Nat} {as : List Value} : FrameBlind (va_Pc as (fun U => va_P D vwCl (zW g r w h) U.heap ∧ zS w D g r U)) := fun a U g' mk q => ⟨q.1, q.2.1, q.2.2.same rfl rfl⟩
theorem z_callB {D : va_G} {g : zG} {r : Nat → Nat} {p : Program} {s : State} {m : MethodId} {args : Array Value} {meth : Method} {c : Code} {M1 : zMt} {d1 n ix : Nat} (C : zC w M p s m args meth c D g r) (hm : zMm M1 n) (hl : Cond.methodLink M.1.cls ix M1.1 ∈ zTb) (hdd : d1 + 1 ≤ d) (hml : M1.2.2.1 ≤ 45) : CallB (zRm d) s args M.1.cls ix M1.1 M1.2.1 M1.2.2.1 M1.2.2.2 (Cond.code M1.1 M1.2.1 M1.2.2.1 M1.2.2.2 :: zTb) (zRm d1) 0 0 n := by
  obtain ⟨h1, h2, h3, h4⟩ := hm
  have hts := C.2.2.2.2.2.1
  refine ⟨rfl, rfl, hdd, by show 8 + (M1.2.2.1 + 11) + 64 * d1 ≤ 64 * d; omega, fun q hq a' U hW => ?_, List.mem_cons_self, hts _ h1, hts _ h2, h3, fun sig hs => ?_, hts _ hl⟩
  · rcases List.mem_cons.mp hq with e | e
    · subst e; exact word_at hW (zTb_good _ h1) (hts _ h1)
    · exact word_at hW (zTb_good _ e) (hts _ e)
  · rw [hs] at h4; exact (Option.some.inj h4).symm
theorem z_call {D : va_G} {g : zG} {r : Nat → Nat} {p : Program} {l : Launch} {e : Env} {s : State} {m : MethodId} {args a : Array Value} {below : List Frame} {meth : Method} {c : Code} {H : Heap} {locs : List Loc} {Q : State → Prop} {ls : Array Slot} {st0 rest : List Value} {x : Option Value × zHp} (hr : va_Run p l e (zRm d) s m args below meth c H locs 0 0 0 0 (F0 m pc ls st0) rest (zQ D g r w x a) (zA r w)) (hS : va_S (zA r w) s.heap H locs)
    (kk : ∀ H1 locs1, va_P D vwCl (zW g r w x.2) H1 → va_S (zA r w) s.heap H1 locs1 → W p l e (zRm d) s m args below meth c H1 locs1 0 0 Q (F0 m (pc + 3) ls ((x.1.map (zv r)).toList ++ rest))) : W p l e (zRm d) s m args below meth c H locs 0 0 Q (F0 m pc ls st0) := by
  intro T hT X
  obtain ⟨v, st₀, t, T', L', h0, X', hL, e1, e2, ⟨hv, hP, hz, hk⟩, st⟩ := hr T hT X
  cases hv
  rw [h0] at hz hk
  obtain ⟨t2, a1, b1⟩ := kk T'.heap (locs ++ L') (by rw [e1]; exact hP) ⟨Nat.le_trans hS.1 (by rw [e1]; exact hz), fun q h1 h2 => by rw [e1, hk q (Nat.lt_of_lt_of_le h1 hS.1) h2]; exact hS.2.1 q h1 h2, fun q hq => by
      rcases List.mem_append.mp hq with h | h
      · exact hS.2.2 q h
      · exact hL q h⟩ T' rfl X'
  exact ⟨t2, st t2 a1, b1⟩
theorem z_cat {r : Nat → Nat} : ((st.map (zv r)).map fun v => v.category).sum = (st.map fun v => v.category).sum := by
  rw [List.map_map]; congr 1; apply List.map_congr_left; intro v _; exact zcat r v
theorem Sim.callV {R1 : Type} {rv1 : R1 → Option Value × zHp} {M1 : zMt} {d1 ix o : Nat} {as : List Value} {t1 : Option R1} {f : R1 → Option R} (hd : decode M.2.1 pc = .ok (.invokevirtual ix, 3)) (hl : Cond.methodLink M.1.cls ix M1.1 ∈ zTb) (hm : zMV M1 as.length) (ho : zoC w o M1.1.cls) (hdd : d1 + 1 ≤ d) (hml : M1.2.2.1 ≤ 45) (hw : (st.map fun v => v.category).sum ≤ 8) (hf : Fn w M1 d1 rv1 (.ref o :: as) h t1) (k : ∀ x, Sim w M d rv (pc + 3) L ((rv1 x).1.toList ++ st) (rv1 x).2 (f x)) : Sim w M d rv pc L (as.reverse ++ .ref o :: st) h (t1.bind f) := by
  intro z hz p l e s m args below meth c H locs D g r ls C hlv hP hS
  cases ht : t1 with
  | none => rw [ht] at hz; cases hz
  | some x =>
    rw [ht] at hz
    obtain ⟨ci, q, o1, o2, o3, o4⟩ := ho
    have hrun := va_runV (p := p) (e := e) (below := below) (meth := meth) (locs := locs) (cells := 0) (slots := 0) (m := m) (nL := M.2.2.1) (n := as.length) (Ts := zTb) (C := M1.1.cls) (b := r o) (As := as.map (zv r)) (rest := st.map (zv r)) (g := F0 m pc ls ((as.reverse ++ .ref o :: st).map (zv r))) ⟨C.1, C.2.1, C.2.2.2.1, C.2.2.2.2.1, C.2.2.2.2.2.1⟩ (hf x ht l D g r) ⟨z_callB C hm.1 hl hdd hml, C.2.2.2.2.2.1 _ hm.2.1, C.2.2.2.2.2.1 _ hm.2.2⟩ ⟨z_blind, by rw [← o4]; exact va_recv C.2.2.2.2.2.2.2.1 hP o3 (q0 := o) ((zW_at o1).trans (by rw [zE_o o2])), fun U hU hW => ⟨by simp [zv], by rw [hU]; exact hP, C.2.2.2.2.2.2.2.go hS hU hW⟩⟩ rfl (by simp) hlv.1 (by simp [zv]) (lv_room (by rw [z_cat]; exact hw)) hd ⟨Nat.le_refl _, Nat.le_refl _⟩
    refine z_call hrun hS (fun H1 locs1 hP1 hS1 => ?_)
    have := k x z hz p l e s m args below meth c H1 locs1 D g r ls C hlv hP1 hS1
    rw [List.map_append, ← Option.toList_map] at this
    exact this
theorem Sim.callS {R1 : Type} {rv1 : R1 → Option Value × zHp} {M1 : zMt} {d1 ix : Nat} {as : List Value} {t1 : Option R1} {f : R1 → Option R} (hd : decode M.2.1 pc = .ok (.invokestatic ix, 3)) (hl : Cond.methodLink M.1.cls ix M1.1 ∈ zTb) (hm : zMS M1 as.length) (hdd : d1 + 1 ≤ d) (hml : M1.2.2.1 ≤ 45) (hw : (st.map fun v => v.category).sum ≤ 8) (hf : Fn w M1 d1 rv1 as h t1) (k : ∀ x, Sim w M d rv (pc + 3) L ((rv1 x).1.toList ++ st) (rv1 x).2 (f x)) : Sim w M d rv pc L (as.reverse ++ st) h (t1.bind f) := by
  intro z hz p l e s m args below meth c H locs D g r ls C hlv hP hS
  cases ht : t1 with
  | none => rw [ht] at hz; cases hz
  | some x =>
    rw [ht] at hz
    have hrun := va_runS (p := p) (e := e) (below := below) (meth := meth) (locs := locs) (cells := 0) (slots := 0) (m := m) (nL := M.2.2.1) (n := as.length) (Ts := zTb) (As := as.map (zv r)) (rest := st.map (zv r)) (g := F0 m pc ls ((as.reverse ++ st).map (zv r))) ⟨C.1, C.2.1, C.2.2.2.1, C.2.2.2.2.1, C.2.2.2.2.2.1⟩ (hf x ht l D g r) ⟨z_callB C hm.1 hl hdd hml, C.2.2.2.2.2.1 _ hm.2⟩ ⟨z_blind, fun U hU hW => ⟨by simp, by rw [hU]; exact hP, C.2.2.2.2.2.2.2.go hS hU hW⟩⟩ rfl (by simp) hlv.1 (by simp) (lv_room (by rw [z_cat]; exact hw)) hd ⟨Nat.le_refl _, Nat.le_refl _⟩
    refine z_call hrun hS (fun H1 locs1 hP1 hS1 => ?_)
    have := k x z hz p l e s m args below meth c H1 locs1 D g r ls C hlv hP1 hS1
    rw [List.map_append, ← Option.toList_map] at this
    exact this
theorem z_args (r : Nat → Nat) : ∀ (as : List Value) (i : Nat), lv_args i (as.map (zv r)) = zL r (lv_args i as)
  | [], _ => rfl
  | v :: as, i => by
    show (i, zv r v) :: lv_args (if (zv r v).category = 2 then i + 2 else i + 1) (as.map (zv r)) = (i, zv r v) :: zL r (lv_args (if v.category = 2 then i + 2 else i + 1) as)
    rw [zcat, z_args r as]
theorem z_sl (r : Nat → Nat) : ∀ as : List Value, (lg_sl (as.map (zv r))).length = (lg_sl as).length
  | [] => rfl
  | v :: as => by
    have ih := z_sl r as
    cases v <;> (simp_all [lg_sl, zv] <;> try rfl)
theorem Fn.of {as : List Value} (hy : plainName M.1.cls = true) (hn : (lg_sl as).length ≤ M.2.2.1) (k : Sim w M d rv 0 (lv_args 0 as) [] h t) : Fn w M d rv as h t := by
  intro x hx l D g r
  refine Met.ofW (cc := M.2.1) (maxL := M.2.2.1) (ret := M.2.2.2) hy rfl ?_
  intro p e s m args below meth c s₁ B hml hv
  obtain ⟨rfl, hP, hSt⟩ := hv
  have hts := atoms_spec (ws := Cond.code M.1 M.2.1 M.2.2.1 M.2.2.2 :: zTb) B.pre
  have hl := lv_entry (as.map (zv r)) (n := M.2.2.1) (by rw [z_sl]; exact hn)
  rw [lg_entry_eq]
  rw [z_args] at hl
  exact k x hx p l e s m _ below meth c s.heap [] D g r _ ⟨B.exec, B.bytes, B.returns, hml, findClass_of_methodNamed B.named, fun q hq => hts q (List.mem_cons_of_mem _ hq), B.notSynchronized, hSt⟩ hl hP va_S.rf
theorem Sim.callV0I {M1 : zMt} {d1 ix : Nat} {o : Nat} {t1 : Option (Int32 × zHp)} {f : Int32 × zHp → Option R} (hf : Fn w M1 d1 rI [.ref o] h t1) (hd : decode M.2.1 pc = .ok (.invokevirtual ix, 3)) (hl : Cond.methodLink M.1.cls ix M1.1 ∈ zTb) (hm : zMV M1 0) (ho : zoC w o M1.1.cls) (hdd : d1 + 1 ≤ d) (hml : M1.2.2.1 ≤ 45) (hw : (st.map fun v => v.category).sum ≤ 8) (k : ∀ x : Int32 × zHp, Sim w M d rv (pc + 3) L (.int x.1 :: st) (x.2) (f x)) : Sim w M d rv pc L (.ref o :: st) h (t1.bind f) :=
  Sim.callV (as := []) hd hl hm ho hdd hml hw hf k
theorem Sim.callV0U {M1 : zMt} {d1 ix : Nat} {o : Nat} {t1 : Option (zHp)} {f : zHp → Option R} (hf : Fn w M1 d1 rV [.ref o] h t1) (hd : decode M.2.1 pc = .ok (.invokevirtual ix, 3)) (hl : Cond.methodLink M.1.cls ix M1.1 ∈ zTb) (hm : zMV M1 0) (ho : zoC w o M1.1.cls) (hdd : d1 + 1 ≤ d) (hml : M1.2.2.1 ≤ 45) (hw : (st.map fun v => v.category).sum ≤ 8) (k : ∀ x : zHp, Sim w M d rv (pc + 3) L (st) (x) (f x)) : Sim w M d rv pc L (.ref o :: st) h (t1.bind f) :=
  Sim.callV (as := []) hd hl hm ho hdd hml hw hf k
theorem Sim.callV0J {M1 : zMt} {d1 ix : Nat} {o : Nat} {t1 : Option (Int64 × zHp)} {f : Int64 × zHp → Option R} (hf : Fn w M1 d1 rJ [.ref o] h t1) (hd : decode M.2.1 pc = .ok (.invokevirtual ix, 3)) (hl : Cond.methodLink M.1.cls ix M1.1 ∈ zTb) (hm : zMV M1 0) (ho : zoC w o M1.1.cls) (hdd : d1 + 1 ≤ d) (hml : M1.2.2.1 ≤ 45) (hw : (st.map fun v => v.category).sum ≤ 8) (k : ∀ x : Int64 × zHp, Sim w M d rv (pc + 3) L (.long x.1 :: st) (x.2) (f x)) : Sim w M d rv pc L (.ref o :: st) h (t1.bind f) :=
  Sim.callV (as := []) hd hl hm ho hdd hml hw hf k
theorem Sim.callV1I {M1 : zMt} {d1 ix : Nat} {o : Nat} {a1 : Value} {t1 : Option (Int32 × zHp)} {f : Int32 × zHp → Option R} (hf : Fn w M1 d1 rI [.ref o, a1] h t1) (hd : decode M.2.1 pc = .ok (.invokevirtual ix, 3)) (hl : Cond.methodLink M.1.cls ix M1.1 ∈ zTb) (hm : zMV M1 1) (ho : zoC w o M1.1.cls) (hdd : d1 + 1 ≤ d) (hml : M1.2.2.1 ≤ 45) (hw : (st.map fun v => v.category).sum ≤ 8) (k : ∀ x : Int32 × zHp, Sim w M d rv (pc + 3) L (.int x.1 :: st) (x.2) (f x)) : Sim w M d rv pc L (a1 :: .ref o :: st) h (t1.bind f) :=
  Sim.callV (as := [a1]) hd hl hm ho hdd hml hw hf k
theorem Sim.callV1U {M1 : zMt} {d1 ix : Nat} {o : Nat} {a1 : Value} {t1 : Option (zHp)} {f : zHp → Option R} (hf : Fn w M1 d1 rV [.ref o, a1] h t1) (hd : decode M.2.1 pc = .ok (.invokevirtual ix, 3)) (hl : Cond.methodLink M.1.cls ix M1.1 ∈ zTb) (hm : zMV M1 1) (ho : zoC w o M1.1.cls) (hdd : d1 + 1 ≤ d) (hml : M1.2.2.1 ≤ 45) (hw : (st.map fun v => v.category).sum ≤ 8) (k : ∀ x : zHp, Sim w M d rv (pc + 3) L (st) (x) (f x)) : Sim w M d rv pc L (a1 :: .ref o :: st) h (t1.bind f) :=
  Sim.callV (as := [a1]) hd hl hm ho hdd hml hw hf k
theorem Sim.callV1J {M1 : zMt} {d1 ix : Nat} {o : Nat} {a1 : Value} {t1 : Option (Int64 × zHp)} {f : Int64 × zHp → Option R} (hf : Fn w M1 d1 rJ [.ref o, a1] h t1) (hd : decode M.2.1 pc = .ok (.invokevirtual ix, 3)) (hl : Cond.methodLink M.1.cls ix M1.1 ∈ zTb) (hm : zMV M1 1) (ho : zoC w o M1.1.cls) (hdd : d1 + 1 ≤ d) (hml : M1.2.2.1 ≤ 45) (hw : (st.map fun v => v.category).sum ≤ 8) (k : ∀ x : Int64 × zHp, Sim w M d rv (pc + 3) L (.long x.1 :: st) (x.2) (f x)) : Sim w M d rv pc L (a1 :: .ref o :: st) h (t1.bind f) :=
  Sim.callV (as := [a1]) hd hl hm ho hdd hml hw hf k
theorem Sim.callV2I {M1 : zMt} {d1 ix : Nat} {o : Nat} {a1 a2 : Value} {t1 : Option (Int32 × zHp)} {f : Int32 × zHp → Option R} (hf : Fn w M1 d1 rI [.ref o, a1, a2] h t1) (hd : decode M.2.1 pc = .ok (.invokevirtual ix, 3)) (hl : Cond.methodLink M.1.cls ix M1.1 ∈ zTb) (hm : zMV M1 2) (ho : zoC w o M1.1.cls) (hdd : d1 + 1 ≤ d) (hml : M1.2.2.1 ≤ 45) (hw : (st.map fun v => v.category).sum ≤ 8) (k : ∀ x : Int32 × zHp, Sim w M d rv (pc + 3) L (.int x.1 :: st) (x.2) (f x)) : Sim w M d rv pc L (a2 :: a1 :: .ref o :: st) h (t1.bind f) :=
  Sim.callV (as := [a1, a2]) hd hl hm ho hdd hml hw hf k
theorem Sim.callV2U {M1 : zMt} {d1 ix : Nat} {o : Nat} {a1 a2 : Value} {t1 : Option (zHp)} {f : zHp → Option R} (hf : Fn w M1 d1 rV [.ref o, a1, a2] h t1) (hd : decode M.2.1 pc = .ok (.invokevirtual ix, 3)) (hl : Cond.methodLink M.1.cls ix M1.1 ∈ zTb) (hm : zMV M1 2) (ho : zoC w o M1.1.cls) (hdd : d1 + 1 ≤ d) (hml : M1.2.2.1 ≤ 45) (hw : (st.map fun v => v.category).sum ≤ 8) (k : ∀ x : zHp, Sim w M d rv (pc + 3) L (st) (x) (f x)) : Sim w M d rv pc L (a2 :: a1 :: .ref o :: st) h (t1.bind f) :=
  Sim.callV (as := [a1, a2]) hd hl hm ho hdd hml hw hf k
theorem Sim.callV2J {M1 : zMt} {d1 ix : Nat} {o : Nat} {a1 a2 : Value} {t1 : Option (Int64 × zHp)} {f : Int64 × zHp → Option R} (hf : Fn w M1 d1 rJ [.ref o, a1, a2] h t1) (hd : decode M.2.1 pc = .ok (.invokevirtual ix, 3)) (hl : Cond.methodLink M.1.cls ix M1.1 ∈ zTb) (hm : zMV M1 2) (ho : zoC w o M1.1.cls) (hdd : d1 + 1 ≤ d) (hml : M1.2.2.1 ≤ 45) (hw : (st.map fun v => v.category).sum ≤ 8) (k : ∀ x : Int64 × zHp, Sim w M d rv (pc + 3) L (.long x.1 :: st) (x.2) (f x)) : Sim w M d rv pc L (a2 :: a1 :: .ref o :: st) h (t1.bind f) :=
  Sim.callV (as := [a1, a2]) hd hl hm ho hdd hml hw hf k
theorem Sim.callV3I {M1 : zMt} {d1 ix : Nat} {o : Nat} {a1 a2 a3 : Value} {t1 : Option (Int32 × zHp)} {f : Int32 × zHp → Option R} (hf : Fn w M1 d1 rI [.ref o, a1, a2, a3] h t1) (hd : decode M.2.1 pc = .ok (.invokevirtual ix, 3)) (hl : Cond.methodLink M.1.cls ix M1.1 ∈ zTb) (hm : zMV M1 3) (ho : zoC w o M1.1.cls) (hdd : d1 + 1 ≤ d) (hml : M1.2.2.1 ≤ 45) (hw : (st.map fun v => v.category).sum ≤ 8) (k : ∀ x : Int32 × zHp, Sim w M d rv (pc + 3) L (.int x.1 :: st) (x.2) (f x)) : Sim w M d rv pc L (a3 :: a2 :: a1 :: .ref o :: st) h (t1.bind f) :=
  Sim.callV (as := [a1, a2, a3]) hd hl hm ho hdd hml hw hf k
theorem Sim.callV3U {M1 : zMt} {d1 ix : Nat} {o : Nat} {a1 a2 a3 : Value} {t1 : Option (zHp)} {f : zHp → Option R} (hf : Fn w M1 d1 rV [.ref o, a1, a2, a3] h t1) (hd : decode M.2.1 pc = .ok (.invokevirtual ix, 3)) (hl : Cond.methodLink M.1.cls ix M1.1 ∈ zTb) (hm : zMV M1 3) (ho : zoC w o M1.1.cls) (hdd : d1 + 1 ≤ d) (hml : M1.2.2.1 ≤ 45) (hw : (st.map fun v => v.category).sum ≤ 8) (k : ∀ x : zHp, Sim w M d rv (pc + 3) L (st) (x) (f x)) : Sim w M d rv pc L (a3 :: a2 :: a1 :: .ref o :: st) h (t1.bind f) :=
  Sim.callV (as := [a1, a2, a3]) hd hl hm ho hdd hml hw hf k
theorem Sim.callV3J {M1 : zMt} {d1 ix : Nat} {o : Nat} {a1 a2 a3 : Value} {t1 : Option (Int64 × zHp)} {f : Int64 × zHp → Option R} (hf : Fn w M1 d1 rJ [.ref o, a1, a2, a3] h t1) (hd : decode M.2.1 pc = .ok (.invokevirtual ix, 3)) (hl : Cond.methodLink M.1.cls ix M1.1 ∈ zTb) (hm : zMV M1 3) (ho : zoC w o M1.1.cls) (hdd : d1 + 1 ≤ d) (hml : M1.2.2.1 ≤ 45) (hw : (st.map fun v => v.category).sum ≤ 8) (k : ∀ x : Int64 × zHp, Sim w M d rv (pc + 3) L (.long x.1 :: st) (x.2) (f x)) : Sim w M d rv pc L (a3 :: a2 :: a1 :: .ref o :: st) h (t1.bind f) :=
  Sim.callV (as := [a1, a2, a3]) hd hl hm ho hdd hml hw hf k
theorem Sim.callV4I {M1 : zMt} {d1 ix : Nat} {o : Nat} {a1 a2 a3 a4 : Value} {t1 : Option (Int32 × zHp)} {f : Int32 × zHp → Option R} (hf : Fn w M1 d1 rI [.ref o, a1, a2, a3, a4] h t1) (hd : decode M.2.1 pc = .ok (.invokevirtual ix, 3)) (hl : Cond.methodLink M.1.cls ix M1.1 ∈ zTb) (hm : zMV M1 4) (ho : zoC w o M1.1.cls) (hdd : d1 + 1 ≤ d) (hml : M1.2.2.1 ≤ 45) (hw : (st.map fun v => v.category).sum ≤ 8) (k : ∀ x : Int32 × zHp, Sim w M d rv (pc + 3) L (.int x.1 :: st) (x.2) (f x)) : Sim w M d rv pc L (a4 :: a3 :: a2 :: a1 :: .ref o :: st) h (t1.bind f) :=
  Sim.callV (as := [a1, a2, a3, a4]) hd hl hm ho hdd hml hw hf k
theorem Sim.callV4U {M1 : zMt} {d1 ix : Nat} {o : Nat} {a1 a2 a3 a4 : Value} {t1 : Option (zHp)} {f : zHp → Option R} (hf : Fn w M1 d1 rV [.ref o, a1, a2, a3, a4] h t1) (hd : decode M.2.1 pc = .ok (.invokevirtual ix, 3)) (hl : Cond.methodLink M.1.cls ix M1.1 ∈ zTb) (hm : zMV M1 4) (ho : zoC w o M1.1.cls) (hdd : d1 + 1 ≤ d) (hml : M1.2.2.1 ≤ 45) (hw : (st.map fun v => v.category).sum ≤ 8) (k : ∀ x : zHp, Sim w M d rv (pc + 3) L (st) (x) (f x)) : Sim w M d rv pc L (a4 :: a3 :: a2 :: a1 :: .ref o :: st) h (t1.bind f) :=
  Sim.callV (as := [a1, a2, a3, a4]) hd hl hm ho hdd hml hw hf k
theorem Sim.callV4J {M1 : zMt} {d1 ix : Nat} {o : Nat} {a1 a2 a3 a4 : Value} {t1 : Option (Int64 × zHp)} {f : Int64 × zHp → Option R} (hf : Fn w M1 d1 rJ [.ref o, a1, a2, a3, a4] h t1) (hd : decode M.2.1 pc = .ok (.invokevirtual ix, 3)) (hl : Cond.methodLink M.1.cls ix M1.1 ∈ zTb) (hm : zMV M1 4) (ho : zoC w o M1.1.cls) (hdd : d1 + 1 ≤ d) (hml : M1.2.2.1 ≤ 45) (hw : (st.map fun v => v.category).sum ≤ 8) (k : ∀ x : Int64 × zHp, Sim w M d rv (pc + 3) L (.long x.1 :: st) (x.2) (f x)) : Sim w M d rv pc L (a4 :: a3 :: a2 :: a1 :: .ref o :: st) h (t1.bind f) :=
  Sim.callV (as := [a1, a2, a3, a4]) hd hl hm ho hdd hml hw hf k
theorem Sim.callV5I {M1 : zMt} {d1 ix : Nat} {o : Nat} {a1 a2 a3 a4 a5 : Value} {t1 : Option (Int32 × zHp)} {f : Int32 × zHp → Option R} (hf : Fn w M1 d1 rI [.ref o, a1, a2, a3, a4, a5] h t1) (hd : decode M.2.1 pc = .ok (.invokevirtual ix, 3)) (hl : Cond.methodLink M.1.cls ix M1.1 ∈ zTb) (hm : zMV M1 5) (ho : zoC w o M1.1.cls) (hdd : d1 + 1 ≤ d) (hml : M1.2.2.1 ≤ 45) (hw : (st.map fun v => v.category).sum ≤ 8) (k : ∀ x : Int32 × zHp, Sim w M d rv (pc + 3) L (.int x.1 :: st) (x.2) (f x)) : Sim w M d rv pc L (a5 :: a4 :: a3 :: a2 :: a1 :: .ref o :: st) h (t1.bind f) :=
  Sim.callV (as := [a1, a2, a3, a4, a5]) hd hl hm ho hdd hml hw hf k
theorem Sim.callV5U {M1 : zMt} {d1 ix : Nat} {o : Nat} {a1 a2 a3 a4 a5 : Value} {t1 : Option (zHp)} {f : zHp → Option R} (hf : Fn w M1 d1 rV [.ref o, a1, a2, a3, a4, a5] h t1) (hd : decode M.2.1 pc = .ok (.invokevirtual ix, 3)) (hl : Cond.methodLink M.1.cls ix M1.1 ∈ zTb) (hm : zMV M1 5) (ho : zoC w o M1.1.cls) (hdd : d1 + 1 ≤ d) (hml : M1.2.2.1 ≤ 45) (hw : (st.map fun v => v.category).sum ≤ 8) (k : ∀ x : zHp, Sim w M d rv (pc + 3) L (st) (x) (f x)) : Sim w M d rv pc L (a5 :: a4 :: a3 :: a2 :: a1 :: .ref o :: st) h (t1.bind f) :=
  Sim.callV (as := [a1, a2, a3, a4, a5]) hd hl hm ho hdd hml hw hf k
theorem Sim.callV5J {M1 : zMt} {d1 ix : Nat} {o : Nat} {a1 a2 a3 a4 a5 : Value} {t1 : Option (Int64 × zHp)} {f : Int64 × zHp → Option R} (hf : Fn w M1 d1 rJ [.ref o, a1, a2, a3, a4, a5] h t1) (hd : decode M.2.1 pc = .ok (.invokevirtual ix, 3)) (hl : Cond.methodLink M.1.cls ix M1.1 ∈ zTb) (hm : zMV M1 5) (ho : zoC w o M1.1.cls) (hdd : d1 + 1 ≤ d) (hml : M1.2.2.1 ≤ 45) (hw : (st.map fun v => v.category).sum ≤ 8) (k : ∀ x : Int64 × zHp, Sim w M d rv (pc + 3) L (.long x.1 :: st) (x.2) (f x)) : Sim w M d rv pc L (a5 :: a4 :: a3 :: a2 :: a1 :: .ref o :: st) h (t1.bind f) :=
  Sim.callV (as := [a1, a2, a3, a4, a5]) hd hl hm ho hdd hml hw hf k
theorem Sim.callS1I {M1 : zMt} {d1 ix : Nat} {a1 : Value} {t1 : Option (Int32 × zHp)} {f : Int32 × zHp → Option R} (hf : Fn w M1 d1 rI [a1] h t1) (hd : decode M.2.1 pc = .ok (.invokestatic ix, 3)) (hl : Cond.methodLink M.1.cls ix M1.1 ∈ zTb) (hm : zMS M1 1) (hdd : d1 + 1 ≤ d) (hml : M1.2.2.1 ≤ 45) (hw : (st.map fun v => v.category).sum ≤ 8) (k : ∀ x : Int32 × zHp, Sim w M d rv (pc + 3) L (.int x.1 :: st) (x.2) (f x)) : Sim w M d rv pc L (a1 :: st) h (t1.bind f) :=
  Sim.callS (as := [a1]) hd hl hm hdd hml hw hf k
theorem Sim.callS1U {M1 : zMt} {d1 ix : Nat} {a1 : Value} {t1 : Option (zHp)} {f : zHp → Option R} (hf : Fn w M1 d1 rV [a1] h t1) (hd : decode M.2.1 pc = .ok (.invokestatic ix, 3)) (hl : Cond.methodLink M.1.cls ix M1.1 ∈ zTb) (hm : zMS M1 1) (hdd : d1 + 1 ≤ d) (hml : M1.2.2.1 ≤ 45) (hw : (st.map fun v => v.category).sum ≤ 8) (k : ∀ x : zHp, Sim w M d rv (pc + 3) L (st) (x) (f x)) : Sim w M d rv pc L (a1 :: st) h (t1.bind f) :=
  Sim.callS (as := [a1]) hd hl hm hdd hml hw hf k
theorem Sim.callS1J {M1 : zMt} {d1 ix : Nat} {a1 : Value} {t1 : Option (Int64 × zHp)} {f : Int64 × zHp → Option R} (hf : Fn w M1 d1 rJ [a1] h t1) (hd : decode M.2.1 pc = .ok (.invokestatic ix, 3)) (hl : Cond.methodLink M.1.cls ix M1.1 ∈ zTb) (hm : zMS M1 1) (hdd : d1 + 1 ≤ d) (hml : M1.2.2.1 ≤ 45) (hw : (st.map fun v => v.category).sum ≤ 8) (k : ∀ x : Int64 × zHp, Sim w M d rv (pc + 3) L (.long x.1 :: st) (x.2) (f x)) : Sim w M d rv pc L (a1 :: st) h (t1.bind f) :=
  Sim.callS (as := [a1]) hd hl hm hdd hml hw hf k
theorem Sim.callS2I {M1 : zMt} {d1 ix : Nat} {a1 a2 : Value} {t1 : Option (Int32 × zHp)} {f : Int32 × zHp → Option R} (hf : Fn w M1 d1 rI [a1, a2] h t1) (hd : decode M.2.1 pc = .ok (.invokestatic ix, 3)) (hl : Cond.methodLink M.1.cls ix M1.1 ∈ zTb) (hm : zMS M1 2) (hdd : d1 + 1 ≤ d) (hml : M1.2.2.1 ≤ 45) (hw : (st.map fun v => v.category).sum ≤ 8) (k : ∀ x : Int32 × zHp, Sim w M d rv (pc + 3) L (.int x.1 :: st) (x.2) (f x)) : Sim w M d rv pc L (a2 :: a1 :: st) h (t1.bind f) :=
  Sim.callS (as := [a1, a2]) hd hl hm hdd hml hw hf k
theorem Sim.callS2U {M1 : zMt} {d1 ix : Nat} {a1 a2 : Value} {t1 : Option (zHp)} {f : zHp → Option R} (hf : Fn w M1 d1 rV [a1, a2] h t1) (hd : decode M.2.1 pc = .ok (.invokestatic ix, 3)) (hl : Cond.methodLink M.1.cls ix M1.1 ∈ zTb) (hm : zMS M1 2) (hdd : d1 + 1 ≤ d) (hml : M1.2.2.1 ≤ 45) (hw : (st.map fun v => v.category).sum ≤ 8) (k : ∀ x : zHp, Sim w M d rv (pc + 3) L (st) (x) (f x)) : Sim w M d rv pc L (a2 :: a1 :: st) h (t1.bind f) :=
  Sim.callS (as := [a1, a2]) hd hl hm hdd hml hw hf k
theorem Sim.callS2J {M1 : zMt} {d1 ix : Nat} {a1 a2 : Value} {t1 : Option (Int64 × zHp)} {f : Int64 × zHp → Option R} (hf : Fn w M1 d1 rJ [a1, a2] h t1) (hd : decode M.2.1 pc = .ok (.invokestatic ix, 3)) (hl : Cond.methodLink M.1.cls ix M1.1 ∈ zTb) (hm : zMS M1 2) (hdd : d1 + 1 ≤ d) (hml : M1.2.2.1 ≤ 45) (hw : (st.map fun v => v.category).sum ≤ 8) (k : ∀ x : Int64 × zHp, Sim w M d rv (pc + 3) L (.long x.1 :: st) (x.2) (f x)) : Sim w M d rv pc L (a2 :: a1 :: st) h (t1.bind f) :=
  Sim.callS (as := [a1, a2]) hd hl hm hdd hml hw hf k
theorem Sim.callS3I {M1 : zMt} {d1 ix : Nat} {a1 a2 a3 : Value} {t1 : Option (Int32 × zHp)} {f : Int32 × zHp → Option R} (hf : Fn w M1 d1 rI [a1, a2, a3] h t1) (hd : decode M.2.1 pc = .ok (.invokestatic ix, 3)) (hl : Cond.methodLink M.1.cls ix M1.1 ∈ zTb) (hm : zMS M1 3) (hdd : d1 + 1 ≤ d) (hml : M1.2.2.1 ≤ 45) (hw : (st.map fun v => v.category).sum ≤ 8) (k : ∀ x : Int32 × zHp, Sim w M d rv (pc + 3) L (.int x.1 :: st) (x.2) (f x)) : Sim w M d rv pc L (a3 :: a2 :: a1 :: st) h (t1.bind f) :=
  Sim.callS (as := [a1, a2, a3]) hd hl hm hdd hml hw hf k
theorem Sim.callS3U {M1 : zMt} {d1 ix : Nat} {a1 a2 a3 : Value} {t1 : Option (zHp)} {f : zHp → Option R} (hf : Fn w M1 d1 rV [a1, a2, a3] h t1) (hd : decode M.2.1 pc = .ok (.invokestatic ix, 3)) (hl : Cond.methodLink M.1.cls ix M1.1 ∈ zTb) (hm : zMS M1 3) (hdd : d1 + 1 ≤ d) (hml : M1.2.2.1 ≤ 45) (hw : (st.map fun v => v.category).sum ≤ 8) (k : ∀ x : zHp, Sim w M d rv (pc + 3) L (st) (x) (f x)) : Sim w M d rv pc L (a3 :: a2 :: a1 :: st) h (t1.bind f) :=
  Sim.callS (as := [a1, a2, a3]) hd hl hm hdd hml hw hf k
theorem Sim.callS3J {M1 : zMt} {d1 ix : Nat} {a1 a2 a3 : Value} {t1 : Option (Int64 × zHp)} {f : Int64 × zHp → Option R} (hf : Fn w M1 d1 rJ [a1, a2, a3] h t1) (hd : decode M.2.1 pc = .ok (.invokestatic ix, 3)) (hl : Cond.methodLink M.1.cls ix M1.1 ∈ zTb) (hm : zMS M1 3) (hdd : d1 + 1 ≤ d) (hml : M1.2.2.1 ≤ 45) (hw : (st.map fun v => v.category).sum ≤ 8) (k : ∀ x : Int64 × zHp, Sim w M d rv (pc + 3) L (.long x.1 :: st) (x.2) (f x)) : Sim w M d rv pc L (a3 :: a2 :: a1 :: st) h (t1.bind f) :=
  Sim.callS (as := [a1, a2, a3]) hd hl hm hdd hml hw hf k
theorem Sim.callS4I {M1 : zMt} {d1 ix : Nat} {a1 a2 a3 a4 : Value} {t1 : Option (Int32 × zHp)} {f : Int32 × zHp → Option R} (hf : Fn w M1 d1 rI [a1, a2, a3, a4] h t1) (hd : decode M.2.1 pc = .ok (.invokestatic ix, 3)) (hl : Cond.methodLink M.1.cls ix M1.1 ∈ zTb) (hm : zMS M1 4) (hdd : d1 + 1 ≤ d) (hml : M1.2.2.1 ≤ 45) (hw : (st.map fun v => v.category).sum ≤ 8) (k : ∀ x : Int32 × zHp, Sim w M d rv (pc + 3) L (.int x.1 :: st) (x.2) (f x)) : Sim w M d rv pc L (a4 :: a3 :: a2 :: a1 :: st) h (t1.bind f) :=
  Sim.callS (as := [a1, a2, a3, a4]) hd hl hm hdd hml hw hf k
theorem Sim.callS4U {M1 : zMt} {d1 ix : Nat} {a1 a2 a3 a4 : Value} {t1 : Option (zHp)} {f : zHp → Option R} (hf : Fn w M1 d1 rV [a1, a2, a3, a4] h t1) (hd : decode M.2.1 pc = .ok (.invokestatic ix, 3)) (hl : Cond.methodLink M.1.cls ix M1.1 ∈ zTb) (hm : zMS M1 4) (hdd : d1 + 1 ≤ d) (hml : M1.2.2.1 ≤ 45) (hw : (st.map fun v => v.category).sum ≤ 8) (k : ∀ x : zHp, Sim w M d rv (pc + 3) L (st) (x) (f x)) : Sim w M d rv pc L (a4 :: a3 :: a2 :: a1 :: st) h (t1.bind f) :=
  Sim.callS (as := [a1, a2, a3, a4]) hd hl hm hdd hml hw hf k
theorem Sim.callS4J {M1 : zMt} {d1 ix : Nat} {a1 a2 a3 a4 : Value} {t1 : Option (Int64 × zHp)} {f : Int64 × zHp → Option R} (hf : Fn w M1 d1 rJ [a1, a2, a3, a4] h t1) (hd : decode M.2.1 pc = .ok (.invokestatic ix, 3)) (hl : Cond.methodLink M.1.cls ix M1.1 ∈ zTb) (hm : zMS M1 4) (hdd : d1 + 1 ≤ d) (hml : M1.2.2.1 ≤ 45) (hw : (st.map fun v => v.category).sum ≤ 8) (k : ∀ x : Int64 × zHp, Sim w M d rv (pc + 3) L (.long x.1 :: st) (x.2) (f x)) : Sim w M d rv pc L (a4 :: a3 :: a2 :: a1 :: st) h (t1.bind f) :=
  Sim.callS (as := [a1, a2, a3, a4]) hd hl hm hdd hml hw hf k
theorem Sim.callS5I {M1 : zMt} {d1 ix : Nat} {a1 a2 a3 a4 a5 : Value} {t1 : Option (Int32 × zHp)} {f : Int32 × zHp → Option R} (hf : Fn w M1 d1 rI [a1, a2, a3, a4, a5] h t1) (hd : decode M.2.1 pc = .ok (.invokestatic ix, 3)) (hl : Cond.methodLink M.1.cls ix M1.1 ∈ zTb) (hm : zMS M1 5) (hdd : d1 + 1 ≤ d) (hml : M1.2.2.1 ≤ 45) (hw : (st.map fun v => v.category).sum ≤ 8) (k : ∀ x : Int32 × zHp, Sim w M d rv (pc + 3) L (.int x.1 :: st) (x.2) (f x)) : Sim w M d rv pc L (a5 :: a4 :: a3 :: a2 :: a1 :: st) h (t1.bind f) :=
  Sim.callS (as := [a1, a2, a3, a4, a5]) hd hl hm hdd hml hw hf k
theorem Sim.callS5U {M1 : zMt} {d1 ix : Nat} {a1 a2 a3 a4 a5 : Value} {t1 : Option (zHp)} {f : zHp → Option R} (hf : Fn w M1 d1 rV [a1, a2, a3, a4, a5] h t1) (hd : decode M.2.1 pc = .ok (.invokestatic ix, 3)) (hl : Cond.methodLink M.1.cls ix M1.1 ∈ zTb) (hm : zMS M1 5) (hdd : d1 + 1 ≤ d) (hml : M1.2.2.1 ≤ 45) (hw : (st.map fun v => v.category).sum ≤ 8) (k : ∀ x : zHp, Sim w M d rv (pc + 3) L (st) (x) (f x)) : Sim w M d rv pc L (a5 :: a4 :: a3 :: a2 :: a1 :: st) h (t1.bind f) :=
  Sim.callS (as := [a1, a2, a3, a4, a5]) hd hl hm hdd hml hw hf k
theorem Sim.callS5J {M1 : zMt} {d1 ix : Nat} {a1 a2 a3 a4 a5 : Value} {t1 : Option (Int64 × zHp)} {f : Int64 × zHp → Option R} (hf : Fn w M1 d1 rJ [a1, a2, a3, a4, a5] h t1) (hd : decode M.2.1 pc = .ok (.invokestatic ix, 3)) (hl : Cond.methodLink M.1.cls ix M1.1 ∈ zTb) (hm : zMS M1 5) (hdd : d1 + 1 ≤ d) (hml : M1.2.2.1 ≤ 45) (hw : (st.map fun v => v.category).sum ≤ 8) (k : ∀ x : Int64 × zHp, Sim w M d rv (pc + 3) L (.long x.1 :: st) (x.2) (f x)) : Sim w M d rv pc L (a5 :: a4 :: a3 :: a2 :: a1 :: st) h (t1.bind f) :=
  Sim.callS (as := [a1, a2, a3, a4, a5]) hd hl hm hdd hml hw hf k
/-- a name for a value -/
def zlt {A R : Type} (a : A) (f : A → Option R) : Option R := f a
theorem Sim.lti {a : Int32} {f : Int32 → Option R} (k : ∀ x, Sim w M d rv pc L (.int x :: st) h (f x)) : Sim w M d rv pc L (.int a :: st) h (zlt a f) := k a
theorem Sim.ltl {a : Int64} {f : Int64 → Option R} (k : ∀ x, Sim w M d rv pc L (.long x :: st) h (f x)) : Sim w M d rv pc L (.long a :: st) h (zlt a f) := k a
theorem Sim.lth {f : zHp → Option R} (k : ∀ x, Sim w M d rv pc L st x (f x)) : Sim w M d rv pc L st h (zlt h f) := k h
def zN : Nat := 1000000
/-- the shape out of a list -/
def zsh (l : List (Nat × Nat × List (Option Nat))) : zWd := (l.length, fun k => match l[k]? with
  | some q => (q.1, q.2.1, fun i => (q.2.2[i]?).join)
  | none => (0, 0, fun _ => none))
def zln (w : zWd) (a : Nat) : Nat := (w.2 a).2.1
def zoIb (w : zWd) (o ci k : Nat) : Bool := decide (o < w.1) && (decide ((w.2 o).1 = ci + 3) && (decide (k < (w.2 o).2.1) && decide ((w.2 o).2.2 k = none)))
def zoRb (w : zWd) (o ci k j : Nat) : Bool := decide (o < w.1) && (decide ((w.2 o).1 = ci + 3) && (decide (k < (w.2 o).2.1) && decide ((w.2 o).2.2 k = some j)))
def zaIb (w : zWd) (a kd n : Nat) : Bool := decide (a < w.1) && (decide ((w.2 a).1 = kd) && decide ((w.2 a).2.1 = n))
theorem zoI_of {w : zWd} {o ci k : Nat} (h : zoIb w o ci k = true) : zoI w o ci k := by simp only [zoIb, Bool.and_eq_true, decide_eq_true_eq] at h; exact h
theorem zoR_of {w : zWd} {o ci k j : Nat} (h : zoRb w o ci k j = true) : zoR w o ci k j := by simp only [zoRb, Bool.and_eq_true, decide_eq_true_eq] at h; exact h
theorem zaI_of {w : zWd} {a n : Nat} (h : zaIb w a 0 n = true) : zaI w a n := by simp only [zaIb, Bool.and_eq_true, decide_eq_true_eq] at h; exact h
theorem zaC_of {w : zWd} {a n : Nat} (h : zaIb w a 1 n = true) : zaC w a n := by simp only [zaIb, Bool.and_eq_true, decide_eq_true_eq] at h; exact h
/-- a loop with fuel -/
def zlp {V R : Type} (b : (V → Option R) → V → Option R) : Nat → V → Option R
  | 0, _ => none
  | n + 1, v => b (zlp b n) v
theorem Sim.lp {V : Type} {b : (V → Option R) → V → Option R} {Lf : V → List (Nat × Value)} {sf : V → List Value} {hf : V → zHp} (hs : ∀ rec : V → Option R, (∀ v, Sim w M d rv pc (Lf v) (sf v) (hf v) (rec v)) → ∀ v, Sim w M d rv pc (Lf v) (sf v) (hf v) (b rec v)) : ∀ n v, Sim w M d rv pc (Lf v) (sf v) (hf v) (zlp b n v)
  | 0, _ => Sim.non
  | n + 1, v => hs (zlp b n) (Sim.lp hs n) v
end Rows
