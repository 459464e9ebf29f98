/-! CONSTRUCTORS: the object under way stands first in the world, what it made stands behind it -/
abbrev zPo : String := RX4
/-- what the tables say besides: an array of porches, and the constructors that are private to a nest -/
def zXt (U : State) : Prop := va_AO zPo U ∧ va_Nw (.methodLinkNest RX9 31 yX1_init RX10) U ∧ va_Nw (.methodLinkNest RX9 47 yX8_init RX10) U ∧ va_Nw (.methodLinkNest RX10 11 yX9_init RX10) U ∧ va_Nw (.methodLinkNest RX6 46 yX1_init RX10) U ∧ va_Nw (.methodLinkNest RX10 41 yX6_init RX10) U
theorem zXt.same {u U : State} (h : u.vm = U.vm) (q : zXt u) : zXt U := ⟨va_AO.moved (by rw [h]; exact Vm.Alike.refl _) q.1, va_Nw.same rfl h q.2.1, va_Nw.same rfl h q.2.2.1, va_Nw.same rfl h q.2.2.2.1, va_Nw.same rfl h q.2.2.2.2.1, va_Nw.same rfl h q.2.2.2.2.2⟩
theorem zXt.go {s U : State} (hW : s.WarmedH U.vm) (q : zXt s) : zXt U := ⟨va_AO.moved hW.alike q.1, va_Nw.warmM hW q.2.1, va_Nw.warmM hW q.2.2.1, va_Nw.warmM hW q.2.2.2.1, va_Nw.warmM hW q.2.2.2.2.1, va_Nw.warmM hW q.2.2.2.2.2⟩
def zRi (d mc ms : Nat) : Room := { frames := d, cells := mc, slots := ms, locals := 64 * d }
def zQi (D : va_G) (g : zG) (w : zWd) (h : zHp) (Px : (Nat → Nat) → Prop) (A : Nat → Prop) : Array Value → State → Outcome → State → Prop :=
  va_Qv Px (fun r t => va_P D vwCl (zW g r w h) t.heap ∧ va_D A (zW g r w h)) A
def zCi (M : zMt) (p : Program) (s : State) (m : MethodId) (args : Array Value) (meth : Method) (c : Code) (D : va_G) (g : zG) : Prop :=
  p.tables.exec = Jvm.exec ∧ c.code = M.2.1 ∧ meth.sig.returnType = M.2.2.2 ∧ c.maxLocals = M.2.2.1 ∧ s.vm.findClass M.1.cls = some m.cls ∧ (∀ q ∈ zTb, q.before args s = true) ∧ meth.locks = false ∧ (zK D g s ∧ zXt s) ∧ meth.name = "<init>"
/-- from here the constructor comes to its end, and then the world is the one of shape w and heap h -/
def Cn (w : zWd) (h : zHp) (Px : (Nat → Nat) → Prop) (M : zMt) (d mc ms : Nat) (D : va_G) (g : zG) (cells slots pc : Nat) (L : List (Nat × Value)) (st : List Value) (ws : va_W) : Prop :=
  ∀ (p : Program) (l : Launch) (e : Env) (s : State) (m : MethodId) (args : Array Value) (below : List Frame) (meth : Method) (c : Code) (H : Heap) (locs : List Loc) (A : Nat → Prop) (ls : Array Slot),
    zCi M p s m args meth c D g → (∀ q, s.heap.size ≤ q → A q) → lv_has ls M.2.2.1 L → va_P D vwCl ws H → va_D A ws → va_S A s.heap H locs →
    W p l e (zRi d mc ms) s m args below meth c H locs cells slots (MQ below (zQi D g w h Px A) args s mc ms A) (F0 m pc ls st)
def Ini (w : zWd) (h : zHp) (M : zMt) (d mc ms : Nat) (as : List Value) (ci : Nat) (fs : List Value) (Px : Nat → (Nat → Nat) → Prop) : Prop :=
  ∀ (l : Launch) (D : va_G) (g : zG) (q sz : Nat), Met l M.1 (Cond.code M.1 M.2.1 M.2.2.1 M.2.2.2 :: zTb) (zRi d mc ms) (va_Pc (.ref q :: as) (fun U => U.heap.size = sz ∧ va_P D vwCl [(q, .inr (ci, fs))] U.heap ∧ zK D g U ∧ zXt U)) (zQi D g w h (Px q) (va_A [(q, .inr (ci, fs))] sz)) mc ms (va_A [(q, .inr (ci, fs))] sz)
/-- a function out of what was written, last first -/
def zuf : List (Nat × Int32) → Nat → Int32
  | [] => fun _ => 0
  | q :: l => upd (zuf l) q.1 q.2
def zhp (t : List (Nat × List (Nat × Int32))) : zHp := fun k => zuf ((t.lookup k).getD [])
section CnRows
variable {w : zWd} {h : zHp} {Px : (Nat → Nat) → Prop} {M : zMt} {d mc ms : Nat} {D : va_G} {g : zG} {cells slots pc : Nat} {L : List (Nat × Value)} {st : List Value} {ws : va_W}
theorem Ini.of {as : List Value} {ci : Nat} {fs : List Value} {Py : Nat → (Nat → Nat) → Prop} (hy : plainName M.1.cls = true) (hn : ∀ q : Nat, (lg_sl (.ref q :: as)).length ≤ M.2.2.1) (hnm : M.1.name = "<init>") (k : ∀ D g q, Cn w h (Py q) M d mc ms D g 0 0 0 (lv_args 0 (.ref q :: as)) [] [(q, .inr (ci, fs))]) : Ini w h M d mc ms as ci fs Py := by
  intro l D g q sz
  refine Met.ofW (cc := M.2.1) (maxL := M.2.2.1) (ret := M.2.2.2) hy rfl ?_
  intro p e s m args below meth c s₁ B hml hv
  obtain ⟨rfl, hsz, hP, hK⟩ := hv
  have hts := atoms_spec (ws := Cond.code M.1 M.2.1 M.2.2.1 M.2.2.2 :: zTb) B.pre
  have hl := lv_entry (.ref q :: as) (n := M.2.2.1) (hn q)
  rw [lg_entry_eq]
  subst hsz
  have hin : meth.name = M.1.name := (name_of_methodNamed B.named B.method).1
  exact k D g q p l e s m _ below meth c s.heap [] (va_A [(q, .inr (ci, fs))] s.heap.size) _ ⟨B.exec, B.bytes, B.returns, hml, findClass_of_methodNamed B.named, fun w hw => hts w (List.mem_cons_of_mem _ hw), B.notSynchronized, hK, hin.trans hnm⟩ (fun q h => Or.inr h) hl hP
    ⟨fun i j x y h1 h2 _ => by
      have e1 := (List.getElem?_eq_some_iff.mp h1).1
      have e2 := (List.getElem?_eq_some_iff.mp h2).1
      simp only [List.length_cons, List.length_nil] at e1 e2
      omega, fun _ _ h => va_A.in h⟩ va_S.rf
theorem Cn.iconst {n : Int} {v : Int32} (hd : decode M.2.1 pc = .ok (.iconst n, 1)) (hv : Int32.ofInt n = v) (k : Cn w h Px M d mc ms D g cells slots (pc + 1) L (.int v :: st) ws) : Cn w h Px M d mc ms D g cells slots pc L st ws :=
  fun p l e s m args below meth c H locs A ls C hA hl hP hD hS => lv_iconst C.1 C.2.1 hd hv (k p l e s m args below meth c H locs A ls C hA hl hP hD hS)
theorem Cn.bipush {n : Int} {v : Int32} (hd : decode M.2.1 pc = .ok (.bipush n, 2)) (hv : (Int8.ofInt n).toInt32 = v) (k : Cn w h Px M d mc ms D g cells slots (pc + 2) L (.int v :: st) ws) : Cn w h Px M d mc ms D g cells slots pc L st ws :=
  fun p l e s m args below meth c H locs A ls C hA hl hP hD hS => lv_bipush C.1 C.2.1 hd hv (k p l e s m args below meth c H locs A ls C hA hl hP hD hS)
theorem Cn.sipush {n : Int} {v : Int32} (hd : decode M.2.1 pc = .ok (.sipush n, 3)) (hv : (Int16.ofInt n).toInt32 = v) (k : Cn w h Px M d mc ms D g cells slots (pc + 3) L (.int v :: st) ws) : Cn w h Px M d mc ms D g cells slots pc L st ws :=
  fun p l e s m args below meth c H locs A ls C hA hl hP hD hS => lv_sipush C.1 C.2.1 hd hv (k p l e s m args below meth c H locs A ls C hA hl hP hD hS)
theorem Cn.iload_n {n : Fin 4} {x : Int32} (q : Nat) (hd : decode M.2.1 pc = .ok (.iload_n n, 1)) (hq : L[q]? = some ((n : Nat), .int x)) (k : Cn w h Px M d mc ms D g cells slots (pc + 1) L (.int x :: st) ws) : Cn w h Px M d mc ms D g cells slots pc L st ws :=
  fun p l e s m args below meth c H locs A ls C hA hl hP hD hS => lv_iload_n C.1 C.2.1 hd rfl (lv_at hl q hq) (k p l e s m args below meth c H locs A ls C hA hl hP hD hS)
theorem Cn.aload_n {n : Fin 4} {x : Nat} (q : Nat) (hd : decode M.2.1 pc = .ok (.aload_n n, 1)) (hq : L[q]? = some ((n : Nat), .ref x)) (k : Cn w h Px M d mc ms D g cells slots (pc + 1) L (.ref x :: st) ws) : Cn w h Px M d mc ms D g cells slots pc L st ws :=
  fun p l e s m args below meth c H locs A ls C hA hl hP hD hS => lv_aload_n C.1 C.2.1 hd rfl (lv_at hl q hq) (k p l e s m args below meth c H locs A ls C hA hl hP hD hS)
theorem Cn.istore_n {n : Fin 4} {x : Int32} {L' : List (Nat × Value)} (hd : decode M.2.1 pc = .ok (.istore_n n, 1)) (hn : (n : Nat) < M.2.2.1) (hq : ((n : Nat), Value.int x) :: L.filter (fun q => !(q.1 == (n : Nat)) && !(q.1 + 1 == (n : Nat) && q.2.category == 2)) = L') (k : Cn w h Px M d mc ms D g cells slots (pc + 1) L' st ws) : Cn w h Px M d mc ms D g cells slots pc L (.int x :: st) ws :=
  fun p l e s m args below meth c H locs A ls C hA hl hP hD hS => lv_istore_n (lv' := L') C.1 C.2.1 hd rfl hl hn hq (fun ls hl => k p l e s m args below meth c H locs A ls C hA hl hP hD hS)
theorem Cn.iinc {i : Nat} {n : Int} {x v : Int32} {L' : List (Nat × Value)} (q : Nat) (hd : decode M.2.1 pc = .ok (.iinc i n, 3)) (hx : L[q]? = some (i, .int x)) (hv : x + Int32.ofInt n = v) (hn : i < M.2.2.1) (hq : (i, Value.int v) :: L.filter (fun q => !(q.1 == i) && !(q.1 + 1 == i && q.2.category == 2)) = L') (k : Cn w h Px M d mc ms D g cells slots (pc + 3) L' st ws) : Cn w h Px M d mc ms D g cells slots pc L st ws :=
  fun p l e s m args below meth c H locs A ls C hA hl hP hD hS => lv_iinc (lv' := L') C.1 C.2.1 hd hl (k := q) hx hv hn hq (fun ls hl => k p l e s m args below meth c H locs A ls C hA hl hP hD hS)
theorem Cn.imul {x y z : Int32} (hd : decode M.2.1 pc = .ok (.imul, 1)) (hz : x * y = z) (k : Cn w h Px M d mc ms D g cells slots (pc + 1) L (.int z :: st) ws) : Cn w h Px M d mc ms D g cells slots pc L (.int y :: .int x :: st) ws := by
  subst hz
  exact fun p l e s m args below meth c H locs A ls C hA hl hP hD hS => lv_imul C.1 C.2.1 hd (k p l e s m args below meth c H locs A ls C hA hl hP hD hS)
theorem Cn.dup {v : Value} (hd : decode M.2.1 pc = .ok (.dup, 1)) (hv : v.category = 1) (k : Cn w h Px M d mc ms D g cells slots (pc + 1) L (v :: v :: st) ws) : Cn w h Px M d mc ms D g cells slots pc L (v :: st) ws :=
  fun p l e s m args below meth c H locs A ls C hA hl hP hD hS => lv_dup C.1 C.2.1 hd hv (k p l e s m args below meth c H locs A ls C hA hl hP hD hS)
theorem Cn.goto {off : Int} (tgt : Nat) (hd : decode M.2.1 pc = .ok (.goto off, 3)) (ht : (pc : Int) + off = (tgt : Int)) (k : Cn w h Px M d mc ms D g cells slots tgt L st ws) : Cn w h Px M d mc ms D g cells slots pc L st ws :=
  fun p l e s m args below meth c H locs A ls C hA hl hP hD hS => lv_goto C.1 C.2.1 hd ht (k p l e s m args below meth c H locs A ls C hA hl hP hD hS)
theorem Cn.ge1 {x y : Int32} {off : Int} (tgt : Nat) (hd : decode M.2.1 pc = .ok (.if_icmp .ge off, 3)) (ht : (pc : Int) + off = (tgt : Int)) (hh : ¬ x < y) (k : Cn w h Px M d mc ms D g cells slots tgt L st ws) : Cn w h Px M d mc ms D g cells slots pc L (.int y :: .int x :: st) ws :=
  fun p l e s m args below meth c H locs A ls C hA hl hP hD hS => lv_icmp_ge C.1 C.2.1 hd ht (fun _ => k p l e s m args below meth c H locs A ls C hA hl hP hD hS) (fun q => absurd (Int32.not_le.mp q) hh)
theorem Cn.ge0 {x y : Int32} {off : Int} (tgt : Nat) (hd : decode M.2.1 pc = .ok (.if_icmp .ge off, 3)) (ht : (pc : Int) + off = (tgt : Int)) (hh : x < y) (k : Cn w h Px M d mc ms D g cells slots (pc + 3) L st ws) : Cn w h Px M d mc ms D g cells slots pc L (.int y :: .int x :: st) ws :=
  fun p l e s m args below meth c H locs A ls C hA hl hP hD hS => lv_icmp_ge C.1 C.2.1 hd ht (fun q => absurd hh (Int32.not_lt.mpr q)) (fun _ => k p l e s m args below meth c H locs A ls C hA hl hP hD hS)
theorem Cn.obj {ix a : Nat} (hd : decode M.2.1 pc = .ok (.invokespecial ix, 3)) (hl0 : Cond.methodLink M.1.cls ix Lib.objectInit ∈ zTb) (h1 : Cond.instanceMethod Lib.objectInit ∈ zTb) (h2 : Cond.code Lib.objectInit ⟨#[0xb1]⟩ 1 none ∈ zTb) (hdd : 1 ≤ d) (hw : (st.map fun v => v.category).sum ≤ 8) (k : Cn w h Px M d mc ms D g cells slots (pc + 3) L st ws) : Cn w h Px M d mc ms D g cells slots pc L (.ref a :: st) ws := by
  intro p l e s m args below meth c H locs A ls C hA hl hP hD hS
  have hts := C.2.2.2.2.2.1
  refine W.objInit C.1 C.2.1 C.2.2.2.2.1 (hts _ hl0) (hts _ h1) (hts _ h2) (g := F0 m pc ls (.ref a :: st)) rfl (hl.1.trans C.2.2.2.1.symm) rfl hd hdd ?_ ?_
  · have h8 : 2 * (F0 m pc ls (.ref a :: st)).monitorRoom + (st.map fun v => v.category).sum ≤ 8 := lv_room hw
    show 2 * (F0 m pc ls (.ref a :: st)).monitorRoom + (st.map fun v => v.category).sum + 12 ≤ 64 * d
    omega
  · exact k p l e s m args below meth c H locs A ls C hA hl hP hD hS
theorem Cn.new {ix ci N : Nat} {C0 : String} {T : u_T} {ty : Nat → FieldType} {fs : List Value} {x : Nat × va_E} {T0 : va_W} {c' s' : Nat} (hd : decode M.2.1 pc = .ok (.new ix, 3)) (hc : vwCl[ci]? = some (C0, T, N)) (hin : ∀ q ∈ u_ws C0 T N, q ∈ zTb) (hty : ∀ k, k < N → parseFieldDescriptor (T k).2.2.1 = some (ty k)) (hcl : Cond.classLink M.1.cls ix C0 ∈ zTb) (hinst : Cond.instantiable C0 N ∈ zTb) (hini : Cond.initialized C0 ∈ zTb) (hfs : ∀ j, j < N → defaultValue (ty j) = vp_V fs j) (hc' : cells + 1 = c') (hs' : slots + N = s') (h1 : c' ≤ mc) (h2 : s' ≤ ms)
    (k : ∀ q, Cn w h Px M d mc ms D g c' s' (pc + 3) L (.ref q :: st) (x :: (T0 ++ [(q, .inr (ci, fs))]))) : Cn w h Px M d mc ms D g cells slots pc L st (x :: T0) := by
  subst hc'; subst hs'
  intro p l e s m args below meth c H locs A ls C hA hl hP hD hS
  have hts := C.2.2.2.2.2.1
  exact va_new C.1 C.2.1 hts hin ty hty C.2.2.2.2.1 (hts _ hcl) (hts _ hinst) (hts _ hini) C.2.2.2.2.2.2.2.1.1 hP hD hS hA hc hfs h1 h2 hd (fun q H1 hP1 hD1 hS1 => k q p l e s m args below meth c H1 locs A ls C hA hl hP1 hD1 hS1)
theorem Cn.newI {n : Int32} {N : Nat} {x : Nat × va_E} {T0 : va_W} {c' s' : Nat} (hd : decode M.2.1 pc = .ok (.newarray .int, 2)) (harr : Cond.arrayClass .int ∈ zTb) (hn : ¬ n < 0) (hN : n.toNatClampNeg = N) (hb : N * 4 ≤ 536870912) (hc' : cells + 1 = c') (hs' : slots + N = s') (h1 : c' ≤ mc) (h2 : s' ≤ ms)
    (k : ∀ q, Cn w h Px M d mc ms D g c' s' (pc + 2) L (.ref q :: st) (x :: (T0 ++ [(q, .inl (g.1, N, .inl (zuf [])))]))) : Cn w h Px M d mc ms D g cells slots pc L (.int n :: st) (x :: T0) := by
  subst hc'; subst hs'
  intro p l e s m args below meth c H locs A ls C hA hl hP hD hS
  have hts := C.2.2.2.2.2.1
  refine va_newa (atype := .int) (ty := .int) (a0 := (N, .inl (zuf []))) C.1 C.2.1 (hts _ harr) rfl C.2.2.2.2.2.2.2.1.1 hP hD hS hA (fun _ => rfl) hn hN hb h1 h2 hd (fun q cA H1 hK1 hP1 hD1 hS1 => ?_)
  have e1 : s.vm.findClass _ = some cA := (hK1.2 3 (cA, .int) rfl).2
  have e2 : s.vm.findClass _ = some g.1 := (C.2.2.2.2.2.2.2.1.1.2 0 (g.1, .int) rfl).2
  have e3 : cA = g.1 := Option.some.inj (e1.symm.trans e2)
  subst e3
  exact k q p l e s m args below meth c H1 locs A ls C hA hl hP1 hD1 hS1
theorem Cn.newC {n : Int32} {N : Nat} {x : Nat × va_E} {T0 : va_W} {c' s' : Nat} (hd : decode M.2.1 pc = .ok (.newarray .char, 2)) (harr : Cond.arrayClass .char ∈ zTb) (hn : ¬ n < 0) (hN : n.toNatClampNeg = N) (hb : N * 2 ≤ 536870912) (hc' : cells + 1 = c') (hs' : slots + N = s') (h1 : c' ≤ mc) (h2 : s' ≤ ms)
    (k : ∀ q, Cn w h Px M d mc ms D g c' s' (pc + 2) L (.ref q :: st) (x :: (T0 ++ [(q, .inl (g.2.1, N, .inl (zuf [])))]))) : Cn w h Px M d mc ms D g cells slots pc L (.int n :: st) (x :: T0) := by
  subst hc'; subst hs'
  intro p l e s m args below meth c H locs A ls C hA hl hP hD hS
  have hts := C.2.2.2.2.2.1
  refine va_newa (atype := .char) (ty := .char) (a0 := (N, .inl (zuf []))) C.1 C.2.1 (hts _ harr) rfl C.2.2.2.2.2.2.2.1.1 hP hD hS hA (fun _ => rfl) hn hN hb h1 h2 hd (fun q cA H1 hK1 hP1 hD1 hS1 => ?_)
  have e1 : s.vm.findClass _ = some cA := (hK1.2 3 (cA, .char) rfl).2
  have e2 : s.vm.findClass _ = some g.2.1 := (C.2.2.2.2.2.2.2.1.1.2 1 (g.2.1, .char) rfl).2
  have e3 : cA = g.2.1 := Option.some.inj (e1.symm.trans e2)
  subst e3
  exact k q p l e s m args below meth c H1 locs A ls C hA hl hP1 hD1 hS1
theorem Cn.newP {ix : Nat} {n : Int32} {N : Nat} {x : Nat × va_E} {T0 : va_W} {c' s' : Nat} (hd : decode M.2.1 pc = .ok (.anewarray ix, 3)) (hcl : Cond.classLink M.1.cls ix zPo ∈ zTb) (hn : ¬ n < 0) (hN : n.toNatClampNeg = N) (hb : N * 4 ≤ 536870912) (hc' : cells + 1 = c') (hs' : slots + N = s') (h1 : c' ≤ mc) (h2 : s' ≤ ms)
    (k : ∀ q, Cn w h Px M d mc ms D g c' s' (pc + 3) L (.ref q :: st) (x :: (T0 ++ [(q, .inl (g.2.2, N, .inr (.inr (.inr (.inr (fun _ => none))))))]))) : Cn w h Px M d mc ms D g cells slots pc L (.int n :: st) (x :: T0) := by
  subst hc'; subst hs'
  intro p l e s m args below meth c H locs A ls C hA hl hP hD hS
  have hts := C.2.2.2.2.2.1
  refine va_newq (C := zPo) C.1 C.2.1 C.2.2.2.2.1 (hts _ hcl) C.2.2.2.2.2.2.2.1.2.1 C.2.2.2.2.2.2.2.1.1 hP hD hS hA hn hN hb h1 h2 hd (fun q cA H1 hK1 hP1 hD1 hS1 => ?_)
  obtain ⟨_, _, _, _, _, e1⟩ := (hK1.2 3 (cA, .object zPo) rfl).2
  obtain ⟨_, _, _, _, _, e2⟩ := (C.2.2.2.2.2.2.2.1.1.2 2 (g.2.2, .object zPo) rfl).2
  have e3 : cA = g.2.2 := Option.some.inj (e1.symm.trans e2)
  subst e3
  exact k q p l e s m args below meth c H1 locs A ls C hA hl hP1 hD1 hS1
/-- a final field's link, of the class itself -/
def zFf (own : String) (ix ci k : Nat) (ty : FieldType) : Prop := ∃ (C : String) (T : u_T) (N : Nat) (ty0 : Nat → FieldType), vwCl[ci]? = some (C, T, N) ∧ k < N ∧ Cond.fieldLink own ix (T k).1 (T k).2.1 (T k).2.2.1 ∈ zTb ∧ (∀ q ∈ u_ws C T N, q ∈ zTb) ∧ (∀ k, k < N → parseFieldDescriptor (T k).2.2.1 = some (ty0 k)) ∧ (∀ a, a < N → ∀ b, b < N → a ≠ b → (T a).2.1 ≠ (T b).2.1) ∧ (T k).2.2.2 = true ∧ (T k).1 = own ∧ ty0 k = ty
theorem Cn.putF {ix ci n a : Nat} {ty : FieldType} {v : Value} {fs fs' : List Value} {T0 : va_W} (hf : zFf M.1.cls ix ci n ty) (hd : decode M.2.1 pc = .ok (.putfield ix, 3)) (hn : narrow ty v = v) (hfit : fits ty v = true) (hl1 : n < fs.length) (hfs : fs.set n v = fs') (k : Cn w h Px M d mc ms D g cells slots (pc + 3) L st ((a, .inr (ci, fs')) :: T0)) : Cn w h Px M d mc ms D g cells slots pc L (v :: .ref a :: st) ((a, .inr (ci, fs)) :: T0) := by
  subst hfs
  intro p l e s m args below meth c H locs A ls C hA hl hP hD hS
  obtain ⟨Cn0, T, N, ty0, f1, f2, f3, f4, f5, f6, f7, f9, f8⟩ := hf
  exact va_putF (ty := ty) C.1 C.2.1 C.2.2.2.2.2.1 f4 ty0 f5 f6 C.2.2.2.2.1 C.2.2.2.2.2.2.2.1.1 hP hD hS 0 rfl f1 n f2 (C.2.2.2.2.2.1 _ f3) (fun _ q => q) f7 C.2.2.2.2.2.2.2.2 f9 (by rw [f5 n f2, f8]) hn hfit hl1 hd (fun H1 locs1 hP1 hD1 hS1 => k p l e s m args below meth c H1 locs1 A ls C hA hl hP1 hD1 hS1)
theorem Cn.put {ix ci n a : Nat} {ty : FieldType} {v : Value} {fs fs' : List Value} {T0 : va_W} (hf : zFp M.1.cls ix ci n ty) (hd : decode M.2.1 pc = .ok (.putfield ix, 3)) (hn : narrow ty v = v) (hfit : fits ty v = true) (hl1 : n < fs.length) (hfs : fs.set n v = fs') (k : Cn w h Px M d mc ms D g cells slots (pc + 3) L st ((a, .inr (ci, fs')) :: T0)) : Cn w h Px M d mc ms D g cells slots pc L (v :: .ref a :: st) ((a, .inr (ci, fs)) :: T0) := by
  subst hfs
  intro p l e s m args below meth c H locs A ls C hA hl hP hD hS
  obtain ⟨Cn0, T, N, ty0, f1, f2, f3, f4, f5, f6, f7, f8⟩ := hf
  exact va_put (ty := ty) C.1 C.2.1 C.2.2.2.2.2.1 f4 ty0 f5 f6 C.2.2.2.2.1 C.2.2.2.2.2.2.2.1.1 hP hD hS 0 rfl f1 n f2 (C.2.2.2.2.2.1 _ f3) (fun _ q => q) f7 (by rw [f5 n f2, f8]) hn hfit hl1 hd (fun H1 locs1 hP1 hD1 hS1 => k p l e s m args below meth c H1 locs1 A ls C hA hl hP1 hD1 hS1)
theorem Cn.iast {a N : Nat} {i v : Int32} {j : Nat} {t : List (Nat × Int32)} {x : Nat × va_E} {T0 : va_W} (hd : decode M.2.1 pc = .ok (.iastore, 1)) (hj : i.toNatClampNeg = j) (hin : vp_in i N) (k : Cn w h Px M d mc ms D g cells slots (pc + 1) L st (x :: (T0 ++ [(a, .inl (g.1, N, .inl (zuf ((j, v) :: t))))]))) : Cn w h Px M d mc ms D g cells slots pc L (.int v :: .int i :: .ref a :: st) (x :: (T0 ++ [(a, .inl (g.1, N, .inl (zuf t)))])) := by
  subst hj
  intro p l e s m args below meth c H locs A ls C hA hl hP hD hS
  have es : ∀ y y' : Nat × va_E, (x :: (T0 ++ [y])).set (T0.length + 1) y' = x :: (T0 ++ [y']) := fun y y' => by simp
  refine va_iast (f := zuf t) (n := N) (cA := g.1) C.1 C.2.1 C.2.2.2.2.2.2.2.1.1 hP hD hS (T0.length + 1) 0 (by simp) rfl hin hd (fun H1 locs1 hP1 hD1 hS1 => ?_)
  rw [es] at hP1 hD1
  exact k p l e s m args below meth c H1 locs1 A ls C hA hl hP1 hD1 hS1
theorem Cn.get {ix ci n a : Nat} {v : Value} {fs : List Value} (qk : Nat) (hf : zF M.1.cls ix ci n) (hd : decode M.2.1 pc = .ok (.getfield ix, 3)) (he : ws[qk]? = some (a, .inr (ci, fs))) (hv : fs[n]? = some v) (k : Cn w h Px M d mc ms D g cells slots (pc + 3) L (v :: st) ws) : Cn w h Px M d mc ms D g cells slots pc L (.ref a :: st) ws := by
  intro p l e s m args below meth c H locs A ls C hA hl hP hD hS
  obtain ⟨Cn0, T, N, f1, f2, f3, f4⟩ := hf
  exact va_get C.1 C.2.1 C.2.2.2.2.2.1 f4 C.2.2.2.2.1 C.2.2.2.2.2.2.2.1.1 hP qk he f1 n f2 (C.2.2.2.2.2.1 _ f3) (fun _ q => q) hv hd (k p l e s m args below meth c H locs A ls C hA hl hP hD hS)
theorem Cn.aast {a n v : Nat} {i : Int32} {vs : List Value} {f : Nat → Option Nat} {ws' : va_W} (qP qV : Nat) (hd : decode M.2.1 pc = .ok (.aastore, 1)) (ha : ws[qP]? = some (a, .inl (g.2.2, n, .inr (.inr (.inr (.inr f)))))) (hv : ws[qV]? = some (v, .inr (4, vs))) (hin : vp_in i n) (hs : ws.set qP (a, .inl (g.2.2, n, .inr (.inr (.inr (.inr (va_up f i.toNatClampNeg (some v))))))) = ws') (k : Cn w h Px M d mc ms D g cells slots (pc + 1) L st ws') : Cn w h Px M d mc ms D g cells slots pc L (.ref v :: .int i :: .ref a :: st) ws := by
  subst hs
  intro p l e s m args below meth c H locs A ls C hA hl hP hD hS
  exact va_astq (r := (RX4, TX4, 15)) C.1 C.2.1 C.2.2.2.2.2.2.2.1.1 hP hD hS qP 2 qV 4 ha rfl hv rfl hin hd (fun H1 locs1 hP1 hD1 hS1 => k p l e s m args below meth c H1 locs1 A ls C hA hl hP1 hD1 hS1)
theorem zi_nd : ∀ l : List Nat, l.Nodup → va_nd l = true
  | [], _ => rfl
  | a :: l, h => by
    rw [List.nodup_cons] at h
    simp only [va_nd, Bool.and_eq_true, decide_eq_true_eq]
    exact ⟨h.1, zi_nd l h.2⟩
theorem zi_join {A0 : Nat → Prop} {W0 w1 : va_W} {x : Nat × va_E} {H H1 : Heap} (hP : va_P D vwCl (W0 ++ [x]) H) (hD : va_D A0 (W0 ++ [x])) (hk : ∀ q : Nat, q < H.size → ¬ va_A [x] H.size q → H1[q]? = H[q]?) (hF : ∀ q, va_A [x] H.size q → A0 q) (hP1 : va_P D vwCl w1 H1) (hD1 : va_D (va_A [x] H.size) w1) : va_P D vwCl (W0 ++ w1) H1 ∧ va_D A0 (W0 ++ w1) := by
  refine va_join (wc := [x]) hP hD [W0.length] (List.range W0.length) (by simp) ?_ (zi_nd _ List.nodup_range) (fun i hi => ?_) hk hF hP1 hD1
  · apply List.ext_getElem?
    intro i
    by_cases hi : i < W0.length
    · rw [List.getElem?_map, List.getElem?_range hi, List.getElem?_map, Option.map_some, List.getElem?_append_left hi]
      rw [List.getElem?_eq_getElem hi]; rfl
    · rw [List.getElem?_eq_none (by simpa using hi), List.getElem?_eq_none (by simpa using hi)]
  · have := List.mem_range.mp hi
    simp only [List.mem_singleton]
    omega
theorem Cn.call {M1 : zMt} {w1 : zWd} {h1 : zHp} {d1 mc1 ms1 ix ci1 a : Nat} {as : List Value} {fs1 : List Value} {Py : Nat → (Nat → Nat) → Prop} {x : Nat × va_E} {T0 : va_W} {c' s' : Nat} (hI : Ini w1 h1 M1 d1 mc1 ms1 as ci1 fs1 Py) (hd : decode M.2.1 pc = .ok (.invokespecial ix, 3)) (hl0 : Cond.methodLink M.1.cls ix M1.1 ∈ zTb) (hm : zMm M1 as.length) (hnm : M1.1.name = "<init>") (hret : M1.2.2.2 = none) (hinst : Cond.instanceMethod M1.1 ∈ zTb) (hdd : d1 + 1 ≤ d) (hml : M1.2.2.1 ≤ 45) (hw : (st.map fun v => v.category).sum ≤ 8) (hc' : cells + mc1 = c') (hs' : slots + ms1 = s') (hb1 : c' ≤ mc) (hb2 : s' ≤ ms)
    (k : ∀ r, Py a r → Cn w h Px M d mc ms D g c' s' (pc + 3) L st (x :: (T0 ++ zW g r w1 h1))) : Cn w h Px M d mc ms D g cells slots pc L (as.reverse ++ .ref a :: st) (x :: (T0 ++ [(a, .inr (ci1, fs1))])) := by
  subst hc'; subst hs'
  intro p l e s m args below meth c H locs A ls C hA hl hP hD hS
  have hts := C.2.2.2.2.2.1
  obtain ⟨m1, m2, m3, m4⟩ := hm
  have hP' : va_P D vwCl ((x :: T0) ++ [(a, .inr (ci1, fs1))]) H := hP
  have hD' : va_D A ((x :: T0) ++ [(a, .inr (ci1, fs1))]) := hD
  have hPc : va_P D vwCl [(a, .inr (ci1, fs1))] H := hP'.sub [(x :: T0).length] (by simp)
  have hF : ∀ q, va_A [(a, .inr (ci1, fs1))] H.size q → A q := va_free (wc := [(a, .inr (ci1, fs1))]) hD' hS hA [(x :: T0).length] (by simp)
  have cb : CallB (zRi d mc ms) s args M.1.cls ix M1.1 M1.2.1 M1.2.2.1 none (Cond.code M1.1 M1.2.1 M1.2.2.1 M1.2.2.2 :: zTb) (zRi d1 mc1 ms1) mc1 ms1 as.length := by
    refine ⟨rfl, rfl, hdd, by show 8 + (M1.2.2.1 + 11) + 64 * d1 ≤ 64 * d; omega, fun q hq a' U hW => ?_, by rw [← hret]; exact List.mem_cons_self, by rw [← hret]; exact hts _ m1, hts _ m2, m3, fun sig hs => ?_, hts _ hl0⟩
    · rcases List.mem_cons.mp hq with e | e
      · subst e; exact word_at hW (zTb_good _ m1) (hts _ m1)
      · exact word_at hW (zTb_good _ e) (hts _ e)
    · rw [hs] at m4; exact (Option.some.inj m4).symm
  have hrun := va_runI (p := p) (e := e) (below := below) (meth := meth) (locs := locs) (cells := cells) (slots := slots) (m := m) (nL := M.2.2.1) (n := as.length) (Ts := zTb) (b := a) (As := as) (rest := st) (g := F0 m pc ls (as.reverse ++ .ref a :: st)) ⟨C.1, C.2.1, C.2.2.2.1, C.2.2.2.2.1, hts⟩ (hI l D g a H.size) ⟨cb, hnm, hts _ hinst⟩
    ⟨fun a' U g' mk q => ⟨q.1, q.2.1, q.2.2.1, va_K.moved (u := U) (U := U.calling g' mk a') (Vm.Alike.refl U.vm) q.2.2.2.1, zXt.same (u := U) rfl q.2.2.2.2⟩, fun U hU hW => ⟨rfl, by rw [hU], by rw [hU]; exact hPc, va_K.moved hW.alike C.2.2.2.2.2.2.2.1.1, zXt.go hW C.2.2.2.2.2.2.2.1.2⟩⟩ rfl rfl hl.1 rfl (lv_room hw) hd ⟨hb1, hb2⟩
  refine va_callv hrun hS (fun q _ h => hF q h) hF (fun r t H1 locs1 ht _ hpx hB _ hk hS1 => ?_)
  obtain ⟨hP1, hD1⟩ := hB
  rw [ht] at hP1
  obtain ⟨hP2, hD2⟩ := zi_join hP' hD' hk hF hP1 hD1
  exact k r hpx p l e s m args below meth c H1 locs1 A ls C hA hl hP2 hD2 hS1
theorem Cn.callN {host : String} {M1 : zMt} {w1 : zWd} {h1 : zHp} {d1 mc1 ms1 ix ci1 a : Nat} {as : List Value} {fs1 : List Value} {Py : Nat → (Nat → Nat) → Prop} {x : Nat × va_E} {T0 : va_W} {c' s' : Nat} (hI : Ini w1 h1 M1 d1 mc1 ms1 as ci1 fs1 Py) (hd : decode M.2.1 pc = .ok (.invokespecial ix, 3)) (hl0 : ∀ U, zXt U → va_Nw (.methodLinkNest M.1.cls ix M1.1 host) U) (hm : zMm M1 as.length) (hnm : M1.1.name = "<init>") (hret : M1.2.2.2 = none) (hinst : Cond.instanceMethod M1.1 ∈ zTb) (hdd : d1 + 1 ≤ d) (hml : M1.2.2.1 ≤ 45) (hw : (st.map fun v => v.category).sum ≤ 8) (hc' : cells + mc1 = c') (hs' : slots + ms1 = s') (hb1 : c' ≤ mc) (hb2 : s' ≤ ms)
    (k : ∀ r, Py a r → Cn w h Px M d mc ms D g c' s' (pc + 3) L st (x :: (T0 ++ zW g r w1 h1))) : Cn w h Px M d mc ms D g cells slots pc L (as.reverse ++ .ref a :: st) (x :: (T0 ++ [(a, .inr (ci1, fs1))])) := by
  subst hc'; subst hs'
  intro p l e s m args below meth c H locs A ls C hA hl hP hD hS
  have hts := C.2.2.2.2.2.1
  obtain ⟨m1, m2, m3, m4⟩ := hm
  have hP' : va_P D vwCl ((x :: T0) ++ [(a, .inr (ci1, fs1))]) H := hP
  have hD' : va_D A ((x :: T0) ++ [(a, .inr (ci1, fs1))]) := hD
  have hPc : va_P D vwCl [(a, .inr (ci1, fs1))] H := hP'.sub [(x :: T0).length] (by simp)
  have hF : ∀ q, va_A [(a, .inr (ci1, fs1))] H.size q → A q := va_free (wc := [(a, .inr (ci1, fs1))]) hD' hS hA [(x :: T0).length] (by simp)
  have cb : va_CN (zRi d mc ms) s args M.1.cls ix M1.1 host M1.2.1 M1.2.2.1 none (Cond.code M1.1 M1.2.1 M1.2.2.1 M1.2.2.2 :: zTb) (zRi d1 mc1 ms1) mc1 ms1 as.length := by
    refine ⟨⟨rfl, rfl, hdd, by show 8 + (M1.2.2.1 + 11) + 64 * d1 ≤ 64 * d; omega, fun q hq a' U hW => ?_, by rw [← hret]; exact List.mem_cons_self⟩, by rw [← hret]; exact hts _ m1, hts _ m2, m3, fun sig hs => ?_, va_Nw.use rfl (hl0 s C.2.2.2.2.2.2.2.1.2)⟩
    · rcases List.mem_cons.mp hq with e | e
      · subst e; exact word_at hW (zTb_good _ m1) (hts _ m1)
      · exact word_at hW (zTb_good _ e) (hts _ e)
    · rw [hs] at m4; exact (Option.some.inj m4).symm
  have hrun := va_runIN (p := p) (e := e) (below := below) (meth := meth) (locs := locs) (cells := cells) (slots := slots) (m := m) (nL := M.2.2.1) (n := as.length) (Ts := zTb) (b := a) (As := as) (rest := st) (g := F0 m pc ls (as.reverse ++ .ref a :: st)) ⟨C.1, C.2.1, C.2.2.2.1, C.2.2.2.2.1, hts⟩ (hI l D g a H.size) ⟨cb, hnm, hts _ hinst⟩
    ⟨fun a' U g' mk q => ⟨q.1, q.2.1, q.2.2.1, va_K.moved (u := U) (U := U.calling g' mk a') (Vm.Alike.refl U.vm) q.2.2.2.1, zXt.same (u := U) rfl q.2.2.2.2⟩, fun U hU hW => ⟨rfl, by rw [hU], by rw [hU]; exact hPc, va_K.moved hW.alike C.2.2.2.2.2.2.2.1.1, zXt.go hW C.2.2.2.2.2.2.2.1.2⟩⟩ rfl rfl hl.1 rfl (lv_room hw) hd ⟨hb1, hb2⟩
  refine va_callv hrun hS (fun q _ h => hF q h) hF (fun r t H1 locs1 ht _ hpx hB _ hk hS1 => ?_)
  obtain ⟨hP1, hD1⟩ := hB
  rw [ht] at hP1
  obtain ⟨hP2, hD2⟩ := zi_join hP' hD' hk hF hP1 hD1
  exact k r hpx p l e s m args below meth c H1 locs1 A ls C hA hl hP2 hD2 hS1
theorem Cn.ret {r : Nat → Nat} (hd : decode M.2.1 pc = .ok (.return_, 1)) (hr : M.2.2.2 = none) (hc : cells = mc) (hs : slots = ms) (hx : Px r) (he : zW g r w h = ws) : Cn w h Px M d mc ms D g cells slots pc L [] ws := by
  subst hc; subst hs; subst he
  intro p l e s m args below meth c H locs A ls C hA hl hP hD hS
  exact W.vret C.1 C.2.1 (C.2.2.1.trans hr) (fun t ht _ => ⟨⟨r, rfl, hx, by rw [ht]; exact hP, hD⟩, hS.F ht⟩) hS.2.2 hd C.2.2.2.2.2.2.1
end CnRows
section CnCalls
variable {w : zWd} {h : zHp} {Px : (Nat → Nat) → Prop} {M : zMt} {d mc ms : Nat} {D : va_G} {g : zG} {cells slots pc : Nat} {L : List (Nat × Value)} {st : List Value}
theorem Cn.call0 {M1 : zMt} {w1 : zWd} {h1 : zHp} {d1 mc1 ms1 ix ci1 a : Nat} {fs1 : List Value} {Py : Nat → (Nat → Nat) → Prop} {x : Nat × va_E} {T0 : va_W} {c' s' : Nat} (hI : Ini w1 h1 M1 d1 mc1 ms1 [] ci1 fs1 Py) (hd : decode M.2.1 pc = .ok (.invokespecial ix, 3)) (hl0 : Cond.methodLink M.1.cls ix M1.1 ∈ zTb) (hm : zMm M1 0) (hnm : M1.1.name = "<init>") (hret : M1.2.2.2 = none) (hinst : Cond.instanceMethod M1.1 ∈ zTb) (hdd : d1 + 1 ≤ d) (hml : M1.2.2.1 ≤ 45) (hw : (st.map fun v => v.category).sum ≤ 8) (hc' : cells + mc1 = c') (hs' : slots + ms1 = s') (hb1 : c' ≤ mc) (hb2 : s' ≤ ms)
    (k : ∀ r, Py a r → Cn w h Px M d mc ms D g c' s' (pc + 3) L st (x :: (T0 ++ zW g r w1 h1))) : Cn w h Px M d mc ms D g cells slots pc L (.ref a :: st) (x :: (T0 ++ [(a, .inr (ci1, fs1))])) :=
  Cn.call (as := []) hI hd hl0 hm hnm hret hinst hdd hml hw hc' hs' hb1 hb2 k
theorem Cn.callN0 {host : String} {M1 : zMt} {w1 : zWd} {h1 : zHp} {d1 mc1 ms1 ix ci1 a : Nat} {fs1 : List Value} {Py : Nat → (Nat → Nat) → Prop} {x : Nat × va_E} {T0 : va_W} {c' s' : Nat} (hI : Ini w1 h1 M1 d1 mc1 ms1 [] ci1 fs1 Py) (hd : decode M.2.1 pc = .ok (.invokespecial ix, 3)) (hl0 : ∀ U, zXt U → va_Nw (.methodLinkNest M.1.cls ix M1.1 host) U) (hm : zMm M1 0) (hnm : M1.1.name = "<init>") (hret : M1.2.2.2 = none) (hinst : Cond.instanceMethod M1.1 ∈ zTb) (hdd : d1 + 1 ≤ d) (hml : M1.2.2.1 ≤ 45) (hw : (st.map fun v => v.category).sum ≤ 8) (hc' : cells + mc1 = c') (hs' : slots + ms1 = s') (hb1 : c' ≤ mc) (hb2 : s' ≤ ms)
    (k : ∀ r, Py a r → Cn w h Px M d mc ms D g c' s' (pc + 3) L st (x :: (T0 ++ zW g r w1 h1))) : Cn w h Px M d mc ms D g cells slots pc L (.ref a :: st) (x :: (T0 ++ [(a, .inr (ci1, fs1))])) :=
  Cn.callN (as := []) hI hd hl0 hm hnm hret hinst hdd hml hw hc' hs' hb1 hb2 k
theorem Cn.call1 {M1 : zMt} {w1 : zWd} {h1 : zHp} {d1 mc1 ms1 ix ci1 a : Nat} {v : Value} {fs1 : List Value} {Py : Nat → (Nat → Nat) → Prop} {x : Nat × va_E} {T0 : va_W} {c' s' : Nat} (hI : Ini w1 h1 M1 d1 mc1 ms1 [v] ci1 fs1 Py) (hd : decode M.2.1 pc = .ok (.invokespecial ix, 3)) (hl0 : Cond.methodLink M.1.cls ix M1.1 ∈ zTb) (hm : zMm M1 1) (hnm : M1.1.name = "<init>") (hret : M1.2.2.2 = none) (hinst : Cond.instanceMethod M1.1 ∈ zTb) (hdd : d1 + 1 ≤ d) (hml : M1.2.2.1 ≤ 45) (hw : (st.map fun v => v.category).sum ≤ 8) (hc' : cells + mc1 = c') (hs' : slots + ms1 = s') (hb1 : c' ≤ mc) (hb2 : s' ≤ ms)
    (k : ∀ r, Py a r → Cn w h Px M d mc ms D g c' s' (pc + 3) L st (x :: (T0 ++ zW g r w1 h1))) : Cn w h Px M d mc ms D g cells slots pc L (v :: .ref a :: st) (x :: (T0 ++ [(a, .inr (ci1, fs1))])) :=
  Cn.call (as := [v]) hI hd hl0 hm hnm hret hinst hdd hml hw hc' hs' hb1 hb2 k
end CnCalls
