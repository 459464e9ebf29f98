/-! THE LAYER: an abstract heap of ints over a fixed shape; Sim: from here the machine does what an Option-valued function says -/
/-- the tables' words that stay -/
def zTb : List Cond := lw_tbl.filter goodWord
theorem zTb_in {q : Cond} (i : Nat) (h : lw_tbl[i]? = some q) (hg : goodWord q = true) : q ∈ zTb := List.mem_filter.mpr ⟨List.mem_of_getElem? h, hg⟩
theorem zTb_good : ∀ q ∈ zTb, (q.onTables && q.keeps) = true ∨ ∃ ty, q = .arrayClass ty := fun q hq => good_of_word (List.mem_filter.mp hq).2
abbrev zHp : Type := Nat → Nat → Int32
/-- how many cells; of each its kind (0 int array, 1 char array, 2 array of Porch, 3 + ci object of class ci), its length, its references -/
abbrev zWd : Type := Nat × (Nat → Nat × Nat × (Nat → Option Nat))
abbrev zMt : Type := MethodName × ByteArray × Nat × Option FieldType
abbrev zG : Type := ClassId × ClassId × ClassId
def zst (h : zHp) (c i : Nat) (v : Int32) : zHp := fun a => if a = c then upd (h a) i v else h a
def zcp (h : zHp) (s sp d dp n : Nat) : zHp := fun a => if a = d then va_cpy (h s) (h a) sp dp n else h a
def zv (r : Nat → Nat) : Value → Value
  | .ref a => .ref (r a)
  | v => v
def zfd (r : Nat → Nat) (f : Nat → Option Nat) (g : Nat → Int32) (i : Nat) : Value := match f i with
  | some j => .ref (r j)
  | none => .int (g i)
def zE (g : zG) (r : Nat → Nat) (w : zWd) (h : zHp) (k : Nat) : va_E := match (w.2 k).1 with
  | 0 => .inl (g.1, (w.2 k).2.1, .inl (h k))
  | 1 => .inl (g.2.1, (w.2 k).2.1, .inl (h k))
  | 2 => .inl (g.2.2, (w.2 k).2.1, .inr (.inr (.inr (.inr (fun i => ((w.2 k).2.2 i).map r)))))
  | ci + 3 => .inr (ci, (List.range (w.2 k).2.1).map (zfd r (w.2 k).2.2 (h k)))
def zW (g : zG) (r : Nat → Nat) (w : zWd) (h : zHp) : va_W := (List.range w.1).map (fun k => (r k, zE g r w h k))
def zA (r : Nat → Nat) (w : zWd) : Nat → Prop := fun q => ∃ k, k < w.1 ∧ q = r k
def zI (r : Nat → Nat) (w : zWd) : Prop := ∀ i j, i < w.1 → j < w.1 → r i = r j → i = j
abbrev zTy (g : zG) : List (ClassId × FieldType) := [(g.1, .int), (g.2.1, .char), (g.2.2, .object "RockingPorch$Porch")]
def zK (D : va_G) (g : zG) (U : State) : Prop := va_K D vwCl (zTy g) U
abbrev zSg : String := ";+-*/()<=>"
abbrev zWo : String := "swings fades jumps run swing dear minds missed sat draught here minute when or and not at person sit rise go come cat hush"
def zBs : List Int32 := [59, 43, 45, 42, 47, 40, 41, 60, 61, 62]
def zBw : List Int32 := [115, 119, 105, 110, 103, 115, 32, 102, 97, 100, 101, 115, 32, 106, 117, 109, 112, 115, 32, 114, 117, 110, 32, 115, 119, 105, 110, 103, 32, 100, 101, 97, 114, 32, 109, 105, 110, 100, 115, 32, 109, 105, 115, 115, 101, 100, 32, 115, 97, 116, 32, 100, 114, 97, 117, 103, 104, 116, 32, 104, 101, 114, 101, 32, 109, 105, 110, 117, 116, 101, 32, 119, 104, 101, 110, 32, 111, 114, 32, 97, 110, 100, 32, 110, 111, 116, 32, 97, 116, 32, 112, 101, 114, 115, 111, 110, 32, 115, 105, 116, 32, 114, 105, 115, 101, 32, 103, 111, 32, 99, 111, 109, 101, 32, 99, 97, 116, 32, 104, 117, 115, 104]
/-- what the class's two texts are, and two statics of the JDK's: outside of A -/
def zX (r : Nat → Nat) (A : Nat → Prop) (U : State) (H : Heap) : Prop :=
  vk_S 2 [10, 122] [zBs, zBw] (fun i => r (1000 + i)) (fun i => r (1010 + i)) A U H ∧ vk_R RX6 100 zSg (r 1000) U ∧ vk_R RX6 120 zWo (r 1001) U ∧ va_Z "java/lang/String" "COMPACT_STRINGS" "Z" (.int 1) A U H ∧ (va_Z "jdk/internal/util/Preconditions" "SIOOBE_FORMATTER" "Ljava/util/function/BiFunction;" .null A U H ∨ va_Z "jdk/internal/util/Preconditions" "SIOOBE_FORMATTER" "Ljava/util/function/BiFunction;" (.ref (r 1020)) A U H)
theorem zX.go {r : Nat → Nat} {A : Nat → Prop} {s U : State} {H : Heap} {locs : List Loc} (h : zX r A s s.heap) (hS : va_S A s.heap H locs) (hU : U.heap = H) (hW : s.WarmedH U.vm) : zX r A U U.heap := by
  obtain ⟨h1, h2, h3, h4, h5⟩ := h
  have hq : ∀ a : Nat, a < s.heap.size → ¬ A a → U.heap[a]? = s.heap[a]? := fun a h6 h7 => by rw [hU]; exact hS.2.1 a h6 h7
  exact ⟨vk_S.moved hW.alike (h1.kept hq), vk_R.warm hW h2, vk_R.warm hW h3, va_Z.moved hW.alike (h4.kept hq), h5.imp (fun z => va_Z.moved hW.alike (z.kept hq)) (fun z => va_Z.moved hW.alike (z.kept hq))⟩
def zRm (d : Nat) : Room := { frames := d, cells := 0, slots := 0, locals := 64 * d }
def zQ (D : va_G) (g : zG) (r : Nat → Nat) (w : zWd) (x : Option Value × zHp) : Array Value → State → Outcome → State → Prop := fun _ s o t => o = .returned (x.1.map (zv r)) ∧ va_P D vwCl (zW g r w x.2) t.heap ∧ va_F (zA r w) s t
/-- what a state must have: the tables, the classes, the addresses, the texts -/
def zS (w : zWd) (D : va_G) (g : zG) (r : Nat → Nat) (U : State) : Prop := zK D g U ∧ zI r w ∧ zX r (zA r w) U U.heap
def zC (w : zWd) (M : zMt) (p : Program) (s : State) (m : MethodId) (args : Array Value) (meth : Method) (c : Code) (D : va_G) (g : zG) (r : Nat → Nat) : Prop :=
  p.tables.exec = Jvm.exec ∧ c.code = M.2.1 ∧ meth.sig.returnType = M.2.2.2 ∧ c.maxLocals = M.2.2.1 ∧ s.vm.findClass M.1.cls = some m.cls ∧ (∀ q ∈ zTb, q.before args s = true) ∧ meth.locks = false ∧ zS w D g r s
def zL (r : Nat → Nat) (L : List (Nat × Value)) : List (Nat × Value) := L.map (fun q => (q.1, zv r q.2))
def Sim {R : Type} (w : zWd) (M : zMt) (d : Nat) (rv : R → Option Value × zHp) (pc : Nat) (L : List (Nat × Value)) (st : List Value) (h : zHp) (t : Option R) : Prop :=
  ∀ x, t = some x → ∀ (p : Program) (l : Launch) (e : Env) (s : State) (m : MethodId) (args : Array Value) (below : List Frame) (meth : Method) (c : Code) (H : Heap) (locs : List Loc) (D : va_G) (g : zG) (r : Nat → Nat) (ls : Array Slot),
    zC w M p s m args meth c D g r → lv_has ls M.2.2.1 (zL r L) → va_P D vwCl (zW g r w h) H → va_S (zA r w) s.heap H locs →
    W p l e (zRm d) s m args below meth c H locs 0 0 (MQ below (zQ D g r w (rv x)) args s 0 0 (zA r w)) (F0 m pc ls (st.map (zv r)))
def Fn {R : Type} (w : zWd) (M : zMt) (d : Nat) (rv : R → Option Value × zHp) (as : List Value) (h : zHp) (t : Option R) : Prop :=
  ∀ x, t = some x → ∀ (l : Launch) (D : va_G) (g : zG) (r : Nat → Nat), Met l M.1 (Cond.code M.1 M.2.1 M.2.2.1 M.2.2.2 :: zTb) (zRm d) (va_Pc (as.map (zv r)) (fun U => va_P D vwCl (zW g r w h) U.heap ∧ zS w D g r U)) (zQ D g r w (rv x)) 0 0 (zA r w)
def rI (x : Int32 × zHp) : Option Value × zHp := (some (.int x.1), x.2)
def rJ (x : Int64 × zHp) : Option Value × zHp := (some (.long x.1), x.2)
def rV (x : zHp) : Option Value × zHp := (none, x)
-- the world as a list
theorem zW_at {g : zG} {r : Nat → Nat} {w : zWd} {h : zHp} {k : Nat} (hk : k < w.1) : (zW g r w h)[k]? = some (r k, zE g r w h k) := by
  simp [zW, hk]
theorem zW_inv {g : zG} {r : Nat → Nat} {w : zWd} {h : zHp} {k : Nat} {q : Nat × va_E} (hq : (zW g r w h)[k]? = some q) : k < w.1 ∧ q = (r k, zE g r w h k) := by
  by_cases hk : k < w.1
  · rw [zW_at hk] at hq; exact ⟨hk, (Option.some.inj hq).symm⟩
  · simp [zW, hk] at hq
theorem zD {g : zG} {r : Nat → Nat} {w : zWd} {h : zHp} (hI : zI r w) : va_D (zA r w) (zW g r w h) := by
  refine ⟨fun i j p q hp hq e => ?_, fun k q hq => ?_⟩
  · obtain ⟨h1, rfl⟩ := zW_inv hp
    obtain ⟨h2, rfl⟩ := zW_inv hq
    exact hI i j h1 h2 e
  · obtain ⟨h1, rfl⟩ := zW_inv hq
    exact ⟨k, h1, rfl⟩
theorem zW_set {g : zG} {r : Nat → Nat} {w : zWd} {h h' : zHp} {k : Nat} (ho : ∀ j, j ≠ k → h' j = h j) : (zW g r w h).set k (r k, zE g r w h' k) = zW g r w h' := by
  apply List.ext_getElem?
  intro j
  rw [List.getElem?_set]
  by_cases hj : k = j
  · subst hj
    by_cases hk : k < w.1
    · rw [zW_at hk]; simp [zW, hk]
    · simp [zW, hk]
  · rw [if_neg hj]
    by_cases hk : j < w.1
    · rw [zW_at hk, zW_at hk]
      unfold zE
      rw [ho j (fun e => hj e.symm)]
    · simp [zW, hk]
theorem zst_o {h : zHp} {c i : Nat} {v : Int32} {j : Nat} (hj : j ≠ c) : zst h c i v j = h j := by unfold zst; rw [if_neg hj]
theorem zst_s {h : zHp} {c i : Nat} {v : Int32} : zst h c i v c = upd (h c) i v := by unfold zst; rw [if_pos rfl]
theorem zL_at {r : Nat → Nat} {L : List (Nat × Value)} {k i : Nat} {v : Value} (hk : L[k]? = some (i, v)) : (zL r L)[k]? = some (i, zv r v) := by
  unfold zL; rw [List.getElem?_map, hk]; rfl
theorem zE_i {g : zG} {r : Nat → Nat} {w : zWd} {h : zHp} {k : Nat} (hk : (w.2 k).1 = 0) : zE g r w h k = .inl (g.1, (w.2 k).2.1, .inl (h k)) := by unfold zE; rw [hk]
theorem zE_c {g : zG} {r : Nat → Nat} {w : zWd} {h : zHp} {k : Nat} (hk : (w.2 k).1 = 1) : zE g r w h k = .inl (g.2.1, (w.2 k).2.1, .inl (h k)) := by unfold zE; rw [hk]
theorem zE_p {g : zG} {r : Nat → Nat} {w : zWd} {h : zHp} {k : Nat} (hk : (w.2 k).1 = 2) : zE g r w h k = .inl (g.2.2, (w.2 k).2.1, .inr (.inr (.inr (.inr (fun i => ((w.2 k).2.2 i).map r))))) := by unfold zE; rw [hk]
theorem zE_o {g : zG} {r : Nat → Nat} {w : zWd} {h : zHp} {k ci : Nat} (hk : (w.2 k).1 = ci + 3) : zE g r w h k = .inr (ci, (List.range (w.2 k).2.1).map (zfd r (w.2 k).2.2 (h k))) := by unfold zE; rw [hk]
theorem zcat (r : Nat → Nat) : ∀ v : Value, (zv r v).category = v.category := by intro v; cases v <;> rfl
theorem zL_filt (r : Nat → Nat) (f : Nat × Value → Bool) (hf : ∀ q : Nat × Value, f (q.1, zv r q.2) = f q) : ∀ L : List (Nat × Value), (zL r L).filter f = zL r (L.filter f)
  | [] => rfl
  | q :: L => by
    show List.filter f ((q.1, zv r q.2) :: zL r L) = zL r (List.filter f (q :: L))
    rw [List.filter_cons, List.filter_cons, hf q, zL_filt r f hf L]
    cases f q <;> rfl
