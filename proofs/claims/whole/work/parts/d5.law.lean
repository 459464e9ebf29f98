/-! THE LAW: both worlds side by side, the script read only -/
def lwA (s : State) : Nat → Prop := fun q => s.heap.size ≤ q
def lwC (b N : Nat) (xs : Nat → Int32) (p : Program) (s : State) (m : MethodId) (meth : Method) (c : Code) (D : va_G) (g : zG) (r r' : Nat → Nat) : Prop :=
  lw_At p s m meth c b N xs ∧ zK D g s ∧ (zX r (lwA s) s s.heap ∧ zX r' (lwA s) s s.heap) ∧ (zI r wX ∧ zI r' wM) ∧ (∀ i j, i < wX.1 → j < wM.1 → r i ≠ r' j) ∧ (∀ i, i < wX.1 → s.heap.size ≤ r i) ∧ (∀ i, i < wM.1 → s.heap.size ≤ r' i)
def lwv (b : Nat) (r r' : Nat → Nat) : Value → Value
  | .ref 0 => .ref b
  | .ref 1 => .ref (r 0)
  | .ref _ => .ref (r' 0)
  | v => v
def Lw (N : Nat) (xs : Nat → Int32) (pc n : Nat) (st : List Value) (h k : zHp) : Prop :=
  ∀ (p : Program) (l : Launch) (e : Env) (s : State) (m : MethodId) (below : List Frame) (meth : Method) (c : Code) (b : Nat) (H : Heap) (locs : List Loc) (D : va_G) (g : zG) (r r' : Nat → Nat) (ls : Array Slot),
    lwC b N xs p s m meth c D g r r' → lv_has ls 4 [(0, .ref b), (1, .ref (r 0)), (2, .ref (r' 0)), (3, .int (nI n))] → va_P D vwCl (zW g r wX h) H → va_P D vwCl (zW g r' wM k) H → va_S (lwA s) s.heap H locs →
    W p l e room_1 s m #[.ref b] below meth c H locs 600000 7302250 (lw_Z below #[.ref b] s) (F0 m pc ls (st.map (lwv b r r')))
section LwRows
variable {N : Nat} {xs : Nat → Int32} {pc n : Nat} {st : List Value} {h k : zHp}
theorem Lw.a0 (hd : decode code pc = .ok (.aload_n 0, 1)) (K : Lw N xs (pc + 1) n (.ref 0 :: st) h k) : Lw N xs pc n st h k :=
  fun p l e s m below meth c b H locs D g r r' ls C hl hP hQ hS => lv_aload_n C.1.1 C.1.2.1 hd rfl (lv_at hl 0 rfl) (K p l e s m below meth c b H locs D g r r' ls C hl hP hQ hS)
theorem Lw.a1 (hd : decode code pc = .ok (.aload_n 1, 1)) (K : Lw N xs (pc + 1) n (.ref 1 :: st) h k) : Lw N xs pc n st h k :=
  fun p l e s m below meth c b H locs D g r r' ls C hl hP hQ hS => lv_aload_n C.1.1 C.1.2.1 hd rfl (lv_at hl 1 rfl) (K p l e s m below meth c b H locs D g r r' ls C hl hP hQ hS)
theorem Lw.a2 (hd : decode code pc = .ok (.aload_n 2, 1)) (K : Lw N xs (pc + 1) n (.ref 2 :: st) h k) : Lw N xs pc n st h k :=
  fun p l e s m below meth c b H locs D g r r' ls C hl hP hQ hS => lv_aload_n C.1.1 C.1.2.1 hd rfl (lv_at hl 2 rfl) (K p l e s m below meth c b H locs D g r r' ls C hl hP hQ hS)
theorem Lw.i3 (hd : decode code pc = .ok (.iload_n 3, 1)) (K : Lw N xs (pc + 1) n (.int (nI n) :: st) h k) : Lw N xs pc n st h k :=
  fun p l e s m below meth c b H locs D g r r' ls C hl hP hQ hS => lv_iload_n C.1.1 C.1.2.1 hd rfl (lv_at hl 3 rfl) (K p l e s m below meth c b H locs D g r r' ls C hl hP hQ hS)
theorem Lw.iconst {z : Int} {v : Int32} (hd : decode code pc = .ok (.iconst z, 1)) (hv : Int32.ofInt z = v) (K : Lw N xs (pc + 1) n (.int v :: st) h k) : Lw N xs pc n st h k :=
  fun p l e s m below meth c b H locs D g r r' ls C hl hP hQ hS => lv_iconst C.1.1 C.1.2.1 hd hv (K p l e s m below meth c b H locs D g r r' ls C hl hP hQ hS)
theorem Lw.bipush {z : Int} {v : Int32} (hd : decode code pc = .ok (.bipush z, 2)) (hv : (Int8.ofInt z).toInt32 = v) (K : Lw N xs (pc + 2) n (.int v :: st) h k) : Lw N xs pc n st h k :=
  fun p l e s m below meth c b H locs D g r r' ls C hl hP hQ hS => lv_bipush C.1.1 C.1.2.1 hd hv (K p l e s m below meth c b H locs D g r r' ls C hl hP hQ hS)
theorem Lw.iadd {x y z : Int32} (hd : decode code pc = .ok (.iadd, 1)) (hz : x + y = z) (K : Lw N xs (pc + 1) n (.int z :: st) h k) : Lw N xs pc n (.int y :: .int x :: st) h k := by
  subst hz
  exact fun p l e s m below meth c b H locs D g r r' ls C hl hP hQ hS => lv_iadd C.1.1 C.1.2.1 hd (K p l e s m below meth c b H locs D g r r' ls C hl hP hQ hS)
theorem Lw.isub {x y z : Int32} (hd : decode code pc = .ok (.isub, 1)) (hz : x - y = z) (K : Lw N xs (pc + 1) n (.int z :: st) h k) : Lw N xs pc n (.int y :: .int x :: st) h k := by
  subst hz
  exact fun p l e s m below meth c b H locs D g r r' ls C hl hP hQ hS => lv_isub C.1.1 C.1.2.1 hd (K p l e s m below meth c b H locs D g r r' ls C hl hP hQ hS)
theorem Lw.iand {x y z : Int32} (hd : decode code pc = .ok (.iand, 1)) (hz : x &&& y = z) (K : Lw N xs (pc + 1) n (.int z :: st) h k) : Lw N xs pc n (.int y :: .int x :: st) h k := by
  subst hz
  exact fun p l e s m below meth c b H locs D g r r' ls C hl hP hQ hS => lv_iand C.1.1 C.1.2.1 hd (K p l e s m below meth c b H locs D g r r' ls C hl hP hQ hS)
theorem Lw.alen (hd : decode code pc = .ok (.arraylength, 1)) (K : Lw N xs (pc + 1) n (.int (nI N) :: st) h k) : Lw N xs pc n (.ref 0 :: st) h k := by
  intro p l e s m below meth c b H locs D g r r' ls C hl hP hQ hS
  obtain ⟨⟨hx, hb, hr, hml, hown, hts, hX, hbl, hlocks, hgv⟩, -⟩ := id C
  exact va_slen (A := lwA s) hx hb hX hbl (Nat.not_le.mpr hbl) hS hd (K p l e s m below meth c b H locs D g r r' ls C hl hP hQ hS)
theorem Lw.iald {i : Int32} {j : Nat} (hd : decode code pc = .ok (.iaload, 1)) (hi : i = nI j) (hj : j < N) (hN : N ≤ 3072) (K : Lw N xs (pc + 1) n (.int (xs j) :: st) h k) : Lw N xs pc n (.int i :: .ref 0 :: st) h k := by
  subst hi
  intro p l e s m below meth c b H locs D g r r' ls C hl hP hQ hS
  obtain ⟨⟨hx, hb, hr, hml, hown, hts, hX, hbl, hlocks, hgv⟩, -⟩ := id C
  have hc : (nI j).toNatClampNeg = j := nI_clamp (by omega)
  refine va_sld (A := lwA s) hx hb hX hbl (Nat.not_le.mpr hbl) hS (vp_in_nI hj (by omega)) hd ?_
  rw [hc]
  exact K p l e s m below meth c b H locs D g r r' ls C hl hP hQ hS
/-- one of the script's numbers -/
theorem Lw.arg (c0 : Nat) (hN : N ≤ 3072) (hn : n + 6 ≤ N) (hc : c0 < 6) (d0 : decode code pc = .ok (.aload_n 0, 1)) (d1 : decode code (pc + 1) = .ok (.iload_n 3, 1)) (d2 : decode code (pc + 2) = .ok (.iconst (c0 : Int), 1)) (d3 : decode code (pc + 3) = .ok (.iadd, 1)) (d4 : decode code (pc + 4) = .ok (.iaload, 1)) (K : Lw N xs (pc + 5) n (.int (xs (n + c0)) :: st) h k) : Lw N xs pc n st h k :=
  Lw.a0 d0 (Lw.i3 d1 (Lw.iconst (v := nI c0) d2 rfl (Lw.iadd (z := nI (n + c0)) d3 (nI_add n c0) (Lw.iald d4 rfl (by omega) hN K))))
theorem Lw.goto {off : Int} (tgt : Nat) (hd : decode code pc = .ok (.goto off, 3)) (ht : (pc : Int) + off = (tgt : Int)) (K : Lw N xs tgt n st h k) : Lw N xs pc n st h k :=
  fun p l e s m below meth c b H locs D g r r' ls C hl hP hQ hS => lv_goto C.1.1 C.1.2.1 hd ht (K p l e s m below meth c b H locs D g r r' ls C hl hP hQ hS)
theorem Lw.same {x : Int32} {off : Int} (tgt : Nat) (hd : decode code pc = .ok (.if_icmp .eq off, 3)) (ht : (pc : Int) + off = (tgt : Int)) (K : Lw N xs tgt n st h k) : Lw N xs pc n (.int x :: .int x :: st) h k :=
  fun p l e s m below meth c b H locs D g r r' ls C hl hP hQ hS => lv_icmp_eq C.1.1 C.1.2.1 hd ht (fun _ => K p l e s m below meth c b H locs D g r r' ls C hl hP hQ hS) (fun q => absurd rfl q)
theorem Lw.gt {x y : Int32} {off : Int} (tgt : Nat) (hd : decode code pc = .ok (.if_icmp .gt off, 3)) (ht : (pc : Int) + off = (tgt : Int)) (K1 : y < x → Lw N xs tgt n st h k) (K2 : ¬ y < x → Lw N xs (pc + 3) n st h k) : Lw N xs pc n (.int y :: .int x :: st) h k :=
  fun p l e s m below meth c b H locs D g r r' ls C hl hP hQ hS => lv_icmp_gt C.1.1 C.1.2.1 hd ht (fun q => K1 q p l e s m below meth c b H locs D g r r' ls C hl hP hQ hS) (fun q => K2 q p l e s m below meth c b H locs D g r r' ls C hl hP hQ hS)
theorem Lw.ifeq {x : Int32} {off : Int} (tgt : Nat) (hd : decode code pc = .ok (.ifCond .eq off, 3)) (ht : (pc : Int) + off = (tgt : Int)) (K1 : x = 0 → Lw N xs tgt n st h k) (K2 : ¬ x = 0 → Lw N xs (pc + 3) n st h k) : Lw N xs pc n (.int x :: st) h k :=
  fun p l e s m below meth c b H locs D g r r' ls C hl hP hQ hS => lv_if_eq C.1.1 C.1.2.1 hd ht (fun q => K1 q p l e s m below meth c b H locs D g r r' ls C hl hP hQ hS) (fun q => K2 q p l e s m below meth c b H locs D g r r' ls C hl hP hQ hS)
/-- a number as a truth -/
def lwb (x : Int32) : Int32 := if x = 0 then 0 else 1
theorem Lw.nz {x : Int32} (d0 : decode code pc = .ok (.ifCond .eq 7, 3)) (d1 : decode code (pc + 3) = .ok (.iconst 1, 1)) (d2 : decode code (pc + 4) = .ok (.goto 4, 3)) (d3 : decode code (pc + 7) = .ok (.iconst 0, 1)) (K : Lw N xs (pc + 8) n (.int (lwb x) :: st) h k) : Lw N xs pc n (.int x :: st) h k := by
  refine Lw.ifeq (pc + 7) d0 (by omega) (fun hx => ?_) (fun hx => ?_)
  · refine Lw.iconst (v := 0) d3 rfl ?_
    have e : lwb x = 0 := if_pos hx
    rw [e] at K; exact K
  · refine Lw.iconst (v := 1) d1 rfl (Lw.goto (pc + 8) d2 (by omega) ?_)
    have e : lwb x = 1 := if_neg hx
    rw [e] at K; exact K
theorem Lw.tswIn {dflt lo hi off : Int} {offs : Array Int} {len : Nat} {x v : Int32} (tgt : Nat) (hd : decode code pc = .ok (.tableswitch dflt lo hi offs, len)) (hx : x = v) (h1 : ¬ v.toInt < lo) (h2 : ¬ hi < v.toInt) (ho : offs[(v.toInt - lo).toNat]? = some off) (ht : (pc : Int) + off = (tgt : Int)) (K : Lw N xs tgt n st h k) : Lw N xs pc n (.int x :: st) h k := by
  subst hx
  exact fun p l e s m below meth c b H locs D g r r' ls C hl hP hQ hS => lv_tableIn C.1.1 C.1.2.1 hd h1 h2 ho ht (K p l e s m below meth c b H locs D g r r' ls C hl hP hQ hS)
theorem Lw.tswOut {dflt lo hi : Int} {offs : Array Int} {len : Nat} {x : Int32} (tgt : Nat) (hd : decode code pc = .ok (.tableswitch dflt lo hi offs, len)) (hx : x.toInt < lo ∨ hi < x.toInt) (ht : (pc : Int) + dflt = (tgt : Int)) (K : Lw N xs tgt n st h k) : Lw N xs pc n (.int x :: st) h k :=
  fun p l e s m below meth c b H locs D g r r' ls C hl hP hQ hS => lv_tableOut C.1.1 C.1.2.1 hd hx ht (K p l e s m below meth c b H locs D g r r' ls C hl hP hQ hS)
theorem Lw.next (hd : decode code pc = .ok (.iinc 3 6, 3)) (K : Lw N xs (pc + 3) (n + 6) st h k) : Lw N xs pc n st h k :=
  fun p l e s m below meth c b H locs D g r r' ls C hl hP hQ hS => lv_iinc (lv' := [(3, .int (nI (n + 6))), (0, .ref b), (1, .ref (r 0)), (2, .ref (r' 0))]) C.1.1 C.1.2.1 hd hl (k := 3) rfl (nI_add n 6) (by decide) rfl (fun ls hl => K p l e s m below meth c b H locs D g r r' ls C (lv_sub hl [1, 2, 3, 0] rfl) hP hQ hS)
theorem Lw.ret (hd : decode code pc = .ok (.ireturn, 1)) : Lw N xs pc n [.int 1] h k := by
  intro p l e s m below meth c b H locs D g r r' ls C hl hP hQ hS
  obtain ⟨⟨hx, hb, hr, hml, hown, hts, hX, hbl, hlocks, hgv⟩, -⟩ := id C
  exact va_forget (fun q hq => hS.2.2 q hq) (lw_ret hx hb hr hlocks hd)
theorem zX.nar {r : Nat → Nat} {A B : Nat → Prop} {U : State} {H : Heap} (q : zX r A U H) (hAB : ∀ a, B a → A a) : zX r B U H :=
  ⟨q.1.narrow hAB, q.2.1, q.2.2.1, q.2.2.2.1.narrow hAB, q.2.2.2.2.imp (fun z => z.narrow hAB) (fun z => z.narrow hAB)⟩
/-- one call, of one world -/
theorem lw_call {p : Program} {l : Launch} {e : Env} {s : State} {m : MethodId} {args a : Array Value} {below : List Frame} {meth : Method} {c : Code} {H : Heap} {locs : List Loc} {Q : State → Prop} {ls : Array Slot} {st0 rest : List Value} {D : va_G} {g : zG} {r : Nat → Nat} {w : zWd} {A : Nat → Prop} {x : Option Value × zHp} (hr : va_Run p l e room_1 s m args below meth c H locs 600000 7302250 0 0 (F0 m pc ls st0) rest (zQ D g r w x a) (zA r w)) (hS : va_S A s.heap H locs) (hA : ∀ q, zA r w q → A q)
    (kk : ∀ H1 locs1, va_P D vwCl (zW g r w x.2) H1 → (∀ q, q < H.size → ¬ zA r w q → H1[q]? = H[q]?) → va_S A s.heap H1 locs1 → W p l e room_1 s m args below meth c H1 locs1 600000 7302250 Q (F0 m (pc + 3) ls ((x.1.map (zv r)).toList ++ rest))) : W p l e room_1 s m args below meth c H locs 600000 7302250 Q (F0 m pc ls st0) := by
  intro T hT X
  obtain ⟨v, st₀, t, T', L', h0, X', hL, e1, e2, ⟨hv, hP, hz, hk⟩, st⟩ := hr T hT X
  cases hv
  rw [h0] at hz hk
  obtain ⟨t2, a1, b1⟩ := kk T'.heap (locs ++ L') (by rw [e1]; exact hP) (fun q h1 h2 => by rw [e1]; exact hk q h1 h2) ⟨Nat.le_trans hS.1 (by rw [e1]; exact hz), fun q h1 h2 => by rw [e1, hk q (Nat.lt_of_lt_of_le h1 hS.1) (fun h => h2 (hA q h))]; exact hS.2.1 q h1 h2, fun q hq => by
      rcases List.mem_append.mp hq with h | h
      · exact hS.2.2 q h
      · exact hA _ (hL q h)⟩ T' rfl X'
  exact ⟨t2, st t2 a1, b1⟩
/-- what a call needs, in the law's frame -/
theorem lw_run {p : Program} {l : Launch} {e : Env} {s : State} {m : MethodId} {below : List Frame} {meth : Method} {c : Code} {b : Nat} {H : Heap} {locs : List Loc} {ls : Array Slot} {D : va_G} {g : zG} {w : zWd} {r : Nat → Nat} {M1 : zMt} {d1 ix : Nat} {as : List Int32} {t1 : Option (Int32 × zHp)} {x : Int32 × zHp} {rest : List Value} (C : lw_At p s m meth c b N xs) (hK : zK D g s) (hZ : zX r (lwA s) s s.heap) (hI : zI r w) (hA : ∀ q, zA r w q → lwA s q) (hl : ls.size = 4) (hP : va_P D vwCl (zW g r w h) H) (hS : va_S (lwA s) s.heap H locs)
    (hf : Fn w M1 d1 rI (.ref 0 :: as.map Value.int) h t1) (ht : t1 = some x) (hd : decode code pc = .ok (.invokevirtual ix, 3)) (hl0 : Cond.methodLink R_law ix M1.1 ∈ zTb) (hm : zMV M1 as.length) (ho : zoC w 0 M1.1.cls) (hdd : d1 + 1 ≤ 1300) (hml : M1.2.2.1 ≤ 45) (hw : (rest.map fun v => v.category).sum ≤ 8) :
    va_Run p l e room_1 s m #[.ref b] below meth c H locs 600000 7302250 0 0 (F0 m pc ls ((as.map Value.int).reverse ++ .ref (r 0) :: rest)) rest (zQ D g r w (rI x) (Value.ref (r 0) :: as.map Value.int).toArray) (zA r w) := by
  obtain ⟨hx, hb, hr, hml4, hown, hts1, hX, hbl, hlocks, hgv⟩ := C
  have hts : ∀ q ∈ zTb, q.before #[Value.ref b] s = true := fun q hq => hts1 q (List.mem_filter.mp hq).1
  obtain ⟨⟨m1, m2, m3, m4⟩, m5, m6⟩ := hm
  obtain ⟨ci, q, o1, o2, o3, o4⟩ := ho
  have ei : (Value.ref 0 :: as.map Value.int).map (zv r) = Value.ref (r 0) :: as.map Value.int := by
    show Value.ref (r 0) :: (as.map Value.int).map (zv r) = _
    rw [List.map_map]; rfl
  have hM := hf x ht l D g r
  rw [ei] at hM
  have cb : CallB room_1 s #[Value.ref b] R_law ix M1.1 M1.2.1 M1.2.2.1 M1.2.2.2 (Cond.code M1.1 M1.2.1 M1.2.2.1 M1.2.2.2 :: zTb) (zRm d1) 0 0 (as.map Value.int).length := by
    refine ⟨rfl, rfl, by show d1 + 1 ≤ 2048; omega, by show 8 + (M1.2.2.1 + 11) + 64 * d1 ≤ 84000; omega, fun q hq a' U hW => ?_, List.mem_cons_self, hts _ m1, hts _ m2, m3, fun sig hs => ?_, hts _ hl0⟩
    · rcases List.mem_cons.mp hq with e | e
      · subst e; exact word_at hW (zTb_good _ m1) (hts _ m1)
      · exact word_at hW (zTb_good _ e) (hts _ e)
    · rw [hs] at m4; rw [List.length_map]; exact (Option.some.inj m4).symm
  exact va_runV (p := p) (e := e) (below := below) (meth := meth) (locs := locs) (cells := 600000) (slots := 7302250) (m := m) (nL := 4) (n := (as.map Value.int).length) (Ts := zTb) (C := M1.1.cls) (b := r 0) (As := as.map Value.int) (rest := rest) (g := F0 m pc ls ((as.map Value.int).reverse ++ .ref (r 0) :: rest)) ⟨hx, hb, hml4, hown, hts⟩ hM ⟨cb, hts _ m5, hts _ m6⟩
    ⟨z_blind, by rw [← o4]; exact va_recv hK hP o3 (q0 := 0) ((zW_at o1).trans (by rw [zE_o o2])), fun U hU hW => ⟨rfl, by rw [hU]; exact hP, va_K.moved hW.alike hK, hI, (hZ.go hS hU hW).nar hA⟩⟩ rfl rfl hl rfl (lv_room hw) hd ⟨Nat.le_refl _, Nat.le_refl _⟩
theorem lwv_is {b : Nat} {r r' : Nat → Nat} (as : List Int32) : (as.map Value.int).map (lwv b r r') = as.map Value.int := by rw [List.map_map]; rfl
theorem lwv_cat {b : Nat} {r r' : Nat → Nat} : ((st.map (lwv b r r')).map fun v => v.category).sum = (st.map fun v => v.category).sum := by
  rw [List.map_map]; congr 1; apply List.map_congr_left; intro v _
  show (lwv b r r' v).category = v.category
  unfold lwv
  split <;> rfl
theorem Lw.callX {M1 : zMt} {d1 ix : Nat} {as : List Int32} {t1 : Option (Int32 × zHp)} {v : Int32} {h' : zHp} (hf : Fn wX M1 d1 rI (.ref 0 :: as.map Value.int) h t1) (ht : t1 = some (v, h')) (hd : decode code pc = .ok (.invokevirtual ix, 3)) (hl0 : Cond.methodLink R_law ix M1.1 ∈ zTb) (hm : zMV M1 as.length) (ho : zoC wX 0 M1.1.cls) (hdd : d1 + 1 ≤ 1300) (hml : M1.2.2.1 ≤ 45) (hw : (st.map fun v => v.category).sum ≤ 8) (K : Lw N xs (pc + 3) n (.int v :: st) h' k) : Lw N xs pc n ((as.map Value.int).reverse ++ .ref 1 :: st) h k := by
  intro p l e s m below meth c b H locs D g r r' ls C hl hP hQ hS
  obtain ⟨C0, hK, ⟨hZ, hZ'⟩, ⟨hI, hI'⟩, hne, hA1, hA2⟩ := id C
  have hA : ∀ q, zA r wX q → lwA s q := fun q ⟨i, hi, e⟩ => by rw [e]; exact hA1 i hi
  have ez : ((as.map Value.int).reverse ++ .ref 1 :: st).map (lwv b r r') = (as.map Value.int).reverse ++ .ref (r 0) :: st.map (lwv b r r') := by
    rw [List.map_append, List.map_reverse, lwv_is]; rfl
  rw [ez]
  refine lw_call (lw_run C0 hK hZ hI hA hl.1 hP hS hf ht hd hl0 hm ho hdd hml (by rw [lwv_cat]; exact hw)) hS hA (fun H1 locs1 hP1 hk hS1 => ?_)
  refine K p l e s m below meth c b H1 locs1 D g r r' ls C hl hP1 (hQ.kept (fun j x hx => ?_)) hS1
  obtain ⟨hj, rfl⟩ := zW_inv hx
  exact hk _ (hQ j _ hx).lt (fun ⟨i, hi, e⟩ => hne i j hi hj e.symm)
theorem Lw.callM {M1 : zMt} {d1 ix : Nat} {as : List Int32} {t1 : Option (Int32 × zHp)} {v : Int32} {k' : zHp} (hf : Fn wM M1 d1 rI (.ref 0 :: as.map Value.int) k t1) (ht : t1 = some (v, k')) (hd : decode code pc = .ok (.invokevirtual ix, 3)) (hl0 : Cond.methodLink R_law ix M1.1 ∈ zTb) (hm : zMV M1 as.length) (ho : zoC wM 0 M1.1.cls) (hdd : d1 + 1 ≤ 1300) (hml : M1.2.2.1 ≤ 45) (hw : (st.map fun v => v.category).sum ≤ 8) (K : Lw N xs (pc + 3) n (.int v :: st) h k') : Lw N xs pc n ((as.map Value.int).reverse ++ .ref 2 :: st) h k := by
  intro p l e s m below meth c b H locs D g r r' ls C hl hP hQ hS
  obtain ⟨C0, hK, ⟨hZ, hZ'⟩, ⟨hI, hI'⟩, hne, hA1, hA2⟩ := id C
  have hA : ∀ q, zA r' wM q → lwA s q := fun q ⟨i, hi, e⟩ => by rw [e]; exact hA2 i hi
  have ez : ((as.map Value.int).reverse ++ .ref 2 :: st).map (lwv b r r') = (as.map Value.int).reverse ++ .ref (r' 0) :: st.map (lwv b r r') := by
    rw [List.map_append, List.map_reverse, lwv_is]; rfl
  rw [ez]
  refine lw_call (lw_run C0 hK hZ' hI' hA hl.1 hQ hS hf ht hd hl0 hm ho hdd hml (by rw [lwv_cat]; exact hw)) hS hA (fun H1 locs1 hP1 hk hS1 => ?_)
  refine K p l e s m below meth c b H1 locs1 D g r r' ls C hl (hP.kept (fun j x hx => ?_)) hP1 hS1
  obtain ⟨hj, rfl⟩ := zW_inv hx
  exact hk _ (hP j _ hx).lt (fun ⟨i, hi, e⟩ => hne j i hj hi e)
theorem Lw.X0 {M1 : zMt} {d1 ix : Nat} {t1 : Option (Int32 × zHp)} {v : Int32} {h' : zHp} (hf : Fn wX M1 d1 rI [.ref 0] h t1) (ht : t1 = some (v, h')) (hd : decode code pc = .ok (.invokevirtual ix, 3)) (hl0 : Cond.methodLink R_law ix M1.1 ∈ zTb) (hm : zMV M1 0) (ho : zoC wX 0 M1.1.cls) (hdd : d1 + 1 ≤ 1300) (hml : M1.2.2.1 ≤ 45) (K : Lw N xs (pc + 3) n [.int v] h' k) : Lw N xs pc n (.ref 1 :: []) h k :=
  Lw.callX (as := []) (st := []) hf ht hd hl0 hm ho hdd hml (Nat.le_of_ble_eq_true rfl) K
theorem Lw.X1 {M1 : zMt} {d1 ix : Nat} {a1 : Int32} {t1 : Option (Int32 × zHp)} {v : Int32} {h' : zHp} (hf : Fn wX M1 d1 rI [.ref 0, .int a1] h t1) (ht : t1 = some (v, h')) (hd : decode code pc = .ok (.invokevirtual ix, 3)) (hl0 : Cond.methodLink R_law ix M1.1 ∈ zTb) (hm : zMV M1 1) (ho : zoC wX 0 M1.1.cls) (hdd : d1 + 1 ≤ 1300) (hml : M1.2.2.1 ≤ 45) (K : Lw N xs (pc + 3) n [.int v] h' k) : Lw N xs pc n (.int a1 :: .ref 1 :: []) h k :=
  Lw.callX (as := [a1]) (st := []) hf ht hd hl0 hm ho hdd hml (Nat.le_of_ble_eq_true rfl) K
theorem Lw.X2 {M1 : zMt} {d1 ix : Nat} {a1 a2 : Int32} {t1 : Option (Int32 × zHp)} {v : Int32} {h' : zHp} (hf : Fn wX M1 d1 rI [.ref 0, .int a1, .int a2] h t1) (ht : t1 = some (v, h')) (hd : decode code pc = .ok (.invokevirtual ix, 3)) (hl0 : Cond.methodLink R_law ix M1.1 ∈ zTb) (hm : zMV M1 2) (ho : zoC wX 0 M1.1.cls) (hdd : d1 + 1 ≤ 1300) (hml : M1.2.2.1 ≤ 45) (K : Lw N xs (pc + 3) n [.int v] h' k) : Lw N xs pc n (.int a2 :: .int a1 :: .ref 1 :: []) h k :=
  Lw.callX (as := [a1, a2]) (st := []) hf ht hd hl0 hm ho hdd hml (Nat.le_of_ble_eq_true rfl) K
theorem Lw.X3 {M1 : zMt} {d1 ix : Nat} {a1 a2 a3 : Int32} {t1 : Option (Int32 × zHp)} {v : Int32} {h' : zHp} (hf : Fn wX M1 d1 rI [.ref 0, .int a1, .int a2, .int a3] h t1) (ht : t1 = some (v, h')) (hd : decode code pc = .ok (.invokevirtual ix, 3)) (hl0 : Cond.methodLink R_law ix M1.1 ∈ zTb) (hm : zMV M1 3) (ho : zoC wX 0 M1.1.cls) (hdd : d1 + 1 ≤ 1300) (hml : M1.2.2.1 ≤ 45) (K : Lw N xs (pc + 3) n [.int v] h' k) : Lw N xs pc n (.int a3 :: .int a2 :: .int a1 :: .ref 1 :: []) h k :=
  Lw.callX (as := [a1, a2, a3]) (st := []) hf ht hd hl0 hm ho hdd hml (Nat.le_of_ble_eq_true rfl) K
theorem Lw.X4 {M1 : zMt} {d1 ix : Nat} {a1 a2 a3 a4 : Int32} {t1 : Option (Int32 × zHp)} {v : Int32} {h' : zHp} (hf : Fn wX M1 d1 rI [.ref 0, .int a1, .int a2, .int a3, .int a4] h t1) (ht : t1 = some (v, h')) (hd : decode code pc = .ok (.invokevirtual ix, 3)) (hl0 : Cond.methodLink R_law ix M1.1 ∈ zTb) (hm : zMV M1 4) (ho : zoC wX 0 M1.1.cls) (hdd : d1 + 1 ≤ 1300) (hml : M1.2.2.1 ≤ 45) (K : Lw N xs (pc + 3) n [.int v] h' k) : Lw N xs pc n (.int a4 :: .int a3 :: .int a2 :: .int a1 :: .ref 1 :: []) h k :=
  Lw.callX (as := [a1, a2, a3, a4]) (st := []) hf ht hd hl0 hm ho hdd hml (Nat.le_of_ble_eq_true rfl) K
theorem Lw.X5 {M1 : zMt} {d1 ix : Nat} {a1 a2 a3 a4 a5 : Int32} {t1 : Option (Int32 × zHp)} {v : Int32} {h' : zHp} (hf : Fn wX M1 d1 rI [.ref 0, .int a1, .int a2, .int a3, .int a4, .int a5] h t1) (ht : t1 = some (v, h')) (hd : decode code pc = .ok (.invokevirtual ix, 3)) (hl0 : Cond.methodLink R_law ix M1.1 ∈ zTb) (hm : zMV M1 5) (ho : zoC wX 0 M1.1.cls) (hdd : d1 + 1 ≤ 1300) (hml : M1.2.2.1 ≤ 45) (K : Lw N xs (pc + 3) n [.int v] h' k) : Lw N xs pc n (.int a5 :: .int a4 :: .int a3 :: .int a2 :: .int a1 :: .ref 1 :: []) h k :=
  Lw.callX (as := [a1, a2, a3, a4, a5]) (st := []) hf ht hd hl0 hm ho hdd hml (Nat.le_of_ble_eq_true rfl) K
theorem Lw.M0 {M1 : zMt} {d1 ix : Nat} {y : Int32} {t1 : Option (Int32 × zHp)} {v : Int32} {h' : zHp} (hf : Fn wM M1 d1 rI [.ref 0] k t1) (ht : t1 = some (v, h')) (hd : decode code pc = .ok (.invokevirtual ix, 3)) (hl0 : Cond.methodLink R_law ix M1.1 ∈ zTb) (hm : zMV M1 0) (ho : zoC wM 0 M1.1.cls) (hdd : d1 + 1 ≤ 1300) (hml : M1.2.2.1 ≤ 45) (K : Lw N xs (pc + 3) n [.int v, .int y] h h') : Lw N xs pc n (.ref 2 :: .int y :: []) h k :=
  Lw.callM (as := []) (st := [.int y]) hf ht hd hl0 hm ho hdd hml (Nat.le_of_ble_eq_true rfl) K
theorem Lw.M1 {M1 : zMt} {d1 ix : Nat} {a1 : Int32} {y : Int32} {t1 : Option (Int32 × zHp)} {v : Int32} {h' : zHp} (hf : Fn wM M1 d1 rI [.ref 0, .int a1] k t1) (ht : t1 = some (v, h')) (hd : decode code pc = .ok (.invokevirtual ix, 3)) (hl0 : Cond.methodLink R_law ix M1.1 ∈ zTb) (hm : zMV M1 1) (ho : zoC wM 0 M1.1.cls) (hdd : d1 + 1 ≤ 1300) (hml : M1.2.2.1 ≤ 45) (K : Lw N xs (pc + 3) n [.int v, .int y] h h') : Lw N xs pc n (.int a1 :: .ref 2 :: .int y :: []) h k :=
  Lw.callM (as := [a1]) (st := [.int y]) hf ht hd hl0 hm ho hdd hml (Nat.le_of_ble_eq_true rfl) K
theorem Lw.M2 {M1 : zMt} {d1 ix : Nat} {a1 a2 : Int32} {y : Int32} {t1 : Option (Int32 × zHp)} {v : Int32} {h' : zHp} (hf : Fn wM M1 d1 rI [.ref 0, .int a1, .int a2] k t1) (ht : t1 = some (v, h')) (hd : decode code pc = .ok (.invokevirtual ix, 3)) (hl0 : Cond.methodLink R_law ix M1.1 ∈ zTb) (hm : zMV M1 2) (ho : zoC wM 0 M1.1.cls) (hdd : d1 + 1 ≤ 1300) (hml : M1.2.2.1 ≤ 45) (K : Lw N xs (pc + 3) n [.int v, .int y] h h') : Lw N xs pc n (.int a2 :: .int a1 :: .ref 2 :: .int y :: []) h k :=
  Lw.callM (as := [a1, a2]) (st := [.int y]) hf ht hd hl0 hm ho hdd hml (Nat.le_of_ble_eq_true rfl) K
theorem Lw.M3 {M1 : zMt} {d1 ix : Nat} {a1 a2 a3 : Int32} {y : Int32} {t1 : Option (Int32 × zHp)} {v : Int32} {h' : zHp} (hf : Fn wM M1 d1 rI [.ref 0, .int a1, .int a2, .int a3] k t1) (ht : t1 = some (v, h')) (hd : decode code pc = .ok (.invokevirtual ix, 3)) (hl0 : Cond.methodLink R_law ix M1.1 ∈ zTb) (hm : zMV M1 3) (ho : zoC wM 0 M1.1.cls) (hdd : d1 + 1 ≤ 1300) (hml : M1.2.2.1 ≤ 45) (K : Lw N xs (pc + 3) n [.int v, .int y] h h') : Lw N xs pc n (.int a3 :: .int a2 :: .int a1 :: .ref 2 :: .int y :: []) h k :=
  Lw.callM (as := [a1, a2, a3]) (st := [.int y]) hf ht hd hl0 hm ho hdd hml (Nat.le_of_ble_eq_true rfl) K
theorem Lw.M4 {M1 : zMt} {d1 ix : Nat} {a1 a2 a3 a4 : Int32} {y : Int32} {t1 : Option (Int32 × zHp)} {v : Int32} {h' : zHp} (hf : Fn wM M1 d1 rI [.ref 0, .int a1, .int a2, .int a3, .int a4] k t1) (ht : t1 = some (v, h')) (hd : decode code pc = .ok (.invokevirtual ix, 3)) (hl0 : Cond.methodLink R_law ix M1.1 ∈ zTb) (hm : zMV M1 4) (ho : zoC wM 0 M1.1.cls) (hdd : d1 + 1 ≤ 1300) (hml : M1.2.2.1 ≤ 45) (K : Lw N xs (pc + 3) n [.int v, .int y] h h') : Lw N xs pc n (.int a4 :: .int a3 :: .int a2 :: .int a1 :: .ref 2 :: .int y :: []) h k :=
  Lw.callM (as := [a1, a2, a3, a4]) (st := [.int y]) hf ht hd hl0 hm ho hdd hml (Nat.le_of_ble_eq_true rfl) K
theorem Lw.M5 {M1 : zMt} {d1 ix : Nat} {a1 a2 a3 a4 a5 : Int32} {y : Int32} {t1 : Option (Int32 × zHp)} {v : Int32} {h' : zHp} (hf : Fn wM M1 d1 rI [.ref 0, .int a1, .int a2, .int a3, .int a4, .int a5] k t1) (ht : t1 = some (v, h')) (hd : decode code pc = .ok (.invokevirtual ix, 3)) (hl0 : Cond.methodLink R_law ix M1.1 ∈ zTb) (hm : zMV M1 5) (ho : zoC wM 0 M1.1.cls) (hdd : d1 + 1 ≤ 1300) (hml : M1.2.2.1 ≤ 45) (K : Lw N xs (pc + 3) n [.int v, .int y] h h') : Lw N xs pc n (.int a5 :: .int a4 :: .int a3 :: .int a2 :: .int a1 :: .ref 2 :: .int y :: []) h k :=
  Lw.callM (as := [a1, a2, a3, a4, a5]) (st := [.int y]) hf ht hd hl0 hm ho hdd hml (Nat.le_of_ble_eq_true rfl) K
end LwRows
