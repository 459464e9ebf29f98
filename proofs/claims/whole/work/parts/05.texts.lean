/-! ROWS for the class's two texts: reading them -/
section Texts
variable {R : Type} {w : zWd} {M : zMt} {d : Nat} {rv : R → Option Value × zHp} {pc : Nat} {L : List (Nat × Value)} {st : List Value} {h : zHp} {t : Option R}
abbrev zLn : List Nat := [10, 122]
theorem Sim.ldcS1000 (hM : M.1.cls = RX6) (hd : decode M.2.1 pc = .ok (.ldc 100, 2)) (k : Sim w M d rv (pc + 2) L (.ref 1000 :: st) h t) : Sim w M d rv pc L st h t :=
  fun z hz p l e s m args below meth c H locs D g r ls C hl hP hS => va_ldcS (own := RX6) C.1 C.2.1 (by rw [← hM]; exact C.2.2.2.2.1) C.2.2.2.2.2.2.2.2.2.2.1 hd (k z hz p l e s m args below meth c H locs D g r ls C hl hP hS)
theorem Sim.ldcS1001 (hM : M.1.cls = RX6) (hd : decode M.2.1 pc = .ok (.ldc 120, 2)) (k : Sim w M d rv (pc + 2) L (.ref 1001 :: st) h t) : Sim w M d rv pc L st h t :=
  fun z hz p l e s m args below meth c H locs D g r ls C hl hP hS => va_ldcS (own := RX6) C.1 C.2.1 (by rw [← hM]; exact C.2.2.2.2.1) C.2.2.2.2.2.2.2.2.2.2.2.1 hd (k z hz p l e s m args below meth c H locs D g r ls C hl hP hS)
theorem Sim.getSv {ix i : Nat} (hi : i < 2) (hl : Cond.fieldLink M.1.cls ix "java/lang/String" "value" "[B" ∈ zTb) (hd : decode M.2.1 pc = .ok (.getfield ix, 3)) (k : Sim w M d rv (pc + 3) L (.ref (1010 + i) :: st) h t) : Sim w M d rv pc L (.ref (1000 + i) :: st) h t :=
  fun z hz p l e s m args below meth c H locs D g r ls C hlv hP hS => vk_getf C.1 C.2.1 (C.2.2.2.2.2.2.2.2.2.1.1 i hi).2.2.1 hS C.2.2.2.2.1 (C.2.2.2.2.2.1 _ hl) (fun _ q => q) hd (k z hz p l e s m args below meth c H locs D g r ls C hlv hP hS)
theorem Sim.getSc {ix i : Nat} (hi : i < 2) (hl : Cond.fieldLink M.1.cls ix "java/lang/String" "coder" "B" ∈ zTb) (hd : decode M.2.1 pc = .ok (.getfield ix, 3)) (k : Sim w M d rv (pc + 3) L (.int 0 :: st) h t) : Sim w M d rv pc L (.ref (1000 + i) :: st) h t :=
  fun z hz p l e s m args below meth c H locs D g r ls C hlv hP hS => vk_getf C.1 C.2.1 (C.2.2.2.2.2.2.2.2.2.1.1 i hi).2.1 hS C.2.2.2.2.1 (C.2.2.2.2.2.1 _ hl) (fun _ q => q) hd (k z hz p l e s m args below meth c H locs D g r ls C hlv hP hS)
theorem Sim.alenS {i : Nat} (hi : i < 2) (hd : decode M.2.1 pc = .ok (.arraylength, 1)) (k : Sim w M d rv (pc + 1) L (.int (Int32.ofNat (zLn.getD i 0)) :: st) h t) : Sim w M d rv pc L (.ref (1010 + i) :: st) h t :=
  fun z hz p l e s m args below meth c H locs D g r ls C hlv hP hS => va_tlen C.1 C.2.1 (C.2.2.2.2.2.2.2.2.2.1.1 i hi).2.2.2 hS rfl hd (k z hz p l e s m args below meth c H locs D g r ls C hlv hP hS)
theorem Sim.balS {i : Nat} {x : Int32} (hi : i < 2) (hd : decode M.2.1 pc = .ok (.baload, 1)) (k : Sim w M d rv (pc + 1) L (.int (([zBs, zBw].getD i []).getD x.toNatClampNeg 0) :: st) h t) : Sim w M d rv pc L (.int x :: .ref (1010 + i) :: st) h (zix x (zLn.getD i 0) t) := by
  refine Sim.ix (fun hx => ?_)
  exact fun z hz p l e s m args below meth c H locs D g r ls C hlv hP hS => va_tb C.1 C.2.1 (C.2.2.2.2.2.2.2.2.2.1.1 i hi).2.2.2 hS hx rfl hd (k z hz p l e s m args below meth c H locs D g r ls C hlv hP hS)
theorem Sim.getsC {ix : Nat} (hl : Cond.fieldLink M.1.cls ix "java/lang/String" "COMPACT_STRINGS" "Z" ∈ zTb) (hd : decode M.2.1 pc = .ok (.getstatic ix, 3)) (k : Sim w M d rv (pc + 3) L (.int 1 :: st) h t) : Sim w M d rv pc L st h t :=
  fun z hz p l e s m args below meth c H locs D g r ls C hlv hP hS => va_gets C.1 C.2.1 C.2.2.2.2.2.2.2.2.2.2.2.2.1 hS C.2.2.2.2.1 (C.2.2.2.2.2.1 _ hl) (fun _ q => q) hd (k z hz p l e s m args below meth c H locs D g r ls C hlv hP hS)
theorem Sim.getsF {ix : Nat} (hl : Cond.fieldLink M.1.cls ix "jdk/internal/util/Preconditions" "SIOOBE_FORMATTER" "Ljava/util/function/BiFunction;" ∈ zTb) (hd : decode M.2.1 pc = .ok (.getstatic ix, 3)) (k1 : Sim w M d rv (pc + 3) L (.null :: st) h t) (k2 : Sim w M d rv (pc + 3) L (.ref 1020 :: st) h t) : Sim w M d rv pc L st h t := by
  intro z hz p l e s m args below meth c H locs D g r ls C hlv hP hS
  rcases C.2.2.2.2.2.2.2.2.2.2.2.2.2 with q | q
  · exact va_gets C.1 C.2.1 q hS C.2.2.2.2.1 (C.2.2.2.2.2.1 _ hl) (fun _ q => q) hd (k1 z hz p l e s m args below meth c H locs D g r ls C hlv hP hS)
  · exact va_gets C.1 C.2.1 q hS C.2.2.2.2.1 (C.2.2.2.2.2.1 _ hl) (fun _ q => q) hd (k2 z hz p l e s m args below meth c H locs D g r ls C hlv hP hS)
theorem Sim.callT {R1 : Type} {rv1 : R1 → Option Value × zHp} {M1 : zMt} {d1 ix i : Nat} {as : List Value} {t1 : Option R1} {f : R1 → Option R} (hi : i < 2) (hc : M1.1.cls = "java/lang/String") (hd : decode M.2.1 pc = .ok (.invokevirtual ix, 3)) (hl : Cond.methodLink M.1.cls ix M1.1 ∈ zTb) (hm : zMV M1 as.length) (hdd : d1 + 1 ≤ d) (hml : M1.2.2.1 ≤ 45) (hw : (st.map fun v => v.category).sum ≤ 8) (hf : Fn w M1 d1 rv1 (.ref (1000 + i) :: as) h t1) (k : ∀ x, Sim w M d rv (pc + 3) L ((rv1 x).1.toList ++ st) (rv1 x).2 (f x)) : Sim w M d rv pc L (as.reverse ++ .ref (1000 + i) :: st) h (t1.bind f) := by
  intro z hz p l e s m args below meth c H locs D g r ls C hlv hP hS
  cases ht : t1 with
  | none => rw [ht] at hz; cases hz
  | some x =>
    rw [ht] at hz
    have hrun := va_runV (p := p) (e := e) (below := below) (meth := meth) (locs := locs) (cells := 0) (slots := 0) (m := m) (nL := M.2.2.1) (n := as.length) (Ts := zTb) (C := M1.1.cls) (b := r (1000 + i)) (As := as.map (zv r)) (rest := st.map (zv r)) (g := F0 m pc ls ((as.reverse ++ .ref (1000 + i) :: st).map (zv r))) ⟨C.1, C.2.1, C.2.2.2.1, C.2.2.2.2.1, C.2.2.2.2.2.1⟩ (hf x ht l D g r) ⟨z_callB C hm.1 hl hdd hml, C.2.2.2.2.2.1 _ hm.2.1, C.2.2.2.2.2.1 _ hm.2.2⟩ ⟨z_blind, by rw [hc]; exact vk_recv (adK := fun i => r (1000 + i)) (i := i) C.2.2.2.2.2.2.2.2.2.1 hi hS, fun U hU hW => ⟨by simp [zv], by rw [hU]; exact hP, C.2.2.2.2.2.2.2.go hS hU hW⟩⟩ rfl (by simp) hlv.1 (by simp [zv]) (lv_room (by rw [z_cat]; exact hw)) hd ⟨Nat.le_refl _, Nat.le_refl _⟩
    refine z_call hrun hS (fun H1 locs1 hP1 hS1 => ?_)
    have := k x z hz p l e s m args below meth c H1 locs1 D g r ls C hlv hP1 hS1
    rw [List.map_append, ← Option.toList_map] at this
    exact this
theorem Sim.callT0I {M1 : zMt} {d1 ix i : Nat} {t1 : Option (Int32 × zHp)} {f : Int32 × zHp → Option R} (hf : Fn w M1 d1 rI [.ref (1000 + i)] h t1) (hd : decode M.2.1 pc = .ok (.invokevirtual ix, 3)) (hl : Cond.methodLink M.1.cls ix M1.1 ∈ zTb) (hm : zMV M1 0) (hi : i < 2) (hc : M1.1.cls = "java/lang/String") (hdd : d1 + 1 ≤ d) (hml : M1.2.2.1 ≤ 45) (hw : (st.map fun v => v.category).sum ≤ 8) (k : ∀ x : Int32 × zHp, Sim w M d rv (pc + 3) L (.int x.1 :: st) x.2 (f x)) : Sim w M d rv pc L (.ref (1000 + i) :: st) h (t1.bind f) :=
  Sim.callT (as := []) hi hc hd hl hm hdd hml hw hf k
theorem Sim.callT1I {M1 : zMt} {d1 ix i : Nat} {a1 : Value} {t1 : Option (Int32 × zHp)} {f : Int32 × zHp → Option R} (hf : Fn w M1 d1 rI [.ref (1000 + i), a1] h t1) (hd : decode M.2.1 pc = .ok (.invokevirtual ix, 3)) (hl : Cond.methodLink M.1.cls ix M1.1 ∈ zTb) (hm : zMV M1 1) (hi : i < 2) (hc : M1.1.cls = "java/lang/String") (hdd : d1 + 1 ≤ d) (hml : M1.2.2.1 ≤ 45) (hw : (st.map fun v => v.category).sum ≤ 8) (k : ∀ x : Int32 × zHp, Sim w M d rv (pc + 3) L (.int x.1 :: st) x.2 (f x)) : Sim w M d rv pc L (a1 :: .ref (1000 + i) :: st) h (t1.bind f) :=
  Sim.callT (as := [a1]) hi hc hd hl hm hdd hml hw hf k
theorem Sim.callT2I {M1 : zMt} {d1 ix i : Nat} {a1 a2 : Value} {t1 : Option (Int32 × zHp)} {f : Int32 × zHp → Option R} (hf : Fn w M1 d1 rI [.ref (1000 + i), a1, a2] h t1) (hd : decode M.2.1 pc = .ok (.invokevirtual ix, 3)) (hl : Cond.methodLink M.1.cls ix M1.1 ∈ zTb) (hm : zMV M1 2) (hi : i < 2) (hc : M1.1.cls = "java/lang/String") (hdd : d1 + 1 ≤ d) (hml : M1.2.2.1 ≤ 45) (hw : (st.map fun v => v.category).sum ≤ 8) (k : ∀ x : Int32 × zHp, Sim w M d rv (pc + 3) L (.int x.1 :: st) x.2 (f x)) : Sim w M d rv pc L (a2 :: a1 :: .ref (1000 + i) :: st) h (t1.bind f) :=
  Sim.callT (as := [a1, a2]) hi hc hd hl hm hdd hml hw hf k
def zzc {R : Type} (v : Int32) (t : Option R) : Option R := if ¬ v < 0 ∧ v < 65536 then t else none
theorem zc_n {v : Int32} (h : ¬ v < 0 ∧ v < 65536) : narrow .char (.int v) = .int v := by
  obtain ⟨j, hj, rfl⟩ := nI_of h.1
  have h2 : nI j < nI 65536 := h.2
  exact (pk_charN ((nI_ltI hj (by decide)).mp h2)).1
theorem Sim.cret {v : Int32} (hd : decode M.2.1 pc = .ok (.ireturn, 1)) (hr : M.2.2.2 = some .char) : Sim w M d rI pc L [.int v] h (zzc v (some (v, h))) := by
  unfold zzc
  exact Sim.ite _ (fun hv => Sim.nret hd hr (zc_n hv)) (fun _ => Sim.non)
end Texts
