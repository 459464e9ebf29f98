/-! THE BEGINNING: what the tables and the premises give, and the two worlds as they are made -/
theorem it_X10 : Cond.instantiable RX10 8 ∈ zTb := zTb_in 158 (by decide +kernel) rfl
theorem it_X11 : Cond.instantiable RX11 69 ∈ zTb := zTb_in 1294 (by decide +kernel) rfl
theorem ac_char' : Cond.arrayClass .char ∈ zTb := zTb_in 477 (by decide +kernel) rfl
theorem zb_K {s : State} {args : Array Value} (hts1 : ∀ w ∈ lw_tbl, w.before args s = true) : ∃ (D : va_G) (g : zG), zK D g s := by
  have hts : ∀ q ∈ zTb, q.before args s = true := fun q hq => hts1 q (List.mem_filter.mp hq).1
  have kn : ∀ (C : String) (T : u_T) (N n : Nat), (∀ w ∈ u_ws C T N, w ∈ zTb) → Cond.instantiable C n ∈ zTb → ∃ x : ClassId × (Nat → Nat), u_Kn s C T N x.1 x.2 := fun C T N n h1 h2 => by
    obtain ⟨c, i, h⟩ := u_known hts h1 (hts _ h2)
    exact ⟨(c, i), h⟩
  have h : ∀ k : Nat, ∃ x : ClassId × (Nat → Nat), ∀ q : vw_C, vwCl[k]? = some q → u_Kn s q.1 q.2.1 q.2.2 x.1 x.2 := by
    intro k
    match k with
    | 0 => obtain ⟨x, h⟩ := kn RX0 TX0 2 2 in_X0 it_X0; exact ⟨x, fun q hq => by cases hq; exact h⟩
    | 1 => obtain ⟨x, h⟩ := kn RX1 TX1 8 8 in_X1 it_X1; exact ⟨x, fun q hq => by cases hq; exact h⟩
    | 2 => obtain ⟨x, h⟩ := kn RX2 TX2 3 3 in_X2 it_X2; exact ⟨x, fun q hq => by cases hq; exact h⟩
    | 3 => obtain ⟨x, h⟩ := kn RX3 TX3 4 4 in_X3 it_X3; exact ⟨x, fun q hq => by cases hq; exact h⟩
    | 4 => obtain ⟨x, h⟩ := kn RX4 TX4 15 15 in_X4 it_X4; exact ⟨x, fun q hq => by cases hq; exact h⟩
    | 5 => obtain ⟨x, h⟩ := kn RX5 TX5 5 5 in_X5 it_X5; exact ⟨x, fun q hq => by cases hq; exact h⟩
    | 6 => obtain ⟨x, h⟩ := kn RX6 TX6 14 14 in_X6 it_X6; exact ⟨x, fun q hq => by cases hq; exact h⟩
    | 7 => obtain ⟨x, h⟩ := kn RX7 TX7 2 2 in_X7 it_X7; exact ⟨x, fun q hq => by cases hq; exact h⟩
    | 8 => obtain ⟨x, h⟩ := kn RX8 TX8 7 7 in_X8 it_X8; exact ⟨x, fun q hq => by cases hq; exact h⟩
    | 9 => obtain ⟨x, h⟩ := kn RX9 TX9 7 7 in_X9 it_X9; exact ⟨x, fun q hq => by cases hq; exact h⟩
    | 10 => obtain ⟨x, h⟩ := kn RX10 TX10 8 8 in_X10 it_X10; exact ⟨x, fun q hq => by cases hq; exact h⟩
    | 11 => obtain ⟨x, h⟩ := kn RX11 TX11 69 69 in_X11 it_X11; exact ⟨x, fun q hq => by cases hq; exact h⟩
    | k + 12 => exact ⟨(0, fun _ => 0), fun q hq => by cases hq⟩
  obtain ⟨ad, had⟩ := Classical.axiomOfChoice h
  obtain ⟨c1, k1, m1, f1, f2, f3⟩ := Cond.arrayClass_spec (hts _ ac_int)
  obtain ⟨c2, k2, m2, g1, g2, g3⟩ := Cond.arrayClass_spec (hts _ ac_char')
  have ho : (Cond.arrayOver (.object zPo)).before args s = true := hts1 _ (List.mem_of_getElem? (i := 401) (by decide +kernel))
  obtain ⟨m3, c3, k3, e1, e2, e3, e4, e5⟩ := Cond.arrayOver_spec ho
  refine ⟨(fun k => (ad k).1, fun k => (ad k).2), (c1, c2, c3), fun c q hq => had c q hq, fun k q hq => ?_⟩
  match k with
  | 0 => cases hq; exact ⟨fun n z => ⟨fun k h => (by cases h), k1, f2, m1, f3⟩, f1⟩
  | 1 => cases hq; exact ⟨fun n z => ⟨fun k h => (by cases h), k2, g2, m2, g3⟩, g1⟩
  | 2 => cases hq; exact ⟨fun n z => ⟨fun k h => (by cases h), k3, e3, m3, e4⟩, k3, m3, e3, e4, e1, e5⟩
  | k + 3 => cases hq
theorem zb_X {s : State} {args : Array Value} (hts1 : ∀ w ∈ lw_tbl, w.before args s = true) : zXt s :=
  ⟨va_AO.of (hts1 _ (List.mem_of_getElem? (i := 401) (by decide +kernel))), va_Nw.of rfl (hts1 _ (List.mem_of_getElem? (i := 273) (by decide +kernel))), va_Nw.of rfl (hts1 _ (List.mem_of_getElem? (i := 306) (by decide +kernel))), va_Nw.of rfl (hts1 _ (List.mem_of_getElem? (i := 167) (by decide +kernel))), va_Nw.of rfl (hts1 _ (List.mem_of_getElem? (i := 426) (by decide +kernel))), va_Nw.of rfl (hts1 _ (List.mem_of_getElem? (i := 421) (by decide +kernel)))⟩
def zbT (i : Nat) : Term := if i = 0 then .string RX6 100 else .string RX6 120
def zbL : List Cond := flatC (Jvm.Cond.and given_1 narrow_1)
theorem zb_in1 : ∀ i, i < 2 → Cond.exactly (zbT i) "java/lang/String" ∈ zbL := by decide +kernel
theorem zb_in2 : ∀ i, i < 2 → Cond.eq (.field (zbT i) "java/lang/String" "coder" "B") (.int 0) ∈ zbL := by decide +kernel
theorem zb_in3 : ∀ i, i < 2 → Cond.arrayOf (.field (zbT i) "java/lang/String" "value" "[B") .byte ∈ zbL := by decide +kernel
theorem zb_in4 : ∀ i, i < 2 → Cond.eq (.length (.field (zbT i) "java/lang/String" "value" "[B")) (.int (Int32.ofNat (([10, 122] : List Nat).getD i 0))) ∈ zbL := by decide +kernel
theorem zb_in5 : ∀ i, i < 2 → ∀ j, j < ([10, 122] : List Nat).getD i 0 → Cond.eq (.elem (.field (zbT i) "java/lang/String" "value" "[B") (.int (Int32.ofNat j))) (.int ((([zBs, zBw] : List (List Int32)).getD i []).getD j 0)) ∈ zbL := by decide +kernel
theorem zb_in6 : Cond.not (Cond.eq (zbT 0) (zbT 1)) ∈ zbL := by decide +kernel
theorem zb_in7 : Cond.eq (.static "java/lang/String" "COMPACT_STRINGS" "Z") (.int 1) ∈ zbL := by decide +kernel
theorem zb_in8 : Cond.isRef (.static "jdk/internal/util/Preconditions" "SIOOBE_FORMATTER" "Ljava/util/function/BiFunction;") ∈ zbL := by decide +kernel
theorem zb_T {s : State} {args : Array Value} (hts1 : ∀ w ∈ lw_tbl, w.before args s = true) (hgv : (Jvm.Cond.and given_1 narrow_1).before args s = true) : ∃ tx : Nat → Nat, ∀ r : Nat → Nat, (∀ i, 1000 ≤ i → r i = tx i) → zX r (lwA s) s s.heap := by
  have hs : ∀ c ∈ zbL, c.before args s = true := flat_of_before _ hgv
  have hA : ∀ a : Nat, a < s.heap.size → ¬ lwA s a := fun a h => Nat.not_le.mpr h
  obtain ⟨adK, adV, hS, hT⟩ := vk_Sof (args := args) (s := s) (N := 2) (tm := zbT) (len := [10, 122]) (byt := [zBs, zBw]) (A := lwA s) (by decide) (fun i hi => hs _ (zb_in1 i hi)) (fun i hi => hs _ (zb_in2 i hi)) (fun i hi => hs _ (zb_in3 i hi)) (fun i hi => hs _ (zb_in4 i hi)) (fun i hi j hj => hs _ (zb_in5 i hi j hj)) (fun i j hi hj hij => by
    have e : (i = 0 ∧ j = 1) ∨ (i = 1 ∧ j = 0) := by omega
    rcases e with ⟨rfl, rfl⟩ | ⟨rfl, rfl⟩
    · exact Or.inl (hs _ zb_in6)
    · exact Or.inr (hs _ zb_in6)) hA
  have hR0 : vk_R RX6 100 zSg (adK 0) s := vk_R.of (hts1 _ (List.mem_of_getElem? (i := 783) (by decide +kernel))) (hT 0 (by decide))
  have hR1 : vk_R RX6 120 zWo (adK 1) s := vk_R.of (hts1 _ (List.mem_of_getElem? (i := 874) (by decide +kernel))) (hT 1 (by decide))
  have hZ1 : va_Z "java/lang/String" "COMPACT_STRINGS" "Z" (.int 1) (lwA s) s s.heap := va_Zof (hts1 _ (List.mem_of_getElem? (i := 797) (by decide +kernel))) (hts1 _ (List.mem_of_getElem? (i := 152) (by decide +kernel))) (va_eqt (hs _ zb_in7)) hA
  have hZ2 := va_Zqof (A := lwA s) (hts1 (Cond.laysStatic "jdk/internal/util/Preconditions" "SIOOBE_FORMATTER" "Ljava/util/function/BiFunction;") (List.mem_of_getElem? (i := 836) (by decide +kernel))) (hts1 _ (List.mem_of_getElem? (i := 155) (by decide +kernel))) (hs _ zb_in8) hA
  obtain ⟨t, hZ3⟩ : ∃ t : Nat, va_Z "jdk/internal/util/Preconditions" "SIOOBE_FORMATTER" "Ljava/util/function/BiFunction;" .null (lwA s) s s.heap ∨ va_Z "jdk/internal/util/Preconditions" "SIOOBE_FORMATTER" "Ljava/util/function/BiFunction;" (.ref t) (lwA s) s s.heap := by
    rcases hZ2 with h | ⟨t, h⟩
    · exact ⟨0, Or.inl h⟩
    · exact ⟨t, Or.inr h⟩
  refine ⟨fun i => if i = 1020 then t else if i < 1010 then adK (i - 1000) else adV (i - 1010), fun r hr => ?_⟩
  have hk : ∀ i, i < 2 → r (1000 + i) = adK i := fun i hi => by
    rw [hr _ (by omega)]
    show (if 1000 + i = 1020 then t else if 1000 + i < 1010 then adK (1000 + i - 1000) else adV (1000 + i - 1010)) = adK i
    rw [if_neg (by omega), if_pos (by omega), show 1000 + i - 1000 = i by omega]
  have hv : ∀ i, i < 2 → r (1010 + i) = adV i := fun i hi => by
    rw [hr _ (by omega)]
    show (if 1010 + i = 1020 then t else if 1010 + i < 1010 then adK (1010 + i - 1000) else adV (1010 + i - 1010)) = adV i
    rw [if_neg (by omega), if_neg (by omega), show 1010 + i - 1010 = i by omega]
  have h0 : r 1000 = adK 0 := hk 0 (by decide)
  have h1 : r 1001 = adK 1 := hk 1 (by decide)
  have h2 : r 1020 = t := by rw [hr _ (by omega)]; rfl
  refine ⟨⟨fun i hi => ?_, fun i j hi hj e => ?_⟩, by rw [h0]; exact hR0, by rw [h1]; exact hR1, hZ1, by rw [h2]; exact hZ3⟩
  · show va_O "java/lang/String" (r (1000 + i)) _ _ _ ∧ va_OF "java/lang/String" "coder" "B" (.int 0) (r (1000 + i)) _ _ _ ∧ va_OF "java/lang/String" "value" "[B" (.ref (r (1010 + i))) (r (1000 + i)) _ _ _ ∧ va_T .byte (r (1010 + i)) _ _ _ _ _
    rw [hk i hi, hv i hi]
    exact hS.1 i hi
  · refine hS.2 i j hi hj ?_
    have e : r (1000 + i) = r (1000 + j) := e
    rw [← hk i hi, ← hk j hj, e]
theorem q_begin : qRel hX hM := by
  have no : ∀ {P : Nat → Prop} (i : Nat), i < 0 → P i := fun i h => absurd h (Nat.not_lt_zero i)
  refine ⟨⟨0, 0, ⟨by decide +kernel, by decide +kernel⟩, ⟨⟨by decide +kernel, by decide +kernel, by decide +kernel, by decide +kernel, by decide +kernel, by decide +kernel, fun c hc => absurd hc (Nat.not_lt_zero c), fun c hc => absurd hc (Nat.not_lt_zero c)⟩, by decide, by decide, fun c hc => absurd hc (Nat.not_lt_zero c), fun c p hc => absurd hc (Nat.not_lt_zero c), fun c hc => absurd hc (Nat.not_lt_zero c)⟩, ⟨by decide +kernel, ⟨0, by decide, by decide +kernel, by decide +kernel⟩, fun i _ => rfl⟩, ?_, ⟨0, by decide +kernel, by decide +kernel, by decide +kernel, by decide, fun c hc => absurd hc (Nat.not_lt_zero c)⟩, ⟨0, by decide +kernel, by decide +kernel, by decide +kernel, by decide, fun c hc => absurd hc (Nat.not_lt_zero c)⟩, ⟨0, by decide +kernel, by decide +kernel, by decide +kernel, by decide, fun c hc => absurd hc (Nat.not_lt_zero c), fun p _ => rfl⟩, ?_⟩, ?_, ?_, ?_, Or.inl ⟨by decide +kernel, by decide +kernel, by decide +kernel, by decide +kernel, by decide +kernel, by decide +kernel⟩⟩
  · exact ⟨0, 0, by decide, by decide, by decide +kernel, by decide +kernel, fun c hc => absurd hc (Nat.not_lt_zero c), fun c hc => absurd hc (Nat.not_lt_zero c)⟩
  · refine ⟨⟨0, by decide, by decide +kernel, by decide +kernel, fun c hc => absurd hc (Nat.not_lt_zero c)⟩, ⟨0, by decide, by decide +kernel, by decide +kernel, fun c hc => absurd hc (Nat.not_lt_zero c)⟩, ⟨0, by decide, by decide +kernel, by decide +kernel, fun c hc => absurd hc (Nat.not_lt_zero c)⟩, ⟨0, by decide, by decide +kernel, by decide +kernel, fun c hc => absurd hc (Nat.not_lt_zero c)⟩, ⟨0, by decide, by decide +kernel, by decide +kernel, fun c hc => absurd hc (Nat.not_lt_zero c)⟩, ⟨0, by decide, by decide +kernel, by decide +kernel, fun c hc => absurd hc (Nat.not_lt_zero c), fun i j hc => absurd hc (Nat.not_lt_zero i)⟩, fun i _ => ⟨rfl, Or.inl rfl⟩⟩
  · exact ⟨0, 0, 0, 0, 0, by decide, by decide, by decide +kernel, by decide +kernel, by decide +kernel, ⟨by decide +kernel, by decide +kernel⟩, by decide +kernel, fun j hj => absurd hj (Nat.not_lt_zero j)⟩
  · exact ⟨0, by decide, by decide +kernel, by decide +kernel, fun c hc => absurd hc (Nat.not_lt_zero c)⟩
  · exact ⟨by decide +kernel, by decide +kernel, by decide +kernel, by decide +kernel, by decide +kernel, by decide +kernel, by decide +kernel⟩
