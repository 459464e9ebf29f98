/-! A TEXT: the relation behind it -/
section Qretext
theorem qRel_tx {h k h' k' : zHp} (R : qRel h k) (e : ∀ a, ¬(13 ≤ a ∧ a ≤ 25) → ¬(145 ≤ a ∧ a ≤ 158) → a ≠ 79 → h' a = h a) (e79 : h' 79 2 = h 79 2)
    (f : ∀ a, a = 1 ∨ a = 2 ∨ a = 4 ∨ a = 5 ∨ a = 6 ∨ a = 8 ∨ (22 ≤ a ∧ a ≤ 36) ∨ a = 38 → k' a = k a)
    (f0 : ∀ j, j = 5 ∨ j = 6 ∨ j = 7 ∨ (42 ≤ j ∧ j ≤ 62) ∨ j = 66 → k' 0 j = k 0 j)
    (u : (h' 79 3 = h 79 3 ∧ k' 0 3 = k 0 3) ∨ (h' 79 3 = 0 ∧ k' 0 3 = 0))
    (hl : qLaw h' 13 k') (hc : ∀ C P, qCh k C P → C ≤ 10 → P ≤ 14 → ∃ n, k' 0 34 = nI n ∧ qCalls h' 20 n (k' 17) C P) (hh : ∀ C P, qCh k C P → C ≤ 10 → P ≤ 14 → ∃ n, k' 0 36 = nI n ∧ qHouse h' 22 n (k' 18) C) (hk : ∀ C P, qCh k C P → C ≤ 10 → P ≤ 14 → ∃ n, k' 0 38 = nI n ∧ qKin h' 24 n (k' 19) P)
    (T : h' 145 1 = 0 ∧ k' 0 12 = 0) (g0 : h' 157 0 = 16) (g1 : h' 145 12 = k' 0 32) (g2 : h' 145 13 = k' 0 33) : qRel h' k' := by
  obtain ⟨⟨C, P, h1, ⟨h2, h3⟩, ⟨b0, ⟨b, b1, b2, b3⟩, b4⟩, -, -, -, -, h12⟩, ⟨v, m, C1, P1, nn, p1, p2, p3, p4, p5, p6, p7, p8⟩, -, ⟨x1, x2, x3, x4, x5, -, -⟩, hI⟩ := R
  have f1 := f 1 (by omega)
  have f4 := f 4 (by omega)
  have f5 := f 5 (by omega)
  have ch : ∀ {C P}, qCh k C P → qCh k' C P := fun q => ⟨by rw [f0 6 (by omega)]; exact q.1, by rw [f0 7 (by omega)]; exact q.2⟩
  refine ⟨⟨C, P, ch h1, ⟨qPo_c h3.1 h3.2.1 (fun a q1 q2 => e a (by omega) (by omega) (by omega)) (fun i _ => by rw [f1]) (fun i _ => by rw [f4]) (fun i _ => by rw [f5]) h2, qFine_c (fun i _ _ => by rw [f1]) h3⟩, ⟨by rw [e 11 (by omega) (by omega) (by omega)]; exact b0, ⟨b, b1, by rw [e 11 (by omega) (by omega) (by omega)]; exact b2, by rw [f1]; exact b3⟩, fun i hi => by rw [e 12 (by omega) (by omega) (by omega), f 6 (by omega)]; exact b4 i hi⟩, hl, hc C P h1 h3.1 h3.2.1, hh C P h1 h3.1 h3.2.1, hk C P h1 h3.1 h3.2.1, qTold_f (fun a q1 q2 => e a (by omega) (by omega) (by omega)) (fun a q1 q2 => f a (by omega)) (fun i q1 q2 => f0 i (by omega)) h12⟩, ?_, ⟨0, by omega, T.1, T.2, fun i hi => absurd hi (Nat.not_lt_zero i)⟩, ⟨by rw [e 2 (by omega) (by omega) (by omega)]; exact x1, by rw [e 136 (by omega) (by omega) (by omega)]; exact x2, g0, by rw [f0 5 (by omega)]; exact x4, fun i hi => by rw [f 8 (by omega)]; exact x5 i hi, g1, g2⟩, ?_⟩
  · rcases u with ⟨u1, u2⟩ | ⟨u1, u2⟩
    · refine ⟨v, m, C1, P1, nn, p1, p2, by rw [u1]; exact p3, by rw [u2]; exact p4, by rw [e79]; exact p5, ch p6, by rw [f1]; exact p7, fun j hj => ?_⟩
      obtain ⟨y1, y2, y3⟩ := p8 j hj
      have hm : (m + 6 - v + j) % 6 < 6 := Nat.mod_lt _ (by omega)
      rw [f 2 (by omega), f4, f5, e 81 (by omega) (by omega) (by omega)]
      exact ⟨qPo_c y2.1 y2.2.1 (fun a q1 q2 => e a (by omega) (by omega) (by omega)) (fun _ _ => rfl) (fun _ _ => rfl) (fun _ _ => rfl) y1, y2, y3⟩
    · exact ⟨0, m, C1, P1, nn, by omega, p2, u1, u2, by rw [e79]; exact p5, ch p6, by rw [f1]; exact p7, fun j hj => absurd hj (Nat.not_lt_zero j)⟩
  · rw [e 0 (by omega) (by omega) (by omega), f0 66 (by omega), e 50 (by omega) (by omega) (by omega), e 59 (by omega) (by omega) (by omega), e 61 (by omega) (by omega) (by omega), e 63 (by omega) (by omega) (by omega)]
    rcases hI with q | ⟨q1, q2, q3⟩
    · exact Or.inl q
    · exact Or.inr ⟨q1, q2, qWh_c (fun a z1 z2 z3 => e a (by omega) (by omega) (by omega)) (qAs_un (f 38 (by omega))) q3⟩
/-- a text that is not taken: nothing is learned -/
theorem qRel_tx0 {h k h' k' : zHp} (R : qRel h k) (e : ∀ a, ¬(145 ≤ a ∧ a ≤ 158) → h' a = h a)
    (f : ∀ a, a = 1 ∨ a = 2 ∨ a = 4 ∨ a = 5 ∨ a = 6 ∨ a = 8 ∨ (22 ≤ a ∧ a ≤ 36) ∨ a = 38 → k' a = k a)
    (f0 : ∀ j, j = 3 ∨ j = 5 ∨ j = 6 ∨ j = 7 ∨ j = 34 ∨ j = 36 ∨ j = 38 ∨ (42 ≤ j ∧ j ≤ 62) ∨ j = 66 → k' 0 j = k 0 j)
    (fl : ∀ a j, (a = 9 ∨ ((10 ≤ a ∧ a ≤ 13) ∧ j < 16) ∨ ((a = 14 ∨ a = 15) ∧ j < 400) ∨ (a = 17 ∧ j < 64) ∨ (a = 18 ∧ j < 48) ∨ (a = 19 ∧ j < 14)) → k' a j = k a j)
    (T : h' 145 1 = 0 ∧ k' 0 12 = 0) (g0 : h' 157 0 = 16) (g1 : h' 145 12 = k' 0 32) (g2 : h' 145 13 = k' 0 33) : qRel h' k' := by
  obtain ⟨C, P, ⟨c1, c2⟩, ⟨h2, h3⟩, -, hl, ⟨n, n1, n2⟩, ⟨m, m1, m2⟩, ⟨q, q1, q2⟩, -⟩ := id R.1
  have uq : ∀ {C' P'}, qCh k C' P' → C' ≤ 10 → P' ≤ 14 → C' = C ∧ P' = P := fun w z1 z2 => by
    have hC := h3.1
    have hP := h3.2.1
    exact ⟨(nI_eq (by omega) (by omega)).mp (w.1.symm.trans c1), (nI_eq (by omega) (by omega)).mp (w.2.symm.trans c2)⟩
  refine qRel_tx R (fun a _ z _ => e a z) (by rw [e 79 (by omega)]) f (fun j z => f0 j (by omega)) (Or.inl ⟨by rw [e 79 (by omega)], f0 3 (by omega)⟩) ?_ (fun C' P' w z1 z2 => ⟨n, by rw [f0 34 (by omega)]; exact n1, ?_⟩) (fun C' P' w z1 z2 => ⟨m, by rw [f0 36 (by omega)]; exact m1, ?_⟩) (fun C' P' w z1 z2 => ⟨q, by rw [f0 38 (by omega)]; exact q1, ?_⟩) T g0 g1 g2
  · obtain ⟨l, sz, l1, l2, l3, l4, l5, l6⟩ := hl
    refine ⟨l, sz, l1, l2, by rw [e 13 (by omega)]; exact l3, by rw [fl 9 0 (by omega)]; exact l4, fun i hi => by rw [e 18 (by omega), fl 14 i (by omega), fl 15 i (by omega)]; exact l5 i hi, fun i hi => ?_⟩
    obtain ⟨wd, a, b, c, r1, r2, r3, r4, r5, r6, r7, r8, r9, r10, r11, r12, r13, r14⟩ := l6 i hi
    refine ⟨wd, a, b, c, r1, r2, r3, r4, by rw [e 14 (by omega)]; exact r5, by rw [fl 10 i (by omega)]; exact r6, by rw [e 15 (by omega)]; exact r7, by rw [fl 11 i (by omega)]; exact r8, by rw [e 16 (by omega)]; exact r9, by rw [fl 12 i (by omega)]; exact r10, by rw [e 17 (by omega)]; exact r11, by rw [fl 13 i (by omega)]; exact r12, ?_, ?_⟩
    · rw [← r13]
      exact qTy_c _ _ _ (fun j _ hj => ⟨fl 14 j (by omega), fl 15 j (by omega)⟩)
    · rcases r14 with z | z
      · exact Or.inl z
      · refine Or.inr ?_
        rw [← z]
        exact qTy_c _ _ _ (fun j _ hj => ⟨fl 14 j (by omega), fl 15 j (by omega)⟩)
  · obtain ⟨rfl, rfl⟩ := uq w z1 z2
    exact qCalls_c (e 20 (by omega)) (e 21 (by omega)) (fun i hi => fl 17 i (by omega)) n2
  · obtain ⟨rfl, rfl⟩ := uq w z1 z2
    exact qHouse_c (e 22 (by omega)) (e 23 (by omega)) (fun i hi => fl 18 i (by omega)) m2
  · obtain ⟨rfl, rfl⟩ := uq w z1 z2
    exact qKin_c z2 (e 24 (by omega)) (e 25 (by omega)) (fun i hi => fl 19 i (by omega)) q2
theorem qLaw_c2 {h h' k k' : zHp} {o : Nat} (e : ∀ a, o ≤ a → a ≤ o + 5 → h' a = h a) (fl : ∀ a j, (a = 9 ∨ ((10 ≤ a ∧ a ≤ 13) ∧ j < 16) ∨ ((a = 14 ∨ a = 15) ∧ j < 400)) → k' a j = k a j) (hl : qLaw h o k) : qLaw h' o k' := by
  obtain ⟨l, sz, l1, l2, l3, l4, l5, l6⟩ := hl
  refine ⟨l, sz, l1, l2, by rw [e o (by omega) (by omega)]; exact l3, by rw [fl 9 0 (by omega)]; exact l4, fun i hi => by rw [e (o + 5) (by omega) (by omega), fl 14 i (by omega), fl 15 i (by omega)]; exact l5 i hi, fun i hi => ?_⟩
  obtain ⟨wd, a, b, c, r1, r2, r3, r4, r5, r6, r7, r8, r9, r10, r11, r12, r13, r14⟩ := l6 i hi
  refine ⟨wd, a, b, c, r1, r2, r3, r4, by rw [e (o + 1) (by omega) (by omega)]; exact r5, by rw [fl 10 i (by omega)]; exact r6, by rw [e (o + 2) (by omega) (by omega)]; exact r7, by rw [fl 11 i (by omega)]; exact r8, by rw [e (o + 3) (by omega) (by omega)]; exact r9, by rw [fl 12 i (by omega)]; exact r10, by rw [e (o + 4) (by omega) (by omega)]; exact r11, by rw [fl 13 i (by omega)]; exact r12, ?_, ?_⟩
  · rw [← r13]
    exact qTy_c _ _ _ (fun j _ hj => ⟨fl 14 j (by omega), fl 15 j (by omega)⟩)
  · rcases r14 with z | z
    · exact Or.inl z
    · refine Or.inr ?_
      rw [← z]
      exact qTy_c _ _ _ (fun j _ hj => ⟨fl 14 j (by omega), fl 15 j (by omega)⟩)
end Qretext
