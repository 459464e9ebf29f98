/-! A THOUGHT -/
section Qthink
theorem q_thinksM (k : zHp) : ∃ k', f_X11_thinks k = some k' ∧ (∀ a, a ≠ 0 → a ≠ 3 → k' a = k a) ∧ (∀ i, i ≠ 5 → k' 0 i = k 0 i) ∧ k' 0 5 = nI 1 ∧ ∀ i, i < 77 → k' 3 i = k 1 i := by
  unfold f_X11_thinks f_X11_thinks_2_lp
  refine q_exit (b := fun k2 v => f_X11_thinks_2 k2 v.1 v.2) (I := fun j v => ∃ k1, v = (nI j, k1) ∧ (∀ a, a ≠ 3 → k1 a = k a) ∧ ∀ i, i < j → k1 3 i = k 1 i) 77 (Q := fun r => ∃ k', r = some k' ∧ (∀ a, a ≠ 0 → a ≠ 3 → k' a = k a) ∧ (∀ i, i ≠ 5 → k' 0 i = k 0 i) ∧ k' 0 5 = nI 1 ∧ ∀ i, i < 77 → k' 3 i = k 1 i) (fun j v hj hI => Or.inl ?_) (fun v hI => ?_) _ ⟨k, rfl, fun _ _ => rfl, fun i hi => by omega⟩ zN (by rw [q_zN]; omega)
  · obtain ⟨k1, rfl, e1, e2⟩ := hI
    have e4 : k1 1 = k 1 := e1 1 (by omega)
    refine ⟨(nI (j + 1), zst k1 3 j (k 1 j)), fun rec => ?_, _, rfl, fun a ha => by rw [q_st_c ha]; exact e1 a ha, fun i hi => ?_⟩
    · simp only [f_X11_thinks_2]
      simp (disch := omega) only [e4, ↓reduceIte, ↓qM_e, ↓q_rem, q_mod, q_modN, q_lit, q_nI, q_lt, q_bd, q_ix, q_dz, q_iflt, q_ifnlt, q_ifeq, q_ifne, q_ifM, q_ifMM, q_ifMlt, q_ifltM, nI_add, pk_mul, q_sub, q_div, q_cl, q_st_s, q_st_i, q_st_c, Nat.add_zero, Nat.zero_add]
    · by_cases z : i = j
      · rw [z, q_st_s]
      · rw [q_st_i z]; exact e2 i (by omega)
  · obtain ⟨k1, rfl, e1, e2⟩ := hI
    refine ⟨some (zst k1 0 5 (nI 1)), fun rec => ?_, _, rfl, fun a a0 a3 => by rw [q_st_c a0]; exact e1 a a3, fun i hi => by rw [q_st_i hi, e1 0 (by omega)], q_st_s, fun i hi => by rw [q_st_c (by omega)]; exact e2 i hi⟩
    simp only [f_X11_thinks_2]
    simp (disch := omega) only [↓reduceIte, ↓qM_e, ↓q_rem, q_mod, q_modN, q_lit, q_nI, q_lt, q_bd, q_ix, q_dz, q_iflt, q_ifnlt, q_ifeq, q_ifne, q_ifM, q_ifMM, q_ifMlt, q_ifltM, nI_add, pk_mul, q_sub, q_div, q_cl, q_st_s, q_st_i, q_st_c, Nat.add_zero, Nat.zero_add]
theorem q_endsM (k : zHp) : ∃ k', f_X11_endsThought k = some k' ∧ (∀ a, a ≠ 0 → a ≠ 1 → k' a = k a) ∧ (∀ i, i ≠ 5 → k' 0 i = k 0 i) ∧ k' 0 5 = nI 0 ∧ ∀ i, i < 77 → k' 1 i = k 3 i := by
  unfold f_X11_endsThought f_X11_endsThought_2_lp
  refine q_exit (b := fun k2 v => f_X11_endsThought_2 k2 v.1 v.2) (I := fun j v => ∃ k1, v = (nI j, k1) ∧ (∀ a, a ≠ 1 → k1 a = k a) ∧ ∀ i, i < j → k1 1 i = k 3 i) 77 (Q := fun r => ∃ k', r = some k' ∧ (∀ a, a ≠ 0 → a ≠ 1 → k' a = k a) ∧ (∀ i, i ≠ 5 → k' 0 i = k 0 i) ∧ k' 0 5 = nI 0 ∧ ∀ i, i < 77 → k' 1 i = k 3 i) (fun j v hj hI => Or.inl ?_) (fun v hI => ?_) _ ⟨k, rfl, fun _ _ => rfl, fun i hi => by omega⟩ zN (by rw [q_zN]; omega)
  · obtain ⟨k1, rfl, e1, e2⟩ := hI
    have e4 : k1 3 = k 3 := e1 3 (by omega)
    refine ⟨(nI (j + 1), zst k1 1 j (k 3 j)), fun rec => ?_, _, rfl, fun a ha => by rw [q_st_c ha]; exact e1 a ha, fun i hi => ?_⟩
    · simp only [f_X11_endsThought_2]
      simp (disch := omega) only [e4, ↓reduceIte, ↓qM_e, ↓q_rem, q_mod, q_modN, q_lit, q_nI, q_lt, q_bd, q_ix, q_dz, q_iflt, q_ifnlt, q_ifeq, q_ifne, q_ifM, q_ifMM, q_ifMlt, q_ifltM, nI_add, pk_mul, q_sub, q_div, q_cl, q_st_s, q_st_i, q_st_c, Nat.add_zero, Nat.zero_add]
    · by_cases z : i = j
      · rw [z, q_st_s]
      · rw [q_st_i z]; exact e2 i (by omega)
  · obtain ⟨k1, rfl, e1, e2⟩ := hI
    refine ⟨some (zst k1 0 5 (nI 0)), fun rec => ?_, _, rfl, fun a a0 a3 => by rw [q_st_c a0]; exact e1 a a3, fun i hi => by rw [q_st_i hi, e1 0 (by omega)], q_st_s, fun i hi => by rw [q_st_c (by omega)]; exact e2 i hi⟩
    simp only [f_X11_endsThought_2]
    simp (disch := omega) only [↓reduceIte, ↓qM_e, ↓q_rem, q_mod, q_modN, q_lit, q_nI, q_lt, q_bd, q_ix, q_dz, q_iflt, q_ifnlt, q_ifeq, q_ifne, q_ifM, q_ifMM, q_ifMlt, q_ifltM, nI_add, pk_mul, q_sub, q_div, q_cl, q_st_s, q_st_i, q_st_c, Nat.add_zero, Nat.zero_add]
/-- both begin to think; what they end with is as it was -/
theorem q_think {h k : zHp} (R : qRel h k) : ∃ C P n m h1 k1, f_X4_copyFrom 136 2 h = some h1 ∧ f_X11_thinks k = some k1 ∧ qMn (h, k) 136 C P h1 k1 ∧ k1 0 34 = nI n ∧ qCalls h1 20 n (k1 17) C P ∧ k1 0 36 = nI m ∧ qHouse h1 22 m (k1 18) C ∧ (∀ h', qXm 136 h1 h' → h' 11 = h 11 → h' 12 = h 12 → h' 136 0 = 1 → qXs h h') ∧ ∀ k', qMm k1 k' → k' 6 = k 6 → ∃ k2, f_X11_endsThought k' = some k2 ∧ qMs k k2 := by
  obtain ⟨C, P, n, m, M, c1, c2, c3, c4⟩ := qRel_M (β := (h, k)) R
  obtain ⟨x1, x2, x3, x4, -⟩ := R.2.2.2.1
  obtain ⟨h1, e1, e2, e3, e4, e5, e6⟩ := q_copy (h := h) (o := 136) (b := 2) (by omega)
  obtain ⟨k1, d1, d2, d3, d4, d5⟩ := q_thinksM k
  obtain ⟨⟨⟨a1, a2⟩, y2, y3, y4, nn, y5⟩, yB, yO⟩ := M
  have hC := y3.1
  have hP := y3.2.1
  refine ⟨C, P, n, m, h1, k1, e1, d1, ⟨⟨⟨by rw [d3 6 (by omega)]; exact a1, by rw [d3 7 (by omega)]; exact a2⟩, ?_, ?_, ?_, nn, ?_⟩, ?_, Or.inr ⟨rfl, by rw [e6 0 (by omega)]; exact x2, d4, e2 11 (by omega), e2 12 (by omega), d2 6 (by omega) (by omega)⟩⟩, by rw [d3 34 (by omega)]; exact c1, ?_, by rw [d3 36 (by omega)]; exact c3, ?_, fun h' f1 f2 f3 f4 => ⟨fun a ha => ?_, by rw [f4, x2]⟩, fun k' f1 f2 => ?_⟩
  · rw [d2 1 (by omega) (by omega), d2 4 (by omega) (by omega), d2 5 (by omega) (by omega)]
    exact qPo_copy hC hP e3 e4 e5 y2
  · rw [d2 1 (by omega) (by omega)]; exact y3
  · have l1 := qLaw_c (h' := h1) (fun a q1 q2 => e2 a (by omega)) (qAs_rf k) y4
    obtain ⟨n2, sz, y⟩ := l1
    refine ⟨n2, sz, ?_⟩
    rw [d2 9 (by omega) (by omega), d2 10 (by omega) (by omega), d2 11 (by omega) (by omega), d2 12 (by omega) (by omega), d2 13 (by omega) (by omega), d2 14 (by omega) (by omega), d2 15 (by omega) (by omega)]
    exact y
  · rw [d2 19 (by omega) (by omega)]
    exact qKin_c hP (e2 _ (by omega)) (e2 _ (by omega)) (fun _ _ => rfl) y5
  · obtain ⟨b0, ⟨b, b1, b2, b3⟩, b4⟩ := yB
    exact ⟨by rw [e2 _ (by omega)]; exact b0, ⟨b, b1, by rw [e2 _ (by omega)]; exact b2, by rw [d2 1 (by omega) (by omega)]; exact b3⟩, fun i hi => by rw [e2 _ (by omega), d2 6 (by omega) (by omega)]; exact b4 i hi⟩
  · rw [d2 17 (by omega) (by omega)]
    exact qCalls_c (e2 _ (by omega)) (e2 _ (by omega)) (fun _ _ => rfl) c2
  · rw [d2 18 (by omega) (by omega)]
    exact qHouse_c (e2 _ (by omega)) (e2 _ (by omega)) (fun _ _ => rfl) c4
  · unfold qXp at ha
    have hb : a ≠ 19 ∧ a ≠ 160 ∧ ¬(136 ≤ a ∧ a ≤ 144) := by
      simp at ha
      omega
    by_cases z1 : a = 11
    · rw [z1]; exact f2
    · by_cases z2 : a = 12
      · rw [z2]; exact f3
      · rw [f1 a (by omega) z1 z2 hb.2.1 hb.1, e2 a (by omega)]
  · obtain ⟨k2, g1, g2, g3, g4, g5⟩ := q_endsM k'
    refine ⟨k2, g1, fun a i hp => ?_⟩
    by_cases z0 : a = 0
    · subst z0
      by_cases z5 : i = 5
      · rw [z5, g4]; exact x4.symm
      · rw [g3 i z5, f1 0 (by omega) (by omega) (by omega) (by omega), d3 i z5]
    · by_cases z1 : a = 1
      · subst z1
        have hi : i < 77 := by
          unfold qPers qPos at hp
          simp at hp
          exact Decidable.byContradiction fun q => by simp [q] at hp
        rw [g5 i hi, f1 3 (by omega) (by omega) (by omega) (by omega), d5 i hi]
      · rw [g2 a z0 z1]
        by_cases z6 : a = 6
        · rw [z6, f2]
        · have z3 : a ≠ 3 := fun q => by subst q; simp [qPers, qPos] at hp
          have z20 : a ≠ 20 := fun q => by subst q; simp [qPers, qPos] at hp
          have z21 : a ≠ 21 := fun q => by subst q; simp [qPers, qPos] at hp
          rw [f1 a z1 z6 z20 z21, d2 a z0 z3]
theorem q_freeSet {h k : zHp} {o C P : Nat} (X : qCtx h k o C P) : ∃ S, S < 2 ^ 14 ∧ f_X4_freeSet o h = some (nI S, h) ∧ f_X11_freeSet k = some (nI S, k) := by
  obtain ⟨S, F, T, W, R, N⟩ := qFine_N X.2.2.1
  obtain ⟨hC, hP, N3, N4, N5⟩ := id N
  have h2C : 2 ^ C ≤ 2 ^ 10 := Nat.pow_le_pow_right (by omega) hC
  have g9 : h o 9 = nI C := X.2.1.1
  have g6 : k 0 6 = nI C := X.1.1
  have lt := qSet_lt (fun i => decide (S i = 0 ∧ T i = 0)) C
  refine ⟨qSet (fun i => decide (S i = 0 ∧ T i = 0)) C, by omega, ?_, ?_⟩
  · unfold f_X4_freeSet f_X4_freeSet_4_lp
    refine q_for (S := fun i => (nI (qSet (fun i => decide (S i = 0 ∧ T i = 0)) i), nI i, h)) C (fun i hi rec => ?_) (fun rec => ?_) zN (by rw [q_zN]; omega)
    · obtain ⟨r1, r2, r3⟩ := R.1 i hi
      obtain ⟨b1, b2, b3, b4, b5⟩ := N3 i hi
      obtain ⟨q1, q2, q3, q4⟩ := X.2.1.2.2.2.2.2.2.1 i hi
      have fX := q_isFreeX hC g9 hi (by rw [q2, r1]) (by rw [q4, r3]) (show S i < 1000 by omega) (show T i < 1000 by omega)
      by_cases z : S i = 0 ∧ T i = 0
      · rw [if_pos z] at fX
        rw [qSet, if_pos (by simp [z])]
        simp only [f_X4_freeSet_4]
        simp (disch := omega) only [g9, fX, q_shl1, fa_or, ↓reduceIte, ↓qM_e, ↓q_rem, q_mod, q_modN, q_lit, q_nI, q_lt, q_bd, q_ix, q_dz, q_iflt, q_ifnlt, q_ifeq, q_ifne, q_ifM, q_ifMM, q_ifMlt, q_ifltM, nI_add, pk_mul, q_sub, q_div, q_cl, q_st_s, q_st_i, q_st_c, Nat.add_zero, Nat.zero_add]
      · rw [if_neg z] at fX
        rw [qSet, if_neg (by simp; omega)]
        simp only [f_X4_freeSet_4]
        simp (disch := omega) only [g9, fX, ↓reduceIte, ↓qM_e, ↓q_rem, q_mod, q_modN, q_lit, q_nI, q_lt, q_bd, q_ix, q_dz, q_iflt, q_ifnlt, q_ifeq, q_ifne, q_ifM, q_ifMM, q_ifMlt, q_ifltM, nI_add, pk_mul, q_sub, q_div, q_cl, q_st_s, q_st_i, q_st_c, Nat.add_zero, Nat.zero_add]
    · simp only [f_X4_freeSet_4]
      rw [g9, q_ifF (nI_nlt (Nat.le_refl C) (by omega))]
  · unfold f_X11_freeSet f_X11_freeSet_4_lp
    refine q_for (S := fun i => (nI (qSet (fun i => decide (S i = 0 ∧ T i = 0)) i), nI i, k)) C (fun i hi rec => ?_) (fun rec => ?_) zN (by rw [q_zN]; omega)
    · obtain ⟨r1, r2, r3⟩ := R.1 i hi
      obtain ⟨b1, b2, b3, b4, b5⟩ := N3 i hi
      have fM := q_isFreeM (k := k) (c := i) (by omega) r1 r3 (by omega) (by omega)
      by_cases z : S i = 0 ∧ T i = 0
      · rw [if_pos z] at fM
        rw [qSet, if_pos (by simp [z])]
        simp only [f_X11_freeSet_4]
        simp (disch := omega) only [g6, fM, q_shl1, fa_or, ↓reduceIte, ↓qM_e, ↓q_rem, q_mod, q_modN, q_lit, q_nI, q_lt, q_bd, q_ix, q_dz, q_iflt, q_ifnlt, q_ifeq, q_ifne, q_ifM, q_ifMM, q_ifMlt, q_ifltM, nI_add, pk_mul, q_sub, q_div, q_cl, q_st_s, q_st_i, q_st_c, Nat.add_zero, Nat.zero_add]
      · rw [if_neg z] at fM
        rw [qSet, if_neg (by simp; omega)]
        simp only [f_X11_freeSet_4]
        simp (disch := omega) only [g6, fM, ↓reduceIte, ↓qM_e, ↓q_rem, q_mod, q_modN, q_lit, q_nI, q_lt, q_bd, q_ix, q_dz, q_iflt, q_ifnlt, q_ifeq, q_ifne, q_ifM, q_ifMM, q_ifMlt, q_ifltM, nI_add, pk_mul, q_sub, q_div, q_cl, q_st_s, q_st_i, q_st_c, Nat.add_zero, Nat.zero_add]
    · simp only [f_X11_freeSet_4]
      rw [g6, q_ifF (nI_nlt (Nat.le_refl C) (by omega))]
theorem q_sum {h k : zHp} {b n N o : Nat} (hN : N ≤ n) (hn : n ≤ 14) (ho : o ≤ 63) (e : ∀ i, i < N → h b i = k 1 (o + i)) : ∃ v, f_X10_sum b n (nI N) h = some (v, h) ∧ f_X11_sumOf (nI o) (nI N) k = some (v, k) := by
  unfold f_X10_sum f_X11_sumOf f_X10_sum_4_lp f_X11_sumOf_5_lp
  refine q_exit2 (b1 := fun k4 v => f_X10_sum_4 b n k4 v.1 v.2.1 v.2.2.1 v.2.2.2) (b2 := fun k5 v => f_X11_sumOf_5 k5 v.1 v.2.1 v.2.2.1 v.2.2.2.1 v.2.2.2.2) (I := fun i v u => ∃ s, v = (nI N, s, nI i, h) ∧ u = (nI o, nI N, s, nI i, k)) N (Q := fun x y => ∃ v, x = some (v, h) ∧ y = some (v, k)) (fun i v u hi hI => Or.inl ?_) (fun v u hI => ?_) _ _ ⟨0, rfl, rfl⟩ zN zN (by rw [q_zN]; omega) (by rw [q_zN]; omega)
  · obtain ⟨s, rfl, rfl⟩ := hI
    have ei := e i hi
    refine ⟨(nI N, s + h b i, nI (i + 1), h), (nI o, nI N, s + h b i, nI (i + 1), k), fun rec => ?_, fun rec => ?_, _, rfl, rfl⟩
    · simp only [f_X10_sum_4]
      simp (disch := omega) only [↓reduceIte, ↓qM_e, ↓q_rem, q_mod, q_modN, q_lit, q_nI, q_lt, q_bd, q_ix, q_dz, q_iflt, q_ifnlt, q_ifeq, q_ifne, q_ifM, q_ifMM, q_ifMlt, q_ifltM, nI_add, pk_mul, q_sub, q_div, q_cl, q_st_s, q_st_i, q_st_c, Nat.add_zero, Nat.zero_add]
    · simp only [f_X11_sumOf_5]
      simp (disch := omega) only [ei, ↓reduceIte, ↓qM_e, ↓q_rem, q_mod, q_modN, q_lit, q_nI, q_lt, q_bd, q_ix, q_dz, q_iflt, q_ifnlt, q_ifeq, q_ifne, q_ifM, q_ifMM, q_ifMlt, q_ifltM, nI_add, pk_mul, q_sub, q_div, q_cl, q_st_s, q_st_i, q_st_c, Nat.add_zero, Nat.zero_add]
  · obtain ⟨s, rfl, rfl⟩ := hI
    refine ⟨some (s, h), some (s, k), fun rec => ?_, fun rec => ?_, s, rfl, rfl⟩
    · simp only [f_X10_sum_4]
      rw [q_ifF (nI_nlt (Nat.le_refl N) (by omega))]
    · simp only [f_X11_sumOf_5]
      rw [q_ifF (nI_nlt (Nat.le_refl N) (by omega))]
end Qthink
