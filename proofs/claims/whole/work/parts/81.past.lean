/-! WHAT CAN BE UNDONE -/
section Qpast
theorem q_cp_o {h : zHp} {s sp d dp n a : Nat} (e : a ≠ d) : zcp h s sp d dp n a = h a := if_neg e
theorem q_cp_i {h : zHp} {s d n i : Nat} (hi : i < n) : zcp h s 0 d 0 n d i = h s i := by
  unfold zcp va_cpy
  rw [if_pos rfl, if_pos ⟨by omega, by omega⟩]
  congr 1
  omega
theorem q_zac {R : Type} {n : Nat} {t : Option R} (hn : n < 2147483648) : zac (nI 0) (nI 0) (nI n) n n t = t := by
  unfold zac
  rw [q_cl (by omega), q_cl hn]
  exact if_neg (by
    rintro (q | q | q | q | q)
    · exact absurd q (by decide)
    · exact absurd q (by decide)
    · exact nI_pos hn q
    · omega
    · omega)
/-- a porch is copied to o from b -/
theorem q_copy {h : zHp} {o b : Nat} (hb : b + 9 ≤ o ∨ o + 9 ≤ b) : ∃ h', f_X4_copyFrom o b h = some h' ∧ (∀ a, ¬(o ≤ a ∧ a ≤ o + 8) → h' a = h a) ∧ (∀ j i, 1 ≤ j → j ≤ 4 → i < 10 → h' (o + j) i = h (b + j) i) ∧ (∀ j i, 5 ≤ j → j ≤ 8 → i < 14 → h' (o + j) i = h (b + j) i) ∧ (∀ j, 9 ≤ j → j ≤ 14 → h' o j = h b j) ∧ ∀ j, j < 9 → h' o j = h o j := by
  refine ⟨zst (zst (zst (zst (zst (zst (zcp (zcp (zcp (zcp (zcp (zcp (zcp (zcp h (b + 1) 0 (o + 1) 0 10) (b + 2) 0 (o + 2) 0 10) (b + 3) 0 (o + 3) 0 10) (b + 4) 0 (o + 4) 0 10) (b + 5) 0 (o + 5) 0 14) (b + 6) 0 (o + 6) 0 14) (b + 7) 0 (o + 7) 0 14) (b + 8) 0 (o + 8) 0 14) o 9 (h b 9)) o 10 (h b 10)) o 11 (h b 11)) o 12 (h b 12)) o 13 (h b 13)) o 14 (h b 14), ?_, fun a ha => ?_, fun j i h1 h2 h3 => ?_, fun j i h1 h2 h3 => ?_, fun j h1 h2 => ?_, fun j hj => ?_⟩
  · unfold f_X4_copyFrom
    simp (disch := omega) only [q_lit, q_cl, q_zac, q_lt, q_st_c, q_cp_o]
  · simp (disch := omega) only [q_st_c, q_cp_o]
  · rcases (show j = 1 ∨ j = 2 ∨ j = 3 ∨ j = 4 by omega) with rfl | rfl | rfl | rfl <;> simp (disch := omega) only [q_st_c, q_cp_o, q_cp_i]
  · rcases (show j = 5 ∨ j = 6 ∨ j = 7 ∨ j = 8 by omega) with rfl | rfl | rfl | rfl <;> simp (disch := omega) only [q_st_c, q_cp_o, q_cp_i]
  · rcases (show j = 9 ∨ j = 10 ∨ j = 11 ∨ j = 12 ∨ j = 13 ∨ j = 14 by omega) with rfl | rfl | rfl | rfl | rfl | rfl <;> simp (disch := omega) only [q_st_s, q_st_i]
  · simp (disch := omega) only [q_st_i, q_cp_o]
theorem qPo_copy {h h' : zHp} {o b C P : Nat} {row run dear : Nat → Int32} (hC : C ≤ 10) (hP : P ≤ 14) (e1 : ∀ j i, 1 ≤ j → j ≤ 4 → i < 10 → h' (o + j) i = h (b + j) i) (e2 : ∀ j i, 5 ≤ j → j ≤ 8 → i < 14 → h' (o + j) i = h (b + j) i) (e3 : ∀ j, 9 ≤ j → j ≤ 14 → h' o j = h b j) (H : qPo h b row run dear C P) : qPo h' o row run dear C P := by
  obtain ⟨p1, p2, p3, p4, p5, p6, p7, p8⟩ := H
  refine ⟨by rw [e3 _ (by omega) (by omega)]; exact p1, by rw [e3 _ (by omega) (by omega)]; exact p2, by rw [e3 _ (by omega) (by omega)]; exact p3, by rw [e3 _ (by omega) (by omega)]; exact p4, by rw [e3 _ (by omega) (by omega)]; exact p5, by rw [e3 _ (by omega) (by omega)]; exact p6, fun c hc => ?_, fun p hp => ?_⟩
  · rw [e1 1 c (by omega) (by omega) (by omega), e1 2 c (by omega) (by omega) (by omega), e1 3 c (by omega) (by omega) (by omega), e1 4 c (by omega) (by omega) (by omega)]
    exact p7 c hc
  · rw [e2 5 p (by omega) (by omega) (by omega), e2 6 p (by omega) (by omega) (by omega), e2 7 p (by omega) (by omega) (by omega), e2 8 p (by omega) (by omega) (by omega)]
    exact p8 p hp
theorem q_keepX {h : zHp} {m u : Nat} (h2 : h 79 2 = nI m) (hm : m < 6) (h3 : h 79 3 = nI u) (hu : u ≤ 6) (b : Int32) : ∃ h', f_X3_keep 2 b h = some h' ∧ (∀ a, ¬(82 + 9 * m ≤ a ∧ a ≤ 90 + 9 * m) → a ≠ 79 → a ≠ 81 → h' a = h a) ∧ h' 79 2 = nI ((m + 1) % 6) ∧ h' 79 3 = nI (if u < 6 then u + 1 else 6) ∧ (∀ i, i ≠ m → h' 81 i = h 81 i) ∧ h' 81 m = b ∧ (∀ j i, 1 ≤ j → j ≤ 4 → i < 10 → h' (82 + 9 * m + j) i = h (2 + j) i) ∧ (∀ j i, 5 ≤ j → j ≤ 8 → i < 14 → h' (82 + 9 * m + j) i = h (2 + j) i) ∧ (∀ j, 9 ≤ j → j ≤ 14 → h' (82 + 9 * m) j = h 2 j) := by
  obtain ⟨h1, c1, c2, c3, c4, c5, c6⟩ := q_copy (h := h) (o := 82 + 9 * m) (b := 2) (by omega)
  have g2 : h1 79 2 = nI m := by rw [c2 79 (by omega)]; exact h2
  have g3 : h1 79 3 = nI u := by rw [c2 79 (by omega)]; exact h3
  refine ⟨zst (zst (zst h1 81 m b) 79 2 (nI ((m + 1) % 6))) 79 3 (nI (if u < 6 then u + 1 else 6)), ?_, fun a a1 a2 a3 => ?_, ?_, ?_, fun i hi => ?_, ?_, fun j i j1 j2 j3 => ?_, fun j i j1 j2 j3 => ?_, fun j j1 j2 => ?_⟩
  · unfold f_X3_keep
    rcases Nat.lt_or_ge u 6 with z | z
    · rw [if_pos z]
      rcases (show u = 5 ∨ u < 5 by omega) with rfl | y
      · simp (disch := omega) only [h2, c1, g2, g3, ↓reduceIte, ↓qM_e, ↓q_rem, q_mod, q_modN, q_lit, q_nI, q_lt, q_bd, q_ix, q_dz, q_iflt, q_ifnlt, q_ifeq, q_ifne, q_ifM, q_ifMM, q_ifMlt, q_ifltM, nI_add, pk_mul, q_sub, q_div, q_cl, q_st_s, q_st_i, q_st_c, Nat.add_zero, Nat.zero_add]
      · simp (disch := omega) only [h2, c1, g2, g3, ↓reduceIte, ↓qM_e, ↓q_rem, q_mod, q_modN, q_lit, q_nI, q_lt, q_bd, q_ix, q_dz, q_iflt, q_ifnlt, q_ifeq, q_ifne, q_ifM, q_ifMM, q_ifMlt, q_ifltM, nI_add, pk_mul, q_sub, q_div, q_cl, q_st_s, q_st_i, q_st_c, Nat.add_zero, Nat.zero_add]
    · rw [if_neg (by omega)]
      simp (disch := omega) only [h2, c1, g2, g3, ↓reduceIte, ↓qM_e, ↓q_rem, q_mod, q_modN, q_lit, q_nI, q_lt, q_bd, q_ix, q_dz, q_iflt, q_ifnlt, q_ifeq, q_ifne, q_ifM, q_ifMM, q_ifMlt, q_ifltM, nI_add, pk_mul, q_sub, q_div, q_cl, q_st_s, q_st_i, q_st_c, Nat.add_zero, Nat.zero_add]
  · rw [q_st_c a2, q_st_c a2, q_st_c a3]; exact c2 a (by omega)
  · rw [q_st_i (by omega), q_st_s]
  · rw [q_st_s]
  · rw [q_st_c (by omega), q_st_c (by omega), q_st_i hi, c2 81 (by omega)]
  · rw [q_st_c (by omega), q_st_c (by omega), q_st_s]
  · rw [q_st_c (by omega), q_st_c (by omega), q_st_c (by omega)]; exact c3 j i j1 j2 j3
  · rw [q_st_c (by omega), q_st_c (by omega), q_st_c (by omega)]; exact c4 j i j1 j2 j3
  · rw [q_st_c (by omega), q_st_c (by omega), q_st_c (by omega)]; exact c5 j j1 j2
theorem q_keep55 {k : zHp} {u : Nat} (h3 : k 0 3 = nI u) (hu : u < 6) : ∃ k', f_X11_keepsAhead_55_lp zN (nI 0, k) = some k' ∧ k' 0 3 = nI (u + 1) ∧ (∀ i, i ≠ 3 → k' 0 i = k 0 i) ∧ (∀ a, a ≠ 0 → a ≠ 2 → k' a = k a) ∧ (∀ i, i < 77 → k' 2 (77 * u + i) = k 1 i) ∧ ∀ i, i < 77 * u → k' 2 i = k 2 i := by
  unfold f_X11_keepsAhead_55_lp
  refine q_exit (b := fun k55 v => f_X11_keepsAhead_55 k55 v.1 v.2) (I := fun j v => ∃ k1, v = (nI j, k1) ∧ (∀ a, a ≠ 2 → k1 a = k a) ∧ (∀ i, i < j → k1 2 (77 * u + i) = k 1 i) ∧ ∀ i, i < 77 * u → k1 2 i = k 2 i) 77 (Q := fun r => ∃ k', r = some k' ∧ k' 0 3 = nI (u + 1) ∧ (∀ i, i ≠ 3 → k' 0 i = k 0 i) ∧ (∀ a, a ≠ 0 → a ≠ 2 → k' a = k a) ∧ (∀ i, i < 77 → k' 2 (77 * u + i) = k 1 i) ∧ ∀ i, i < 77 * u → k' 2 i = k 2 i) (fun j v hj hI => Or.inl ?_) (fun v hI => ?_) _ ⟨k, rfl, fun _ _ => rfl, fun i hi => by omega, fun _ _ => rfl⟩ zN (by rw [q_zN]; omega)
  · obtain ⟨k1, rfl, e1, e2, e3⟩ := hI
    have e0 : k1 0 3 = nI u := by rw [e1 0 (by omega)]; exact h3
    have e4 : k1 1 = k 1 := e1 1 (by omega)
    refine ⟨(nI (j + 1), zst k1 2 (77 * u + j) (k 1 j)), fun rec => ?_, _, rfl, fun a ha => by rw [q_st_c ha]; exact e1 a ha, fun i hi => ?_, fun i hi => by rw [q_st_i (by omega)]; exact e3 i hi⟩
    · simp only [f_X11_keepsAhead_55]
      simp (disch := omega) only [e0, e4, ↓reduceIte, ↓qM_e, ↓q_rem, q_mod, q_modN, q_lit, q_nI, q_lt, q_bd, q_ix, q_dz, q_iflt, q_ifnlt, q_ifeq, q_ifne, q_ifM, q_ifMM, q_ifMlt, q_ifltM, nI_add, pk_mul, q_sub, q_div, q_cl, q_st_s, q_st_i, q_st_c, Nat.add_zero, Nat.zero_add]
    · by_cases z : i = j
      · rw [z, q_st_s]
      · rw [q_st_i (by omega)]; exact e2 i (by omega)
  · obtain ⟨k1, rfl, e1, e2, e3⟩ := hI
    have e0 : k1 0 3 = nI u := by rw [e1 0 (by omega)]; exact h3
    refine ⟨some (zst k1 0 3 (nI (u + 1))), fun rec => ?_, _, rfl, q_st_s, fun i hi => by rw [q_st_i hi, e1 0 (by omega)], fun a a1 a2 => by rw [q_st_c a1]; exact e1 a a2, fun i hi => by rw [q_st_c (by omega)]; exact e2 i hi, fun i hi => by rw [q_st_c (by omega)]; exact e3 i hi⟩
    simp only [f_X11_keepsAhead_55]
    simp (disch := omega) only [e0, ↓reduceIte, ↓qM_e, ↓q_rem, q_mod, q_modN, q_lit, q_nI, q_lt, q_bd, q_ix, q_dz, q_iflt, q_ifnlt, q_ifeq, q_ifne, q_ifM, q_ifMM, q_ifMlt, q_ifltM, nI_add, pk_mul, q_sub, q_div, q_cl, q_st_s, q_st_i, q_st_c, Nat.add_zero, Nat.zero_add]
theorem q_keep21 {k : zHp} (h3 : k 0 3 = nI 5) : ∃ k1, f_X11_keepsAhead_21_lp zN (nI 0, k) = f_X11_keepsAhead_55_lp zN (nI 0, k1) ∧ (∀ a, a ≠ 2 → k1 a = k a) ∧ ∀ i, i < 385 → k1 2 i = k 2 (i + 77) := by
  unfold f_X11_keepsAhead_21_lp
  refine q_exit (b := fun k21 v => f_X11_keepsAhead_21 k21 v.1 v.2) (I := fun j v => ∃ k1, v = (nI j, k1) ∧ (∀ a, a ≠ 2 → k1 a = k a) ∧ (∀ i, i < j → k1 2 i = k 2 (i + 77)) ∧ ∀ i, j ≤ i → k1 2 i = k 2 i) 385 (Q := fun r => ∃ k1, r = f_X11_keepsAhead_55_lp zN (nI 0, k1) ∧ (∀ a, a ≠ 2 → k1 a = k a) ∧ ∀ i, i < 385 → k1 2 i = k 2 (i + 77)) (fun j v hj hI => Or.inl ?_) (fun v hI => ?_) _ ⟨k, rfl, fun _ _ => rfl, fun i hi => by omega, fun _ _ => rfl⟩ zN (by rw [q_zN]; omega)
  · obtain ⟨k1, rfl, e1, e2, e3⟩ := hI
    have e0 : k1 0 3 = nI 5 := by rw [e1 0 (by omega)]; exact h3
    have e4 : k1 2 (j + 77) = k 2 (j + 77) := e3 _ (by omega)
    refine ⟨(nI (j + 1), zst k1 2 j (k 2 (j + 77))), fun rec => ?_, _, rfl, fun a ha => by rw [q_st_c ha]; exact e1 a ha, fun i hi => ?_, fun i hi => by rw [q_st_i (by omega)]; exact e3 i (by omega)⟩
    · simp only [f_X11_keepsAhead_21]
      simp (disch := omega) only [e0, e4, ↓reduceIte, ↓qM_e, ↓q_rem, q_mod, q_modN, q_lit, q_nI, q_lt, q_bd, q_ix, q_dz, q_iflt, q_ifnlt, q_ifeq, q_ifne, q_ifM, q_ifMM, q_ifMlt, q_ifltM, nI_add, pk_mul, q_sub, q_div, q_cl, q_st_s, q_st_i, q_st_c, Nat.add_zero, Nat.zero_add]
    · by_cases z : i = j
      · rw [z, q_st_s]
      · rw [q_st_i z]; exact e2 i (by omega)
  · obtain ⟨k1, rfl, e1, e2, e3⟩ := hI
    have e0 : k1 0 3 = nI 5 := by rw [e1 0 (by omega)]; exact h3
    refine ⟨f_X11_keepsAhead_55_lp zN (nI 0, k1), fun rec => ?_, k1, rfl, e1, e2⟩
    simp only [f_X11_keepsAhead_21]
    simp (disch := omega) only [e0, ↓reduceIte, ↓qM_e, ↓q_rem, q_mod, q_modN, q_lit, q_nI, q_lt, q_bd, q_ix, q_dz, q_iflt, q_ifnlt, q_ifeq, q_ifne, q_ifM, q_ifMM, q_ifMlt, q_ifltM, nI_add, pk_mul, q_sub, q_div, q_cl, q_st_s, q_st_i, q_st_c, Nat.add_zero, Nat.zero_add]
end Qpast
