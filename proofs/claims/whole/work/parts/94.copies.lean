/-! COPIES of lines, laws, rows (class): never checked -/
section Qcopies
theorem q_copy2 {h : zHp} {o b N : Nat} (h1 : zln wX (b + 1) = N) (h2 : zln wX (o + 1) = N) (hN : N < 10000) (d : b + 2 ≤ o ∨ o + 2 ≤ b) : ∃ h', f_X2_copyFrom o b h = some h' ∧ (∀ a, a ≠ o → a ≠ o + 1 → h' a = h a) ∧ (∀ i, i < N → h' (o + 1) i = h (b + 1) i) ∧ h' o 2 = h b 2 ∧ ∀ i, i ≠ 2 → h' o i = h o i := by
  refine ⟨zst (zcp h (b + 1) 0 (o + 1) 0 N) o 2 (h b 2), ?_, fun a a1 a2 => by rw [q_st_c a1, q_cp_o a2], fun i hi => by rw [q_st_c (by omega), q_cp_i hi], q_st_s, fun i hi => by rw [q_st_i hi, q_cp_o (by omega)]⟩
  unfold f_X2_copyFrom
  rw [h1, h2, if_pos rfl, q_nI, show (0 : Int32) = nI 0 from rfl, q_zac (by omega), q_lt, q_lt, q_cl (by omega), q_cl (by omega), q_cp_o (by omega)]
theorem q_copy7 {h : zHp} {o b N : Nat} (h1 : zln wX (b + 1) = N) (h2 : zln wX (o + 1) = N) (hN : N < 10000) (d : b + 2 ≤ o ∨ o + 2 ≤ b) : ∃ h', f_X7_copyFrom o b h = some h' ∧ (∀ a, a ≠ o → a ≠ o + 1 → h' a = h a) ∧ (∀ i, i < N → h' (o + 1) i = h (b + 1) i) ∧ h' o 1 = h b 1 ∧ ∀ i, i ≠ 1 → h' o i = h o i := by
  refine ⟨zst (zcp h (b + 1) 0 (o + 1) 0 N) o 1 (h b 1), ?_, fun a a1 a2 => by rw [q_st_c a1, q_cp_o a2], fun i hi => by rw [q_st_c (by omega), q_cp_i hi], q_st_s, fun i hi => by rw [q_st_i hi, q_cp_o (by omega)]⟩
  unfold f_X7_copyFrom
  rw [h1, h2, if_pos rfl, q_nI, show (0 : Int32) = nI 0 from rfl, q_zac (by omega), q_lt, q_lt, q_cl (by omega), q_cl (by omega), q_cp_o (by omega)]
theorem q_copy1 {h : zHp} {o b : Nat} (hb : b + 6 ≤ o ∨ o + 6 ≤ b) : ∃ h', f_X1_copyFrom o b h = some h' ∧ (∀ a, ¬(o ≤ a ∧ a ≤ o + 5) → h' a = h a) ∧ (∀ j i, 1 ≤ j → j ≤ 4 → i < 16 → h' (o + j) i = h (b + j) i) ∧ (∀ i, i < 400 → h' (o + 5) i = h (b + 5) i) ∧ h' o 6 = h b 6 ∧ h' o 7 = h b 7 := by
  refine ⟨zst (zst (zcp (zcp (zcp (zcp (zcp h (b + 1) 0 (o + 1) 0 16) (b + 2) 0 (o + 2) 0 16) (b + 3) 0 (o + 3) 0 16) (b + 4) 0 (o + 4) 0 16) (b + 5) 0 (o + 5) 0 400) o 6 (h b 6)) o 7 (h b 7), ?_, fun a ha => ?_, fun j i h1 h2 h3 => ?_, fun i hi => ?_, ?_, q_st_s⟩
  · unfold f_X1_copyFrom
    simp (disch := omega) only [q_lit, q_cl, q_zac, q_lt, q_st_c, q_cp_o]
  · simp (disch := omega) only [q_st_c, q_cp_o]
  · rcases (show j = 1 ∨ j = 2 ∨ j = 3 ∨ j = 4 by omega) with rfl | rfl | rfl | rfl <;> simp (disch := omega) only [q_st_c, q_cp_o, q_cp_i]
  · simp (disch := omega) only [q_st_c, q_cp_o, q_cp_i]
  · rw [q_st_i (by omega), q_st_s]
end Qcopies
