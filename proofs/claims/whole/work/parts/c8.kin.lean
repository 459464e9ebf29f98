/-! A TEXT of KIN -/
section Qtkin
theorem q_text3 {h k : zHp} (R : qRel h k) : qCall (f_X10_text (nI 3) h) (f_X11_text (nI 3) k) := by
  obtain ⟨t, n, T, C, P, h7, k7, c10, p14, p9, p10, w1, w2, rX, rM, L, a7, a27, a1, a0, a8, a9, a6, a77, F1, F2, F3, m25, m32, m33⟩ := q_start R
  have eX := rX 3 (by omega)
  have eM := rM 3 (by omega)
  rw [if_neg (by decide), if_neg (by decide), if_pos rfl] at eM
  obtain ⟨h', k', X, M, out⟩ := q_readKin L.1 a1 a0 a9 a77 p14
  have tf := q_tfC F1 F3 a0 X M (Or.inr (Or.inr ⟨rfl, rfl⟩))
  rcases out with ⟨c, hc, x1, x2, x3, x4, x5, Row⟩ | ⟨x1, x2, B⟩
  · have nm : ¬ nI c = -1 := q_nMc c hc
    -- the class learns
    obtain ⟨h2, b1, b2, b3, b4, b5⟩ := q_copy2 (h := zst h' 145 1 0) (o := 24) (b := 157) (N := 64) (by decide) (by decide) (by omega) (by omega)
    obtain ⟨k2, d1, d2, d3⟩ := q_take3 (zst k' 0 12 0) c
    have h2o : ∀ a, ¬(a = 24 ∨ a = 25) → ¬(145 ≤ a ∧ a ≤ 158) → h2 a = h a := fun a q r => by rw [b2 a (by omega) (by omega), q_st_c (by omega)]; exact tf.1 a r
    have k2o : ∀ a j, ¬(a = 19 ∧ j < 14) → ¬(a = 0 ∧ j = 12) → k2 a j = k' a j := fun a j q r => by
      rw [d3 a j q, q_st]
      by_cases z : a = 0
      · rw [if_pos z, if_neg (by omega), z]
      · rw [if_neg z]
    have k3o : ∀ a j, ¬(a = 19 ∧ j < 14) → ¬(a = 0 ∧ (j = 12 ∨ j = 38)) → zst k2 0 38 (nI c) a j = k' a j := fun a j q r => by
      rw [q_st]
      by_cases z : a = 0
      · rw [if_pos z, if_neg (by omega), z]; exact k2o 0 j (by omega) (by omega)
      · rw [if_neg z]; exact k2o a j q (by omega)
    have lo : ∀ a j, ¬(a = 0 ∧ (j = 0 ∨ j = 38 ∨ (12 ≤ j ∧ j ≤ 16) ∨ (25 ≤ j ∧ j ≤ 33))) → ¬(10 ≤ a ∧ a ≤ 13 ∧ 32 ≤ j) → ¬((a = 14 ∨ a = 15) ∧ 800 ≤ j) → a ≠ 16 → ¬(a = 17 ∧ 64 ≤ j) → ¬(a = 18 ∧ 48 ≤ j) → a ≠ 19 → zst k2 0 38 (nI c) a j = k a j := fun a j q1 q2 q3 q4 q5 q6 q7 => (k3o a j (by omega) (by omega)).trans (tf.2.2 a j (by omega) q2 q3 q4 q5 q6 (by omega))
    refine ⟨nI c, h2, zst k2 0 38 (nI c), ?_, ?_, ?_⟩
    · unfold f_X10_text
      rw [eX, x1, q_bd]
      dsimp only
      rw [if_neg nm]
      unfold f_X9_learn
      rw [if_neg (show ¬ nI 3 = (0 : Int32) by decide), if_neg (show ¬ nI 3 = (1 : Int32) by decide), if_neg (show ¬ nI 3 = (2 : Int32) by decide), b1, q_bd, q_bd, if_neg (show ¬ nI 3 = (1 : Int32) by decide), if_neg (show ¬ nI 3 = (2 : Int32) by decide)]
    · rw [eM, x2, q_bd]
      dsimp only
      rw [if_neg nm]
      unfold f_X11_text_69
      rw [q_lt, if_neg nm, if_neg (show ¬ nI 3 = (0 : Int32) by decide), show nI 3 = (3 : Int32) from rfl, d1, q_bd]
    · obtain ⟨C0, P0, ⟨v1, v2⟩, ⟨-, f3⟩, -, hl, ⟨m, m1, m2⟩, ⟨q, q1, q2⟩, -, -⟩ := id R.1
      have uC : ∀ {C' P'}, qCh k C' P' → C' ≤ 10 → P' ≤ 14 → C' = C ∧ P' = P := fun w z1 z2 => ⟨(nI_eq (by omega) (by omega)).mp (w.1.symm.trans w1), (nI_eq (by omega) (by omega)).mp (w.2.symm.trans w2)⟩
      obtain ⟨rfl, rfl⟩ := uC ⟨v1, v2⟩ f3.1 f3.2.1
      refine qRel_tx R (fun a z1 z2 z3 => h2o a (by omega) z2) (by rw [h2o 79 (by omega) (by omega)]) (fun a z => funext fun j => lo a j (by omega) (by omega) (by omega) (by omega) (by omega) (by omega) (by omega)) (fun j z => lo 0 j (by omega) (by omega) (by omega) (by omega) (by omega) (by omega) (by omega)) (Or.inl ⟨by rw [h2o 79 (by omega) (by omega)], lo 0 3 (by omega) (by omega) (by omega) (by omega) (by omega) (by omega) (by omega)⟩) (qLaw_c2 (fun a z1 z2 => h2o a (by omega) (by omega)) (fun a j z => lo a j (by omega) (by omega) (by omega) (by omega) (by omega) (by omega) (by omega)) hl) (fun C' P' w z1 z2 => ⟨m, (lo 0 34 (by omega) (by omega) (by omega) (by omega) (by omega) (by omega) (by omega)).trans m1, ?_⟩) (fun C' P' w z1 z2 => ⟨q, (lo 0 36 (by omega) (by omega) (by omega) (by omega) (by omega) (by omega) (by omega)).trans q1, ?_⟩) (fun C' P' w z1 z2 => ?_) ⟨?_, ?_⟩ ?_ ?_ ?_
      · obtain ⟨rfl, rfl⟩ := uC w z1 z2
        exact qCalls_c (h2o 20 (by omega) (by omega)) (h2o 21 (by omega) (by omega)) (fun i hi => lo 17 i (by omega) (by omega) (by omega) (by omega) (by omega) (by omega) (by omega)) m2
      · obtain ⟨rfl, rfl⟩ := uC w z1 z2
        exact qHouse_c (h2o 22 (by omega) (by omega)) (h2o 23 (by omega) (by omega)) (fun i hi => lo 18 i (by omega) (by omega) (by omega) (by omega) (by omega) (by omega) (by omega)) q2
      · obtain ⟨rfl, rfl⟩ := uC w z1 z2
        have h20 : h' 24 0 = 16 := by
          rw [tf.1 24 (by omega)]
          obtain ⟨_, _, -, -, -, -, -, -, ⟨_, -, o1, -⟩, -⟩ := R.1
          exact o1
        have h21 : ∀ i, i < 64 → h2 25 i = h' 158 i := fun i hi => by rw [b3 i hi, q_st_c (by omega)]
        have k17 : ∀ i, i < 14 → zst k2 0 38 (nI c) 19 i = k' 19 (14 + i) := fun i hi => by rw [q_st_c (by omega), d2 i hi, q_st_c (by omega)]
        refine ⟨c, q_st_s, by rw [b5 0 (by omega), q_st_c (by omega)]; exact h20, by rw [b4, q_st_c (by omega)]; exact x5, hc, fun i hi => ?_, fun p hp => ?_⟩
        · obtain ⟨u, v, r1, r2, r3, r4⟩ := Row.1 i hi
          exact ⟨u, v, r1, r2, by rw [h21 _ (by omega)]; exact r3, by rw [h21 _ (by omega)]; exact r4⟩
        · rw [k17 p hp, Row.2 p hp]
          exact (qMind_c c (fun j hj => h21 j (by omega))).symm
      · rw [b2 145 (by omega) (by omega), q_st_s]
      · rw [q_st_i (by omega), d3 0 12 (by omega), q_st_s]
      · rw [b2 157 (by omega) (by omega), q_st_c (by omega)]; exact tf.2.1
      · rw [b2 145 (by omega) (by omega), q_st_i (by omega), x3, k3o 0 32 (by omega) (by omega), M 0 32 (by omega) (by omega)]; exact m32.symm
      · rw [b2 145 (by omega) (by omega), q_st_i (by omega), x4, k3o 0 33 (by omega) (by omega), M 0 33 (by omega) (by omega), L.1.2.2.2.1.2]; exact m33.symm
  · obtain ⟨k'', g1, g2⟩ := q_textBad R tf B (nI 3)
    refine ⟨-1, zst h' 145 1 0, k'', ?_, ?_, g2⟩
    · unfold f_X10_text
      rw [eX, x1, q_bd]; rfl
    · rw [eM, x2, q_bd]; exact g1
end Qtkin
