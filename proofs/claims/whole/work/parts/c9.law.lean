/-! A TEXT of THE LAW -/
section Qtlaw
theorem q_text0 {h k : zHp} (R : qRel h k) : qCall (f_X10_text (nI 0) h) (f_X11_text (nI 0) k) := by
  obtain ⟨t, n, T, C, P, h7, k7, c10, p14, p9, p10, w1, w2, rX, rM, L, a7, a27, a1, a0, a8, a9, a6, a77, F1, F2, F3, m25, m32, m33⟩ := q_start R
  have eX := rX 0 (by omega)
  have eM := rM 0 (by omega)
  rw [if_neg (by decide), if_neg (by decide), if_neg (by decide)] at eM
  obtain ⟨h', k', X, M, out⟩ := q_readLaw L a7 a27
  have tf : qyTf h k h' k' := ⟨fun a q => (X.1 a (by omega) (by omega)).trans (F1 a q), by rw [X.1 157 (by omega) (by omega)]; exact a0, fun a j q1 q2 q3 q4 q5 q6 q7 => (M a j (by omega) q3 q4 q2).trans (F3 a j (by omega))⟩
  rcases out with ⟨c, s, hc, hs, x1, x2, x3, x4, x5, Co, Row⟩ | ⟨x1, x2, B⟩
  · have nm : ¬ nI c = -1 := q_nMc c hc
    obtain ⟨h2, b1, b2, b3, b4, b5, b6⟩ := q_copy1 (h := zst h' 145 1 0) (o := 13) (b := 150) (by omega)
    obtain ⟨k2, d1, d2, d3, d4, d5⟩ := q_takeL (zst k' 0 12 0) hc hs (by rw [q_st_i (by omega), M 0 25 (by omega) (by omega) (by omega) (by omega)]; exact m25) (by rw [q_st_i (by omega)]; exact Co.2.1)
    have h2o : ∀ a, ¬(13 ≤ a ∧ a ≤ 18) → ¬(145 ≤ a ∧ a ≤ 158) → h2 a = h a := fun a q r => by rw [b2 a (by omega), q_st_c (by omega)]; exact tf.1 a r
    have k2o : ∀ a j, ¬(a = 9 ∧ j = 0) → ¬(10 ≤ a ∧ a ≤ 13 ∧ j < c) → ¬((a = 14 ∨ a = 15) ∧ j < s) → ¬(a = 0 ∧ j = 12) → k2 a j = k' a j := fun a j q1 q2 q3 q4 => by
      rw [d5 a j q1 q2 q3, q_st]
      by_cases z : a = 0
      · rw [if_pos z, if_neg (by omega), z]
      · rw [if_neg z]
    have lo : ∀ a j, ¬(a = 0 ∧ (j = 0 ∨ (12 ≤ j ∧ j ≤ 16) ∨ (25 ≤ j ∧ j ≤ 33))) → ¬(9 ≤ a ∧ a ≤ 16) → ¬(a = 17 ∧ 64 ≤ j) → ¬(a = 18 ∧ 48 ≤ j) → ¬(a = 19 ∧ 14 ≤ j) → k2 a j = k a j := fun a j q1 q2 q3 q4 q5 => (k2o a j (by omega) (by omega) (by omega) (by omega)).trans (tf.2.2 a j q1 (by omega) (by omega) (by omega) q3 q4 q5)
    refine ⟨nI c, h2, k2, ?_, ?_, ?_⟩
    · unfold f_X10_text
      rw [eX, x1, q_bd]
      dsimp only
      rw [if_neg nm]
      unfold f_X9_learn
      rw [if_pos (show nI 0 = (0 : Int32) from rfl), b1, q_bd, q_bd, if_neg (show ¬ nI 0 = (1 : Int32) by decide), if_neg (show ¬ nI 0 = (2 : Int32) by decide)]
    · rw [eM, x2, q_bd]
      dsimp only
      rw [if_neg nm]
      unfold f_X11_text_69
      rw [q_lt, if_neg nm, if_pos (show nI 0 = (0 : Int32) from rfl), d1, q_bd]
    · obtain ⟨C0, P0, ⟨v1, v2⟩, ⟨-, f3⟩, -, hl, ⟨m, m1, m2⟩, ⟨q, q1, q2⟩, ⟨r, r1, r2⟩, -⟩ := id R.1
      have uC : ∀ {C' P'}, qCh k C' P' → C' ≤ 10 → P' ≤ 14 → C' = C ∧ P' = P := fun w z1 z2 => ⟨(nI_eq (by omega) (by omega)).mp (w.1.symm.trans w1), (nI_eq (by omega) (by omega)).mp (w.2.symm.trans w2)⟩
      obtain ⟨rfl, rfl⟩ := uC ⟨v1, v2⟩ f3.1 f3.2.1
      refine qRel_tx R (fun a z1 z2 z3 => h2o a (by omega) z2) (by rw [h2o 79 (by omega) (by omega)]) (fun a z => funext fun j => lo a j (by omega) (by omega) (by omega) (by omega) (by omega)) (fun j z => lo 0 j (by omega) (by omega) (by omega) (by omega) (by omega)) (Or.inl ⟨by rw [h2o 79 (by omega) (by omega)], lo 0 3 (by omega) (by omega) (by omega) (by omega) (by omega)⟩) ?_ (fun C' P' w z1 z2 => ⟨m, (lo 0 34 (by omega) (by omega) (by omega) (by omega) (by omega)).trans m1, ?_⟩) (fun C' P' w z1 z2 => ⟨q, (lo 0 36 (by omega) (by omega) (by omega) (by omega) (by omega)).trans q1, ?_⟩) (fun C' P' w z1 z2 => ⟨r, (lo 0 38 (by omega) (by omega) (by omega) (by omega) (by omega)).trans r1, ?_⟩) ⟨?_, ?_⟩ ?_ ?_ ?_
      · have hx : ∀ j i, 1 ≤ j → j ≤ 4 → i < 16 → h2 (13 + j) i = h' (150 + j) i := fun j i p1 p2 p3 => by rw [b3 j i p1 p2 p3, q_st_c (by omega)]
        have kx : ∀ a i, 10 ≤ a → a ≤ 13 → i < c → k2 a i = k' a (32 + i) := fun a i p1 p2 p3 => by rw [d3 a i p1 p2 p3, q_st_c (by omega)]
        have kc : ∀ a i, a = 14 ∨ a = 15 → i < s → k2 a i = k' a (800 + i) := fun a i p1 p3 => by rw [d4 a i p1 p3, q_st_c (by omega)]
        refine ⟨c, s, hc, hs, by rw [b6, q_st_c (by omega)]; exact x5, d2, fun i hi => by rw [b4 i (by omega), q_st_c (by omega), kc 14 i (by omega) hi, kc 15 i (by omega) hi]; exact Co.2.2 i hi, fun i hi => ?_⟩
        obtain ⟨wd, u, v, w, y1, y2, y3, y4, y5, y6, y7, y8, y9, y10, y11, y12⟩ := Row i hi
        have uv : u ≤ v := y11.1
        have vw : v ≤ w := by rcases y12 with z | z; omega; exact z.1
        refine ⟨wd, u, v, w, y1, y11.1, vw, y2, by rw [hx 1 i (by omega) (by omega) (by omega)]; exact y3, by rw [kx 10 i (by omega) (by omega) hi]; exact y4, by rw [hx 2 i (by omega) (by omega) (by omega)]; exact y5, by rw [kx 11 i (by omega) (by omega) hi]; exact y6, by rw [hx 3 i (by omega) (by omega) (by omega)]; exact y7, by rw [kx 12 i (by omega) (by omega) hi]; exact y8, by rw [hx 4 i (by omega) (by omega) (by omega)]; exact y9, by rw [kx 13 i (by omega) (by omega) hi]; exact y10, ?_, ?_⟩
        · rw [← y11.2]
          exact qTy_c _ _ _ (fun j _ hj => ⟨kc 14 j (by omega) (by omega), kc 15 j (by omega) (by omega)⟩)
        · rcases y12 with z | z
          · exact Or.inl z
          · refine Or.inr ?_
            rw [← z.2]
            exact qTy_c _ _ _ (fun j _ hj => ⟨kc 14 j (by omega) (by omega), kc 15 j (by omega) (by omega)⟩)
      · obtain ⟨rfl, rfl⟩ := uC w z1 z2
        exact qCalls_c (h2o 20 (by omega) (by omega)) (h2o 21 (by omega) (by omega)) (fun i hi => lo 17 i (by omega) (by omega) (by omega) (by omega) (by omega)) m2
      · obtain ⟨rfl, rfl⟩ := uC w z1 z2
        exact qHouse_c (h2o 22 (by omega) (by omega)) (h2o 23 (by omega) (by omega)) (fun i hi => lo 18 i (by omega) (by omega) (by omega) (by omega) (by omega)) q2
      · obtain ⟨rfl, rfl⟩ := uC w z1 z2
        exact qKin_c z2 (h2o 24 (by omega) (by omega)) (h2o 25 (by omega) (by omega)) (fun i hi => lo 19 i (by omega) (by omega) (by omega) (by omega) (by omega)) r2
      · rw [b2 145 (by omega), q_st_s]
      · rw [d5 0 12 (by omega) (by omega) (by omega), q_st_s]
      · rw [b2 157 (by omega), q_st_c (by omega)]; exact tf.2.1
      · rw [b2 145 (by omega), q_st_i (by omega), x3, k2o 0 32 (by omega) (by omega) (by omega) (by omega), M 0 32 (by omega) (by omega) (by omega) (by omega)]; exact m32.symm
      · rw [b2 145 (by omega), q_st_i (by omega), x4, k2o 0 33 (by omega) (by omega) (by omega) (by omega), M 0 33 (by omega) (by omega) (by omega) (by omega), L.1.2.2.2.1.2]; exact m33.symm
  · obtain ⟨k'', g1, g2⟩ := q_textBad R tf B (nI 0)
    refine ⟨-1, zst h' 145 1 0, k'', ?_, ?_, g2⟩
    · unfold f_X10_text
      rw [eX, x1, q_bd]; rfl
    · rw [eM, x2, q_bd]; exact g1
theorem q_call_text {h k : zHp} (R : qRel h k) (a : Int32) : qCall (f_X10_text a h) (f_X11_text a k) := by
  rcases q_rng 0 3 a (by omega) with o | ⟨j, -, hj, rfl⟩
  · exact q_textUnk R o
  · rcases (show j = 0 ∨ j = 1 ∨ j = 2 ∨ j = 3 by omega) with z | z | z | z <;> subst z
    · exact q_text0 R
    · exact q_text1 R
    · exact q_text2 R
    · exact q_text3 R
end Qtlaw
