/-! A TEXT that is not taken -/
section Qbadtext
/-- what reading a text leaves -/
def qyTf (h k h' k' : zHp) : Prop := (∀ a, ¬(145 ≤ a ∧ a ≤ 158) → h' a = h a) ∧ h' 157 0 = 16 ∧ ∀ a j, ¬(a = 0 ∧ (j = 0 ∨ (12 ≤ j ∧ j ≤ 16) ∨ (25 ≤ j ∧ j ≤ 33))) → ¬(10 ≤ a ∧ a ≤ 13 ∧ 32 ≤ j) → ¬((a = 14 ∨ a = 15) ∧ 800 ≤ j) → a ≠ 16 → ¬(a = 17 ∧ 64 ≤ j) → ¬(a = 18 ∧ 48 ≤ j) → ¬(a = 19 ∧ 14 ≤ j) → k' a j = k a j
theorem qRel_tf {h k h' k' : zHp} (R : qRel h k) (F : qyTf h k h' k') (T : h' 145 1 = 0 ∧ k' 0 12 = 0) (g1 : h' 145 12 = k' 0 32) (g2 : h' 145 13 = k' 0 33) : qRel h' k' := by
  obtain ⟨e, g0, f⟩ := F
  exact qRel_tx0 R e (fun a z => funext fun j => f a j (by omega) (by omega) (by omega) (by omega) (by omega) (by omega) (by omega)) (fun j z => f 0 j (by omega) (by omega) (by omega) (by omega) (by omega) (by omega) (by omega)) (fun a j z => f a j (by omega) (by omega) (by omega) (by omega) (by omega) (by omega) (by omega)) T g0 g1 g2
theorem qyTf_x {h k h' k' : zHp} (F : qyTf h k h' k') (v : Int32) (j : Nat) : qyTf h k (zst h' 145 j v) k' := ⟨fun a q => by rw [q_st_c (by omega)]; exact F.1 a q, by rw [q_st_c (by omega)]; exact F.2.1, F.2.2⟩
theorem qyTf_m {h k h' k' : zHp} (F : qyTf h k h' k') (v : Int32) {j : Nat} (hj : j = 0 ∨ (12 ≤ j ∧ j ≤ 16) ∨ (25 ≤ j ∧ j ≤ 33)) : qyTf h k h' (zst k' 0 j v) := ⟨F.1, F.2.1, fun a i q1 q2 q3 q4 q5 q6 q7 => by
  rw [q_st]
  by_cases z : a = 0
  · rw [if_pos z, if_neg (by omega)]; exact F.2.2 a i q1 q2 q3 q4 q5 q6 q7
  · rw [if_neg z]; exact F.2.2 a i q1 q2 q3 q4 q5 q6 q7⟩
theorem q_textBad {h k h' k' : zHp} (R : qRel h k) (F : qyTf h k h' k') (B : qyBad h' k') (v1 : Int32) : ∃ k'', f_X11_text_69 v1 (-1) (zst (zst k' 0 32 (k' 0 30)) 0 33 ((zst k' 0 32 (k' 0 30)) 0 31)) = some (-1, k'') ∧ qRel (zst h' 145 1 0) k'' := by
  obtain ⟨f, f0, f1, f2, f3, f4⟩ := B
  refine ⟨_, by unfold f_X11_text_69; rw [q_lt, if_pos rfl], ?_⟩
  refine qRel_tf R (qyTf_m (qyTf_m (qyTf_m (qyTf_x F 0 1) (k' 0 30) (by omega)) _ (by omega)) 0 (by omega)) ⟨q_st_s, q_st_s⟩ ?_ ?_
  · rw [q_st_i (by omega), q_st_i (by omega), q_st_i (by omega), q_st_s, f2, f3]
  · rw [q_st_i (by omega), q_st_i (by omega), q_st_s, q_st_i (by omega)]; exact f4
theorem q_textUnk {h k : zHp} (R : qRel h k) {a : Int32} (o : qOut 0 3 a) : qCall (f_X10_text a h) (f_X11_text a k) := by
  obtain ⟨⟨C, P, ⟨w1, w2⟩, ⟨⟨p9, p10, -⟩, -⟩, -⟩, -, -, ⟨-, -, x3, -, -, -, -⟩, -⟩ := id R
  have z0 : (0 : Int32) = nI 0 := rfl
  obtain ⟨h6, e6⟩ : ∃ h6, h6 = zst (zst (zst (zst (zst (zst (zst h 145 12 0) 145 13 (-1)) 150 7 0) 150 6 0) 157 2 0) 145 8 (h 2 9)) 145 9 (h 2 10) := ⟨_, rfl⟩
  obtain ⟨k6, ek6⟩ : ∃ k6, k6 = zst (zst (zst (zst (zst (zst k 0 0 0) 0 32 0) 0 33 (-1)) 0 13 0) 0 26 0) 0 27 0 := ⟨_, rfl⟩
  have F : qyTf h k h6 k6 := by
    rw [ek6]
    refine qyTf_m (qyTf_m (qyTf_m (qyTf_m (qyTf_m (qyTf_m ⟨fun b q => ?_, ?_, fun _ _ _ _ _ _ _ _ _ => rfl⟩ 0 (by omega)) 0 (by omega)) _ (by omega)) 0 (by omega)) 0 (by omega)) 0 (by omega)
    · rw [e6, q_st_c (by omega), q_st_c (by omega), q_st_c (by omega), q_st_c (by omega), q_st_c (by omega), q_st_c (by omega), q_st_c (by omega)]
    · rw [e6, q_st_c (by omega), q_st_c (by omega), q_st_i (by omega), q_st_c (by omega), q_st_c (by omega), q_st_c (by omega), q_st_c (by omega)]; exact x3
  have rd : f_X6_read a (h 2 9) (h 2 10) h = some (-1, zst h6 145 1 0) := by
    have e49 : f_X6_read_49 a 0 h6 = some (-1, zst h6 145 1 0) := by
      unfold f_X6_read_49 f_X6_read_147
      rw [if_pos (show (0 : Int32) = 0 from rfl), q_lt, if_pos (show (0 : Int32) = 0 from rfl)]
    unfold f_X6_read f_X1_clear
    rw [q_lt, q_lt, q_lt, q_lt, q_bd, q_lt, q_lt, q_lt, ← e6]
    rcases o with z | z
    · rw [if_pos (show a < (0 : Int32) from z)]; exact e49
    · by_cases y : a < (0 : Int32)
      · rw [if_pos y]; exact e49
      · rw [if_neg y, if_pos (show (3 : Int32) < a from z)]; exact e49
  have rm : f_X11_text a k = some (-1, zst k6 0 12 0) := by
    unfold f_X11_text
    rw [q_lt, q_lt, q_lt, q_lt, q_lt, q_lt, ← ek6, show (3 : Int32) = nI 3 from rfl]
    have ein : f_X11_isIn a 0 (nI 3) k6 = some (nI 0, k6) := by
      rw [z0]; exact q_inO o
    rw [ein, q_bd]
    dsimp only
    rw [if_pos (show nI 0 = 0 from rfl)]
    unfold f_X11_text_69
    rw [q_lt, if_pos rfl]
  refine ⟨-1, zst h6 145 1 0, zst k6 0 12 0, ?_, rm, qRel_tf R (qyTf_m (qyTf_x F 0 1) 0 (by omega)) ⟨q_st_s, q_st_s⟩ ?_ ?_⟩
  · unfold f_X10_text
    rw [rd, q_bd]; rfl
  · rw [q_st_i (by omega), q_st_i (by omega), e6, ek6, q_st_i (by omega), q_st_i (by omega), q_st_c (by omega), q_st_c (by omega), q_st_c (by omega), q_st_i (by omega), q_st_s, q_st_i (by omega), q_st_i (by omega), q_st_i (by omega), q_st_i (by omega), q_st_s]
  · rw [q_st_i (by omega), q_st_i (by omega), e6, ek6, q_st_i (by omega), q_st_i (by omega), q_st_c (by omega), q_st_c (by omega), q_st_c (by omega), q_st_s, q_st_i (by omega), q_st_i (by omega), q_st_i (by omega), q_st_s]
end Qbadtext
