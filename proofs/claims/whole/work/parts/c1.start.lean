/-! A TEXT: both at its first token -/
section Qstart
theorem q_start {h k : zHp} (R : qRel h k) : ∃ t n T C P h7 k7, C ≤ 10 ∧ P ≤ 14 ∧ h 2 9 = nI C ∧ h 2 10 = nI P ∧ k 0 6 = nI C ∧ k 0 7 = nI P ∧
    (∀ kd, kd < 4 → f_X6_read (nI kd) (h 2 9) (h 2 10) h = f_X6_read_63_lp zN (nI kd, 1, nI 0, h7)) ∧
    (∀ kd, kd < 4 → f_X11_text (nI kd) k = (if kd = 1 then f_X11_readCalls k7 else if kd = 2 then f_X11_readHouse k7 else if kd = 3 then f_X11_readKin k7 else f_X11_readLaw k7).bind fun x8 => (if x8.1 = (-1 : Int32) then f_X11_text_69 (nI kd) x8.1 (zst (zst x8.2 0 32 (x8.2 0 30)) 0 33 ((zst x8.2 0 32 (x8.2 0 30)) 0 31)) else f_X11_text_69 (nI kd) x8.1 x8.2)) ∧
    qyL h7 k7 t n T 0 0 ∧ h7 150 7 = nI 0 ∧ k7 0 27 = nI 0 ∧ h7 157 2 = nI 0 ∧ h7 157 0 = 16 ∧ h7 145 8 = nI C ∧ h7 145 9 = nI P ∧ k7 0 6 = nI C ∧ k7 0 7 = nI P ∧
    (∀ a, ¬(145 ≤ a ∧ a ≤ 158) → h7 a = h a) ∧ h7 146 = h 146 ∧
    (∀ a j, ¬(a = 0 ∧ (j = 0 ∨ (13 ≤ j ∧ j ≤ 16) ∨ (25 ≤ j ∧ j ≤ 27) ∨ j = 32 ∨ j = 33)) → k7 a j = k a j) ∧ k7 0 25 = 0 ∧ k7 0 32 = 0 ∧ k7 0 33 = -1 := by
  obtain ⟨⟨C, P, ⟨w1, w2⟩, ⟨⟨p9, p10, -⟩, ⟨c10, p14, -⟩⟩, -⟩, -, ⟨n, n4, t1, t2, t3⟩, ⟨-, -, x3, -, x5, -, -⟩, -⟩ := id R
  have z0 : (0 : Int32) = nI 0 := rfl
  have htp : ∀ i, i < n → ∃ b, b < 256 ∧ h 146 i = nI b ∧ k 7 i = nI b ∧ (h 146 i).toNatClampNeg = b := fun i hi => by
    obtain ⟨b, b1, b2, b3⟩ := t3 i hi
    exact ⟨b, b1, b2, b3, by rw [b2, q_cl (by omega)]⟩
  obtain ⟨t, ht⟩ : ∃ t : Nat → Nat, t = fun i => (h 146 i).toNatClampNeg := ⟨_, rfl⟩
  have tt : ∀ i, i < n → t i < 256 ∧ h 146 i = nI (t i) ∧ k 7 i = nI (t i) := fun i hi => by
    obtain ⟨b, b1, b2, b3, b4⟩ := htp i hi
    have e : t i = b := by rw [ht]; exact b4
    rw [e]; exact ⟨b1, b2, b3⟩
  -- the class
  obtain ⟨h6, e6⟩ : ∃ h6, h6 = zst (zst (zst (zst (zst (zst (zst h 145 12 0) 145 13 (-1)) 150 7 0) 150 6 0) 157 2 0) 145 8 (nI C)) 145 9 (nI P) := ⟨_, rfl⟩
  have f6 : ∀ a, a ≠ 145 → a ≠ 150 → a ≠ 157 → h6 a = h a := fun a p q r => by rw [e6, q_st_c p, q_st_c p, q_st_c r, q_st_c q, q_st_c q, q_st_c p, q_st_c p]
  have g1 : h6 145 1 = h 145 1 := by rw [e6, q_st_i (by omega), q_st_i (by omega), q_st_c (by omega), q_st_c (by omega), q_st_c (by omega), q_st_i (by omega), q_st_i (by omega)]
  have g8 : h6 145 8 = nI C := by rw [e6, q_st_i (by omega), q_st_s]
  have g9 : h6 145 9 = nI P := by rw [e6, q_st_s]
  have g12 : h6 145 12 = 0 := by rw [e6, q_st_i (by omega), q_st_i (by omega), q_st_c (by omega), q_st_c (by omega), q_st_c (by omega), q_st_i (by omega), q_st_s]
  have g13 : h6 145 13 = -1 := by rw [e6, q_st_i (by omega), q_st_i (by omega), q_st_c (by omega), q_st_c (by omega), q_st_c (by omega), q_st_s]
  have g157 : h6 157 2 = 0 ∧ h6 157 0 = 16 := by
    refine ⟨?_, ?_⟩
    · rw [e6, q_st_c (by omega), q_st_c (by omega), q_st_s]
    · rw [e6, q_st_c (by omega), q_st_c (by omega), q_st_i (by omega), q_st_c (by omega), q_st_c (by omega), q_st_c (by omega), q_st_c (by omega)]; exact x3
  have g150 : h6 150 7 = 0 ∧ h6 150 6 = 0 := by
    refine ⟨?_, ?_⟩
    · rw [e6, q_st_c (by omega), q_st_c (by omega), q_st_c (by omega), q_st_i (by omega), q_st_s]
    · rw [e6, q_st_c (by omega), q_st_c (by omega), q_st_c (by omega), q_st_s]
  obtain ⟨T, h7, s1, s2, s3, s4, s5⟩ := q_split (h := h6) (t := t) (n := n) ⟨n4, g1.trans t1, fun i hi => ⟨(tt i hi).1, by rw [f6 146 (by omega) (by omega) (by omega)]; exact (tt i hi).2.1⟩⟩
  -- the reference
  obtain ⟨k6, ek6⟩ : ∃ k6, k6 = zst (zst (zst (zst (zst (zst (zst k 0 0 0) 0 32 0) 0 33 (-1)) 0 13 0) 0 26 0) 0 27 0) 0 25 0 := ⟨_, rfl⟩
  have fk : ∀ a j, ¬(a = 0 ∧ (j = 0 ∨ j = 13 ∨ (25 ≤ j ∧ j ≤ 27) ∨ j = 32 ∨ j = 33)) → k6 a j = k a j := fun a j q => by
    rw [ek6]
    by_cases z : a = 0
    · rw [z, q_st_i (by omega), q_st_i (by omega), q_st_i (by omega), q_st_i (by omega), q_st_i (by omega), q_st_i (by omega), q_st_i (by omega)]
    · rw [q_st_c z, q_st_c z, q_st_c z, q_st_c z, q_st_c z, q_st_c z, q_st_c z]
  have m13 : k6 0 13 = nI 0 := by rw [ek6, q_st_i (by omega), q_st_i (by omega), q_st_i (by omega), q_st_s]; rfl
  have m25 : k6 0 25 = 0 := by rw [ek6, q_st_s]
  have m26 : k6 0 26 = nI 0 := by rw [ek6, q_st_i (by omega), q_st_i (by omega), q_st_s]; rfl
  have m27 : k6 0 27 = nI 0 := by rw [ek6, q_st_i (by omega), q_st_s]; rfl
  have m32 : k6 0 32 = 0 := by rw [ek6, q_st_i (by omega), q_st_i (by omega), q_st_i (by omega), q_st_i (by omega), q_st_i (by omega), q_st_s]
  have m33 : k6 0 33 = -1 := by rw [ek6, q_st_i (by omega), q_st_i (by omega), q_st_i (by omega), q_st_i (by omega), q_st_s]
  have M6 : qyTapeM k6 t n := ⟨n4, (fk 0 12 (by omega)).trans t2, fun i hi => ⟨(tt i hi).1, by rw [fk 7 i (by omega)]; exact (tt i hi).2.2⟩, fun i hi => by rw [fk 8 i (by omega)]; exact x5 i hi⟩
  obtain ⟨k7, r1, r2, r3, r4, r5⟩ := q_reads M6 (Nat.zero_le n) m13
  have co : qyCo h7 k7 0 := ⟨by rw [s3.1 150 (by omega) (by omega) (by omega) (by omega)]; exact g150.2, by rw [r2 0 26 (by omega)]; exact m26, fun i hi => absurd hi (Nat.not_lt_zero i)⟩
  refine ⟨t, n, T, C, P, h7, k7, c10, p14, p9, p10, w1, w2, fun kd hk => ?_, fun kd hk => ?_, ⟨⟨Nat.zero_le T, s4, s5, ⟨by rw [s3.2 12 (by omega) (by omega) (by omega)]; exact g12, by rw [s3.2 13 (by omega) (by omega) (by omega)]; exact g13⟩, s2, qyTapeM_c M6 r2, r3, r4, r5⟩, co⟩, by rw [s3.1 150 (by omega) (by omega) (by omega) (by omega)]; exact g150.1, by rw [r2 0 27 (by omega)]; exact m27, by rw [s3.1 157 (by omega) (by omega) (by omega) (by omega)]; exact g157.1, by rw [s3.1 157 (by omega) (by omega) (by omega) (by omega)]; exact g157.2, by rw [s3.2 8 (by omega) (by omega) (by omega)]; exact g8, by rw [s3.2 9 (by omega) (by omega) (by omega)]; exact g9, by rw [r2 0 6 (by omega), fk 0 6 (by omega)]; exact w1, by rw [r2 0 7 (by omega), fk 0 7 (by omega)]; exact w2, fun a q => by rw [s3.1 a (by omega) (by omega) (by omega) (by omega), f6 a (by omega) (by omega) (by omega)], by rw [s3.1 146 (by omega) (by omega) (by omega) (by omega), f6 146 (by omega) (by omega) (by omega)], fun a j q => by rw [r2 a j (by omega), fk a j (by omega)], by rw [r2 0 25 (by omega)]; exact m25, by rw [r2 0 32 (by omega)]; exact m32, by rw [r2 0 33 (by omega)]; exact m33⟩
  · unfold f_X6_read f_X1_clear
    rw [p9, p10, q_lt, q_lt, q_lt, q_lt, q_bd, q_lt, q_lt, q_lt, ← e6]
    have e49 : f_X6_read_49 (nI kd) 1 h6 = f_X6_read_63_lp zN (nI kd, 1, nI 0, h7) := by
      unfold f_X6_read_49
      rw [if_neg (show ¬ (1 : Int32) = 0 by decide), s1, q_bd]; rfl
    rw [if_neg (show ¬ nI kd < (0 : Int32) from qnR 0 (Nat.zero_le kd) (by omega)), if_neg (show ¬ (3 : Int32) < nI kd from qnL 3 (by omega) (by omega))]
    exact e49
  · unfold f_X11_text
    rw [q_lt, q_lt, q_lt, q_lt, q_lt, q_lt, show (3 : Int32) = nI 3 from rfl]
    have ein : ∀ kk, f_X11_isIn (nI kd) 0 (nI 3) kk = some (nI 1, kk) := fun kk => by
      rw [z0]; exact q_inI (Nat.zero_le kd) (show kd ≤ 3 by omega) (by omega)
    rw [ein, q_bd]
    dsimp only
    rw [if_neg (show ¬ nI 1 = 0 by decide)]
    unfold f_X11_readsText
    rw [q_lt, ← ek6, r1, q_bd]
    have bs : ∀ x : Option (Int32 × zHp), (x.bind fun y => some (y.1, y.2)) = x := fun x => by cases x <;> rfl
    rw [bs, bs, bs, bs]
    have br : (if nI kd = 1 then f_X11_readCalls k7 else if nI kd = 2 then f_X11_readHouse k7 else if nI kd = 3 then f_X11_readKin k7 else f_X11_readLaw k7) = (if kd = 1 then f_X11_readCalls k7 else if kd = 2 then f_X11_readHouse k7 else if kd = 3 then f_X11_readKin k7 else f_X11_readLaw k7) := by
      rcases (show kd = 0 ∨ kd = 1 ∨ kd = 2 ∨ kd = 3 by omega) with z | z | z | z <;> subst z <;> rfl
    rw [br]
    rfl
end Qstart
