/-! TICKS, both sides -/
section Qticks2
def qPer (mm : Nat → Nat) : Nat → Nat
  | 0 => 1
  | i + 1 => Nat.lcm (qPer mm i) (mm i)
theorem qPer_dvd {mm : Nat → Nat} {n : Nat} (hm : ∀ i, i < n → 1 ≤ mm i ∧ mm i ≤ 12) : ∀ i, i ≤ n → qPer mm i ∣ 27720 ∧ 0 < qPer mm i
  | 0, _ => ⟨Nat.one_dvd _, Nat.one_pos⟩
  | i + 1, hi => by
    obtain ⟨h1, h2⟩ := qPer_dvd hm i (by omega)
    obtain ⟨h3, h4⟩ := hm i (by omega)
    have h5 : ∀ m, m < 13 → 1 ≤ m → m ∣ 27720 := by decide
    exact ⟨Nat.lcm_dvd h1 (h5 _ (by omega) h3), Nat.lcm_pos h2 h3⟩
theorem qPer_le {mm : Nat → Nat} {n : Nat} (hm : ∀ i, i < n → 1 ≤ mm i ∧ mm i ≤ 12) (i : Nat) (hi : i ≤ n) : qPer mm i ≤ 27720 := Nat.le_of_dvd (by decide) (qPer_dvd hm i hi).1
theorem qPer_mm {mm : Nat → Nat} : ∀ i j, j < i → mm j ∣ qPer mm i
  | 0, j, h => by omega
  | i + 1, j, h => by
    rcases Nat.lt_or_ge j i with q | q
    · exact Nat.dvd_trans (qPer_mm i j q) (Nat.dvd_lcm_left _ _)
    · have : j = i := by omega
      rw [this]; exact Nat.dvd_lcm_right _ _
/-- what n ticks come to -/
def qTk (mm rr : Nat → Nat) (n : Nat) (a : Int32) (h : zHp) (r : Option (Int32 × zHp)) : Prop :=
  (∃ t, qMeet mm rr n (qPer mm n) t ∧ r = some ((if a = 0 then nI t else nI (qPer mm n)), h)) ∨ ((∀ t', ¬ qSat mm rr n t') ∧ r = some (-1, h))
theorem qTk_one {mm rr : Nat → Nat} {n : Nat} {a : Int32} {h k : zHp} {x y : Option (Int32 × zHp)} (H : qTk mm rr n a h x) (H' : qTk mm rr n a k y) : ∃ v, x = some (v, h) ∧ y = some (v, k) := by
  rcases H with ⟨t, h1, h2⟩ | ⟨h1, h2⟩
  · rcases H' with ⟨t', h3, h4⟩ | ⟨h3, h4⟩
    · have : t' = t := by
        have := h1.2.2 t' h3.2.1
        rw [Nat.mod_eq_of_lt h3.1] at this
        exact this
      rw [this] at h4
      exact ⟨_, h2, h4⟩
    · exact absurd h1.2.1 (h3 t)
  · rcases H' with ⟨t', h3, h4⟩ | ⟨h3, h4⟩
    · exact absurd h3.2.1 (h1 t')
    · exact ⟨_, h2, h4⟩
theorem q_get {h : zHp} {o n N i : Nat} {v : Int32} (hc : h o 1 = nI n) (hN : zln wX (o + 1) = N) (hn : n ≤ N) (hb : N < 1000) (hi : i < n) (hv : h (o + 1) i = v) : f_X7_get o (nI i) h = some (v, h) := by
  unfold f_X7_get
  rw [hc, hN]
  simp (disch := omega) only [↓reduceIte, ↓qM_e, ↓q_rem, q_mod, q_modN, q_lit, q_nI, q_lt, q_bd, q_ix, q_dz, q_iflt, q_ifnlt, q_ifeq, q_ifne, q_ifM, q_ifMM, q_ifMlt, q_ifltM, nI_add, pk_mul, q_sub, q_div, q_cl, q_st_s, q_st_i, q_st_c, Nat.add_zero, Nat.zero_add]
  rw [hv]
theorem qT_first {m r : Nat} {h : zHp} (hm : m < 1000) (hr : r < 32) : f_X8_first (nI (m * 32 + r)) h = some (nI m, h) := by
  unfold f_X8_first
  simp (disch := omega) only [↓reduceIte, ↓qM_e, ↓q_rem, q_mod, q_modN, q_lit, q_nI, q_lt, q_bd, q_ix, q_dz, q_iflt, q_ifnlt, q_ifeq, q_ifne, q_ifM, q_ifMM, q_ifMlt, q_ifltM, nI_add, pk_mul, q_sub, q_div, q_cl, q_st_s, q_st_i, q_st_c, Nat.add_zero, Nat.zero_add]
  rw [show (m * 32 + r) / 32 = m by omega]
theorem qT_second {m r : Nat} {h : zHp} (hm : m < 1000) (hr : r < 32) : f_X8_second (nI (m * 32 + r)) h = some (nI r, h) := by
  unfold f_X8_second
  simp (disch := omega) only [↓reduceIte, ↓qM_e, ↓q_rem, q_mod, q_modN, q_lit, q_nI, q_lt, q_bd, q_ix, q_dz, q_iflt, q_ifnlt, q_ifeq, q_ifne, q_ifM, q_ifMM, q_ifMlt, q_ifltM, nI_add, pk_mul, q_sub, q_div, q_cl, q_st_s, q_st_i, q_st_c, Nat.add_zero, Nat.zero_add]
  rw [show (m * 32 + r) % 32 = r by omega]
theorem q_meet {h : zHp} {n : Nat} {mm rr : Nat → Nat} (a : Int32) (hn : n ≤ 4) (hc : h 27 1 = nI n) (H : ∀ i, i < n → 1 ≤ mm i ∧ mm i ≤ 12 ∧ rr i < mm i ∧ h 28 i = nI (mm i * 32 + rr i)) : qTk mm rr n a h (f_X5_meeting a h) := by
  have hm : ∀ i, i < n → 1 ≤ mm i ∧ mm i ≤ 12 := fun i hi => ⟨(H i hi).1, (H i hi).2.1⟩
  have hz : zln wX 28 = 4 := by decide +kernel
  unfold f_X5_meeting f_X5_meeting_7_lp
  refine q_exit (I := fun i v => ∃ t, v = (a, nI t, nI (qPer mm i), nI i, h) ∧ qMeet mm rr i (qPer mm i) t) n (Q := qTk mm rr n a h) (fun i v hi hI => ?_) (fun v hI => ?_) _ ⟨0, rfl, by show 0 < 1; omega, fun j hj => absurd hj (Nat.not_lt_zero j), fun t' _ => Nat.mod_one t'⟩ zN (by rw [q_zN]; omega)
  · obtain ⟨t, rfl, hM⟩ := hI
    obtain ⟨g1, g2, g3, g4⟩ := H i hi
    have hp := qPer_dvd hm i (by omega)
    have hpl := qPer_le hm i (by omega)
    obtain ⟨e, e1, e2, e3⟩ := q_least (fun j => (t + j * qPer mm i) % mm i = rr i) (mm i)
    have ht := hM.1
    have hbd : ∀ j, j ≤ 12 → j * qPer mm i ≤ 12 * 27720 := fun j hj => Nat.mul_le_mul hj hpl
    have inner : ∀ k7 : Int32 × Int32 × Int32 × Int32 × zHp → Option (Int32 × zHp), f_X5_meeting_63_lp k7 zN (a, nI t, nI (qPer mm i), nI i, nI (mm i), nI (rr i), nI 0, h) = f_X5_meeting_89 k7 a (nI (t + e * qPer mm i)) (nI (qPer mm i)) (nI i) (nI (mm i)) (nI e) h := by
      intro k7
      unfold f_X5_meeting_63_lp
      have hS0 : (a, nI t, nI (qPer mm i), nI i, nI (mm i), nI (rr i), nI 0, h) = (fun j => (a, nI (t + j * qPer mm i), nI (qPer mm i), nI i, nI (mm i), nI (rr i), nI j, h)) 0 := by
        simp only [Nat.zero_mul, Nat.add_zero]
      rw [hS0]
      refine q_for (S := fun j => (a, nI (t + j * qPer mm i), nI (qPer mm i), nI i, nI (mm i), nI (rr i), nI j, h)) e (fun j hj rec => ?_) (fun rec => ?_) zN (by rw [q_zN]; omega)
      · have hb := hbd j (by omega)
        have hne := e2 j hj
        have hlt := Nat.mod_lt (t + j * qPer mm i) (show 0 < mm i by omega)
        simp only [f_X5_meeting_63]
        simp (disch := omega) only [f_X5_meeting_63, ↓reduceIte, ↓qM_e, ↓q_rem, q_mod, q_modN, q_lit, q_nI, q_lt, q_bd, q_ix, q_dz, q_iflt, q_ifnlt, q_ifeq, q_ifne, q_ifM, q_ifMM, q_ifMlt, q_ifltM, nI_add, pk_mul, q_sub, q_div, q_cl, q_st_s, q_st_i, q_st_c, Nat.add_zero, Nat.zero_add]
        rw [Nat.add_mul, Nat.one_mul, Nat.add_assoc]
      · have hb := hbd e (by omega)
        have hlt := Nat.mod_lt (t + e * qPer mm i) (show 0 < mm i by omega)
        rcases Nat.lt_or_ge e (mm i) with q | q
        · have := e3 q
          simp only [f_X5_meeting_63]
          simp (disch := omega) only [f_X5_meeting_63, ↓reduceIte, ↓qM_e, ↓q_rem, q_mod, q_modN, q_lit, q_nI, q_lt, q_bd, q_ix, q_dz, q_iflt, q_ifnlt, q_ifeq, q_ifne, q_ifM, q_ifMM, q_ifMlt, q_ifltM, nI_add, pk_mul, q_sub, q_div, q_cl, q_st_s, q_st_i, q_st_c, Nat.add_zero, Nat.zero_add]
        · simp only [f_X5_meeting_63]
          simp (disch := omega) only [f_X5_meeting_63, ↓reduceIte, ↓qM_e, ↓q_rem, q_mod, q_modN, q_lit, q_nI, q_lt, q_bd, q_ix, q_dz, q_iflt, q_ifnlt, q_ifeq, q_ifne, q_ifM, q_ifMM, q_ifMlt, q_ifltM, nI_add, pk_mul, q_sub, q_div, q_cl, q_st_s, q_st_i, q_st_c, Nat.add_zero, Nat.zero_add]
    have hb := hbd e (by omega)
    have hstep : ∀ rec : Int32 × Int32 × Int32 × Int32 × zHp → Option (Int32 × zHp), f_X5_meeting_7 rec a (nI t) (nI (qPer mm i)) (nI i) h = f_X5_meeting_89 rec a (nI (t + e * qPer mm i)) (nI (qPer mm i)) (nI i) (nI (mm i)) (nI e) h := by
      intro rec
      unfold f_X5_meeting_7
      rw [hc, q_ifT (nI_lt hi (by omega)), q_get (N := 4) hc hz (by omega) (by omega) hi g4, q_bd]
      simp only []
      rw [qT_first (by omega) (by omega), q_bd, q_lt]
      have e9 : (if (1 : Int32) < nI (mm i) then nI (mm i) else (1 : Int32)) = nI (mm i) := by
        rcases Nat.lt_or_ge 1 (mm i) with z | z
        · simp (disch := omega) only [↓reduceIte, ↓qM_e, ↓q_rem, q_mod, q_modN, q_lit, q_nI, q_lt, q_bd, q_ix, q_dz, q_iflt, q_ifnlt, q_ifeq, q_ifne, q_ifM, q_ifMM, q_ifMlt, q_ifltM, nI_add, pk_mul, q_sub, q_div, q_cl, q_st_s, q_st_i, q_st_c, Nat.add_zero, Nat.zero_add]
        · rw [show mm i = 1 by omega]
          simp (disch := omega) only [↓reduceIte, ↓qM_e, ↓q_rem, q_mod, q_modN, q_lit, q_nI, q_lt, q_bd, q_ix, q_dz, q_iflt, q_ifnlt, q_ifeq, q_ifne, q_ifM, q_ifMM, q_ifMlt, q_ifltM, nI_add, pk_mul, q_sub, q_div, q_cl, q_st_s, q_st_i, q_st_c, Nat.add_zero, Nat.zero_add]
      simp only []
      rw [e9, q_get (N := 4) hc hz (by omega) (by omega) hi g4, q_bd, qT_second (by omega) (by omega), q_bd]
      exact inner rec
    rcases Nat.lt_or_ge e (mm i) with q | q
    · refine Or.inl ⟨(a, nI (t + e * qPer mm i), nI (qPer mm (i + 1)), nI (i + 1), h), fun rec => ?_, t + e * qPer mm i, rfl, ?_⟩
      · show f_X5_meeting_7 rec a (nI t) (nI (qPer mm i)) (nI i) h = _
        rw [hstep rec]
        unfold f_X5_meeting_89
        have hg : 0 < Nat.gcd (qPer mm i) (mm i) := Nat.gcd_pos_of_pos_left _ hp.2
        have hg2 : Nat.gcd (qPer mm i) (mm i) ≤ qPer mm i := Nat.le_of_dvd hp.2 (Nat.gcd_dvd_left _ _)
        rw [q_ifT (nI_lt q (by omega)), q_divisor hp.2 (by omega) (by omega), q_bd]
        simp (disch := omega) only [↓reduceIte, ↓qM_e, ↓q_rem, q_mod, q_modN, q_lit, q_nI, q_lt, q_bd, q_ix, q_dz, q_iflt, q_ifnlt, q_ifeq, q_ifne, q_ifM, q_ifMM, q_ifMlt, q_ifltM, nI_add, pk_mul, q_sub, q_div, q_cl, q_st_s, q_st_i, q_st_c, Nat.add_zero, Nat.zero_add]
        rw [q_lcm]; rfl
      · exact qMeet_next (by omega) hp.2 hM (e3 q) e2 (fun j hj => qPer_mm i j hj)
    · refine Or.inr ⟨some (-1, h), fun rec => ?_, Or.inr ⟨?_, rfl⟩⟩
      · show f_X5_meeting_7 rec a (nI t) (nI (qPer mm i)) (nI i) h = _
        rw [hstep rec]
        unfold f_X5_meeting_89
        rw [q_ifF (nI_nlt q (by omega))]
      · intro t' ht'
        have he : e = mm i := by omega
        rw [he] at e2
        exact qMeet_none (by omega) hM e2 t' (fun j hj => ht' j (by omega))
  · obtain ⟨t, rfl, hM⟩ := hI
    refine ⟨some ((if a = 0 then nI t else nI (qPer mm n)), h), fun rec => ?_, Or.inl ⟨t, hM, rfl⟩⟩
    show f_X5_meeting_7 rec a (nI t) (nI (qPer mm n)) (nI n) h = _
    unfold f_X5_meeting_7
    rw [hc, q_ifF (nI_nlt (Nat.le_refl n) (by omega))]
    by_cases ha : a = 0
    · rw [if_pos ha, if_pos ha]
    · rw [if_neg ha, if_neg ha]
theorem q_swing {k : zHp} {n : Nat} {mm rr : Nat → Nat} (hn : n ≤ 4) (hc : k 0 42 = nI n) (H : ∀ i, i < n → 1 ≤ mm i ∧ mm i ≤ 12 ∧ rr i < mm i ∧ k 22 i = nI (rr i) ∧ k 23 i = nI (mm i)) (t : Nat) (ht : t < 100000) : (qSat mm rr n t ∧ f_X11_doSwingTogether (nI t) k = some (nI 1, k)) ∨ (¬ qSat mm rr n t ∧ f_X11_doSwingTogether (nI t) k = some (nI 0, k)) := by
  unfold f_X11_doSwingTogether f_X11_doSwingTogether_2_lp
  refine q_exit (I := fun j v => v = (nI t, nI j, k) ∧ qSat mm rr j t) n (Q := fun r => (qSat mm rr n t ∧ r = some (nI 1, k)) ∨ (¬ qSat mm rr n t ∧ r = some (nI 0, k))) (fun j v hj hI => ?_) (fun v hI => ?_) _ ⟨rfl, fun j hj => absurd hj (Nat.not_lt_zero j)⟩ zN (by rw [q_zN]; omega)
  · obtain ⟨rfl, hs⟩ := hI
    obtain ⟨g1, g2, g3, g4, g5⟩ := H j hj
    have hlt := Nat.mod_lt t (show 0 < mm j by omega)
    by_cases q : t % mm j = rr j
    · refine Or.inl ⟨(nI t, nI (j + 1), k), fun rec => ?_, rfl, fun i hi => ?_⟩
      · simp only [f_X11_doSwingTogether_2]
        simp (disch := omega) only [f_X11_doSwingTogether_2, hc, g4, g5, ↓reduceIte, ↓qM_e, ↓q_rem, q_mod, q_modN, q_lit, q_nI, q_lt, q_bd, q_ix, q_dz, q_iflt, q_ifnlt, q_ifeq, q_ifne, q_ifM, q_ifMM, q_ifMlt, q_ifltM, nI_add, pk_mul, q_sub, q_div, q_cl, q_st_s, q_st_i, q_st_c, Nat.add_zero, Nat.zero_add]
      · rcases Nat.lt_or_ge i j with z | z
        · exact hs i z
        · rw [show i = j by omega]; exact q
    · refine Or.inr ⟨some (nI 0, k), fun rec => ?_, Or.inr ⟨fun z => q (z j hj), rfl⟩⟩
      simp only [f_X11_doSwingTogether_2]
      simp (disch := omega) only [f_X11_doSwingTogether_2, hc, g4, g5, ↓reduceIte, ↓qM_e, ↓q_rem, q_mod, q_modN, q_lit, q_nI, q_lt, q_bd, q_ix, q_dz, q_iflt, q_ifnlt, q_ifeq, q_ifne, q_ifM, q_ifMM, q_ifMlt, q_ifltM, nI_add, pk_mul, q_sub, q_div, q_cl, q_st_s, q_st_i, q_st_c, Nat.add_zero, Nat.zero_add]
  · obtain ⟨rfl, hs⟩ := hI
    refine ⟨some (nI 1, k), fun rec => ?_, Or.inl ⟨hs, rfl⟩⟩
    simp only [f_X11_doSwingTogether_2]
    simp (disch := omega) only [f_X11_doSwingTogether_2, hc, ↓reduceIte, ↓qM_e, ↓q_rem, q_mod, q_modN, q_lit, q_nI, q_lt, q_bd, q_ix, q_dz, q_iflt, q_ifnlt, q_ifeq, q_ifne, q_ifM, q_ifMM, q_ifMlt, q_ifltM, nI_add, pk_mul, q_sub, q_div, q_cl, q_st_s, q_st_i, q_st_c, Nat.add_zero, Nat.zero_add]
theorem q_ticksM {k : zHp} {n : Nat} {mm rr : Nat → Nat} (a : Int32) (hn : n ≤ 4) (hc : k 0 42 = nI n) (H : ∀ i, i < n → 1 ≤ mm i ∧ mm i ≤ 12 ∧ rr i < mm i ∧ k 22 i = nI (rr i) ∧ k 23 i = nI (mm i)) : qTk mm rr n a k (f_X11_ticks_21_lp zN (a, nI 1, nI 0, k)) := by
  have hm : ∀ i, i < n → 1 ≤ mm i ∧ mm i ≤ 12 := fun i hi => ⟨(H i hi).1, (H i hi).2.1⟩
  have hpl := qPer_le hm n (Nat.le_refl n)
  have e1 : f_X11_ticks_21_lp zN (a, nI 1, nI 0, k) = f_X11_ticks_58_lp zN (a, nI (qPer mm n), nI 0, k) := by
    unfold f_X11_ticks_21_lp
    refine q_for (S := fun j => (a, nI (qPer mm j), nI j, k)) n (fun j hj rec => ?_) (fun rec => ?_) zN (by rw [q_zN]; omega)
    · obtain ⟨g1, g2, g3, g4, g5⟩ := H j hj
      have hp := qPer_dvd hm j (by omega)
      have hpl := qPer_le hm j (by omega)
      have hg : 0 < Nat.gcd (qPer mm j) (mm j) := Nat.gcd_pos_of_pos_left _ hp.2
      have hg2 : Nat.gcd (qPer mm j) (mm j) ≤ qPer mm j := Nat.le_of_dvd hp.2 (Nat.gcd_dvd_left _ _)
      have hcm := q_common (a := qPer mm j) (b := mm j) (by omega) (by omega) k
      simp only [f_X11_ticks_21]
      simp (disch := omega) only [f_X11_ticks_21, hc, g5, hcm, ↓reduceIte, ↓qM_e, ↓q_rem, q_mod, q_modN, q_lit, q_nI, q_lt, q_bd, q_ix, q_dz, q_iflt, q_ifnlt, q_ifeq, q_ifne, q_ifM, q_ifMM, q_ifMlt, q_ifltM, nI_add, pk_mul, q_sub, q_div, q_cl, q_st_s, q_st_i, q_st_c, Nat.add_zero, Nat.zero_add]
      rw [q_lcm]; rfl
    · simp only [f_X11_ticks_21]
      simp (disch := omega) only [f_X11_ticks_21, hc, ↓reduceIte, ↓qM_e, ↓q_rem, q_mod, q_modN, q_lit, q_nI, q_lt, q_bd, q_ix, q_dz, q_iflt, q_ifnlt, q_ifeq, q_ifne, q_ifM, q_ifMM, q_ifMlt, q_ifltM, nI_add, pk_mul, q_sub, q_div, q_cl, q_st_s, q_st_i, q_st_c, Nat.add_zero, Nat.zero_add]
  rw [e1]
  obtain ⟨e, e2, e3, e4⟩ := q_least (fun t => qSat mm rr n t) (qPer mm n)
  have e5 : f_X11_ticks_58_lp zN (a, nI (qPer mm n), nI 0, k) = f_X11_ticks_78 a (nI (qPer mm n)) (nI e) k := by
    unfold f_X11_ticks_58_lp
    refine q_for (S := fun t => (a, nI (qPer mm n), nI t, k)) e (fun t ht rec => ?_) (fun rec => ?_) zN (by rw [q_zN]; omega)
    · rcases q_swing hn hc H t (by omega) with ⟨z1, z2⟩ | ⟨z1, z2⟩
      · exact absurd z1 (e3 t ht)
      · simp only [f_X11_ticks_58]
        simp (disch := omega) only [f_X11_ticks_58, z2, ↓reduceIte, ↓qM_e, ↓q_rem, q_mod, q_modN, q_lit, q_nI, q_lt, q_bd, q_ix, q_dz, q_iflt, q_ifnlt, q_ifeq, q_ifne, q_ifM, q_ifMM, q_ifMlt, q_ifltM, nI_add, pk_mul, q_sub, q_div, q_cl, q_st_s, q_st_i, q_st_c, Nat.add_zero, Nat.zero_add]
    · rcases Nat.lt_or_ge e (qPer mm n) with q | q
      · rcases q_swing hn hc H e (by omega) with ⟨z1, z2⟩ | ⟨z1, z2⟩
        · simp only [f_X11_ticks_58]
          simp (disch := omega) only [f_X11_ticks_58, z2, ↓reduceIte, ↓qM_e, ↓q_rem, q_mod, q_modN, q_lit, q_nI, q_lt, q_bd, q_ix, q_dz, q_iflt, q_ifnlt, q_ifeq, q_ifne, q_ifM, q_ifMM, q_ifMlt, q_ifltM, nI_add, pk_mul, q_sub, q_div, q_cl, q_st_s, q_st_i, q_st_c, Nat.add_zero, Nat.zero_add]
        · exact absurd (e4 q) z1
      · simp only [f_X11_ticks_58]
        simp (disch := omega) only [f_X11_ticks_58, ↓reduceIte, ↓qM_e, ↓q_rem, q_mod, q_modN, q_lit, q_nI, q_lt, q_bd, q_ix, q_dz, q_iflt, q_ifnlt, q_ifeq, q_ifne, q_ifM, q_ifMM, q_ifMlt, q_ifltM, nI_add, pk_mul, q_sub, q_div, q_cl, q_st_s, q_st_i, q_st_c, Nat.add_zero, Nat.zero_add]
  rw [e5]
  have hp := qPer_dvd hm n (Nat.le_refl n)
  have per : ∀ t', qSat mm rr n t' → qSat mm rr n (t' % qPer mm n) := by
    intro t' ht' j hj
    rw [Nat.mod_mod_of_dvd _ (qPer_mm n j hj)]
    exact ht' j hj
  rcases Nat.lt_or_ge e (qPer mm n) with q | q
  · refine Or.inl ⟨e, ⟨q, e4 q, fun t' ht' => ?_⟩, ?_⟩
    · have h1 := per t' ht'
      have h2 := Nat.mod_lt t' hp.2
      have key : ∀ x y, qSat mm rr n x → qSat mm rr n y → x ≤ y → qPer mm n ∣ y - x := by
        intro x y hx hy hxy
        have : ∀ i, i ≤ n → qPer mm i ∣ y - x := by
          intro i
          induction i with
          | zero => intro _; exact Nat.one_dvd _
          | succ i ih =>
            intro hi
            exact Nat.lcm_dvd (ih (by omega)) ((Nat.dvd_iff_mod_eq_zero ..).mpr (Nat.sub_mod_eq_zero_of_mod_eq ((hy i (by omega)).trans (hx i (by omega)).symm)))
        exact this n (Nat.le_refl n)
      rcases Nat.le_total (t' % qPer mm n) e with z | z
      · have h3 := key _ _ h1 (e4 q) z
        have h4 := Nat.eq_zero_of_dvd_of_lt h3 (by omega)
        omega
      · have h3 := key _ _ (e4 q) h1 z
        have h4 := Nat.eq_zero_of_dvd_of_lt h3 (by omega)
        omega
    · unfold f_X11_ticks_78
      rw [q_ifF (fun z => by have := (nI_eq (by omega) (by omega)).mp z; omega)]
      by_cases ha : a = 0
      · rw [if_pos ha, if_pos ha]
      · rw [if_neg ha, if_neg ha]
  · have he : e = qPer mm n := by omega
    refine Or.inr ⟨fun t' ht' => ?_, ?_⟩
    · exact e3 _ (by rw [he]; exact Nat.mod_lt _ hp.2) (per t' ht')
    · unfold f_X11_ticks_78
      rw [he, if_pos rfl]
theorem q_ask_ticks {h k : zHp} (R : qRel h k) (a : Int32) : qAsk h k (f_X10_ticks a h) (f_X11_ticks a k) := by
  obtain ⟨C, P, -, -, -, -, -, -, -, ⟨n, h1, h2, h3, h4⟩, -⟩ := R.1
  obtain ⟨mm, rr, H⟩ := q_ch2 h4
  by_cases c1 : a < 0
  · exact ⟨-1, h, zst k 0 0 0, by simp only [f_X10_ticks, f_X10_within, q_bd, if_pos c1, if_true], by simp only [f_X11_ticks, f_X11_isIn, q_lt, q_bd, if_pos c1, if_true], qXs_rf h, qMs_s0 k⟩
  by_cases c2 : (1 : Int32) < a
  · exact ⟨-1, h, zst k 0 0 0, by simp only [f_X10_ticks, f_X10_within, q_bd, if_neg c1, if_pos c2, if_true], by simp only [f_X11_ticks, f_X11_isIn, q_lt, q_bd, if_neg c1, if_pos c2, if_true], qXs_rf h, qMs_s0 k⟩
  have ha : a = 0 ∨ a = 1 := by
    obtain ⟨j, j1, rfl⟩ := nI_of c1
    have : j ≤ 1 := Nat.le_of_not_lt fun z => c2 (nI_lt z (by omega))
    rcases (show j = 0 ∨ j = 1 by omega) with rfl | rfl
    · exact Or.inl rfl
    · exact Or.inr rfl
  have eX : f_X10_ticks a h = f_X5_meeting a h := by
    unfold f_X10_ticks f_X10_within
    rw [if_neg c1, if_neg c2, q_bd]
    rcases ha with rfl | rfl
    · show (f_X5_meeting 0 h).bind _ = _
      cases f_X5_meeting 0 h <;> rfl
    · show (f_X5_meeting 1 h).bind _ = _
      cases f_X5_meeting 1 h <;> rfl
  have eM : f_X11_ticks a k = f_X11_ticks_21_lp zN (a, nI 1, nI 0, zst k 0 0 0) := by
    unfold f_X11_ticks f_X11_isIn
    rw [q_lt, if_neg c1, if_neg c2, q_bd]
    rfl
  rw [eX, eM]
  have hX := q_meet (h := h) (mm := mm) (rr := rr) a h1 h2 (fun i hi => ⟨(H i hi).1, (H i hi).2.1, (H i hi).2.2.1, (H i hi).2.2.2.1⟩)
  have hM := q_ticksM (k := zst k 0 0 0) (mm := mm) (rr := rr) a h1 (by rw [q_st_i (by decide)]; exact h3) (fun i hi => ⟨(H i hi).1, (H i hi).2.1, (H i hi).2.2.1, by rw [q_st_c (by decide)]; exact (H i hi).2.2.2.2.1, by rw [q_st_c (by decide)]; exact (H i hi).2.2.2.2.2⟩)
  obtain ⟨v, z1, z2⟩ := qTk_one hX hM
  exact ⟨v, h, zst k 0 0 0, z1, z2, qXs_rf h, qMs_s0 k⟩
end Qticks2
