/-! A MINUTE GOES BY: the whole of it -/
section Qgoes
variable {β : zHp × zHp}
theorem q_goes3 {o C P r : Nat} {h k : zHp} (M : qMn β o C P h k) (hr : r < 100) : ∃ h' k', f_X0_passMinute_104_lp o zN (nI r, nI 0, h) = some (nI r, h') ∧ f_X11_goesBy_89_lp zN (nI r, nI 0, k) = some (nI r, k') ∧ qMn β o C P h' k' ∧ qXm o h h' ∧ qMm k k' := by
  have ho := qMn_o M
  have hC := M.1.2.2.1.1
  unfold f_X0_passMinute_104_lp f_X11_goesBy_89_lp
  refine q_exit2 (b1 := fun k104 v => f_X0_passMinute_104 o k104 v.1 v.2.1 v.2.2) (b2 := fun k89 v => f_X11_goesBy_89 k89 v.1 v.2.1 v.2.2) (I := fun i v u => ∃ h1 k1, v = (nI r, nI i, h1) ∧ u = (nI r, nI i, k1) ∧ qMn β o C P h1 k1 ∧ qXm o h h1 ∧ qMm k k1) C (Q := fun x y => ∃ h' k', x = some (nI r, h') ∧ y = some (nI r, k') ∧ qMn β o C P h' k' ∧ qXm o h h' ∧ qMm k k') (fun i v u hi hI => Or.inl ?_) (fun v u hI => ?_) _ _ ⟨h, k, rfl, rfl, M, fun _ _ _ _ _ _ => rfl, fun _ _ _ _ _ => rfl⟩ zN zN (by rw [q_zN]; omega) (by rw [q_zN]; omega)
  · obtain ⟨h1, k1, rfl, rfl, M1, e1, e2⟩ := hI
    obtain ⟨s, f, t, a1, a2, a3, a4, a5, a6, a7, a8, a9, a10, a11, a12⟩ := q_chair M1.1 hi
    have c6 : k1 0 6 = nI C := M1.1.1.1
    have c9 : h1 o 9 = nI C := M1.1.2.1.1
    have rM := q_rocksM (k := k1) (c := i) (by omega) a4 (by omega)
    rcases Nat.eq_zero_or_pos s with z | z
    · rw [if_neg (by omega)] at rM
      have fX := q_fadeN M1 hi (by rw [a4, z])
      refine ⟨(nI r, nI (i + 1), h1), (nI r, nI (i + 1), k1), fun rec => ?_, fun rec => ?_, h1, k1, rfl, rfl, M1, e1, e2⟩
      · simp only [f_X0_passMinute_104]
        simp (disch := omega) only [c9, fX, ↓reduceIte, ↓qM_e, ↓q_rem, q_mod, q_modN, q_lit, q_nI, q_lt, q_bd, q_ix, q_dz, q_iflt, q_ifnlt, q_ifeq, q_ifne, q_ifM, q_ifMM, q_ifMlt, q_ifltM, nI_add, pk_mul, q_sub, q_div, q_cl, q_st_s, q_st_i, q_st_c, Nat.add_zero, Nat.zero_add]
      · simp only [f_X11_goesBy_89]
        simp (disch := omega) only [c6, rM, ↓reduceIte, ↓qM_e, ↓q_rem, q_mod, q_modN, q_lit, q_nI, q_lt, q_bd, q_ix, q_dz, q_iflt, q_ifnlt, q_ifeq, q_ifne, q_ifM, q_ifMM, q_ifMlt, q_ifltM, nI_add, pk_mul, q_sub, q_div, q_cl, q_st_s, q_st_i, q_st_c, Nat.add_zero, Nat.zero_add]
    · rw [if_pos z] at rM
      obtain ⟨h', k', n1, n2, n3, n4, n5, n6⟩ := q_fade1 M1 hi z (by omega) a4
      refine ⟨(nI r, nI (i + 1), h'), (nI r, nI (i + 1), k'), fun rec => ?_, fun rec => ?_, h', k', rfl, rfl, n3, qXm_tr e1 n4, qMm_tr e2 n5⟩
      · simp only [f_X0_passMinute_104]
        simp (disch := omega) only [c9, n1, ↓reduceIte, ↓qM_e, ↓q_rem, q_mod, q_modN, q_lit, q_nI, q_lt, q_bd, q_ix, q_dz, q_iflt, q_ifnlt, q_ifeq, q_ifne, q_ifM, q_ifMM, q_ifMlt, q_ifltM, nI_add, pk_mul, q_sub, q_div, q_cl, q_st_s, q_st_i, q_st_c, Nat.add_zero, Nat.zero_add]
      · simp only [f_X11_goesBy_89]
        simp (disch := omega) only [c6, rM, n2, ↓reduceIte, ↓qM_e, ↓q_rem, q_mod, q_modN, q_lit, q_nI, q_lt, q_bd, q_ix, q_dz, q_iflt, q_ifnlt, q_ifeq, q_ifne, q_ifM, q_ifMM, q_ifMlt, q_ifltM, nI_add, pk_mul, q_sub, q_div, q_cl, q_st_s, q_st_i, q_st_c, Nat.add_zero, Nat.zero_add]
  · obtain ⟨h1, k1, rfl, rfl, M1, e1, e2⟩ := hI
    have c6 : k1 0 6 = nI C := M1.1.1.1
    have c9 : h1 o 9 = nI C := M1.1.2.1.1
    obtain ⟨q1, q2, q3, q4, q5, q6, -, -⟩ := M1.1.2.1
    obtain ⟨v, hv⟩ : ∃ v : Int32, v = k1 1 0 + 1 := ⟨_, rfl⟩
    have v1 : h1 o 13 + nI 1 = v := by rw [q5, hv]; rfl
    have v2 : k1 1 0 + nI 1 = v := hv.symm
    have M2 : qMn β o C P (zst h1 o 13 v) (zst k1 1 0 v) := qMn_lo M1 (fun a q1 _ _ => q_st_c q1) (fun a q1 _ _ => q_st_c q1) (fun i hi => q_st_i (by omega)) (q_st_i (by omega)) (q_st_i (by omega)) (q_st_i (by omega)) (q_st_i (by omega)) (by rw [q_st_i (by omega), q_st_i (by omega)]; exact q3) (by rw [q_st_i (by omega), q_st_i (by omega)]; exact q4) (by rw [q_st_s, q_st_s]) (by rw [q_st_i (by omega), q_st_i (by omega)]; exact q6)
    refine ⟨some (nI r, zst h1 o 13 v), some (nI r, zst k1 1 0 v), fun rec => ?_, fun rec => ?_, _, _, rfl, rfl, M2, fun a a1 a2 a3 a4 a5 => by rw [q_st_c (by omega)]; exact e1 a a1 a2 a3 a4 a5, fun a a1 a2 a3 a4 => by rw [q_st_c a1]; exact e2 a a1 a2 a3 a4⟩
    · simp only [f_X0_passMinute_104]
      simp (disch := omega) only [c9, v1, ↓reduceIte, ↓qM_e, ↓q_rem, q_mod, q_modN, q_lit, q_nI, q_lt, q_bd, q_ix, q_dz, q_iflt, q_ifnlt, q_ifeq, q_ifne, q_ifM, q_ifMM, q_ifMlt, q_ifltM, nI_add, pk_mul, q_sub, q_div, q_cl, q_st_s, q_st_i, q_st_c, Nat.add_zero, Nat.zero_add]
    · simp only [f_X11_goesBy_89]
      simp (disch := omega) only [c6, v2, ↓reduceIte, ↓qM_e, ↓q_rem, q_mod, q_modN, q_lit, q_nI, q_lt, q_bd, q_ix, q_dz, q_iflt, q_ifnlt, q_ifeq, q_ifne, q_ifM, q_ifMM, q_ifMlt, q_ifltM, nI_add, pk_mul, q_sub, q_div, q_cl, q_st_s, q_st_i, q_st_c, Nat.add_zero, Nat.zero_add]
theorem q_goes2 {o C P r n : Nat} {h k : zHp} (M : qMn β o C P h k) (hr : r < 100) (H : qHouse h 22 n (k 18) C) (hn : k 0 36 = nI n) : ∃ h' k', f_X0_passMinute_57_lp o zN (nI r, nI 0, h) = some (nI r, h') ∧ f_X11_goesBy_50_lp zN (nI r, nI 0, k) = some (nI r, k') ∧ qMn β o C P h' k' ∧ qXm o h h' ∧ qMm k k' := by
  have ho := qMn_o M
  have hC := M.1.2.2.1.1
  have hn16 : n ≤ 16 := H.2.2.1
  unfold f_X0_passMinute_57_lp f_X11_goesBy_50_lp
  refine q_exit2 (b1 := fun k57 v => f_X0_passMinute_57 o k57 v.1 v.2.1 v.2.2) (b2 := fun k50 v => f_X11_goesBy_50 k50 v.1 v.2.1 v.2.2) (I := fun i v u => ∃ h1 k1, v = (nI r, nI i, h1) ∧ u = (nI r, nI (3 * i), k1) ∧ qMn β o C P h1 k1 ∧ qXm o h h1 ∧ qMm k k1 ∧ k1 1 0 = k 1 0) n (Q := fun x y => ∃ h' k', x = some (nI r, h') ∧ y = some (nI r, k') ∧ qMn β o C P h' k' ∧ qXm o h h' ∧ qMm k k') (fun i v u hi hI => Or.inl ?_) (fun v u hI => ?_) _ _ ⟨h, k, rfl, rfl, M, fun _ _ _ _ _ _ => rfl, fun _ _ _ _ _ => rfl, rfl⟩ zN zN (by rw [q_zN]; omega) (by rw [q_zN]; omega)
  · obtain ⟨h1, k1, rfl, rfl, M1, e1, e2, e3⟩ := hI
    have H1 : qHouse h1 22 n (k1 18) C := by
      unfold qHouse at H ⊢
      rw [e1 22 (by omega) (by omega) (by omega) (by omega) (by omega), show (22 : Nat) + 1 = 23 from rfl, e1 23 (by omega) (by omega) (by omega) (by omega) (by omega), e2 18 (by omega) (by omega) (by omega) (by omega)]
      exact H
    obtain ⟨g0, g2, g3, g4⟩ := id H1
    obtain ⟨m, m1, m2, m3, m4⟩ := g4 i hi
    have hz : zln wX 23 = 64 := by decide +kernel
    have cl : f_X2_cell 22 (nI i) (nI 0) h1 = some (h1 23 (4 * i), h1) := q_cell (j := 0) (M := 16) g0 g2 hz (by omega) g3 (by omega) hi (by omega)
    have m2' : h1 23 (4 * i) = nI m := m2
    have c36 : k1 0 36 = nI n := by rw [e2 0 (by omega) (by omega) (by omega) (by omega)]; exact hn
    have n13 : h1 o 13 = k1 1 0 := M1.1.2.1.2.2.2.2.1
    by_cases z : nI m = k1 1 0
    · obtain ⟨h', k', n1, n2, n3, n4, n5, n6⟩ := q_keep M1 H1 hi
      refine ⟨(nI r, nI (i + 1), h'), (nI r, nI (3 * (i + 1)), k'), fun rec => ?_, fun rec => ?_, h', k', rfl, rfl, n3, qXm_tr e1 n4, qMm_tr e2 n5, n6.trans e3⟩
      · simp only [f_X0_passMinute_57]
        simp (disch := omega) only [g2, cl, m2', n13, q_ifT z, n1, ↓reduceIte, ↓qM_e, ↓q_rem, q_mod, q_modN, q_lit, q_nI, q_lt, q_bd, q_ix, q_dz, q_iflt, q_ifnlt, q_ifeq, q_ifne, q_ifM, q_ifMM, q_ifMlt, q_ifltM, nI_add, pk_mul, q_sub, q_div, q_cl, q_st_s, q_st_i, q_st_c, Nat.add_zero, Nat.zero_add]
      · simp only [f_X11_goesBy_50, f_X11_goesBy_80]
        simp (disch := omega) only [c36, m3, q_ifT z, n2, show 3 * i + 3 = 3 * (i + 1) by omega, ↓reduceIte, ↓qM_e, ↓q_rem, q_mod, q_modN, q_lit, q_nI, q_lt, q_bd, q_ix, q_dz, q_iflt, q_ifnlt, q_ifeq, q_ifne, q_ifM, q_ifMM, q_ifMlt, q_ifltM, nI_add, pk_mul, q_sub, q_div, q_cl, q_st_s, q_st_i, q_st_c, Nat.add_zero, Nat.zero_add]
    · refine ⟨(nI r, nI (i + 1), h1), (nI r, nI (3 * (i + 1)), k1), fun rec => ?_, fun rec => ?_, h1, k1, rfl, rfl, M1, e1, e2, e3⟩
      · simp only [f_X0_passMinute_57]
        simp (disch := omega) only [g2, cl, m2', n13, q_ifF z, ↓reduceIte, ↓qM_e, ↓q_rem, q_mod, q_modN, q_lit, q_nI, q_lt, q_bd, q_ix, q_dz, q_iflt, q_ifnlt, q_ifeq, q_ifne, q_ifM, q_ifMM, q_ifMlt, q_ifltM, nI_add, pk_mul, q_sub, q_div, q_cl, q_st_s, q_st_i, q_st_c, Nat.add_zero, Nat.zero_add]
      · simp only [f_X11_goesBy_50, f_X11_goesBy_80]
        simp (disch := omega) only [c36, m3, q_ifF z, show 3 * i + 3 = 3 * (i + 1) by omega, ↓reduceIte, ↓qM_e, ↓q_rem, q_mod, q_modN, q_lit, q_nI, q_lt, q_bd, q_ix, q_dz, q_iflt, q_ifnlt, q_ifeq, q_ifne, q_ifM, q_ifMM, q_ifMlt, q_ifltM, nI_add, pk_mul, q_sub, q_div, q_cl, q_st_s, q_st_i, q_st_c, Nat.add_zero, Nat.zero_add]
  · obtain ⟨h1, k1, rfl, rfl, M1, e1, e2, e3⟩ := hI
    have g2 : h1 22 2 = nI n := by rw [e1 22 (by omega) (by omega) (by omega) (by omega) (by omega)]; exact H.2.1
    have c36 : k1 0 36 = nI n := by rw [e2 0 (by omega) (by omega) (by omega) (by omega)]; exact hn
    obtain ⟨h', k', n1, n2, n3, n4, n5⟩ := q_goes3 M1 hr
    refine ⟨some (nI r, h'), some (nI r, k'), fun rec => ?_, fun rec => ?_, h', k', rfl, rfl, n3, qXm_tr e1 n4, qMm_tr e2 n5⟩
    · simp only [f_X0_passMinute_57]
      rw [show h1 22 2 = nI n from g2, q_ifF (nI_nlt (Nat.le_refl n) (by omega))]
      exact n1
    · simp only [f_X11_goesBy_50]
      rw [show k1 0 36 = nI n from c36, show (3 : Int32) = nI 3 from rfl, pk_mul, q_ifF (nI_nlt (Nat.le_refl _) (by omega))]
      exact n2
/-- a minute goes by, in both the same -/
theorem q_goesBy {o C P n m : Nat} {h k : zHp} (M : qMn β o C P h k) (HC : qCalls h 20 n (k 17) C P) (hn : k 0 34 = nI n) (H : qHouse h 22 m (k 18) C) (hm : k 0 36 = nI m) : ∃ r h' k', r ≤ 16 ∧ f_X0_passMinute o h = some (nI r, h') ∧ f_X11_goesBy k = some (nI r, k') ∧ qMn β o C P h' k' ∧ qXm o h h' ∧ qMm k k' := by
  have ho := qMn_o M
  have hC := M.1.2.2.1.1
  have hn16 : n ≤ 16 := HC.2.2.1
  unfold f_X0_passMinute f_X11_goesBy f_X0_passMinute_4_lp f_X11_goesBy_4_lp
  refine q_exit2 (b1 := fun k4 v => f_X0_passMinute_4 o k4 v.1 v.2.1 v.2.2) (b2 := fun k4 v => f_X11_goesBy_4 k4 v.1 v.2.1 v.2.2) (I := fun i v u => ∃ r h1 k1, r ≤ i ∧ v = (nI r, nI i, h1) ∧ u = (nI r, nI (4 * i), k1) ∧ qMn β o C P h1 k1 ∧ qXm o h h1 ∧ qMm k k1 ∧ k1 1 0 = k 1 0) n (Q := fun x y => ∃ r h' k', r ≤ 16 ∧ x = some (nI r, h') ∧ y = some (nI r, k') ∧ qMn β o C P h' k' ∧ qXm o h h' ∧ qMm k k') (fun i v u hi hI => Or.inl ?_) (fun v u hI => ?_) _ _ ⟨0, h, k, by omega, rfl, rfl, M, fun _ _ _ _ _ _ => rfl, fun _ _ _ _ _ => rfl, rfl⟩ zN zN (by rw [q_zN]; omega) (by rw [q_zN]; omega)
  · obtain ⟨r, h1, k1, hr, rfl, rfl, M1, e1, e2, e3⟩ := hI
    have H1 : qCalls h1 20 n (k1 17) C P := by
      unfold qCalls at HC ⊢
      rw [e1 20 (by omega) (by omega) (by omega) (by omega) (by omega), show (20 : Nat) + 1 = 21 from rfl, e1 21 (by omega) (by omega) (by omega) (by omega) (by omega), e2 17 (by omega) (by omega) (by omega) (by omega)]
      exact HC
    obtain ⟨g0, g2, g3, g4⟩ := id H1
    obtain ⟨mm, vv, pp, m1, m2, hp, m3, m4, -⟩ := g4 i hi
    have hz : zln wX 21 = 64 := by decide +kernel
    have cl : f_X2_cell 20 (nI i) (nI 0) h1 = some (h1 21 (4 * i), h1) := q_cell (j := 0) (M := 16) g0 g2 hz (by omega) g3 (by omega) hi (by omega)
    have m3' : h1 21 (4 * i) = nI mm := m3
    have c34 : k1 0 34 = nI n := by rw [e2 0 (by omega) (by omega) (by omega) (by omega)]; exact hn
    have n13 : h1 o 13 = k1 1 0 := M1.1.2.1.2.2.2.2.1
    by_cases z : nI mm = k1 1 0
    · obtain ⟨b, h', k', b1, n1, n2, n3, n4, n5, n6⟩ := q_answer M1 H1 hi
      rcases (show b = 0 ∨ b = 1 by omega) with rfl | rfl
      · refine ⟨(nI r, nI (i + 1), h'), (nI r, nI (4 * (i + 1)), k'), fun rec => ?_, fun rec => ?_, r, h', k', by omega, rfl, rfl, n3, qXm_tr e1 n4, qMm_tr e2 n5, n6.trans e3⟩
        · have n1' : f_X0_answer o (nI i) h1 = some (nI 1, h') := n1
          simp only [f_X0_passMinute_4]
          simp (disch := omega) only [g2, cl, m3', n13, q_ifT z, n1', ↓reduceIte, ↓qM_e, ↓q_rem, q_mod, q_modN, q_lit, q_nI, q_lt, q_bd, q_ix, q_dz, q_iflt, q_ifnlt, q_ifeq, q_ifne, q_ifM, q_ifMM, q_ifMlt, q_ifltM, nI_add, pk_mul, q_sub, q_div, q_cl, q_st_s, q_st_i, q_st_c, Nat.add_zero, Nat.zero_add]
        · simp only [f_X11_goesBy_4, f_X11_goesBy_41]
          simp (disch := omega) only [c34, m4, q_ifT z, n2, show 4 * i + 4 = 4 * (i + 1) by omega, ↓reduceIte, ↓qM_e, ↓q_rem, q_mod, q_modN, q_lit, q_nI, q_lt, q_bd, q_ix, q_dz, q_iflt, q_ifnlt, q_ifeq, q_ifne, q_ifM, q_ifMM, q_ifMlt, q_ifltM, nI_add, pk_mul, q_sub, q_div, q_cl, q_st_s, q_st_i, q_st_c, Nat.add_zero, Nat.zero_add]
      · refine ⟨(nI (r + 1), nI (i + 1), h'), (nI (r + 1), nI (4 * (i + 1)), k'), fun rec => ?_, fun rec => ?_, r + 1, h', k', by omega, rfl, rfl, n3, qXm_tr e1 n4, qMm_tr e2 n5, n6.trans e3⟩
        · have n1' : f_X0_answer o (nI i) h1 = some (nI 0, h') := n1
          simp only [f_X0_passMinute_4]
          simp (disch := omega) only [g2, cl, m3', n13, q_ifT z, n1', ↓reduceIte, ↓qM_e, ↓q_rem, q_mod, q_modN, q_lit, q_nI, q_lt, q_bd, q_ix, q_dz, q_iflt, q_ifnlt, q_ifeq, q_ifne, q_ifM, q_ifMM, q_ifMlt, q_ifltM, nI_add, pk_mul, q_sub, q_div, q_cl, q_st_s, q_st_i, q_st_c, Nat.add_zero, Nat.zero_add]
        · simp only [f_X11_goesBy_4, f_X11_goesBy_41]
          simp (disch := omega) only [c34, m4, q_ifT z, n2, show 4 * i + 4 = 4 * (i + 1) by omega, ↓reduceIte, ↓qM_e, ↓q_rem, q_mod, q_modN, q_lit, q_nI, q_lt, q_bd, q_ix, q_dz, q_iflt, q_ifnlt, q_ifeq, q_ifne, q_ifM, q_ifMM, q_ifMlt, q_ifltM, nI_add, pk_mul, q_sub, q_div, q_cl, q_st_s, q_st_i, q_st_c, Nat.add_zero, Nat.zero_add]
    · refine ⟨(nI r, nI (i + 1), h1), (nI r, nI (4 * (i + 1)), k1), fun rec => ?_, fun rec => ?_, r, h1, k1, by omega, rfl, rfl, M1, e1, e2, e3⟩
      · simp only [f_X0_passMinute_4]
        simp (disch := omega) only [g2, cl, m3', n13, q_ifF z, ↓reduceIte, ↓qM_e, ↓q_rem, q_mod, q_modN, q_lit, q_nI, q_lt, q_bd, q_ix, q_dz, q_iflt, q_ifnlt, q_ifeq, q_ifne, q_ifM, q_ifMM, q_ifMlt, q_ifltM, nI_add, pk_mul, q_sub, q_div, q_cl, q_st_s, q_st_i, q_st_c, Nat.add_zero, Nat.zero_add]
      · simp only [f_X11_goesBy_4, f_X11_goesBy_41]
        simp (disch := omega) only [c34, m4, q_ifF z, show 4 * i + 4 = 4 * (i + 1) by omega, ↓reduceIte, ↓qM_e, ↓q_rem, q_mod, q_modN, q_lit, q_nI, q_lt, q_bd, q_ix, q_dz, q_iflt, q_ifnlt, q_ifeq, q_ifne, q_ifM, q_ifMM, q_ifMlt, q_ifltM, nI_add, pk_mul, q_sub, q_div, q_cl, q_st_s, q_st_i, q_st_c, Nat.add_zero, Nat.zero_add]
  · obtain ⟨r, h1, k1, hr, rfl, rfl, M1, e1, e2, e3⟩ := hI
    have g2 : h1 20 2 = nI n := by rw [e1 20 (by omega) (by omega) (by omega) (by omega) (by omega)]; exact HC.2.1
    have c34 : k1 0 34 = nI n := by rw [e2 0 (by omega) (by omega) (by omega) (by omega)]; exact hn
    have H1 : qHouse h1 22 m (k1 18) C := by
      unfold qHouse at H ⊢
      rw [e1 22 (by omega) (by omega) (by omega) (by omega) (by omega), show (22 : Nat) + 1 = 23 from rfl, e1 23 (by omega) (by omega) (by omega) (by omega) (by omega), e2 18 (by omega) (by omega) (by omega) (by omega)]
      exact H
    have c36 : k1 0 36 = nI m := by rw [e2 0 (by omega) (by omega) (by omega) (by omega)]; exact hm
    obtain ⟨h', k', n1, n2, n3, n4, n5⟩ := q_goes2 (r := r) M1 (by omega) H1 c36
    refine ⟨some (nI r, h'), some (nI r, k'), fun rec => ?_, fun rec => ?_, r, h', k', by omega, rfl, rfl, n3, qXm_tr e1 n4, qMm_tr e2 n5⟩
    · simp only [f_X0_passMinute_4]
      rw [show h1 20 2 = nI n from g2, q_ifF (nI_nlt (Nat.le_refl n) (by omega))]
      exact n1
    · simp only [f_X11_goesBy_4]
      rw [show k1 0 34 = nI n from c34, show (4 : Int32) = nI 4 from rfl, pk_mul, q_ifF (nI_nlt (Nat.le_refl _) (by omega))]
      exact n2
end Qgoes
