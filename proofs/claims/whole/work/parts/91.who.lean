/-! WHO, LOOK, FAULT, END -/
section Qwho
theorem q_chairOf {h k : zHp} {o C P p : Nat} (X : qCtx h k o C P) (hp : p < 14) : ∃ v, f_X4_chairOf o (nI p) h = some (v, h) ∧ f_X11_chairOf (nI p) k = some (v, k) := by
  have hC := X.2.2.1.1
  have g9 : h o 9 = nI C := X.2.1.1
  have g6 : k 0 6 = nI C := X.1.1
  unfold f_X4_chairOf f_X4_chairOf_2_lp f_X11_chairOf f_X11_chairOf_2_lp
  refine q_exit2 (b1 := fun k2 v => f_X4_chairOf_2 o k2 v.1 v.2.1 v.2.2) (b2 := fun k2 v => f_X11_chairOf_2 k2 v.1 v.2.1 v.2.2) (I := fun i v u => v = (nI p, nI i, h) ∧ u = (nI p, nI i, k)) C (Q := fun x y => ∃ v, x = some (v, h) ∧ y = some (v, k)) (fun i v u hi hI => ?_) (fun v u hI => ?_) _ _ ⟨rfl, rfl⟩ zN zN (by rw [q_zN]; omega) (by rw [q_zN]; omega)
  · obtain ⟨rfl, rfl⟩ := hI
    have iX := q_isCh hC g9 hi
    have e4 : h (o + 4) i = k 1 (25 + i) - nI 1 := (X.2.1.2.2.2.2.2.2.1 i hi).2.2.2
    by_cases z : k 1 (25 + i) - nI 1 = nI p
    · refine Or.inr ⟨some (nI i, h), some (nI i, k), fun rec => ?_, fun rec => ?_, nI i, rfl, rfl⟩
      · simp only [f_X4_chairOf_2]
        simp (disch := omega) only [g9, iX, q_ifT (show h (o + 4) i = nI p from e4.trans z), ↓reduceIte, ↓qM_e, ↓q_rem, q_mod, q_modN, q_lit, q_nI, q_lt, q_bd, q_ix, q_dz, q_iflt, q_ifnlt, q_ifeq, q_ifne, q_ifM, q_ifMM, q_ifMlt, q_ifltM, nI_add, pk_mul, q_sub, q_div, q_cl, q_st_s, q_st_i, q_st_c, Nat.add_zero, Nat.zero_add]
      · simp only [f_X11_chairOf_2, f_X11_takenBy]
        simp (disch := omega) only [g6, q_ifT z, ↓reduceIte, ↓qM_e, ↓q_rem, q_mod, q_modN, q_lit, q_nI, q_lt, q_bd, q_ix, q_dz, q_iflt, q_ifnlt, q_ifeq, q_ifne, q_ifM, q_ifMM, q_ifMlt, q_ifltM, nI_add, pk_mul, q_sub, q_div, q_cl, q_st_s, q_st_i, q_st_c, Nat.add_zero, Nat.zero_add]
    · refine Or.inl ⟨(nI p, nI (i + 1), h), (nI p, nI (i + 1), k), fun rec => ?_, fun rec => ?_, rfl, rfl⟩
      · simp only [f_X4_chairOf_2]
        simp (disch := omega) only [g9, iX, q_ifF (show ¬ h (o + 4) i = nI p from fun q => z (e4.symm.trans q)), ↓reduceIte, ↓qM_e, ↓q_rem, q_mod, q_modN, q_lit, q_nI, q_lt, q_bd, q_ix, q_dz, q_iflt, q_ifnlt, q_ifeq, q_ifne, q_ifM, q_ifMM, q_ifMlt, q_ifltM, nI_add, pk_mul, q_sub, q_div, q_cl, q_st_s, q_st_i, q_st_c, Nat.add_zero, Nat.zero_add]
      · simp only [f_X11_chairOf_2, f_X11_takenBy]
        simp (disch := omega) only [g6, q_ifF z, ↓reduceIte, ↓qM_e, ↓q_rem, q_mod, q_modN, q_lit, q_nI, q_lt, q_bd, q_ix, q_dz, q_iflt, q_ifnlt, q_ifeq, q_ifne, q_ifM, q_ifMM, q_ifMlt, q_ifltM, nI_add, pk_mul, q_sub, q_div, q_cl, q_st_s, q_st_i, q_st_c, Nat.add_zero, Nat.zero_add]
  · obtain ⟨rfl, rfl⟩ := hI
    refine ⟨some (-1, h), some (-1, k), fun rec => ?_, fun rec => ?_, -1, rfl, rfl⟩
    · simp only [f_X4_chairOf_2]
      rw [g9, q_ifF (nI_nlt (Nat.le_refl C) (by omega))]
    · simp only [f_X11_chairOf_2]
      rw [g6, q_ifF (nI_nlt (Nat.le_refl C) (by omega))]
theorem q_rockFor {h k : zHp} {o C P p : Nat} (X : qCtx h k o C P) (hp : p < 14) : ∃ S, f_X4_rockingFor o (nI p) h = some (nI S, h) ∧ f_X11_who_91_lp zN (nI p, nI 0, nI 0, k) = some (nI S, k) := by
  have hC := X.2.2.1.1
  have g9 : h o 9 = nI C := X.2.1.1
  have g6 : k 0 6 = nI C := X.1.1
  unfold f_X4_rockingFor f_X4_rockingFor_4_lp f_X11_who_91_lp
  refine q_exit2 (b1 := fun k4 v => f_X4_rockingFor_4 o k4 v.1 v.2.1 v.2.2.1 v.2.2.2) (b2 := fun k91 v => f_X11_who_91 k91 v.1 v.2.1 v.2.2.1 v.2.2.2) (I := fun i v u => ∃ S, v = (nI p, nI S, nI i, h) ∧ u = (nI p, nI S, nI i, k)) C (Q := fun x y => ∃ S, x = some (nI S, h) ∧ y = some (nI S, k)) (fun i v u hi hI => Or.inl ?_) (fun v u hI => ?_) _ _ ⟨0, rfl, rfl⟩ zN zN (by rw [q_zN]; omega) (by rw [q_zN]; omega)
  · obtain ⟨S, rfl, rfl⟩ := hI
    obtain ⟨s, f, t, a1, a2, a3, a4, a5, a6, a7, a8, a9, a10, a11, a12⟩ := q_chair X hi
    have hP := X.2.2.1.2.1
    have rX := q_rocksX hC g9 hi a7 (by omega)
    have wM : f_X11_forWhom (nI i) k = some (nI f - nI 1, k) := by
      unfold f_X11_forWhom
      simp (disch := omega) only [a5, ↓reduceIte, ↓qM_e, ↓q_rem, q_mod, q_modN, q_lit, q_nI, q_lt, q_bd, q_ix, q_dz, q_iflt, q_ifnlt, q_ifeq, q_ifne, q_ifM, q_ifMM, q_ifMlt, q_ifltM, nI_add, pk_mul, q_sub, q_div, q_cl, q_st_s, q_st_i, q_st_c, Nat.add_zero, Nat.zero_add]
    have a8' : h (o + 3) i = nI f - nI 1 := a8
    by_cases z : f = p + 1
    · have z1 : nI f - nI 1 = nI p := by rw [z]; exact nI_pred p
      rw [if_pos (by omega)] at rX
      refine ⟨(nI p, nI (S ||| 2 ^ i), nI (i + 1), h), (nI p, nI (S ||| 2 ^ i), nI (i + 1), k), fun rec => ?_, fun rec => ?_, _, rfl, rfl⟩
      · simp only [f_X4_rockingFor_4]
        simp (disch := omega) only [g9, rX, a8', z1, q_shl1, fa_or, ↓reduceIte, ↓qM_e, ↓q_rem, q_mod, q_modN, q_lit, q_nI, q_lt, q_bd, q_ix, q_dz, q_iflt, q_ifnlt, q_ifeq, q_ifne, q_ifM, q_ifMM, q_ifMlt, q_ifltM, nI_add, pk_mul, q_sub, q_div, q_cl, q_st_s, q_st_i, q_st_c, Nat.add_zero, Nat.zero_add]
      · simp only [f_X11_who_91]
        simp (disch := omega) only [g6, wM, z1, q_shl1, fa_or, ↓reduceIte, ↓qM_e, ↓q_rem, q_mod, q_modN, q_lit, q_nI, q_lt, q_bd, q_ix, q_dz, q_iflt, q_ifnlt, q_ifeq, q_ifne, q_ifM, q_ifMM, q_ifMlt, q_ifltM, nI_add, pk_mul, q_sub, q_div, q_cl, q_st_s, q_st_i, q_st_c, Nat.add_zero, Nat.zero_add]
    · have z1 : ¬ nI f - nI 1 = nI p := fun q => z ((q_m1p (by omega) (by omega)).mp q)
      refine ⟨(nI p, nI S, nI (i + 1), h), (nI p, nI S, nI (i + 1), k), fun rec => ?_, fun rec => ?_, _, rfl, rfl⟩
      · rcases Nat.eq_zero_or_pos s with y | y
        · rw [if_neg (by omega)] at rX
          simp only [f_X4_rockingFor_4]
          simp (disch := omega) only [g9, rX, ↓reduceIte, ↓qM_e, ↓q_rem, q_mod, q_modN, q_lit, q_nI, q_lt, q_bd, q_ix, q_dz, q_iflt, q_ifnlt, q_ifeq, q_ifne, q_ifM, q_ifMM, q_ifMlt, q_ifltM, nI_add, pk_mul, q_sub, q_div, q_cl, q_st_s, q_st_i, q_st_c, Nat.add_zero, Nat.zero_add]
        · rw [if_pos y] at rX
          simp only [f_X4_rockingFor_4]
          simp (disch := omega) only [g9, rX, a8', q_ifF z1, ↓reduceIte, ↓qM_e, ↓q_rem, q_mod, q_modN, q_lit, q_nI, q_lt, q_bd, q_ix, q_dz, q_iflt, q_ifnlt, q_ifeq, q_ifne, q_ifM, q_ifMM, q_ifMlt, q_ifltM, nI_add, pk_mul, q_sub, q_div, q_cl, q_st_s, q_st_i, q_st_c, Nat.add_zero, Nat.zero_add]
      · simp only [f_X11_who_91]
        simp (disch := omega) only [g6, wM, q_ifF z1, ↓reduceIte, ↓qM_e, ↓q_rem, q_mod, q_modN, q_lit, q_nI, q_lt, q_bd, q_ix, q_dz, q_iflt, q_ifnlt, q_ifeq, q_ifne, q_ifM, q_ifMM, q_ifMlt, q_ifltM, nI_add, pk_mul, q_sub, q_div, q_cl, q_st_s, q_st_i, q_st_c, Nat.add_zero, Nat.zero_add]
  · obtain ⟨S, rfl, rfl⟩ := hI
    refine ⟨some (nI S, h), some (nI S, k), fun rec => ?_, fun rec => ?_, S, rfl, rfl⟩
    · simp only [f_X4_rockingFor_4]
      rw [g9, q_ifF (nI_nlt (Nat.le_refl C) (by omega))]
    · simp only [f_X11_who_91]
      rw [g6, q_ifF (nI_nlt (Nat.le_refl C) (by omega))]
theorem q_call_who {h k : zHp} (R : qRel h k) (a b : Int32) : qCall (f_X10_who a b h) (f_X11_who a b k) := by
  have R0 : qRel h (zst k 0 0 0) := qRel_s (qXs_rf h) (qMs_s0 k) R
  refine q_th_ask R ?_
  obtain ⟨k0, hk0⟩ : ∃ k0, k0 = zst k 0 0 0 := ⟨_, rfl⟩
  rw [← hk0] at R0 ⊢
  obtain ⟨C, P, n, m, M, -⟩ := qRel_M (β := (h, h)) R0
  have hC := M.1.2.2.1.1
  have hP := M.1.2.2.1.2.1
  have stay : ∀ v x y, x = some (v, h) → y = some (v, k0) → qAsk h k0 x y := fun v x y hx hy => ⟨v, h, k0, hx, hy, qXs_rf h, qMs_rf _⟩
  unfold f_X10_who f_X11_who
  rw [q_lt, ← hk0]
  rcases (q_pers M.1 a).symm with ⟨n1, n2⟩ | ⟨p, hp, rfl⟩
  · refine stay (-2) _ _ ?_ ?_
    · rw [n1, q_bd]; exact if_pos rfl
    · rw [n2, q_bd]; exact if_pos rfl
  have iX := q_isPe hP M.1.2.1.2.1 hp
  have iM := q_isPM M.1.1.2 hP hp
  obtain ⟨w6, w7, w8, w5⟩ := qCtx_p M.1 hp
  have w6' : h 8 p = k0 1 (35 + p) := w6
  have w7' : h 9 p = k0 1 (49 + p) := w7
  have w8' : h 10 p = k0 1 (63 + p) := w8
  have w5' : h 7 p = k0 5 p := w5
  rw [iX, q_bd, iM, q_bd]
  dsimp only
  rw [if_neg (show ¬ nI 1 = 0 by decide), if_neg (show ¬ nI 1 = 0 by decide)]
  rcases q_rng 0 6 b (by omega) with o | ⟨j, -, hj, rfl⟩
  · have ne : ∀ j, j ≤ 6 → ¬ b = nI j := by
      intro j hj e
      subst e
      rcases o with o | o
      · exact nI_pos (by omega) o
      · exact nI_nlt (a := 6) hj (by omega) o
    have o3 : f_X11_isIn b (nI 1) (nI 3) k0 = some (nI 0, k0) := by
      refine q_inO ?_
      rcases o with o | o
      · exact Or.inl (Int32.lt_trans o (show nI 0 < nI 1 by decide))
      · exact Or.inr (Int32.lt_trans (show nI 3 < nI 6 by decide) o)
    refine stay (-2) _ _ ?_ ?_
    · rw [if_neg (show ¬ b = (0 : Int32) from ne 0 (by omega)), if_neg (show ¬ b = (1 : Int32) from ne 1 (by omega)), if_neg (show ¬ b = (2 : Int32) from ne 2 (by omega)), if_neg (show ¬ b = (3 : Int32) from ne 3 (by omega)), if_neg (show ¬ b = (4 : Int32) from ne 4 (by omega)), if_neg (show ¬ b = (5 : Int32) from ne 5 (by omega)), if_neg (show ¬ b = (6 : Int32) from ne 6 (by omega))]
    · rw [if_neg (show ¬ b = (0 : Int32) from ne 0 (by omega)), show (1 : Int32) = nI 1 from rfl, show (3 : Int32) = nI 3 from rfl, o3, q_bd]
      dsimp only
      rw [if_pos (show nI 0 = 0 from rfl), if_neg (show ¬ b = (4 : Int32) from ne 4 (by omega)), if_neg (show ¬ b = (6 : Int32) from ne 6 (by omega)), if_neg (show ¬ b = (5 : Int32) from ne 5 (by omega))]
  rcases (show j = 0 ∨ (1 ≤ j ∧ j ≤ 3) ∨ j = 4 ∨ j = 5 ∨ j = 6 by omega) with rfl | h3 | rfl | rfl | rfl
  · refine stay (k0 5 p) _ _ ?_ ?_
    · simp (disch := omega) only [w5', ↓reduceIte, ↓qM_e, ↓q_rem, q_mod, q_modN, q_lit, q_nI, q_lt, q_bd, q_ix, q_dz, q_iflt, q_ifnlt, q_ifeq, q_ifne, q_ifM, q_ifMM, q_ifMlt, q_ifltM, nI_add, pk_mul, q_sub, q_div, q_cl, q_st_s, q_st_i, q_st_c, Nat.add_zero, Nat.zero_add]
    · simp (disch := omega) only [↓reduceIte, ↓qM_e, ↓q_rem, q_mod, q_modN, q_lit, q_nI, q_lt, q_bd, q_ix, q_dz, q_iflt, q_ifnlt, q_ifeq, q_ifne, q_ifM, q_ifMM, q_ifMlt, q_ifltM, nI_add, pk_mul, q_sub, q_div, q_cl, q_st_s, q_st_i, q_st_c, Nat.add_zero, Nat.zero_add]
  · have i3 := q_inI (h := k0) (a := j) (lo := 1) (hi := 3) h3.1 h3.2 (by omega)
    rcases (show j = 1 ∨ j = 2 ∨ j = 3 by omega) with rfl | rfl | rfl
    · refine stay (k0 1 (35 + p)) _ _ ?_ ?_
      · simp (disch := omega) only [w6', ↓reduceIte, ↓qM_e, ↓q_rem, q_mod, q_modN, q_lit, q_nI, q_lt, q_bd, q_ix, q_dz, q_iflt, q_ifnlt, q_ifeq, q_ifne, q_ifM, q_ifMM, q_ifMlt, q_ifltM, nI_add, pk_mul, q_sub, q_div, q_cl, q_st_s, q_st_i, q_st_c, Nat.add_zero, Nat.zero_add]
      · simp (disch := omega) only [i3, ↓reduceIte, ↓qM_e, ↓q_rem, q_mod, q_modN, q_lit, q_nI, q_lt, q_bd, q_ix, q_dz, q_iflt, q_ifnlt, q_ifeq, q_ifne, q_ifM, q_ifMM, q_ifMlt, q_ifltM, nI_add, pk_mul, q_sub, q_div, q_cl, q_st_s, q_st_i, q_st_c, Nat.add_zero, Nat.zero_add]
    · refine stay (k0 1 (49 + p)) _ _ ?_ ?_
      · simp (disch := omega) only [w7', ↓reduceIte, ↓qM_e, ↓q_rem, q_mod, q_modN, q_lit, q_nI, q_lt, q_bd, q_ix, q_dz, q_iflt, q_ifnlt, q_ifeq, q_ifne, q_ifM, q_ifMM, q_ifMlt, q_ifltM, nI_add, pk_mul, q_sub, q_div, q_cl, q_st_s, q_st_i, q_st_c, Nat.add_zero, Nat.zero_add]
      · simp (disch := omega) only [i3, ↓reduceIte, ↓qM_e, ↓q_rem, q_mod, q_modN, q_lit, q_nI, q_lt, q_bd, q_ix, q_dz, q_iflt, q_ifnlt, q_ifeq, q_ifne, q_ifM, q_ifMM, q_ifMlt, q_ifltM, nI_add, pk_mul, q_sub, q_div, q_cl, q_st_s, q_st_i, q_st_c, Nat.add_zero, Nat.zero_add]
    · refine stay (k0 1 (63 + p)) _ _ ?_ ?_
      · simp (disch := omega) only [w8', ↓reduceIte, ↓qM_e, ↓q_rem, q_mod, q_modN, q_lit, q_nI, q_lt, q_bd, q_ix, q_dz, q_iflt, q_ifnlt, q_ifeq, q_ifne, q_ifM, q_ifMM, q_ifMlt, q_ifltM, nI_add, pk_mul, q_sub, q_div, q_cl, q_st_s, q_st_i, q_st_c, Nat.add_zero, Nat.zero_add]
      · simp (disch := omega) only [i3, ↓reduceIte, ↓qM_e, ↓q_rem, q_mod, q_modN, q_lit, q_nI, q_lt, q_bd, q_ix, q_dz, q_iflt, q_ifnlt, q_ifeq, q_ifne, q_ifM, q_ifMM, q_ifMlt, q_ifltM, nI_add, pk_mul, q_sub, q_div, q_cl, q_st_s, q_st_i, q_st_c, Nat.add_zero, Nat.zero_add]
  · obtain ⟨v, v1, v2⟩ := q_chairOf M.1 (p := p) (by omega)
    have i3 : f_X11_isIn (nI 4) (nI 1) (nI 3) k0 = some (nI 0, k0) := q_inO (Or.inr (by decide))
    refine stay v _ _ ?_ ?_
    · simp (disch := omega) only [v1, ↓reduceIte, ↓qM_e, ↓q_rem, q_mod, q_modN, q_lit, q_nI, q_lt, q_bd, q_ix, q_dz, q_iflt, q_ifnlt, q_ifeq, q_ifne, q_ifM, q_ifMM, q_ifMlt, q_ifltM, nI_add, pk_mul, q_sub, q_div, q_cl, q_st_s, q_st_i, q_st_c, Nat.add_zero, Nat.zero_add]
    · simp (disch := omega) only [i3, v2, ↓reduceIte, ↓qM_e, ↓q_rem, q_mod, q_modN, q_lit, q_nI, q_lt, q_bd, q_ix, q_dz, q_iflt, q_ifnlt, q_ifeq, q_ifne, q_ifM, q_ifMM, q_ifMlt, q_ifltM, nI_add, pk_mul, q_sub, q_div, q_cl, q_st_s, q_st_i, q_st_c, Nat.add_zero, Nat.zero_add]
  · obtain ⟨S, v1, v2⟩ := q_rockFor M.1 (p := p) (by omega)
    have i3 : f_X11_isIn (nI 5) (nI 1) (nI 3) k0 = some (nI 0, k0) := q_inO (Or.inr (by decide))
    refine stay (nI S) _ _ ?_ ?_
    · simp (disch := omega) only [v1, ↓reduceIte, ↓qM_e, ↓q_rem, q_mod, q_modN, q_lit, q_nI, q_lt, q_bd, q_ix, q_dz, q_iflt, q_ifnlt, q_ifeq, q_ifne, q_ifM, q_ifMM, q_ifMlt, q_ifltM, nI_add, pk_mul, q_sub, q_div, q_cl, q_st_s, q_st_i, q_st_c, Nat.add_zero, Nat.zero_add]
    · simp (disch := omega) only [i3, v2, ↓reduceIte, ↓qM_e, ↓q_rem, q_mod, q_modN, q_lit, q_nI, q_lt, q_bd, q_ix, q_dz, q_iflt, q_ifnlt, q_ifeq, q_ifne, q_ifM, q_ifMM, q_ifMlt, q_ifltM, nI_add, pk_mul, q_sub, q_div, q_cl, q_st_s, q_st_i, q_st_c, Nat.add_zero, Nat.zero_add]
  · obtain ⟨nk, xK⟩ := M.1.2.2.2.2
    obtain ⟨mm, m1, m2, m3⟩ := q_kinN hP xK hp
    have i3 : f_X11_isIn (nI 6) (nI 1) (nI 3) k0 = some (nI 0, k0) := q_inO (Or.inr (by decide))
    refine stay (nI mm) _ _ ?_ ?_
    · simp (disch := omega) only [m3, ↓reduceIte, ↓qM_e, ↓q_rem, q_mod, q_modN, q_lit, q_nI, q_lt, q_bd, q_ix, q_dz, q_iflt, q_ifnlt, q_ifeq, q_ifne, q_ifM, q_ifMM, q_ifMlt, q_ifltM, nI_add, pk_mul, q_sub, q_div, q_cl, q_st_s, q_st_i, q_st_c, Nat.add_zero, Nat.zero_add]
    · simp (disch := omega) only [i3, m2, ↓reduceIte, ↓qM_e, ↓q_rem, q_mod, q_modN, q_lit, q_nI, q_lt, q_bd, q_ix, q_dz, q_iflt, q_ifnlt, q_ifeq, q_ifne, q_ifM, q_ifMM, q_ifMlt, q_ifltM, nI_add, pk_mul, q_sub, q_div, q_cl, q_st_s, q_st_i, q_st_c, Nat.add_zero, Nat.zero_add]
theorem q_call_fault {h k : zHp} (R : qRel h k) (a : Int32) : qCall (f_X10_fault a h) (f_X11_fault a k) := by
  refine q_th_ask R ?_
  obtain ⟨-, -, -, -, -, x6, x7⟩ := R.2.2.2.1
  have e6 : zst k 0 0 0 0 32 = k 0 32 := q_st_i (by omega)
  have e7 : zst k 0 0 0 0 33 = k 0 33 := q_st_i (by omega)
  have stay : ∀ v x y, x = some (v, h) → y = some (v, zst k 0 0 0) → qAsk h (zst k 0 0 0) x y := fun v x y hx hy => ⟨v, h, zst k 0 0 0, hx, hy, qXs_rf h, qMs_rf _⟩
  unfold f_X10_fault f_X11_fault
  rw [q_lt]
  by_cases z0 : a = 0
  · rw [if_pos z0, if_pos z0]
    exact stay (k 0 32) _ _ (by rw [x6]) (by rw [e6])
  rw [if_neg z0, if_neg z0]
  by_cases z1 : a = 1
  · rw [if_pos z1, if_pos z1]
    exact stay (k 0 33) _ _ (by rw [x7]) (by rw [e7])
  rw [if_neg z1, if_neg z1]
  exact stay (-1) _ _ rfl rfl
/-- the tape and what reading faulted -/
theorem qRel_tape {h h' k k' : zHp} (R : qRel h k) (e : ∀ a, a ≠ 145 → a ≠ 146 → h' a = h a) (f : ∀ a, a ≠ 0 → a ≠ 7 → k' a = k a) (f0 : ∀ i, i ≠ 0 → i ≠ 12 → i ≠ 32 → i ≠ 33 → k' 0 i = k 0 i) (T : qTape h' k') (g1 : h' 145 12 = k' 0 32) (g2 : h' 145 13 = k' 0 33) : qRel h' k' := by
  obtain ⟨h1, ⟨u, m, C, P, n, p1, p2, p3, p4, p5, p6, p7, p8⟩, -, ⟨x1, x2, x3, x4, x5, -, -⟩, h5⟩ := R
  have as : qAs k k' := by
    intro a i hp
    by_cases z : a = 0
    · subst z
      refine f0 i ?_ ?_ ?_ ?_ <;> (intro q; subst q; exact hp rfl)
    · refine congrFun (f a z (fun q => by subst q; exact hp rfl)) i
  have f38 : k' 38 = k 38 := f 38 (by omega) (by omega)
  refine ⟨qWh_c (fun a q1 q2 q3 => e a (by omega) (by omega)) as h1, ⟨u, m, C, P, n, p1, p2, by rw [e 79 (by omega) (by omega)]; exact p3, by rw [f0 3 (by omega) (by omega) (by omega) (by omega)]; exact p4, by rw [e 79 (by omega) (by omega)]; exact p5, qCh_c as p6, by rw [f 1 (by omega) (by omega)]; exact p7, fun j hj => ?_⟩, T, ⟨by rw [e 2 (by omega) (by omega)]; exact x1, by rw [e 136 (by omega) (by omega)]; exact x2, by rw [e 157 (by omega) (by omega)]; exact x3, by rw [f0 5 (by omega) (by omega) (by omega) (by omega)]; exact x4, by rw [f 8 (by omega) (by omega)]; exact x5, g1, g2⟩, ?_⟩
  · obtain ⟨y1, y2, y3⟩ := p8 j hj
    have hm : (m + 6 - u + j) % 6 < 6 := Nat.mod_lt _ (by omega)
    rw [f 2 (by omega) (by omega), f 4 (by omega) (by omega), f 5 (by omega) (by omega), e 81 (by omega) (by omega)]
    exact ⟨qPo_c y2.1 y2.2.1 (fun a q1 q2 => e a (by omega) (by omega)) (fun _ _ => rfl) (fun _ _ => rfl) (fun _ _ => rfl) y1, y2, y3⟩
  · rw [e 0 (by omega) (by omega), f0 66 (by omega) (by omega) (by omega) (by omega), e 50 (by omega) (by omega), e 59 (by omega) (by omega), e 61 (by omega) (by omega), e 63 (by omega) (by omega)]
    rcases h5 with q | ⟨q1, q2, q3⟩
    · exact Or.inl q
    · exact Or.inr ⟨q1, q2, qWh_c (fun a z1 z2 z3 => e a (by omega) (by omega)) (qAs_un f38) q3⟩
theorem q_call_end {h k : zHp} (R : qRel h k) (a : Int32) : qCall (f_X10_end a h) (f_X11_end a k) := by
  have R0 : qRel h (zst k 0 0 0) := qRel_s (qXs_rf h) (qMs_s0 k) R
  obtain ⟨k0, hk0⟩ : ∃ k0, k0 = zst k 0 0 0 := ⟨_, rfl⟩
  rw [← hk0] at R0
  obtain ⟨n, n1, n2, n3, n4⟩ := R0.2.2.1
  obtain ⟨-, -, -, -, -, x6, x7⟩ := R0.2.2.2.1
  have hk0' : zst k 0 0 (nI 0) = k0 := hk0.symm
  unfold f_X10_end f_X11_end
  rcases q_rng 0 n a (by omega) with o | ⟨j, -, hj, rfl⟩
  · have w1 := q_wiO (h := h) o
    have w2 := q_inO (h := k0) o
    refine ⟨nI 0, h, k0, ?_, ?_, R0⟩
    · simp (disch := omega) only [n2, w1, ↓reduceIte, ↓qM_e, ↓q_rem, q_mod, q_modN, q_lit, q_nI, q_lt, q_bd, q_ix, q_dz, q_iflt, q_ifnlt, q_ifeq, q_ifne, q_ifM, q_ifMM, q_ifMlt, q_ifltM, nI_add, pk_mul, q_sub, q_div, q_cl, q_st_s, q_st_i, q_st_c, Nat.add_zero, Nat.zero_add]
    · simp (disch := omega) only [hk0', n3, w2, ↓reduceIte, ↓qM_e, ↓q_rem, q_mod, q_modN, q_lit, q_nI, q_lt, q_bd, q_ix, q_dz, q_iflt, q_ifnlt, q_ifeq, q_ifne, q_ifM, q_ifMM, q_ifMlt, q_ifltM, nI_add, pk_mul, q_sub, q_div, q_cl, q_st_s, q_st_i, q_st_c, Nat.add_zero, Nat.zero_add]
  · have w1 := q_wiI (h := h) (a := j) (m := n) hj (by omega)
    have w2 := q_inI (h := k0) (a := j) (lo := 0) (hi := n) (Nat.zero_le j) hj (by omega)
    refine ⟨nI 1, zst h 145 1 (nI j), zst k0 0 12 (nI j), ?_, ?_, qRel_tape R0 (fun a q1 q2 => q_st_c q1) (fun a q1 q2 => q_st_c q1) (fun i _ q2 _ _ => q_st_i q2) ⟨j, by omega, q_st_s, q_st_s, fun i hi => ?_⟩ ?_ ?_⟩
    · simp (disch := omega) only [n2, w1, ↓reduceIte, ↓qM_e, ↓q_rem, q_mod, q_modN, q_lit, q_nI, q_lt, q_bd, q_ix, q_dz, q_iflt, q_ifnlt, q_ifeq, q_ifne, q_ifM, q_ifMM, q_ifMlt, q_ifltM, nI_add, pk_mul, q_sub, q_div, q_cl, q_st_s, q_st_i, q_st_c, Nat.add_zero, Nat.zero_add]
    · simp (disch := omega) only [hk0', n3, w2, ↓reduceIte, ↓qM_e, ↓q_rem, q_mod, q_modN, q_lit, q_nI, q_lt, q_bd, q_ix, q_dz, q_iflt, q_ifnlt, q_ifeq, q_ifne, q_ifM, q_ifMM, q_ifMlt, q_ifltM, nI_add, pk_mul, q_sub, q_div, q_cl, q_st_s, q_st_i, q_st_c, Nat.add_zero, Nat.zero_add]
    · rw [q_st_c (by omega), q_st_c (by omega)]; exact n4 i (by omega)
    · rw [q_st_i (by omega), q_st_i (by omega)]; exact x6
    · rw [q_st_i (by omega), q_st_i (by omega)]; exact x7
end Qwho
