section Qrug4
theorem q_rugXM {h k : zHp} {fu : Nat → Bool} (SX : qRX h fu) (SM : qRM k fu) : ∃ A B : Nat, (∀ w, f_X5_rugs w h = some (if w = 0 then nI A else nI B, h)) ∧ (∀ w, f_X11_rug_24_lp zN (w, nI 0, nI 0, nI 0, k) = some (if w = 0 then nI A else nI B, k)) := by
  obtain ⟨s1, s2⟩ := q_same fu 36 (Nat.le_refl 36)
  refine ⟨qRA fu 36, qRB fu 36, fun w => q_rugX SX w, fun w => ?_⟩
  rw [← s1, ← s2]
  exact q_rugM SM w
theorem q_fu {h k : zHp} (R : qRel h k) : ∃ fu, qRX h fu ∧ qRM (zst k 0 0 (nI 0)) fu := by
  obtain ⟨C, P, -, -, -, -, -, -, -, -, -, -, -, -, -, H⟩ := R.1
  refine ⟨fun i => decide (k 29 i = 1), fun i hi => ?_, fun i hi => ?_⟩
  · have e : h 39 i = k 29 i := (H i hi).1
    rw [e]
    rcases (H i hi).2 with q | q
    · simp only [q]; decide
    · simp only [q]; decide
  · rw [q_st_c (by decide)]
    rcases (H i hi).2 with q | q
    · simp only [q]; decide
    · simp only [q]; decide
theorem q_rugXa {h : zHp} {A B v : Nat} (hv : v ≤ 1) (eX : ∀ w, f_X5_rugs w h = some (if w = 0 then nI A else nI B, h)) : f_X10_rug (nI v) h = some (if v = 0 then nI A else nI B, h) := by
  have i2 := q_wiI (h := h) hv (by omega)
  unfold f_X10_rug
  rcases (show v = 0 ∨ v = 1 by omega) with rfl | rfl
  · have e1 : f_X5_rugs (nI 0) h = some (nI A, h) := by rw [eX, if_pos (show nI 0 = 0 from rfl)]
    rw [if_pos (show (0 : Nat) = 0 from rfl)]
    simp (disch := omega) only [i2, e1, ↓reduceIte, ↓qM_e, ↓q_rem, q_mod, q_modN, q_lit, q_nI, q_lt, q_bd, q_ix, q_dz, q_iflt, q_ifnlt, q_ifeq, q_ifne, q_ifM, q_ifMM, q_ifMlt, q_ifltM, nI_add, pk_mul, q_sub, q_div, q_cl, q_st_s, q_st_i, q_st_c, Nat.add_zero, Nat.zero_add]
  · have e1 : f_X5_rugs (nI 1) h = some (nI B, h) := by rw [eX, if_neg (show ¬ nI 1 = 0 by decide)]
    rw [if_neg (show ¬ (1 : Nat) = 0 by omega)]
    simp (disch := omega) only [i2, e1, ↓reduceIte, ↓qM_e, ↓q_rem, q_mod, q_modN, q_lit, q_nI, q_lt, q_bd, q_ix, q_dz, q_iflt, q_ifnlt, q_ifeq, q_ifne, q_ifM, q_ifMM, q_ifMlt, q_ifltM, nI_add, pk_mul, q_sub, q_div, q_cl, q_st_s, q_st_i, q_st_c, Nat.add_zero, Nat.zero_add]
theorem q_rugMa {k : zHp} {A B v : Nat} (hv : v ≤ 1) (eM : ∀ w, f_X11_rug_24_lp zN (w, nI 0, nI 0, nI 0, zst k 0 0 (nI 0)) = some (if w = 0 then nI A else nI B, zst k 0 0 (nI 0))) : f_X11_rug (nI v) k = some (if v = 0 then nI A else nI B, zst k 0 0 (nI 0)) := by
  have i1 := q_inI (h := zst k 0 0 (nI 0)) (lo := 0) (by omega) hv (by omega)
  unfold f_X11_rug
  rw [show (0 : Int32) = nI 0 from rfl, show (1 : Int32) = nI 1 from rfl, q_lt, i1, q_bd]
  dsimp only
  rw [q_ifF (show ¬ nI 1 = nI 0 by decide), eM]
  rcases (show v = 0 ∨ v = 1 by omega) with rfl | rfl
  · rw [if_pos (show nI 0 = 0 from rfl), if_pos (show (0 : Nat) = 0 from rfl)]
  · rw [if_neg (show ¬ nI 1 = 0 by decide), if_neg (show ¬ (1 : Nat) = 0 by omega)]
theorem q_ask_rug {h k : zHp} (R : qRel h k) (w : Int32) : qAsk h k (f_X10_rug w h) (f_X11_rug w k) := by
  obtain ⟨fu, SX, SM⟩ := q_fu R
  obtain ⟨A, B, eX, eM⟩ := q_rugXM SX SM
  rcases q_rng 0 1 w (by omega) with o | ⟨v, -, hv, rfl⟩
  · exact ⟨-1, h, zst k 0 0 0, by (simp only [f_X10_rug]; simp (disch := omega) only [f_X10_rug, q_wiO o, ↓reduceIte, ↓qM_e, ↓q_rem, q_mod, q_modN, q_lit, q_nI, q_lt, q_bd, q_ix, q_dz, q_iflt, q_ifnlt, q_ifeq, q_ifne, q_ifM, q_ifMM, q_ifMlt, q_ifltM, nI_add, pk_mul, q_sub, q_div, q_cl, q_st_s, q_st_i, q_st_c, Nat.add_zero, Nat.zero_add]), by (simp only [f_X11_rug]; simp (disch := omega) only [f_X11_rug, q_inO o, ↓reduceIte, ↓qM_e, ↓q_rem, q_mod, q_modN, q_lit, q_nI, q_lt, q_bd, q_ix, q_dz, q_iflt, q_ifnlt, q_ifeq, q_ifne, q_ifM, q_ifMM, q_ifMlt, q_ifltM, nI_add, pk_mul, q_sub, q_div, q_cl, q_st_s, q_st_i, q_st_c, Nat.add_zero, Nat.zero_add]), qXs_rf h, qMs_s0 k⟩
  exact ⟨_, h, zst k 0 0 (nI 0), q_rugXa hv eX, q_rugMa hv eM, qXs_rf h, qMs_s0 k⟩
end Qrug4
