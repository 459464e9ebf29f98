/-! HANDS, THROWS -/
section Qhands
def qOut (lo hi : Nat) (x : Int32) : Prop := x < nI lo ∨ nI hi < x
theorem q_rng (lo hi : Nat) (x : Int32) (hl : lo < 2147483648) : qOut lo hi x ∨ ∃ j, lo ≤ j ∧ j ≤ hi ∧ x = nI j := by
  by_cases h1 : x < nI lo
  · exact Or.inl (Or.inl h1)
  by_cases h2 : nI hi < x
  · exact Or.inl (Or.inr h2)
  by_cases h0 : x < 0
  · exact absurd (Int32.lt_of_lt_of_le h0 (nI_pos' hl)) h1
  · obtain ⟨j, hj, rfl⟩ := nI_of h0
    exact Or.inr ⟨j, Nat.le_of_not_lt fun z => h1 (nI_lt z hl), Nat.le_of_not_lt fun z => h2 (nI_lt z hj), rfl⟩
theorem q_wiO {x : Int32} {m : Nat} {h : zHp} (o : qOut 0 m x) : f_X10_within x (nI m) h = some (nI 0, h) := by
  unfold f_X10_within
  by_cases c : x < 0
  · rw [if_pos c]; rfl
  · rw [if_neg c, if_pos (o.resolve_left c)]; rfl
theorem q_wiI {a m : Nat} {h : zHp} (o : a ≤ m) (hm : m < 2147483648) : f_X10_within (nI a) (nI m) h = some (nI 1, h) := by
  unfold f_X10_within
  simp (disch := omega) only [↓reduceIte, ↓qM_e, ↓q_rem, q_mod, q_modN, q_lit, q_nI, q_lt, q_bd, q_ix, q_dz, q_iflt, q_ifnlt, q_ifeq, q_ifne, q_ifM, q_ifMM, q_ifMlt, q_ifltM, nI_add, pk_mul, q_sub, q_div, q_cl, q_st_s, q_st_i, q_st_c, Nat.add_zero, Nat.zero_add]
theorem q_inO {x : Int32} {lo hi : Nat} {h : zHp} (o : qOut lo hi x) : f_X11_isIn x (nI lo) (nI hi) h = some (nI 0, h) := by
  unfold f_X11_isIn
  by_cases c : x < nI lo
  · rw [if_pos c]; rfl
  · rw [if_neg c, if_pos (o.resolve_left c)]; rfl
theorem q_inI {a lo hi : Nat} {h : zHp} (o1 : lo ≤ a) (o : a ≤ hi) (hm : hi < 2147483648) : f_X11_isIn (nI a) (nI lo) (nI hi) h = some (nI 1, h) := by
  unfold f_X11_isIn
  simp (disch := omega) only [↓reduceIte, ↓qM_e, ↓q_rem, q_mod, q_modN, q_lit, q_nI, q_lt, q_bd, q_ix, q_dz, q_iflt, q_ifnlt, q_ifeq, q_ifne, q_ifM, q_ifMM, q_ifMlt, q_ifltM, nI_add, pk_mul, q_sub, q_div, q_cl, q_st_s, q_st_i, q_st_c, Nat.add_zero, Nat.zero_add]
theorem q_out2 {R : Type} {x : Int32} {lo hi : Nat} {t e : R} {i : Decidable (x < nI lo)} {j : Decidable (nI hi < x)} (o : qOut lo hi x) : @ite R (x < nI lo) i t (@ite R (nI hi < x) j t e) = t := by
  by_cases c : x < nI lo
  · rw [if_pos c]
  · rw [if_neg c, if_pos (o.resolve_left c)]
def qCnt (p : Nat → Bool) : Nat → Nat
  | 0 => 0
  | n + 1 => if p n then qCnt p n + 1 else qCnt p n
theorem qCnt_le (p : Nat → Bool) : ∀ n, qCnt p n ≤ n
  | 0 => Nat.le_refl 0
  | n + 1 => by
    have := qCnt_le p n
    unfold qCnt
    split <;> omega
def qHd (t : Nat) : Nat := if 360 < 11 * t % 720 then 720 - 11 * t % 720 else 11 * t % 720
theorem qHd_le (t : Nat) : qHd t ≤ 720 := by unfold qHd; split <;> omega
theorem q_hdM {t : Nat} (ht : t < 100000) (k : zHp) : f_X11_handsApart (nI t) k = some (nI (qHd t), k) := by
  unfold f_X11_handsApart qHd
  have := Nat.mod_lt (11 * t) (show 0 < 720 by omega)
  rcases Nat.lt_or_ge 360 (11 * t % 720) with z | z
  · rw [if_pos z]
    simp (disch := omega) only [↓reduceIte, ↓qM_e, ↓q_rem, q_mod, q_modN, q_lit, q_nI, q_lt, q_bd, q_ix, q_dz, q_iflt, q_ifnlt, q_ifeq, q_ifne, q_ifM, q_ifMM, q_ifMlt, q_ifltM, nI_add, pk_mul, q_sub, q_div, q_cl, q_st_s, q_st_i, q_st_c, Nat.add_zero, Nat.zero_add]
  · rw [if_neg (by omega)]
    simp (disch := omega) only [↓reduceIte, ↓qM_e, ↓q_rem, q_mod, q_modN, q_lit, q_nI, q_lt, q_bd, q_ix, q_dz, q_iflt, q_ifnlt, q_ifeq, q_ifne, q_ifM, q_ifMM, q_ifMlt, q_ifltM, nI_add, pk_mul, q_sub, q_div, q_cl, q_st_s, q_st_i, q_st_c, Nat.add_zero, Nat.zero_add]
theorem q_hdX {t : Nat} (ht : t < 100000) (k : zHp) : f_X5_handsApart (nI t) k = some (nI (qHd t), k) := by
  unfold f_X5_handsApart qHd
  have := Nat.mod_lt (11 * t) (show 0 < 720 by omega)
  rcases Nat.lt_or_ge 360 (11 * t % 720) with z | z
  · rw [if_pos z]
    simp (disch := omega) only [↓reduceIte, ↓qM_e, ↓q_rem, q_mod, q_modN, q_lit, q_nI, q_lt, q_bd, q_ix, q_dz, q_iflt, q_ifnlt, q_ifeq, q_ifne, q_ifM, q_ifMM, q_ifMlt, q_ifltM, nI_add, pk_mul, q_sub, q_div, q_cl, q_st_s, q_st_i, q_st_c, Nat.add_zero, Nat.zero_add]
  · rw [if_neg (by omega)]
    simp (disch := omega) only [↓reduceIte, ↓qM_e, ↓q_rem, q_mod, q_modN, q_lit, q_nI, q_lt, q_bd, q_ix, q_dz, q_iflt, q_ifnlt, q_ifeq, q_ifne, q_ifM, q_ifMM, q_ifMlt, q_ifltM, nI_add, pk_mul, q_sub, q_div, q_cl, q_st_s, q_st_i, q_st_c, Nat.add_zero, Nat.zero_add]
theorem q_nearX {t : Nat} (ht : t < 720) (k : zHp) : f_X5_handsAsNear (nI t) k = some (nI (qCnt (fun j => decide (qHd j ≤ qHd t)) (t + 1)), k) := by
  unfold f_X5_handsAsNear f_X5_handsAsNear_9_lp
  rw [q_hdX (by omega), q_bd]
  refine q_for (S := fun j => (nI t, nI (qHd t), nI (qCnt (fun j => decide (qHd j ≤ qHd t)) j), nI j, k)) (t + 1) (fun j hj rec => ?_) (fun rec => ?_) zN (by rw [q_zN]; omega)
  · have h1 := qHd_le j
    have h2 := qHd_le t
    have h3 := q_hdX (t := j) (by omega) k
    rcases Nat.lt_or_ge (qHd t) (qHd j) with z | z
    · simp only [f_X5_handsAsNear_9]
      simp (disch := omega) only [f_X5_handsAsNear_9, h3, ↓reduceIte, ↓qM_e, ↓q_rem, q_mod, q_modN, q_lit, q_nI, q_lt, q_bd, q_ix, q_dz, q_iflt, q_ifnlt, q_ifeq, q_ifne, q_ifM, q_ifMM, q_ifMlt, q_ifltM, nI_add, pk_mul, q_sub, q_div, q_cl, q_st_s, q_st_i, q_st_c, Nat.add_zero, Nat.zero_add]
      rw [qCnt, if_neg (by simp; omega)]
    · simp only [f_X5_handsAsNear_9]
      simp (disch := omega) only [f_X5_handsAsNear_9, h3, ↓reduceIte, ↓qM_e, ↓q_rem, q_mod, q_modN, q_lit, q_nI, q_lt, q_bd, q_ix, q_dz, q_iflt, q_ifnlt, q_ifeq, q_ifne, q_ifM, q_ifMM, q_ifMlt, q_ifltM, nI_add, pk_mul, q_sub, q_div, q_cl, q_st_s, q_st_i, q_st_c, Nat.add_zero, Nat.zero_add]
      rw [qCnt, if_pos (by simp; omega)]
  · simp only [f_X5_handsAsNear_9]
    simp (disch := omega) only [f_X5_handsAsNear_9, ↓reduceIte, ↓qM_e, ↓q_rem, q_mod, q_modN, q_lit, q_nI, q_lt, q_bd, q_ix, q_dz, q_iflt, q_ifnlt, q_ifeq, q_ifne, q_ifM, q_ifMM, q_ifMlt, q_ifltM, nI_add, pk_mul, q_sub, q_div, q_cl, q_st_s, q_st_i, q_st_c, Nat.add_zero, Nat.zero_add]
theorem q_nearM {t : Nat} (ht : t < 720) (k : zHp) : f_X11_hands_44_lp zN (nI t, nI 0, nI 0, k) = some (nI (qCnt (fun j => decide (qHd j ≤ qHd t)) (t + 1)), k) := by
  unfold f_X11_hands_44_lp
  refine q_for (S := fun j => (nI t, nI (qCnt (fun j => decide (qHd j ≤ qHd t)) j), nI j, k)) (t + 1) (fun j hj rec => ?_) (fun rec => ?_) zN (by rw [q_zN]; omega)
  · have h1 := qHd_le j
    have h2 := qHd_le t
    have h3 := q_hdM (t := j) (by omega) k
    have h4 := q_hdM (t := t) (by omega) k
    rcases Nat.lt_or_ge (qHd t) (qHd j) with z | z
    · simp only [f_X11_hands_44]
      simp (disch := omega) only [f_X11_hands_44, h3, h4, ↓reduceIte, ↓qM_e, ↓q_rem, q_mod, q_modN, q_lit, q_nI, q_lt, q_bd, q_ix, q_dz, q_iflt, q_ifnlt, q_ifeq, q_ifne, q_ifM, q_ifMM, q_ifMlt, q_ifltM, nI_add, pk_mul, q_sub, q_div, q_cl, q_st_s, q_st_i, q_st_c, Nat.add_zero, Nat.zero_add]
      rw [qCnt, if_neg (by simp; omega)]
    · simp only [f_X11_hands_44]
      simp (disch := omega) only [f_X11_hands_44, h3, h4, ↓reduceIte, ↓qM_e, ↓q_rem, q_mod, q_modN, q_lit, q_nI, q_lt, q_bd, q_ix, q_dz, q_iflt, q_ifnlt, q_ifeq, q_ifne, q_ifM, q_ifMM, q_ifMlt, q_ifltM, nI_add, pk_mul, q_sub, q_div, q_cl, q_st_s, q_st_i, q_st_c, Nat.add_zero, Nat.zero_add]
      rw [qCnt, if_pos (by simp; omega)]
  · simp only [f_X11_hands_44]
    simp (disch := omega) only [f_X11_hands_44, ↓reduceIte, ↓qM_e, ↓q_rem, q_mod, q_modN, q_lit, q_nI, q_lt, q_bd, q_ix, q_dz, q_iflt, q_ifnlt, q_ifeq, q_ifne, q_ifM, q_ifMM, q_ifMlt, q_ifltM, nI_add, pk_mul, q_sub, q_div, q_cl, q_st_s, q_st_i, q_st_c, Nat.add_zero, Nat.zero_add]
theorem q_ask_hands {h k : zHp} (a w : Int32) : qAsk h k (f_X10_hands a w h) (f_X11_hands a w k) := by
  unfold f_X10_hands f_X11_hands
  rcases q_rng 0 719 a (by omega) with o | ⟨t, -, ht, rfl⟩
  · refine ⟨-1, h, zst k 0 0 0, ?_, ?_, qXs_rf h, qMs_s0 k⟩
    · simp (disch := omega) only [q_wiO o, ↓reduceIte, ↓qM_e, ↓q_rem, q_mod, q_modN, q_lit, q_nI, q_lt, q_bd, q_ix, q_dz, q_iflt, q_ifnlt, q_ifeq, q_ifne, q_ifM, q_ifMM, q_ifMlt, q_ifltM, nI_add, pk_mul, q_sub, q_div, q_cl, q_st_s, q_st_i, q_st_c, Nat.add_zero, Nat.zero_add]
    · simp (disch := omega) only [q_inO o, ↓reduceIte, ↓qM_e, ↓q_rem, q_mod, q_modN, q_lit, q_nI, q_lt, q_bd, q_ix, q_dz, q_iflt, q_ifnlt, q_ifeq, q_ifne, q_ifM, q_ifMM, q_ifMlt, q_ifltM, nI_add, pk_mul, q_sub, q_div, q_cl, q_st_s, q_st_i, q_st_c, Nat.add_zero, Nat.zero_add]
  rcases q_rng 0 1 w (by omega) with o | ⟨v, -, hv, rfl⟩
  · refine ⟨-1, h, zst k 0 0 0, ?_, ?_, qXs_rf h, qMs_s0 k⟩
    · simp (disch := omega) only [q_wiI (h := h) ht (by omega), q_wiO o, ↓reduceIte, ↓qM_e, ↓q_rem, q_mod, q_modN, q_lit, q_nI, q_lt, q_bd, q_ix, q_dz, q_iflt, q_ifnlt, q_ifeq, q_ifne, q_ifM, q_ifMM, q_ifMlt, q_ifltM, nI_add, pk_mul, q_sub, q_div, q_cl, q_st_s, q_st_i, q_st_c, Nat.add_zero, Nat.zero_add]
    · simp (disch := omega) only [q_inI (h := zst k 0 0 (nI 0)) (lo := 0) (Nat.zero_le _) ht (by omega), q_inO o, ↓reduceIte, ↓qM_e, ↓q_rem, q_mod, q_modN, q_lit, q_nI, q_lt, q_bd, q_ix, q_dz, q_iflt, q_ifnlt, q_ifeq, q_ifne, q_ifM, q_ifMM, q_ifMlt, q_ifltM, nI_add, pk_mul, q_sub, q_div, q_cl, q_st_s, q_st_i, q_st_c, Nat.add_zero, Nat.zero_add]
  have e1 := q_wiI (h := h) ht (by omega)
  have e2 := q_wiI (h := h) hv (by omega)
  have e3 := q_inI (h := zst k 0 0 (nI 0)) (lo := 0) (by omega) ht (by omega)
  have e4 := q_inI (h := zst k 0 0 (nI 0)) (lo := 0) (by omega) hv (by omega)
  have e5 := q_hdX (t := t) (by omega) h
  have e6 := q_hdM (t := t) (by omega) (zst k 0 0 (nI 0))
  have e7 := q_nearX (t := t) (by omega) h
  have e8 := q_nearM (t := t) (by omega) (zst k 0 0 (nI 0))
  rcases (show v = 0 ∨ v = 1 by omega) with rfl | rfl
  · exact ⟨nI (qHd t), h, zst k 0 0 0, by simp (disch := omega) only [e1, e2, e5, ↓reduceIte, ↓qM_e, ↓q_rem, q_mod, q_modN, q_lit, q_nI, q_lt, q_bd, q_ix, q_dz, q_iflt, q_ifnlt, q_ifeq, q_ifne, q_ifM, q_ifMM, q_ifMlt, q_ifltM, nI_add, pk_mul, q_sub, q_div, q_cl, q_st_s, q_st_i, q_st_c, Nat.add_zero, Nat.zero_add], by simp (disch := omega) only [e3, e4, e6, ↓reduceIte, ↓qM_e, ↓q_rem, q_mod, q_modN, q_lit, q_nI, q_lt, q_bd, q_ix, q_dz, q_iflt, q_ifnlt, q_ifeq, q_ifne, q_ifM, q_ifMM, q_ifMlt, q_ifltM, nI_add, pk_mul, q_sub, q_div, q_cl, q_st_s, q_st_i, q_st_c, Nat.add_zero, Nat.zero_add], qXs_rf h, qMs_s0 k⟩
  · exact ⟨nI (qCnt (fun j => decide (qHd j ≤ qHd t)) (t + 1)), h, zst k 0 0 0, by simp (disch := omega) only [e1, e2, e7, ↓reduceIte, ↓qM_e, ↓q_rem, q_mod, q_modN, q_lit, q_nI, q_lt, q_bd, q_ix, q_dz, q_iflt, q_ifnlt, q_ifeq, q_ifne, q_ifM, q_ifMM, q_ifMlt, q_ifltM, nI_add, pk_mul, q_sub, q_div, q_cl, q_st_s, q_st_i, q_st_c, Nat.add_zero, Nat.zero_add], by simp (disch := omega) only [e3, e4, e8, ↓reduceIte, ↓qM_e, ↓q_rem, q_mod, q_modN, q_lit, q_nI, q_lt, q_bd, q_ix, q_dz, q_iflt, q_ifnlt, q_ifeq, q_ifne, q_ifM, q_ifMM, q_ifMlt, q_ifltM, nI_add, pk_mul, q_sub, q_div, q_cl, q_st_s, q_st_i, q_st_c, Nat.add_zero, Nat.zero_add], qXs_rf h, qMs_s0 k⟩
-- shifts
theorem q_sm : ∀ s, s < 32 → ((nI s &&& nI 31).toBitVec.smod 32).toNat = s := by decide +kernel
theorem q_shr {a s : Nat} (ha : a < 2147483648) (hs : s < 32) : nI a >>> (nI s &&& nI 31) = nI (a / 2 ^ s) := pk_shrN ha _ s (q_sm s hs)
theorem q_shl {a s : Nat} (hs : s < 32) (h : a * 2 ^ s < 2147483648) : nI a <<< (nI s &&& nI 31) = nI (a * 2 ^ s) := pk_shlN _ s (q_sm s hs) (by omega)
theorem q_shl1 {s : Nat} (hs : s < 31) : nI 1 <<< (nI s &&& nI 31) = nI (2 ^ s) := by
  have h : 2 ^ s ≤ 2 ^ 30 := Nat.pow_le_pow_right (by omega) (by omega)
  rw [q_shl (by omega) (by omega), Nat.one_mul]
theorem q_mask {a s : Nat} (ha : a < 2147483648) (hs : s < 31) : nI a &&& nI (2 ^ s - 1) = nI (a % 2 ^ s) := by
  have h : 2 ^ s ≤ 2 ^ 30 := Nat.pow_le_pow_right (by omega) (by omega)
  exact pk_andN (by omega) s (pk_tn (by omega))
theorem q_log : ∀ a, 1 ≤ a → ∃ L, 2 ^ L ≤ a ∧ a < 2 ^ (L + 1)
  | a, h => ⟨Nat.log2 a, Nat.log2_self_le (by omega), Nat.lt_log2_self⟩
theorem q_pow_lt {L M : Nat} (h : 2 ^ L < 2 ^ M) : L < M := (Nat.pow_lt_pow_iff_right (by omega)).mp h
theorem q_throwsOf {a L : Nat} (h1 : 2 ^ L ≤ a) (h2 : a < 2 ^ (L + 1)) (hL : L ≤ 20) (h : zHp) : f_X5_throwsOf (nI a) h = some (nI L, h) := by
  have hb : 2 ^ (L + 1) ≤ 2 ^ 21 := Nat.pow_le_pow_right (by omega) (by omega)
  unfold f_X5_throwsOf f_X5_throwsOf_2_lp
  refine q_for (S := fun j => (nI a, nI j, h)) L (fun j hj rec => ?_) (fun rec => ?_) zN (by rw [q_zN]; omega)
  · have h3 : 2 ^ (j + 1) ≤ 2 ^ L := Nat.pow_le_pow_right (by omega) (by omega)
    have h4 : 0 < a / 2 ^ (j + 1) := Nat.div_pos (by omega) (Nat.pow_pos (by omega))
    have h5 : a / 2 ^ (j + 1) ≤ a := Nat.div_le_self _ _
    simp only [f_X5_throwsOf_2]
    simp (disch := omega) only [f_X5_throwsOf_2, q_shr, ↓reduceIte, ↓qM_e, ↓q_rem, q_mod, q_modN, q_lit, q_nI, q_lt, q_bd, q_ix, q_dz, q_iflt, q_ifnlt, q_ifeq, q_ifne, q_ifM, q_ifMM, q_ifMlt, q_ifltM, nI_add, pk_mul, q_sub, q_div, q_cl, q_st_s, q_st_i, q_st_c, Nat.add_zero, Nat.zero_add]
  · have h4 : a / 2 ^ (L + 1) = 0 := Nat.div_eq_of_lt h2
    simp only [f_X5_throwsOf_2]
    simp (disch := omega) only [f_X5_throwsOf_2, q_shr, h4, ↓reduceIte, ↓qM_e, ↓q_rem, q_mod, q_modN, q_lit, q_nI, q_lt, q_bd, q_ix, q_dz, q_iflt, q_ifnlt, q_ifeq, q_ifne, q_ifM, q_ifMM, q_ifMlt, q_ifltM, nI_add, pk_mul, q_sub, q_div, q_cl, q_st_s, q_st_i, q_st_c, Nat.add_zero, Nat.zero_add]
theorem q_longOf {a L : Nat} (h1 : 2 ^ L ≤ a) (h2 : a < 2 ^ (L + 1)) (hL : L ≤ 20) (h : zHp) : f_X11_longOf (nI a) h = some (nI L, h) := by
  have hb : 2 ^ (L + 1) ≤ 2 ^ 21 := Nat.pow_le_pow_right (by omega) (by omega)
  unfold f_X11_longOf f_X11_longOf_4_lp
  have e0 : ((-1 : Int32), nI a, h) = (fun j => (qM + nI j, nI (a / 2 ^ j), h)) 0 := by
    simp only [qM_0, Nat.pow_zero, Nat.div_one, qM_e]
  rw [e0]
  refine q_for (S := fun j => (qM + nI j, nI (a / 2 ^ j), h)) (L + 1) (fun j hj rec => ?_) (fun rec => ?_) zN (by rw [q_zN]; omega)
  · have h3 : 2 ^ j ≤ 2 ^ L := Nat.pow_le_pow_right (by omega) (by omega)
    have h4 : 0 < a / 2 ^ j := Nat.div_pos (by omega) (Nat.pow_pos (by omega))
    have h5 : a / 2 ^ j ≤ a := Nat.div_le_self _ _
    simp only [f_X11_longOf_4]
    simp (disch := omega) only [f_X11_longOf_4, qM_1, ↓reduceIte, ↓qM_e, ↓q_rem, q_mod, q_modN, q_lit, q_nI, q_lt, q_bd, q_ix, q_dz, q_iflt, q_ifnlt, q_ifeq, q_ifne, q_ifM, q_ifMM, q_ifMlt, q_ifltM, nI_add, pk_mul, q_sub, q_div, q_cl, q_st_s, q_st_i, q_st_c, Nat.add_zero, Nat.zero_add]
    rw [Nat.div_div_eq_div_mul, ← Nat.pow_succ]
  · have h4 : a / 2 ^ (L + 1) = 0 := Nat.div_eq_of_lt h2
    simp only [f_X11_longOf_4]
    simp (disch := omega) only [f_X11_longOf_4, qM_add, h4, ↓reduceIte, ↓qM_e, ↓q_rem, q_mod, q_modN, q_lit, q_nI, q_lt, q_bd, q_ix, q_dz, q_iflt, q_ifnlt, q_ifeq, q_ifne, q_ifM, q_ifMM, q_ifMlt, q_ifltM, nI_add, pk_mul, q_sub, q_div, q_cl, q_st_s, q_st_i, q_st_c, Nat.add_zero, Nat.zero_add]
/-- THE FIT, up to k -/
def qFit (a b n : Nat) : Nat → Nat
  | 0 => 0
  | k + 1 => if a % 2 ^ (k + 1) = b / 2 ^ (n - (k + 1)) % 2 ^ (k + 1) then qFit a b n k + 2 ^ (k + 1) else qFit a b n k
theorem qFit_le (a b n : Nat) : ∀ k, qFit a b n k + 2 ≤ 2 ^ (k + 1)
  | 0 => by unfold qFit; omega
  | k + 1 => by
    have := qFit_le a b n k
    have e : 2 ^ (k + 1 + 1) = 2 ^ (k + 1) * 2 := Nat.pow_succ ..
    unfold qFit
    split <;> omega
theorem q_fitX {a b n : Nat} (ha : a < 2 ^ 20) (hb : b < 2 ^ 20) (hn : n ≤ 20) (hl : 2 ^ n ≤ a) (hl2 : a < 2 ^ (n + 1)) (h : zHp) : f_X5_fit (nI a) (nI b) h = some (nI (qFit a b n n), h) := by
  unfold f_X5_fit f_X5_fit_10_lp
  rw [q_throwsOf hl hl2 hn, q_bd]
  refine q_for (S := fun j => (nI a, nI b, nI n, nI (qFit a b n j), nI (j + 1), h)) n (fun j hj rec => ?_) (fun rec => ?_) zN (by rw [q_zN]; omega)
  · have h1 := qFit_le a b n j
    have h2 : 2 ^ (j + 1) ≤ 2 ^ 20 := Nat.pow_le_pow_right (by omega) (by omega)
    have h3 : b / 2 ^ (n - (j + 1)) ≤ b := Nat.div_le_self _ _
    have h4 : a % 2 ^ (j + 1) < 2 ^ (j + 1) := Nat.mod_lt _ (Nat.pow_pos (by omega))
    have h5 : b / 2 ^ (n - (j + 1)) % 2 ^ (j + 1) < 2 ^ (j + 1) := Nat.mod_lt _ (Nat.pow_pos (by omega))
    have h6 : 1 ≤ 2 ^ (j + 1) := Nat.pow_pos (by omega)
    by_cases z : a % 2 ^ (j + 1) = b / 2 ^ (n - (j + 1)) % 2 ^ (j + 1)
    · simp only [f_X5_fit_10]
      simp (disch := omega) only [f_X5_fit_10, q_shl1, q_shr, q_mask, ↓reduceIte, ↓qM_e, ↓q_rem, q_mod, q_modN, q_lit, q_nI, q_lt, q_bd, q_ix, q_dz, q_iflt, q_ifnlt, q_ifeq, q_ifne, q_ifM, q_ifMM, q_ifMlt, q_ifltM, nI_add, pk_mul, q_sub, q_div, q_cl, q_st_s, q_st_i, q_st_c, Nat.add_zero, Nat.zero_add]
      rw [qFit, if_pos z]
    · simp only [f_X5_fit_10]
      simp (disch := omega) only [f_X5_fit_10, q_shl1, q_shr, q_mask, ↓reduceIte, ↓qM_e, ↓q_rem, q_mod, q_modN, q_lit, q_nI, q_lt, q_bd, q_ix, q_dz, q_iflt, q_ifnlt, q_ifeq, q_ifne, q_ifM, q_ifMM, q_ifMlt, q_ifltM, nI_add, pk_mul, q_sub, q_div, q_cl, q_st_s, q_st_i, q_st_c, Nat.add_zero, Nat.zero_add]
      rw [qFit, if_neg z]
  · simp only [f_X5_fit_10]
    simp (disch := omega) only [f_X5_fit_10, ↓reduceIte, ↓qM_e, ↓q_rem, q_mod, q_modN, q_lit, q_nI, q_lt, q_bd, q_ix, q_dz, q_iflt, q_ifnlt, q_ifeq, q_ifne, q_ifM, q_ifMM, q_ifMlt, q_ifltM, nI_add, pk_mul, q_sub, q_div, q_cl, q_st_s, q_st_i, q_st_c, Nat.add_zero, Nat.zero_add]
theorem q_fitM {a b n : Nat} (ha : a < 2 ^ 20) (hb : b < 2 ^ 20) (hn : n ≤ 20) (hl : 2 ^ n ≤ a) (hl2 : a < 2 ^ (n + 1)) (hl3 : 2 ^ n ≤ b) (hl4 : b < 2 ^ (n + 1)) (h : zHp) : f_X11_fitOf (nI a) (nI b) h = some (nI (qFit a b n n), h) := by
  have hlo := q_longOf hl hl2 hn h
  unfold f_X11_fitOf f_X11_fitOf_12_lp
  rw [q_longOf hl3 hl4 hn, q_bd]
  refine q_for (S := fun j => (nI a, nI b, nI (qFit a b n j), nI n, nI (j + 1), h)) n (fun j hj rec => ?_) (fun rec => ?_) zN (by rw [q_zN]; omega)
  · have h1 := qFit_le a b n j
    have h2 : 2 ^ (j + 1) ≤ 2 ^ 20 := Nat.pow_le_pow_right (by omega) (by omega)
    have h3 : b / 2 ^ (n - (j + 1)) ≤ b := Nat.div_le_self _ _
    have h4 : a % 2 ^ (j + 1) < 2 ^ (j + 1) := Nat.mod_lt _ (Nat.pow_pos (by omega))
    have h5 : b / 2 ^ (n - (j + 1)) % 2 ^ (j + 1) < 2 ^ (j + 1) := Nat.mod_lt _ (Nat.pow_pos (by omega))
    have h6 : 1 ≤ 2 ^ (j + 1) := Nat.pow_pos (by omega)
    by_cases z : a % 2 ^ (j + 1) = b / 2 ^ (n - (j + 1)) % 2 ^ (j + 1)
    · simp only [f_X11_fitOf_12]
      simp (disch := omega) only [f_X11_fitOf_12, hlo, q_shl1, q_shr, q_mask, ↓reduceIte, ↓qM_e, ↓q_rem, q_mod, q_modN, q_lit, q_nI, q_lt, q_bd, q_ix, q_dz, q_iflt, q_ifnlt, q_ifeq, q_ifne, q_ifM, q_ifMM, q_ifMlt, q_ifltM, nI_add, pk_mul, q_sub, q_div, q_cl, q_st_s, q_st_i, q_st_c, Nat.add_zero, Nat.zero_add]
      rw [qFit, if_pos z]
    · simp only [f_X11_fitOf_12]
      simp (disch := omega) only [f_X11_fitOf_12, hlo, q_shl1, q_shr, q_mask, ↓reduceIte, ↓qM_e, ↓q_rem, q_mod, q_modN, q_lit, q_nI, q_lt, q_bd, q_ix, q_dz, q_iflt, q_ifnlt, q_ifeq, q_ifne, q_ifM, q_ifMM, q_ifMlt, q_ifltM, nI_add, pk_mul, q_sub, q_div, q_cl, q_st_s, q_st_i, q_st_c, Nat.add_zero, Nat.zero_add]
      rw [qFit, if_neg z]
  · simp only [f_X11_fitOf_12]
    simp (disch := omega) only [f_X11_fitOf_12, hlo, ↓reduceIte, ↓qM_e, ↓q_rem, q_mod, q_modN, q_lit, q_nI, q_lt, q_bd, q_ix, q_dz, q_iflt, q_ifnlt, q_ifeq, q_ifne, q_ifM, q_ifMM, q_ifMlt, q_ifltM, nI_add, pk_mul, q_sub, q_div, q_cl, q_st_s, q_st_i, q_st_c, Nat.add_zero, Nat.zero_add]
theorem q_ask_throwing {h k : zHp} (a : Int32) : qAsk h k (f_X10_throwing a h) (f_X11_throwing a k) := by
  unfold f_X10_throwing f_X11_throwing
  rcases q_rng 2 511 a (by omega) with o | ⟨t, ht0, ht, rfl⟩
  · refine ⟨-1, h, zst k 0 0 0, ?_, ?_, qXs_rf h, qMs_s0 k⟩
    · simp (disch := omega) only [q_out2 o, ↓reduceIte, ↓qM_e, ↓q_rem, q_mod, q_modN, q_lit, q_nI, q_lt, q_bd, q_ix, q_dz, q_iflt, q_ifnlt, q_ifeq, q_ifne, q_ifM, q_ifMM, q_ifMlt, q_ifltM, nI_add, pk_mul, q_sub, q_div, q_cl, q_st_s, q_st_i, q_st_c, Nat.add_zero, Nat.zero_add]
    · simp (disch := omega) only [q_inO o, ↓reduceIte, ↓qM_e, ↓q_rem, q_mod, q_modN, q_lit, q_nI, q_lt, q_bd, q_ix, q_dz, q_iflt, q_ifnlt, q_ifeq, q_ifne, q_ifM, q_ifMM, q_ifMlt, q_ifltM, nI_add, pk_mul, q_sub, q_div, q_cl, q_st_s, q_st_i, q_st_c, Nat.add_zero, Nat.zero_add]
  obtain ⟨L, h1, h2⟩ := q_log t (by omega)
  have hL : L < 9 := q_pow_lt (M := 9) (by omega)
  have e1 := q_fitX (a := t) (b := t) (by omega) (by omega) (by omega) h1 h2 h
  have e2 := q_fitM (a := t) (b := t) (by omega) (by omega) (by omega) h1 h2 h1 h2 (zst k 0 0 (nI 0))
  have e3 := q_inI (h := zst k 0 0 (nI 0)) ht0 ht (by omega)
  exact ⟨nI (qFit t t L L), h, zst k 0 0 0, by simp (disch := omega) only [e1, ↓reduceIte, ↓qM_e, ↓q_rem, q_mod, q_modN, q_lit, q_nI, q_lt, q_bd, q_ix, q_dz, q_iflt, q_ifnlt, q_ifeq, q_ifne, q_ifM, q_ifMM, q_ifMlt, q_ifltM, nI_add, pk_mul, q_sub, q_div, q_cl, q_st_s, q_st_i, q_st_c, Nat.add_zero, Nat.zero_add], by simp (disch := omega) only [e2, e3, ↓reduceIte, ↓qM_e, ↓q_rem, q_mod, q_modN, q_lit, q_nI, q_lt, q_bd, q_ix, q_dz, q_iflt, q_ifnlt, q_ifeq, q_ifne, q_ifM, q_ifMM, q_ifMlt, q_ifltM, nI_add, pk_mul, q_sub, q_div, q_cl, q_st_s, q_st_i, q_st_c, Nat.add_zero, Nat.zero_add], qXs_rf h, qMs_s0 k⟩
theorem qFit_self (a b n : Nat) (h1 : 2 ^ n ≤ a) (h2 : a < 2 ^ (n + 1)) (h3 : 2 ^ n ≤ b) (h4 : b < 2 ^ (n + 1)) (hn : 0 < n) : (a = b → 2 ^ n ≤ qFit a b n n) ∧ (a ≠ b → qFit a b n n + 2 ≤ 2 ^ n) := by
  obtain ⟨m, rfl⟩ : ∃ m, n = m + 1 := ⟨n - 1, by omega⟩
  have e0 : m + 1 - (m + 1) = 0 := by omega
  constructor
  · rintro rfl
    unfold qFit
    rw [e0, Nat.pow_zero, Nat.div_one, if_pos rfl]
    omega
  · intro hne
    have e : 2 ^ (m + 1 + 1) = 2 ^ (m + 1) * 2 := Nat.pow_succ ..
    have a1 : a % 2 ^ (m + 1) = a - 2 ^ (m + 1) := by
      rw [Nat.mod_eq_sub_mod h1, Nat.mod_eq_of_lt (by omega)]
    have a2 : b % 2 ^ (m + 1) = b - 2 ^ (m + 1) := by
      rw [Nat.mod_eq_sub_mod h3, Nat.mod_eq_of_lt (by omega)]
    have := qFit_le a b (m + 1) m
    unfold qFit
    rw [e0, Nat.pow_zero, Nat.div_one, if_neg (by rw [a1, a2]; omega)]
    exact this
theorem q_ask_ahead {h k : zHp} (a b w : Int32) : qAsk h k (f_X10_ahead a b w h) (f_X11_ahead a b w k) := by
  unfold f_X10_ahead f_X11_ahead
  have l2 : (2 : Int32) = nI 2 := rfl
  have l511 : (511 : Int32) = nI 511 := rfl
  have l1 : (1 : Int32) = nI 1 := rfl
  have l0 : (0 : Int32) = nI 0 := rfl
  rcases q_rng 2 511 a (by omega) with o | ⟨s, hs0, hs, rfl⟩
  · refine ⟨-1, h, zst k 0 0 0, ?_, ?_, qXs_rf h, qMs_s0 k⟩
    · simp (disch := omega) only [q_out2 o, ↓reduceIte, ↓qM_e, ↓q_rem, q_mod, q_modN, q_lit, q_nI, q_lt, q_bd, q_ix, q_dz, q_iflt, q_ifnlt, q_ifeq, q_ifne, q_ifM, q_ifMM, q_ifMlt, q_ifltM, nI_add, pk_mul, q_sub, q_div, q_cl, q_st_s, q_st_i, q_st_c, Nat.add_zero, Nat.zero_add]
    · simp (disch := omega) only [q_inO o, ↓reduceIte, ↓qM_e, ↓q_rem, q_mod, q_modN, q_lit, q_nI, q_lt, q_bd, q_ix, q_dz, q_iflt, q_ifnlt, q_ifeq, q_ifne, q_ifM, q_ifMM, q_ifMlt, q_ifltM, nI_add, pk_mul, q_sub, q_div, q_cl, q_st_s, q_st_i, q_st_c, Nat.add_zero, Nat.zero_add]
  have i1 := q_inI (h := zst k 0 0 (nI 0)) hs0 hs (by omega)
  rcases q_rng 2 511 b (by omega) with o | ⟨t, ht0, ht, rfl⟩
  · have i2 := q_inO (h := zst k 0 0 (nI 0)) o
    refine ⟨-1, h, zst k 0 0 0, ?_, ?_, qXs_rf h, qMs_s0 k⟩
    · simp (disch := omega) only [q_out2 o, ↓reduceIte, ↓qM_e, ↓q_rem, q_mod, q_modN, q_lit, q_nI, q_lt, q_bd, q_ix, q_dz, q_iflt, q_ifnlt, q_ifeq, q_ifne, q_ifM, q_ifMM, q_ifMlt, q_ifltM, nI_add, pk_mul, q_sub, q_div, q_cl, q_st_s, q_st_i, q_st_c, Nat.add_zero, Nat.zero_add]
    · simp (disch := omega) only [i1, i2, ↓reduceIte, ↓qM_e, ↓q_rem, q_mod, q_modN, q_lit, q_nI, q_lt, q_bd, q_ix, q_dz, q_iflt, q_ifnlt, q_ifeq, q_ifne, q_ifM, q_ifMM, q_ifMlt, q_ifltM, nI_add, pk_mul, q_sub, q_div, q_cl, q_st_s, q_st_i, q_st_c, Nat.add_zero, Nat.zero_add]
  have i2 := q_inI (h := zst k 0 0 (nI 0)) ht0 ht (by omega)
  by_cases hst : s = t
  · exact ⟨-1, h, zst k 0 0 0, by simp (disch := omega) only [↓reduceIte, ↓qM_e, ↓q_rem, q_mod, q_modN, q_lit, q_nI, q_lt, q_bd, q_ix, q_dz, q_iflt, q_ifnlt, q_ifeq, q_ifne, q_ifM, q_ifMM, q_ifMlt, q_ifltM, nI_add, pk_mul, q_sub, q_div, q_cl, q_st_s, q_st_i, q_st_c, Nat.add_zero, Nat.zero_add], by simp (disch := omega) only [i1, i2, ↓reduceIte, ↓qM_e, ↓q_rem, q_mod, q_modN, q_lit, q_nI, q_lt, q_bd, q_ix, q_dz, q_iflt, q_ifnlt, q_ifeq, q_ifne, q_ifM, q_ifMM, q_ifMlt, q_ifltM, nI_add, pk_mul, q_sub, q_div, q_cl, q_st_s, q_st_i, q_st_c, Nat.add_zero, Nat.zero_add], qXs_rf h, qMs_s0 k⟩
  obtain ⟨L, h1, h2⟩ := q_log s (by omega)
  have hL : L < 9 := q_pow_lt (M := 9) (by omega)
  obtain ⟨L', h3, h4⟩ := q_log t (by omega)
  have hL' : L' < 9 := q_pow_lt (M := 9) (by omega)
  have x1 := q_throwsOf h1 h2 (by omega) h
  have x2 := q_throwsOf h3 h4 (by omega) h
  have m1 := q_longOf h1 h2 (by omega) (zst k 0 0 (nI 0))
  have m2 := q_longOf h3 h4 (by omega) (zst k 0 0 (nI 0))
  by_cases hLL : L = L'
  · subst hLL
    rcases q_rng 0 1 w (by omega) with o | ⟨v, -, hv, rfl⟩
    · have i3 := q_inO (h := zst k 0 0 (nI 0)) o
      have i4 := q_wiO (h := h) o
      exact ⟨-1, h, zst k 0 0 0, by simp (disch := omega) only [i4, ↓reduceIte, ↓qM_e, ↓q_rem, q_mod, q_modN, q_lit, q_nI, q_lt, q_bd, q_ix, q_dz, q_iflt, q_ifnlt, q_ifeq, q_ifne, q_ifM, q_ifMM, q_ifMlt, q_ifltM, nI_add, pk_mul, q_sub, q_div, q_cl, q_st_s, q_st_i, q_st_c, Nat.add_zero, Nat.zero_add], by simp (disch := omega) only [i1, i2, i3, m1, m2, ↓reduceIte, ↓qM_e, ↓q_rem, q_mod, q_modN, q_lit, q_nI, q_lt, q_bd, q_ix, q_dz, q_iflt, q_ifnlt, q_ifeq, q_ifne, q_ifM, q_ifMM, q_ifMlt, q_ifltM, nI_add, pk_mul, q_sub, q_div, q_cl, q_st_s, q_st_i, q_st_c, Nat.add_zero, Nat.zero_add], qXs_rf h, qMs_s0 k⟩
    have i3 := q_inI (h := zst k 0 0 (nI 0)) (lo := 0) (by omega) hv (by omega)
    have i4 := q_wiI (h := h) hv (by omega)
    have hL0 : 0 < L := by
      rcases Nat.eq_zero_or_pos L with z | z
      · rw [z] at h2; omega
      · exact z
    have f1 := q_fitX (a := t) (b := t) (by omega) (by omega) (by omega) h3 h4 h
    have f2 := q_fitX (a := t) (b := s) (by omega) (by omega) (by omega) h3 h4 h
    have f3 := q_fitX (a := s) (b := s) (by omega) (by omega) (by omega) h1 h2 h
    have f4 := q_fitX (a := s) (b := t) (by omega) (by omega) (by omega) h1 h2 h
    have g1 := q_fitM (a := t) (b := t) (by omega) (by omega) (by omega) h3 h4 h3 h4 (zst k 0 0 (nI 0))
    have g2 := q_fitM (a := t) (b := s) (by omega) (by omega) (by omega) h3 h4 h1 h2 (zst k 0 0 (nI 0))
    have g3 := q_fitM (a := s) (b := s) (by omega) (by omega) (by omega) h1 h2 h1 h2 (zst k 0 0 (nI 0))
    have g4 := q_fitM (a := s) (b := t) (by omega) (by omega) (by omega) h1 h2 h3 h4 (zst k 0 0 (nI 0))
    have s1 := (qFit_self t t L h3 h4 h3 h4 hL0).1 rfl
    have s2 := (qFit_self t s L h3 h4 h1 h2 hL0).2 (fun z => hst z.symm)
    have s3 := (qFit_self s s L h1 h2 h1 h2 hL0).1 rfl
    have s4 := (qFit_self s t L h1 h2 h3 h4 hL0).2 hst
    have s5 := qFit_le t t L L
    have s6 := qFit_le s s L L
    have s7 : 2 ^ (L + 1) ≤ 2 ^ 9 := Nat.pow_le_pow_right (by omega) (by omega)
    generalize qFit t t L L = A at *
    generalize qFit t s L L = B at *
    generalize qFit s s L L = C at *
    generalize qFit s t L L = D at *
    have hg0 : 0 < Nat.gcd (A - B + (C - D)) (A - B) := Nat.gcd_pos_of_pos_right _ (by omega)
    have hg1 : Nat.gcd (A - B + (C - D)) (A - B) ≤ A - B := Nat.le_of_dvd (by omega) (Nat.gcd_dvd_right _ _)
    have d1 := q_divisor (a := A - B + (C - D)) (b := A - B) (by omega) (by omega) (by omega) h
    have d2 := q_common (a := A - B + (C - D)) (b := A - B) (by omega) (by omega) (zst k 0 0 (nI 0))
    generalize Nat.gcd (A - B + (C - D)) (A - B) = G at *
    have hm : (if nI 1 < nI G then nI G else nI 1) = nI G := by
      rcases Nat.lt_or_ge 1 G with z | z
      · rw [if_pos (nI_lt z (by omega))]
      · rw [if_neg (nI_nlt z (by omega)), show G = 1 by omega]
    rcases (show v = 0 ∨ v = 1 by omega) with rfl | rfl
    · exact ⟨nI ((A - B) / G), h, zst k 0 0 0, by (simp only [f_X5_likely]; simp (disch := omega) only [i4, x1, x2, f_X5_likely, f1, f2, f3, f4, d1, hm, ↓reduceIte, ↓qM_e, ↓q_rem, q_mod, q_modN, q_lit, q_nI, q_lt, q_bd, q_ix, q_dz, q_iflt, q_ifnlt, q_ifeq, q_ifne, q_ifM, q_ifMM, q_ifMlt, q_ifltM, nI_add, pk_mul, q_sub, q_div, q_cl, q_st_s, q_st_i, q_st_c, Nat.add_zero, Nat.zero_add]), by simp (disch := omega) only [i1, i2, i3, m1, m2, g1, g2, g3, g4, d2, ↓reduceIte, ↓qM_e, ↓q_rem, q_mod, q_modN, q_lit, q_nI, q_lt, q_bd, q_ix, q_dz, q_iflt, q_ifnlt, q_ifeq, q_ifne, q_ifM, q_ifMM, q_ifMlt, q_ifltM, nI_add, pk_mul, q_sub, q_div, q_cl, q_st_s, q_st_i, q_st_c, Nat.add_zero, Nat.zero_add], qXs_rf h, qMs_s0 k⟩
    · exact ⟨nI ((A - B + (C - D)) / G), h, zst k 0 0 0, by (simp only [f_X5_likely]; simp (disch := omega) only [i4, x1, x2, f_X5_likely, f1, f2, f3, f4, d1, hm, ↓reduceIte, ↓qM_e, ↓q_rem, q_mod, q_modN, q_lit, q_nI, q_lt, q_bd, q_ix, q_dz, q_iflt, q_ifnlt, q_ifeq, q_ifne, q_ifM, q_ifMM, q_ifMlt, q_ifltM, nI_add, pk_mul, q_sub, q_div, q_cl, q_st_s, q_st_i, q_st_c, Nat.add_zero, Nat.zero_add]), by simp (disch := omega) only [i1, i2, i3, m1, m2, g1, g2, g3, g4, d2, ↓reduceIte, ↓qM_e, ↓q_rem, q_mod, q_modN, q_lit, q_nI, q_lt, q_bd, q_ix, q_dz, q_iflt, q_ifnlt, q_ifeq, q_ifne, q_ifM, q_ifMM, q_ifMlt, q_ifltM, nI_add, pk_mul, q_sub, q_div, q_cl, q_st_s, q_st_i, q_st_c, Nat.add_zero, Nat.zero_add], qXs_rf h, qMs_s0 k⟩
  · refine ⟨-1, h, zst k 0 0 0, ?_, by simp (disch := omega) only [i1, i2, m1, m2, ↓reduceIte, ↓qM_e, ↓q_rem, q_mod, q_modN, q_lit, q_nI, q_lt, q_bd, q_ix, q_dz, q_iflt, q_ifnlt, q_ifeq, q_ifne, q_ifM, q_ifMM, q_ifMlt, q_ifltM, nI_add, pk_mul, q_sub, q_div, q_cl, q_st_s, q_st_i, q_st_c, Nat.add_zero, Nat.zero_add], qXs_rf h, qMs_s0 k⟩
    rcases q_rng 0 1 w (by omega) with o | ⟨v, -, hv, rfl⟩
    · have i4 := q_wiO (h := h) o
      simp (disch := omega) only [i4, ↓reduceIte, ↓qM_e, ↓q_rem, q_mod, q_modN, q_lit, q_nI, q_lt, q_bd, q_ix, q_dz, q_iflt, q_ifnlt, q_ifeq, q_ifne, q_ifM, q_ifMM, q_ifMlt, q_ifltM, nI_add, pk_mul, q_sub, q_div, q_cl, q_st_s, q_st_i, q_st_c, Nat.add_zero, Nat.zero_add]
    · have i4 := q_wiI (h := h) hv (by omega)
      simp (disch := omega) only [i4, x1, x2, ↓reduceIte, ↓qM_e, ↓q_rem, q_mod, q_modN, q_lit, q_nI, q_lt, q_bd, q_ix, q_dz, q_iflt, q_ifnlt, q_ifeq, q_ifne, q_ifM, q_ifMM, q_ifMlt, q_ifltM, nI_add, pk_mul, q_sub, q_div, q_cl, q_st_s, q_st_i, q_st_c, Nat.add_zero, Nat.zero_add]
end Qhands
