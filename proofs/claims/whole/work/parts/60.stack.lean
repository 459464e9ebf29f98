/-! STACK -/
section Qstack
theorem q_divneg {a : Int32} (h : a < 0) : a / nI 10 < nI 10 ∧ ¬ a / nI 10 = nI 1 := by
  have h1 : a.toInt < 0 := (fa_lt a 0).mp h
  have h2 := fb_rng a
  obtain ⟨m, hm⟩ : ∃ m : Nat, a.toInt = -(m : Int) := ⟨a.toInt.natAbs, by omega⟩
  have h3 : (a / nI 10).toInt = -((m / 10 : Nat) : Int) := by
    rw [Int32.toInt_div, nI_toInt (by omega), hm, Int.neg_tdiv, ← Int.ofNat_tdiv]
    exact fb_bmod (by omega) (by omega)
  constructor
  · rw [fa_lt, h3, nI_toInt (by omega)]; omega
  · rw [fa_eq, h3, nI_toInt (by omega)]; omega
theorem q_log10 : ∀ j, 1 ≤ j → ∃ D, 10 ^ D ≤ j ∧ j < 10 ^ (D + 1) := by
  intro j
  induction j using Nat.strongRecOn with
  | ind j ih =>
    intro h
    rcases Nat.lt_or_ge j 10 with q | q
    · exact ⟨0, by omega, by omega⟩
    · obtain ⟨D, h1, h2⟩ := ih (j / 10) (by omega) (by omega)
      refine ⟨D + 1, ?_, ?_⟩
      · rw [Nat.pow_succ]; omega
      · rw [Nat.pow_succ]; omega
def qDg (j i : Nat) : Nat := j / 10 ^ i % 10
def qSeen (j : Nat) : Nat → Nat
  | 0 => 0
  | i + 1 => qSeen j i ||| 2 ^ qDg j i
theorem qDg_lt (j i : Nat) : qDg j i < 10 := Nat.mod_lt _ (by omega)
theorem qSeen_lt (j : Nat) : ∀ i, qSeen j i < 2 ^ 10
  | 0 => by unfold qSeen; omega
  | i + 1 => Nat.or_lt_two_pow (qSeen_lt j i) (Nat.pow_lt_pow_right (by omega) (qDg_lt j i))
theorem qSeen_bit (j v : Nat) : ∀ i, (qSeen j i).testBit v = true → ∃ m, m < i ∧ qDg j m = v
  | 0, h => by unfold qSeen at h; simp at h
  | i + 1, h => by
    unfold qSeen at h
    rw [Nat.testBit_or, Bool.or_eq_true] at h
    rcases h with h | h
    · obtain ⟨m, h1, h2⟩ := qSeen_bit j v i h
      exact ⟨m, by omega, h2⟩
    · rw [Nat.testBit_two_pow, decide_eq_true_eq] at h
      exact ⟨i, by omega, h⟩
/-- as many things onto as many places: each place once -/
theorem q_onto : ∀ (n : Nat) (f : Nat → Nat), (∀ v, v < n → ∃ j, j < n ∧ f j = v) → (∀ j, j < n → f j < n) ∧ ∀ i j, i < n → j < n → f i = f j → i = j
  | 0, f, _ => ⟨fun j hj => absurd hj (Nat.not_lt_zero j), fun i j hi => absurd hi (Nat.not_lt_zero i)⟩
  | n + 1, f, H => by
    obtain ⟨p, hp, hpn⟩ := H n (by omega)
    have H' : ∀ v, v < n → ∃ j, j < n ∧ (if j = p then f n else f j) = v := by
      intro v hv
      obtain ⟨j, hj, e⟩ := H v (by omega)
      by_cases hjn : j = n
      · refine ⟨p, ?_, ?_⟩
        · rcases Nat.lt_or_ge p n with z | z
          · exact z
          · have : p = n := by omega
            rw [this, ← hjn, e] at hpn; omega
        · rw [if_pos rfl, ← hjn]; exact e
      · refine ⟨j, by omega, ?_⟩
        rw [if_neg (fun z => by rw [z, hpn] at e; omega)]; exact e
    obtain ⟨h1, h2⟩ := q_onto n _ H'
    have lt : ∀ j, j < n + 1 → j ≠ p → f j < n := by
      intro j hj hjp
      by_cases hjn : j = n
      · have := h1 p (by omega)
        rw [if_pos rfl] at this
        rw [hjn]; exact this
      · have := h1 j (by omega)
        rw [if_neg hjp] at this
        exact this
    refine ⟨fun j hj => ?_, fun i j hi hj e => ?_⟩
    · by_cases hjp : j = p
      · rw [hjp, hpn]; omega
      · have := lt j hj hjp; omega
    · by_cases hip : i = p
      · by_cases hjp : j = p
        · rw [hip, hjp]
        · have := lt j hj hjp
          rw [hip, hpn] at e; omega
      · by_cases hjp : j = p
        · have := lt i hi hip
          rw [hjp, hpn] at e; omega
        · by_cases hin : i = n
          · by_cases hjn : j = n
            · rw [hin, hjn]
            · exfalso
              have := h2 p j (by omega) (by omega) (by rw [if_pos rfl, if_neg hjp, ← hin]; exact e)
              exact hjp this.symm
          · by_cases hjn : j = n
            · exfalso
              have := h2 i p (by omega) (by omega) (by rw [if_pos rfl, if_neg hip, ← hjn]; exact e)
              exact hip this
            · exact h2 i j (by omega) (by omega) (by rw [if_neg hip, if_neg hjp]; exact e)
/-- what both read of an order -/
def qOrd (h k h' k' : zHp) (n b : Nat) : Prop := qXs h h' ∧ qMs k k' ∧ ((n = 0 ∧ b = 0) ∨ (1 ≤ n ∧ n ≤ 8 ∧ b = 1 ∧ k' 0 53 = nI n ∧ ∃ f : Nat → Nat, (∀ i, i < n → f i < n ∧ h' 162 i = nI (f i) ∧ k' 30 i = nI (f i)) ∧ ∀ i j, i < n → j < n → f i = f j → i = j))
theorem q_pow10 {i : Nat} (h : i ≤ 9) : 10 ^ i ≤ 1000000000 ∧ 1 ≤ 10 ^ i := ⟨Nat.le_trans (Nat.pow_le_pow_right (by omega) h) (by decide), Nat.pow_pos (by omega)⟩
theorem q_digit {j D i : Nat} (h1 : 10 ^ D ≤ j) (hi : i < D) : (j - 10 ^ D) / 10 ^ i % 10 = j / 10 ^ i % 10 := by
  obtain ⟨r, rfl⟩ : ∃ r, j = 10 ^ D + r := ⟨j - 10 ^ D, by omega⟩
  have e : 10 ^ D = 10 ^ i * (10 * 10 ^ (D - i - 1)) := by
    rw [← Nat.mul_assoc, ← Nat.pow_succ, ← Nat.pow_add]; congr 1; omega
  rw [Nat.add_sub_cancel_left, e, Nat.mul_add_div (Nat.pow_pos (by omega)), Nat.mul_add_mod]
theorem qMs_ord {k k' : zHp} {i : Nat} {v : Int32} (h : qMs k k') : qMs k (zst k' 30 i v) := qMs_st h (by simp [qPers, qPos])
theorem qXs_162 {h h' : zHp} {i : Nat} {v : Int32} (e : qXs h h') : qXs h (zst h' 162 i v) := qXs_st e (by decide) (by decide)
theorem q_orderM {k k0 : zHp} {j D : Nat} (hD : 1 ≤ D) (hD8 : D ≤ 8) (h2 : j < 10 ^ (D + 1)) (hq : qMs k0 k) : ∃ k', qMs k0 k' ∧ (∀ a, a ≠ 30 → k' a = k a) ∧ (∀ m, m < D → k' 30 (D - 1 - m) = nI (qDg j m)) ∧ f_X11_takesOrder_50_lp zN (nI D, nI j, nI 0, nI (D - 1), k) = some (if j / 10 ^ D = 1 ∧ qSeen j D = 2 ^ D - 1 then nI 1 else nI 0, k') := by
  have hp := (q_pow10 (i := D + 1) (by omega)).1
  have hj : j < 1000000000 := by omega
  unfold f_X11_takesOrder_50_lp
  have e0 : (nI D, nI j, nI 0, nI (D - 1), k) = (nI D, nI (j / 10 ^ 0), nI (qSeen j 0), qM + nI (D - 0), k) := by
    rw [show D - 0 = (D - 1) + 1 by omega, qM_add, Nat.pow_zero, Nat.div_one]; rfl
  rw [e0]
  obtain ⟨v', ⟨k', rfl, g1, g2, g3⟩, e⟩ := q_inv (b := fun k50 v => f_X11_takesOrder_50 k50 v.1 v.2.1 v.2.2.1 v.2.2.2.1 v.2.2.2.2) (I := fun i v => ∃ k', v = (nI D, nI (j / 10 ^ i), nI (qSeen j i), qM + nI (D - i), k') ∧ qMs k0 k' ∧ (∀ a, a ≠ 30 → k' a = k a) ∧ ∀ m, m < i → k' 30 (D - 1 - m) = nI (qDg j m)) D (fun i v hi hI => by
    obtain ⟨k', rfl, g1, g2, g3⟩ := hI
    refine ⟨(nI D, nI (j / 10 ^ (i + 1)), nI (qSeen j (i + 1)), qM + nI (D - (i + 1)), zst k' 30 (D - 1 - i) (nI (qDg j i))), fun rec => ?_, _, rfl, qMs_ord g1, fun a ha => by rw [q_st_c ha]; exact g2 a ha, fun m hm => ?_⟩
    · have hd := qDg_lt j i
      have hs := qSeen_lt j i
      have hle : j / 10 ^ i ≤ j := Nat.div_le_self _ _
      have e1 : j / 10 ^ i / 10 = j / 10 ^ (i + 1) := by rw [Nat.div_div_eq_div_mul, ← Nat.pow_succ]
      have e2 : j / 10 ^ i % 10 = qDg j i := rfl
      have e3 : D - i = (D - 1 - i) + 1 := by omega
      have e4 : D - (i + 1) = D - 1 - i := by omega
      simp only [f_X11_takesOrder_50]
      rw [e3, qM_add, e4]
      simp (disch := omega) only [e2, q_shl1, fa_or, qM_c, ↓reduceIte, ↓qM_e, ↓q_rem, q_mod, q_modN, q_lit, q_nI, q_lt, q_bd, q_ix, q_dz, q_iflt, q_ifnlt, q_ifeq, q_ifne, q_ifM, q_ifMM, q_ifMlt, q_ifltM, nI_add, pk_mul, q_sub, q_div, q_cl, q_st_s, q_st_i, q_st_c, Nat.add_zero, Nat.zero_add]
      rw [e1, qSeen]
    · rcases Nat.lt_or_ge m i with z | z
      · rw [q_st_i (by omega)]; exact g3 m z
      · rw [show m = i by omega, q_st_s]) (nI D, nI (j / 10 ^ 0), nI (qSeen j 0), qM + nI (D - 0), k) ⟨k, rfl, hq, fun a _ => rfl, fun m hm => absurd hm (Nat.not_lt_zero m)⟩ zN (by rw [q_zN]; omega)
  rw [e, q_lpS (by rw [q_zN]; omega)]
  refine ⟨k', g1, g2, g3, ?_⟩
  have hs := qSeen_lt j D
  have hle : j / 10 ^ D ≤ j := Nat.div_le_self _ _
  have hw : 2 ^ D ≤ 2 ^ 8 := Nat.pow_le_pow_right (by omega) hD8
  have hw1 : 1 ≤ 2 ^ D := Nat.pow_pos (by omega)
  rw [Nat.sub_self, qM_0]
  by_cases z : j / 10 ^ D = 1
  · by_cases y : qSeen j D = 2 ^ D - 1
    · rw [if_pos ⟨z, y⟩]
      simp only [f_X11_takesOrder_50]
      simp (disch := omega) only [f_X11_takesOrder_50, q_shl1, ↓reduceIte, ↓qM_e, ↓q_rem, q_mod, q_modN, q_lit, q_nI, q_lt, q_bd, q_ix, q_dz, q_iflt, q_ifnlt, q_ifeq, q_ifne, q_ifM, q_ifMM, q_ifMlt, q_ifltM, nI_add, pk_mul, q_sub, q_div, q_cl, q_st_s, q_st_i, q_st_c, Nat.add_zero, Nat.zero_add]
    · rw [if_neg (fun q => y q.2)]
      simp only [f_X11_takesOrder_50]
      simp (disch := omega) only [f_X11_takesOrder_50, q_shl1, ↓reduceIte, ↓qM_e, ↓q_rem, q_mod, q_modN, q_lit, q_nI, q_lt, q_bd, q_ix, q_dz, q_iflt, q_ifnlt, q_ifeq, q_ifne, q_ifM, q_ifMM, q_ifMlt, q_ifltM, nI_add, pk_mul, q_sub, q_div, q_cl, q_st_s, q_st_i, q_st_c, Nat.add_zero, Nat.zero_add]
  · rw [if_neg (fun q => z q.1)]
    simp only [f_X11_takesOrder_50]
    simp (disch := omega) only [f_X11_takesOrder_50, q_shl1, ↓reduceIte, ↓qM_e, ↓q_rem, q_mod, q_modN, q_lit, q_nI, q_lt, q_bd, q_ix, q_dz, q_iflt, q_ifnlt, q_ifeq, q_ifne, q_ifM, q_ifMM, q_ifMlt, q_ifltM, nI_add, pk_mul, q_sub, q_div, q_cl, q_st_s, q_st_i, q_st_c, Nat.add_zero, Nat.zero_add]
theorem q_orderX {h : zHp} {j D : Nat} (hD : 1 ≤ D) (hD8 : D ≤ 8) (h1 : 10 ^ D ≤ j) (h2 : j < 10 ^ (D + 1)) : ∃ h', qXs h h' ∧ (∀ m, m < D → h' 162 (D - 1 - m) = nI (qDg j m)) ∧ f_X5_readOrder_52_lp zN (nI D, nI (j - 10 ^ D), nI 0, nI (D - 1), h) = some (if qSeen j D = 2 ^ D - 1 then nI D else nI 0, h') := by
  have hp := (q_pow10 (i := D + 1) (by omega)).1
  have hj : j < 1000000000 := by omega
  unfold f_X5_readOrder_52_lp
  have e0 : (nI D, nI (j - 10 ^ D), nI 0, nI (D - 1), h) = (nI D, nI ((j - 10 ^ D) / 10 ^ 0), nI (qSeen j 0), qM + nI (D - 0), h) := by
    rw [show D - 0 = (D - 1) + 1 by omega, qM_add, Nat.pow_zero, Nat.div_one]; rfl
  rw [e0]
  obtain ⟨v', ⟨h', rfl, g1, g3⟩, e⟩ := q_inv (b := fun k52 v => f_X5_readOrder_52 k52 v.1 v.2.1 v.2.2.1 v.2.2.2.1 v.2.2.2.2) (I := fun i v => ∃ h', v = (nI D, nI ((j - 10 ^ D) / 10 ^ i), nI (qSeen j i), qM + nI (D - i), h') ∧ qXs h h' ∧ ∀ m, m < i → h' 162 (D - 1 - m) = nI (qDg j m)) D (fun i v hi hI => by
    obtain ⟨h', rfl, g1, g3⟩ := hI
    refine ⟨(nI D, nI ((j - 10 ^ D) / 10 ^ (i + 1)), nI (qSeen j (i + 1)), qM + nI (D - (i + 1)), zst h' 162 (D - 1 - i) (nI (qDg j i))), fun rec => ?_, _, rfl, qXs_162 g1, fun m hm => ?_⟩
    · have hd := qDg_lt j i
      have hs := qSeen_lt j i
      have hle : (j - 10 ^ D) / 10 ^ i ≤ j - 10 ^ D := Nat.div_le_self _ _
      have e1 : (j - 10 ^ D) / 10 ^ i / 10 = (j - 10 ^ D) / 10 ^ (i + 1) := by rw [Nat.div_div_eq_div_mul, ← Nat.pow_succ]
      have e2 : (j - 10 ^ D) / 10 ^ i % 10 = qDg j i := q_digit h1 hi
      have e3 : D - i = (D - 1 - i) + 1 := by omega
      have e4 : D - (i + 1) = D - 1 - i := by omega
      simp only [f_X5_readOrder_52]
      rw [e3, qM_add, e4]
      simp (disch := omega) only [e2, q_shl1, fa_or, qM_c, ↓reduceIte, ↓qM_e, ↓q_rem, q_mod, q_modN, q_lit, q_nI, q_lt, q_bd, q_ix, q_dz, q_iflt, q_ifnlt, q_ifeq, q_ifne, q_ifM, q_ifMM, q_ifMlt, q_ifltM, nI_add, pk_mul, q_sub, q_div, q_cl, q_st_s, q_st_i, q_st_c, Nat.add_zero, Nat.zero_add]
      rw [e1, qSeen]
    · rcases Nat.lt_or_ge m i with z | z
      · rw [q_st_i (by omega)]; exact g3 m z
      · rw [show m = i by omega, q_st_s]) (nI D, nI ((j - 10 ^ D) / 10 ^ 0), nI (qSeen j 0), qM + nI (D - 0), h) ⟨h, rfl, qXs_rf h, fun m hm => absurd hm (Nat.not_lt_zero m)⟩ zN (by rw [q_zN]; omega)
  rw [e, q_lpS (by rw [q_zN]; omega)]
  refine ⟨h', g1, g3, ?_⟩
  have hs := qSeen_lt j D
  have hw : 2 ^ D ≤ 2 ^ 8 := Nat.pow_le_pow_right (by omega) hD8
  have hw1 : 1 ≤ 2 ^ D := Nat.pow_pos (by omega)
  rw [Nat.sub_self, qM_0]
  by_cases y : qSeen j D = 2 ^ D - 1
  · rw [if_pos y]
    simp only [f_X5_readOrder_52]
    simp (disch := omega) only [f_X5_readOrder_52, q_shl1, ↓reduceIte, ↓qM_e, ↓q_rem, q_mod, q_modN, q_lit, q_nI, q_lt, q_bd, q_ix, q_dz, q_iflt, q_ifnlt, q_ifeq, q_ifne, q_ifM, q_ifMM, q_ifMlt, q_ifltM, nI_add, pk_mul, q_sub, q_div, q_cl, q_st_s, q_st_i, q_st_c, Nat.add_zero, Nat.zero_add]
  · rw [if_neg y]
    simp only [f_X5_readOrder_52]
    simp (disch := omega) only [f_X5_readOrder_52, q_shl1, ↓reduceIte, ↓qM_e, ↓q_rem, q_mod, q_modN, q_lit, q_nI, q_lt, q_bd, q_ix, q_dz, q_iflt, q_ifnlt, q_ifeq, q_ifne, q_ifM, q_ifMM, q_ifMlt, q_ifltM, nI_add, pk_mul, q_sub, q_div, q_cl, q_st_s, q_st_i, q_st_c, Nat.add_zero, Nat.zero_add]
theorem q_ord0X {a : Int32} (h0 : a < 0) (h : zHp) : f_X5_readOrder a h = some (nI 0, h) := by
  obtain ⟨d1, d2⟩ := q_divneg h0
  unfold f_X5_readOrder f_X5_readOrder_5_lp
  rw [q_lpS (by rw [q_zN]; omega)]
  simp only [f_X5_readOrder_5, f_X5_readOrder_30]
  simp (disch := omega) only [q_ifT d1, q_ifF d2, ↓reduceIte, ↓qM_e, ↓q_rem, q_mod, q_modN, q_lit, q_nI, q_lt, q_bd, q_ix, q_dz, q_iflt, q_ifnlt, q_ifeq, q_ifne, q_ifM, q_ifMM, q_ifMlt, q_ifltM, nI_add, pk_mul, q_sub, q_div, q_cl, q_st_s, q_st_i, q_st_c, Nat.add_zero, Nat.zero_add]
theorem q_in0 (k : zHp) : f_X11_isIn (nI 0) (nI 1) (nI 8) k = some (nI 0, k) := q_inO (Or.inl (nI_lt (by omega) (by omega)))
theorem q_ord0M {a : Int32} (h0 : a < 0) (k : zHp) : f_X11_takesOrder a k = some (nI 0, k) := by
  have hn : ¬ nI 9 < a := fun z => absurd (Int32.lt_trans z h0) (by decide)
  unfold f_X11_takesOrder f_X11_takesOrder_4_lp
  rw [q_lpS (by rw [q_zN]; omega)]
  simp only [f_X11_takesOrder_4]
  simp (disch := omega) only [q_ifF hn, q_in0, ↓reduceIte, ↓qM_e, ↓q_rem, q_mod, q_modN, q_lit, q_nI, q_lt, q_bd, q_ix, q_dz, q_iflt, q_ifnlt, q_ifeq, q_ifne, q_ifM, q_ifMM, q_ifMlt, q_ifltM, nI_add, pk_mul, q_sub, q_div, q_cl, q_st_s, q_st_i, q_st_c, Nat.add_zero, Nat.zero_add]
theorem q_ord1X {j : Nat} (h0 : j < 10) (h : zHp) : f_X5_readOrder (nI j) h = some (nI 0, h) := by
  have hz : j / 10 = 0 := by omega
  unfold f_X5_readOrder f_X5_readOrder_5_lp
  rw [q_lpS (by rw [q_zN]; omega)]
  simp only [f_X5_readOrder_5, f_X5_readOrder_30]
  simp (disch := omega) only [hz, ↓reduceIte, ↓qM_e, ↓q_rem, q_mod, q_modN, q_lit, q_nI, q_lt, q_bd, q_ix, q_dz, q_iflt, q_ifnlt, q_ifeq, q_ifne, q_ifM, q_ifMM, q_ifMlt, q_ifltM, nI_add, pk_mul, q_sub, q_div, q_cl, q_st_s, q_st_i, q_st_c, Nat.add_zero, Nat.zero_add]
theorem q_ord1M {j : Nat} (h0 : j < 10) (k : zHp) : f_X11_takesOrder (nI j) k = some (nI 0, k) := by
  unfold f_X11_takesOrder f_X11_takesOrder_4_lp
  rw [q_lpS (by rw [q_zN]; omega)]
  simp only [f_X11_takesOrder_4]
  simp (disch := omega) only [q_in0, ↓reduceIte, ↓qM_e, ↓q_rem, q_mod, q_modN, q_lit, q_nI, q_lt, q_bd, q_ix, q_dz, q_iflt, q_ifnlt, q_ifeq, q_ifne, q_ifM, q_ifMM, q_ifMlt, q_ifltM, nI_add, pk_mul, q_sub, q_div, q_cl, q_st_s, q_st_i, q_st_c, Nat.add_zero, Nat.zero_add]
theorem q_ordM {j D : Nat} (h1 : 10 ^ D ≤ j) (h2 : j < 10 ^ (D + 1)) (hD : D ≤ 9) (hj : j < 2147483648) (k : zHp) : f_X11_takesOrder (nI j) k = f_X11_takesOrder_4 (fun _ => none) (nI j) (nI D) (nI (j / 10 ^ D)) k := by
  unfold f_X11_takesOrder f_X11_takesOrder_4_lp
  have e0 : (nI j, (0 : Int32), nI j, k) = (fun i => (nI j, nI i, nI (j / 10 ^ i), k)) 0 := by
    simp only [Nat.pow_zero, Nat.div_one]; rfl
  rw [e0]
  refine q_for (S := fun i => (nI j, nI i, nI (j / 10 ^ i), k)) D (fun i hi rec => ?_) (fun rec => ?_) zN (by rw [q_zN]; omega)
  · have h3 : 10 ^ (i + 1) ≤ 10 ^ D := Nat.pow_le_pow_right (by omega) hi
    have h4 : 10 ≤ j / 10 ^ i := (Nat.le_div_iff_mul_le (Nat.pow_pos (by omega))).mpr (by rw [Nat.pow_succ] at h3; omega)
    have hle : j / 10 ^ i ≤ j := Nat.div_le_self _ _
    have e1 : j / 10 ^ i / 10 = j / 10 ^ (i + 1) := by rw [Nat.div_div_eq_div_mul, ← Nat.pow_succ]
    simp only [f_X11_takesOrder_4]
    simp (disch := omega) only [f_X11_takesOrder_4, e1, ↓reduceIte, ↓qM_e, ↓q_rem, q_mod, q_modN, q_lit, q_nI, q_lt, q_bd, q_ix, q_dz, q_iflt, q_ifnlt, q_ifeq, q_ifne, q_ifM, q_ifMM, q_ifMlt, q_ifltM, nI_add, pk_mul, q_sub, q_div, q_cl, q_st_s, q_st_i, q_st_c, Nat.add_zero, Nat.zero_add]
  · have h4 : j / 10 ^ D < 10 := (Nat.div_lt_iff_lt_mul (Nat.pow_pos (by omega))).mpr (by rw [Nat.pow_succ] at h2; omega)
    have hn : ¬ (9 : Int32) < nI (j / 10 ^ D) := nI_nlt (a := 9) (by omega) (by omega)
    simp only [f_X11_takesOrder_4, if_neg hn]
theorem q_ordM2 {j D : Nat} (h1 : 10 ^ D ≤ j) (h2 : j < 10 ^ (D + 1)) (hD0 : 1 ≤ D) (hD : D ≤ 9) (hj : j < 2147483648) (k : zHp) : f_X11_takesOrder (nI j) k = if D ≤ 8 then f_X11_takesOrder_50_lp zN (nI D, nI j, nI 0, nI (D - 1), zst k 0 53 (nI D)) else some (nI 0, k) := by
  have h4 : j / 10 ^ D < 10 := (Nat.div_lt_iff_lt_mul (Nat.pow_pos (by omega))).mpr (by rw [Nat.pow_succ] at h2; omega)
  rw [q_ordM h1 h2 hD hj]
  by_cases z : D ≤ 8
  · have hi := q_inI (h := k) (lo := 1) (hi := 8) hD0 z (by omega)
    rw [if_pos z]
    simp only [f_X11_takesOrder_4]
    simp (disch := omega) only [f_X11_takesOrder_4, hi, ↓reduceIte, ↓qM_e, ↓q_rem, q_mod, q_modN, q_lit, q_nI, q_lt, q_bd, q_ix, q_dz, q_iflt, q_ifnlt, q_ifeq, q_ifne, q_ifM, q_ifMM, q_ifMlt, q_ifltM, nI_add, pk_mul, q_sub, q_div, q_cl, q_st_s, q_st_i, q_st_c, Nat.add_zero, Nat.zero_add]
  · have hi : f_X11_isIn (nI D) (nI 1) (nI 8) k = some (nI 0, k) := q_inO (Or.inr (nI_lt (by omega) (by omega)))
    rw [if_neg z]
    simp only [f_X11_takesOrder_4]
    simp (disch := omega) only [f_X11_takesOrder_4, hi, ↓reduceIte, ↓qM_e, ↓q_rem, q_mod, q_modN, q_lit, q_nI, q_lt, q_bd, q_ix, q_dz, q_iflt, q_ifnlt, q_ifeq, q_ifne, q_ifM, q_ifMM, q_ifMlt, q_ifltM, nI_add, pk_mul, q_sub, q_div, q_cl, q_st_s, q_st_i, q_st_c, Nat.add_zero, Nat.zero_add]
theorem q_ordX {j D E : Nat} (hE : E = min D 8) (h1 : 10 ^ D ≤ j) (h2 : j < 10 ^ (D + 1)) (hD0 : 1 ≤ D) (hD : D ≤ 9) (hj : j < 2147483648) (h : zHp) : f_X5_readOrder (nI j) h = f_X5_readOrder_30 (nI j) (nI (10 ^ E)) (nI E) h := by
  unfold f_X5_readOrder f_X5_readOrder_5_lp
  have e0 : (nI j, (10 : Int32), (1 : Int32), h) = (fun i => (nI j, nI (10 ^ (i + 1)), nI (i + 1), h)) 0 := rfl
  rw [e0]
  refine q_for (S := fun i => (nI j, nI (10 ^ (i + 1)), nI (i + 1), h)) (E - 1) (fun i hi rec => ?_) (fun rec => ?_) zN (by rw [q_zN]; omega)
  · have h3 : 10 ^ (i + 2) ≤ 10 ^ D := Nat.pow_le_pow_right (by omega) (by omega)
    have hp := q_pow10 (i := i + 1) (by omega)
    have h4 : 10 ≤ j / 10 ^ (i + 1) := (Nat.le_div_iff_mul_le (Nat.pow_pos (by omega))).mpr (by rw [Nat.pow_succ] at h3; omega)
    have hle : j / 10 ^ (i + 1) ≤ j := Nat.div_le_self _ _
    have e1 : 10 ^ (i + 1) * 10 = 10 ^ (i + 1 + 1) := (Nat.pow_succ ..).symm
    generalize 10 ^ (i + 1) = T at *
    simp only [f_X5_readOrder_5]
    simp (disch := omega) only [f_X5_readOrder_5, e1, ↓reduceIte, ↓qM_e, ↓q_rem, q_mod, q_modN, q_lit, q_nI, q_lt, q_bd, q_ix, q_dz, q_iflt, q_ifnlt, q_ifeq, q_ifne, q_ifM, q_ifMM, q_ifMlt, q_ifltM, nI_add, pk_mul, q_sub, q_div, q_cl, q_st_s, q_st_i, q_st_c, Nat.add_zero, Nat.zero_add]
  · have e1 : E - 1 + 1 = E := by omega
    have hp := q_pow10 (i := E) (by omega)
    have hle : j / 10 ^ E ≤ j := Nat.div_le_self _ _
    have h4 : E < 8 → j / 10 ^ E < 10 := by
      intro z
      have hED : E = D := by omega
      rw [hED]
      exact (Nat.div_lt_iff_lt_mul (Nat.pow_pos (by omega))).mpr (by rw [Nat.pow_succ] at h2; omega)
    simp only [f_X5_readOrder_5, e1]
    generalize 10 ^ E = T at *
    rcases Nat.lt_or_ge E 8 with z | z
    · have := h4 z
      simp (disch := omega) only [↓reduceIte, ↓qM_e, ↓q_rem, q_mod, q_modN, q_lit, q_nI, q_lt, q_bd, q_ix, q_dz, q_iflt, q_ifnlt, q_ifeq, q_ifne, q_ifM, q_ifMM, q_ifMlt, q_ifltM, nI_add, pk_mul, q_sub, q_div, q_cl, q_st_s, q_st_i, q_st_c, Nat.add_zero, Nat.zero_add]
    · simp (disch := omega) only [↓reduceIte, ↓qM_e, ↓q_rem, q_mod, q_modN, q_lit, q_nI, q_lt, q_bd, q_ix, q_dz, q_iflt, q_ifnlt, q_ifeq, q_ifne, q_ifM, q_ifMM, q_ifMlt, q_ifltM, nI_add, pk_mul, q_sub, q_div, q_cl, q_st_s, q_st_i, q_st_c, Nat.add_zero, Nat.zero_add]
theorem q_ordF {j D : Nat} {h' k' : zHp} (x2 : ∀ m, m < D → h' 162 (D - 1 - m) = nI (qDg j m)) (m3 : ∀ m, m < D → k' 30 (D - 1 - m) = nI (qDg j m)) (y : qSeen j D = 2 ^ D - 1) : ∃ f : Nat → Nat, (∀ i, i < D → f i < D ∧ h' 162 i = nI (f i) ∧ k' 30 i = nI (f i)) ∧ ∀ i j, i < D → j < D → f i = f j → i = j := by
  have onto : ∀ v, v < D → ∃ i, i < D ∧ qDg j (D - 1 - i) = v := by
    intro v hv
    have hb : (qSeen j D).testBit v = true := by rw [y, Nat.testBit_two_pow_sub_one, decide_eq_true_eq]; exact hv
    obtain ⟨m, q1, q2⟩ := qSeen_bit j v D hb
    exact ⟨D - 1 - m, by omega, by rw [show D - 1 - (D - 1 - m) = m by omega]; exact q2⟩
  obtain ⟨o1, o2⟩ := q_onto D (fun i => qDg j (D - 1 - i)) onto
  refine ⟨fun i => qDg j (D - 1 - i), fun i hi => ⟨o1 i hi, ?_, ?_⟩, o2⟩
  · have := x2 (D - 1 - i) (by omega)
    rw [show D - 1 - (D - 1 - i) = i by omega] at this
    exact this
  · have := m3 (D - 1 - i) (by omega)
    rw [show D - 1 - (D - 1 - i) = i by omega] at this
    exact this
theorem q_ord30 {j T E : Nat} (hT : 1 ≤ T) (hT2 : T < 2147483648) (hj : j < 2147483648) (hE0 : 1 ≤ E) (hE : E ≤ 8) (h : zHp) : f_X5_readOrder_30 (nI j) (nI T) (nI E) h = if j / T = 1 then f_X5_readOrder_52_lp zN (nI E, nI (j - T), nI 0, nI (E - 1), h) else some (nI 0, h) := by
  have hle : j / T ≤ j := Nat.div_le_self _ _
  by_cases z : j / T = 1
  · have hTj : T ≤ j := by
      rcases Nat.lt_or_ge j T with q | q
      · rw [Nat.div_eq_of_lt q] at z; omega
      · exact q
    rw [if_pos z]
    simp only [f_X5_readOrder_30]
    simp (disch := omega) only [f_X5_readOrder_30, ↓reduceIte, ↓qM_e, ↓q_rem, q_mod, q_modN, q_lit, q_nI, q_lt, q_bd, q_ix, q_dz, q_iflt, q_ifnlt, q_ifeq, q_ifne, q_ifM, q_ifMM, q_ifMlt, q_ifltM, nI_add, pk_mul, q_sub, q_div, q_cl, q_st_s, q_st_i, q_st_c, Nat.add_zero, Nat.zero_add]
  · rw [if_neg z]
    simp only [f_X5_readOrder_30]
    simp (disch := omega) only [f_X5_readOrder_30, ↓reduceIte, ↓qM_e, ↓q_rem, q_mod, q_modN, q_lit, q_nI, q_lt, q_bd, q_ix, q_dz, q_iflt, q_ifnlt, q_ifeq, q_ifne, q_ifM, q_ifMM, q_ifMlt, q_ifltM, nI_add, pk_mul, q_sub, q_div, q_cl, q_st_s, q_st_i, q_st_c, Nat.add_zero, Nat.zero_add]
theorem q_orders (a : Int32) (h k : zHp) : ∃ n b h' k', f_X5_readOrder a h = some (nI n, h') ∧ f_X11_takesOrder a k = some (nI b, k') ∧ qOrd h k h' k' n b := by
  by_cases h0 : a < 0
  · exact ⟨0, 0, h, k, q_ord0X h0 h, q_ord0M h0 k, qXs_rf h, qMs_rf k, Or.inl ⟨rfl, rfl⟩⟩
  obtain ⟨j, hj, rfl⟩ := nI_of h0
  rcases Nat.lt_or_ge j 10 with hj10 | hj10
  · exact ⟨0, 0, h, k, q_ord1X hj10 h, q_ord1M hj10 k, qXs_rf h, qMs_rf k, Or.inl ⟨rfl, rfl⟩⟩
  obtain ⟨D, h1, h2⟩ := q_log10 j (by omega)
  have hD9 : D ≤ 9 := by
    rcases Nat.lt_or_ge D 10 with z | z
    · omega
    · have : 10 ^ 10 ≤ 10 ^ D := Nat.pow_le_pow_right (by omega) z
      omega
  have hD1 : 1 ≤ D := by
    rcases Nat.eq_zero_or_pos D with z | z
    · rw [z] at h2; omega
    · exact z
  have hp := q_pow10 (i := min D 8) (by omega)
  rw [q_ordM2 h1 h2 hD1 hD9 (by omega), q_ordX rfl h1 h2 hD1 hD9 (by omega), q_ord30 hp.2 (by omega) (by omega) (by omega) (by omega)]
  rcases Nat.lt_or_ge 8 D with hD8 | hD8
  · have h3 : 10 ^ 9 ≤ 10 ^ D := Nat.pow_le_pow_right (by omega) (by omega)
    have h4 : ¬ j / 10 ^ min D 8 = 1 := by
      rw [Nat.min_eq_right (by omega)]
      omega
    rw [if_neg h4, if_neg (show ¬ D ≤ 8 by omega)]
    exact ⟨0, 0, h, k, rfl, rfl, qXs_rf h, qMs_rf k, Or.inl ⟨rfl, rfl⟩⟩
  · rw [if_pos hD8, Nat.min_eq_left hD8]
    obtain ⟨k', m1, m2, m3, m4⟩ := q_orderM (k := zst k 0 53 (nI D)) (k0 := k) (j := j) hD1 hD8 h2 (qMs_st (qMs_rf k) (by decide))
    obtain ⟨h', x1, x2, x3⟩ := q_orderX (h := h) hD1 hD8 h1 h2
    rw [m4]
    by_cases z : j / 10 ^ D = 1
    · rw [if_pos z, x3]
      by_cases y : qSeen j D = 2 ^ D - 1
      · exact ⟨D, 1, h', k', by rw [if_pos y], by rw [if_pos ⟨z, y⟩], x1, m1, Or.inr ⟨hD1, hD8, rfl, by rw [m2 0 (by omega)]; exact q_st_s, q_ordF x2 m3 y⟩⟩
      · exact ⟨0, 0, h', k', by rw [if_neg y], by rw [if_neg (fun q => y q.2)], x1, m1, Or.inl ⟨rfl, rfl⟩⟩
    · rw [if_neg z, if_neg (fun q => z q.1)]
      exact ⟨0, 0, h, k', rfl, rfl, qXs_rf h, m1, Or.inl ⟨rfl, rfl⟩⟩
end Qstack
