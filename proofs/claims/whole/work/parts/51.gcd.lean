/-! GCD: both Euclids -/
section Qgcd
def qE : Nat → Nat × Nat → Nat × Nat
  | 0, p => p
  | n + 1, p => ((qE n p).2, (qE n p).1 % (qE n p).2)
theorem qE_sh (p : Nat × Nat) : ∀ n, qE (n + 1) p = qE n (p.2, p.1 % p.2)
  | 0 => rfl
  | n + 1 => by
    have ih := qE_sh p n
    show ((qE (n + 1) p).2, (qE (n + 1) p).1 % (qE (n + 1) p).2) = ((qE n (p.2, p.1 % p.2)).2, _)
    rw [ih]
theorem q_half {b r : Nat} (h0 : 0 < r) (h : r < b) : b % r * 2 < b + 0 := by
  have h1 : b % r < r := Nat.mod_lt _ h0
  rcases Nat.lt_or_ge b (r * 2) with h2 | h2
  · have h3 : b % r = b - r := by
      rw [Nat.mod_eq_sub_mod (by omega), Nat.mod_eq_of_lt (by omega)]
    omega
  · omega
theorem qE_end : ∀ n a b, b < 2 ^ n → ∃ e, e ≤ 2 * n + 1 ∧ (∀ j, j < e → (qE j (a, b)).2 ≠ 0) ∧ qE e (a, b) = (Nat.gcd a b, 0)
  | n, a, 0, _ => ⟨0, by omega, fun j hj => by omega, by simp [qE]⟩
  | 0, a, b + 1, h => by omega
  | n + 1, a, b + 1, h => by
    rcases Nat.eq_zero_or_pos (a % (b + 1)) with hz | hp
    · refine ⟨1, by omega, fun j hj => ?_, ?_⟩
      · have : j = 0 := by omega
        rw [this]; show b + 1 ≠ 0; omega
      · show (b + 1, a % (b + 1)) = _
        rw [hz, Nat.gcd_comm, Nat.gcd_rec, hz, Nat.gcd_zero_left]
    · have hr : a % (b + 1) < b + 1 := Nat.mod_lt _ (by omega)
      have hh := q_half hp hr
      have g1 : Nat.gcd a (b + 1) = Nat.gcd (a % (b + 1)) ((b + 1) % (a % (b + 1))) := by
        rw [Nat.gcd_comm a, Nat.gcd_rec (b + 1) a, Nat.gcd_rec (a % (b + 1)) (b + 1), Nat.gcd_comm]
      obtain ⟨e, h1, h2, h3⟩ := qE_end n (a % (b + 1)) ((b + 1) % (a % (b + 1))) (by rw [Nat.pow_succ] at h; omega)
      refine ⟨e + 2, by omega, fun j hj => ?_, ?_⟩
      · match j with
        | 0 => show b + 1 ≠ 0; omega
        | 1 => show a % (b + 1) ≠ 0; omega
        | j + 2 =>
          rw [qE_sh, qE_sh]
          exact h2 j (by omega)
      · rw [qE_sh, qE_sh]
        show qE e (a % (b + 1), (b + 1) % (a % (b + 1))) = _
        rw [h3]
        rw [g1]
theorem qE_lt (M a b : Nat) (ha : a < M) (hb : b < M) : ∀ j, (qE j (a, b)).1 < M ∧ (qE j (a, b)).2 < M
  | 0 => ⟨ha, hb⟩
  | j + 1 => by
    obtain ⟨h1, h2⟩ := qE_lt M a b ha hb j
    refine ⟨h2, ?_⟩
    show (qE j (a, b)).1 % (qE j (a, b)).2 < M
    exact Nat.lt_of_le_of_lt (Nat.mod_le _ _) h1
theorem q_common {a b : Nat} (ha : a < 2147483648) (hb : b < 2147483648) (k : zHp) : f_X11_common (nI a) (nI b) k = some (nI (Nat.gcd a b), k) := by
  obtain ⟨e, h1, h2, h3⟩ := qE_end 31 a b hb
  have hl := qE_lt 2147483648 a b ha hb
  unfold f_X11_common f_X11_common_5_lp
  refine q_for (S := fun j => (nI (qE j (a, b)).1, nI (qE j (a, b)).2, k)) e (fun j hj rec => ?_) (fun rec => ?_) zN (by rw [q_zN]; omega)
  · have h4 := h2 j hj
    have h5 := hl j
    simp only [f_X11_common_5]
    simp (disch := omega) only [f_X11_common_5, ↓reduceIte, ↓qM_e, ↓q_rem, q_mod, q_modN, q_lit, q_nI, q_lt, q_bd, q_ix, q_dz, q_iflt, q_ifnlt, q_ifeq, q_ifne, q_ifM, q_ifMM, q_ifMlt, q_ifltM, nI_add, pk_mul, q_sub, q_div, q_cl, q_st_s, q_st_i, q_st_c, Nat.add_zero, Nat.zero_add]
    rfl
  · rw [h3]
    simp only [f_X11_common_5]
    simp (disch := omega) only [f_X11_common_5, ↓reduceIte, ↓qM_e, ↓q_rem, q_mod, q_modN, q_lit, q_nI, q_lt, q_bd, q_ix, q_dz, q_iflt, q_ifnlt, q_ifeq, q_ifne, q_ifM, q_ifMM, q_ifMlt, q_ifltM, nI_add, pk_mul, q_sub, q_div, q_cl, q_st_s, q_st_i, q_st_c, Nat.add_zero, Nat.zero_add]
theorem q_divisor {a b : Nat} (ha0 : 0 < a) (ha : a < 2147483648) (hb : b < 2147483648) (k : zHp) : f_X5_divisor (nI a) (nI b) k = some (nI (Nat.gcd a b), k) := by
  obtain ⟨e, h1, h2, h3⟩ := qE_end 31 a b hb
  have hl := qE_lt 2147483648 a b ha hb
  have e1 : (if (1 : Int32) < nI a then nI a else (1 : Int32)) = nI a := by
    rcases Nat.lt_or_ge 1 a with h | h
    · simp (disch := omega) only [↓reduceIte, ↓qM_e, ↓q_rem, q_mod, q_modN, q_lit, q_nI, q_lt, q_bd, q_ix, q_dz, q_iflt, q_ifnlt, q_ifeq, q_ifne, q_ifM, q_ifMM, q_ifMlt, q_ifltM, nI_add, pk_mul, q_sub, q_div, q_cl, q_st_s, q_st_i, q_st_c, Nat.add_zero, Nat.zero_add]
    · have : a = 1 := by omega
      subst this
      simp (disch := omega) only [↓reduceIte, ↓qM_e, ↓q_rem, q_mod, q_modN, q_lit, q_nI, q_lt, q_bd, q_ix, q_dz, q_iflt, q_ifnlt, q_ifeq, q_ifne, q_ifM, q_ifMM, q_ifMlt, q_ifltM, nI_add, pk_mul, q_sub, q_div, q_cl, q_st_s, q_st_i, q_st_c, Nat.add_zero, Nat.zero_add]
  have e2 : (if (0 : Int32) < nI b then nI b else (0 : Int32)) = nI b := by
    rcases Nat.lt_or_ge 0 b with h | h
    · simp (disch := omega) only [↓reduceIte, ↓qM_e, ↓q_rem, q_mod, q_modN, q_lit, q_nI, q_lt, q_bd, q_ix, q_dz, q_iflt, q_ifnlt, q_ifeq, q_ifne, q_ifM, q_ifMM, q_ifMlt, q_ifltM, nI_add, pk_mul, q_sub, q_div, q_cl, q_st_s, q_st_i, q_st_c, Nat.add_zero, Nat.zero_add]
    · have : b = 0 := by omega
      subst this
      simp (disch := omega) only [↓reduceIte, ↓qM_e, ↓q_rem, q_mod, q_modN, q_lit, q_nI, q_lt, q_bd, q_ix, q_dz, q_iflt, q_ifnlt, q_ifeq, q_ifne, q_ifM, q_ifMM, q_ifMlt, q_ifltM, nI_add, pk_mul, q_sub, q_div, q_cl, q_st_s, q_st_i, q_st_c, Nat.add_zero, Nat.zero_add]
  unfold f_X5_divisor f_X5_divisor_15_lp
  rw [e1, e2, q_lt, q_lt]
  refine q_for (S := fun j => (nI (qE j (a, b)).1, nI (qE j (a, b)).2, nI j, k)) e (fun j hj rec => ?_) (fun rec => ?_) zN (by rw [q_zN]; omega)
  · have h4 := h2 j hj
    have h5 := hl j
    simp only [f_X5_divisor_15]
    simp (disch := omega) only [f_X5_divisor_15, ↓reduceIte, ↓qM_e, ↓q_rem, q_mod, q_modN, q_lit, q_nI, q_lt, q_bd, q_ix, q_dz, q_iflt, q_ifnlt, q_ifeq, q_ifne, q_ifM, q_ifMM, q_ifMlt, q_ifltM, nI_add, pk_mul, q_sub, q_div, q_cl, q_st_s, q_st_i, q_st_c, Nat.add_zero, Nat.zero_add]
    rfl
  · rw [h3]
    simp only [f_X5_divisor_15]
    simp (disch := omega) only [f_X5_divisor_15, ↓reduceIte, ↓qM_e, ↓q_rem, q_mod, q_modN, q_lit, q_nI, q_lt, q_bd, q_ix, q_dz, q_iflt, q_ifnlt, q_ifeq, q_ifne, q_ifM, q_ifMM, q_ifMlt, q_ifltM, nI_add, pk_mul, q_sub, q_div, q_cl, q_st_s, q_st_i, q_st_c, Nat.add_zero, Nat.zero_add]
end Qgcd
