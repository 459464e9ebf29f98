/-! RUG -/
section Qrug
/-- how many places from x on in row y are free -/
def qFr (fu : Nat → Bool) (x y : Nat) : Nat := fa_first (fun t => fu (6 * y + x + t)) (6 - x)
/-- how wide from x on in n rows from y on -/
def qWd (fu : Nat → Bool) (x y n : Nat) : Nat := qFold (fun v s => min v (qFr fu x (y + s))) (6 - x) n
theorem qFr_le (fu : Nat → Bool) (x y : Nat) : qFr fu x y ≤ 6 - x := fa_first_le _ _
theorem qWd_le (fu : Nat → Bool) (x y n : Nat) : qWd fu x y n ≤ 6 - x := (qFold_min (fun s => qFr fu x (y + s)) (6 - x) n).1
theorem qWd_iff (fu : Nat → Bool) (x y n c : Nat) (hc : c ≤ 6 - x) : c ≤ qWd fu x y n ↔ ∀ s, s < n → c ≤ qFr fu x (y + s) := by
  obtain ⟨h1, h2, h3⟩ := qFold_min (fun s => qFr fu x (y + s)) (6 - x) n
  constructor
  · intro h s hs
    exact Nat.le_trans h (h2 s hs)
  · intro h
    show c ≤ qFold (fun v s => min v (qFr fu x (y + s))) (6 - x) n
    rcases h3 with q | ⟨s, s1, s2⟩
    · rw [q]; exact hc
    · rw [s2]; exact h s s1
theorem qFr_iff (fu : Nat → Bool) (x y c : Nat) (hc : c ≤ 6 - x) : c ≤ qFr fu x y ↔ ∀ t, t < c → fu (6 * y + x + t) = false := by
  constructor
  · intro h t ht
    exact fa_first_no (fun t => fu (6 * y + x + t)) (6 - x) t (by unfold qFr at h; omega)
  · intro h
    rcases Nat.lt_or_ge (qFr fu x y) c with z | z
    · exfalso
      have h1 := fa_first_yes (fun t => fu (6 * y + x + t)) (6 - x) (by unfold qFr at z; omega)
      have h2 := h _ z
      unfold qFr at h2
      rw [show fu (6 * y + x + fa_first (fun t => fu (6 * y + x + t)) (6 - x)) = true from h1] at h2
      cases h2
    · exact z
def qRX (h : zHp) (fu : Nat → Bool) : Prop := ∀ i, i < 36 → h 39 i = if fu i then nI 1 else nI 0
def qRM (k : zHp) (fu : Nat → Bool) : Prop := ∀ i, i < 36 → k 29 i = if fu i then nI 1 else nI 0
theorem q_frX {h : zHp} {fu : Nat → Bool} (S : qRX h fu) {x y : Nat} (hx : x < 6) (hy : y < 6) : f_X5_freeFrom (nI x) (nI y) h = some (nI (qFr fu x y), h) := by
  unfold f_X5_freeFrom f_X5_freeFrom_2_lp
  have hle := qFr_le fu x y
  refine q_for (S := fun t => (nI x, nI y, nI t, h)) (qFr fu x y) (fun t ht rec => ?_) (fun rec => ?_) zN (by rw [q_zN]; omega)
  · have h1 := fa_first_no (fun t => fu (6 * y + x + t)) (6 - x) t ht
    have h2 := S (y * 6 + x + t) (by omega)
    rw [show y * 6 + x + t = 6 * y + x + t by omega, h1] at h2
    simp only [Bool.false_eq_true, if_false] at h2
    simp only [f_X5_freeFrom_2]
    simp (disch := omega) only [show y * 6 + x + t = 6 * y + x + t by omega, h2, ↓reduceIte, ↓qM_e, ↓q_rem, q_mod, q_modN, q_lit, q_nI, q_lt, q_bd, q_ix, q_dz, q_iflt, q_ifnlt, q_ifeq, q_ifne, q_ifM, q_ifMM, q_ifMlt, q_ifltM, nI_add, pk_mul, q_sub, q_div, q_cl, q_st_s, q_st_i, q_st_c, Nat.add_zero, Nat.zero_add]
  · rcases Nat.lt_or_ge (qFr fu x y) (6 - x) with z | z
    · have h1 := fa_first_yes (fun t => fu (6 * y + x + t)) (6 - x) z
      have h2 := S (6 * y + x + qFr fu x y) (by omega)
      have h3 : fu (6 * y + x + qFr fu x y) = true := h1
      rw [h3, if_pos rfl] at h2
      generalize qFr fu x y = t at *
      simp only [f_X5_freeFrom_2]
      simp (disch := omega) only [show y * 6 + x + t = 6 * y + x + t by omega, h2, ↓reduceIte, ↓qM_e, ↓q_rem, q_mod, q_modN, q_lit, q_nI, q_lt, q_bd, q_ix, q_dz, q_iflt, q_ifnlt, q_ifeq, q_ifne, q_ifM, q_ifMM, q_ifMlt, q_ifltM, nI_add, pk_mul, q_sub, q_div, q_cl, q_st_s, q_st_i, q_st_c, Nat.add_zero, Nat.zero_add]
    · generalize qFr fu x y = t at *
      simp only [f_X5_freeFrom_2]
      simp (disch := omega) only [f_X5_freeFrom_2, ↓reduceIte, ↓qM_e, ↓q_rem, q_mod, q_modN, q_lit, q_nI, q_lt, q_bd, q_ix, q_dz, q_iflt, q_ifnlt, q_ifeq, q_ifne, q_ifM, q_ifMM, q_ifMlt, q_ifltM, nI_add, pk_mul, q_sub, q_div, q_cl, q_st_s, q_st_i, q_st_c, Nat.add_zero, Nat.zero_add]
def qSA (fu : Nat → Bool) (x y : Nat) : Nat → Nat
  | 0 => 0
  | n + 1 => qSA fu x y n + qWd fu x y (n + 1)
def qSB (fu : Nat → Bool) (x y m : Nat) (n : Nat) : Nat := qFold (fun v s => max v (qWd fu x y (s + 1) * (s + 1))) m n
theorem qWd_s (fu : Nat → Bool) (x y n : Nat) : qWd fu x y (n + 1) = min (qWd fu x y n) (qFr fu x (y + n)) := rfl
theorem qSB_s (fu : Nat → Bool) (x y m n : Nat) : qSB fu x y m (n + 1) = max (qSB fu x y m n) (qWd fu x y (n + 1) * (n + 1)) := rfl
theorem qWd_0 {fu : Nat → Bool} {x y e : Nat} (h : qWd fu x y e = 0) : ∀ n, qWd fu x y (e + n) = 0
  | 0 => h
  | n + 1 => by rw [← Nat.add_assoc, qWd_s, qWd_0 h n]; omega
theorem qSA_0 {fu : Nat → Bool} {x y e : Nat} (h : qWd fu x y e = 0) : ∀ n, qSA fu x y (e + n) = qSA fu x y e
  | 0 => rfl
  | n + 1 => by
    rw [← Nat.add_assoc, qSA, qSA_0 h n, Nat.add_assoc e, qWd_0 h (n + 1)]; omega
theorem qSB_0 {fu : Nat → Bool} {x y e m : Nat} (h : qWd fu x y e = 0) : ∀ n, qSB fu x y m (e + n) = qSB fu x y m e
  | 0 => rfl
  | n + 1 => by
    rw [← Nat.add_assoc, qSB_s, qSB_0 h n, Nat.add_assoc e, qWd_0 h (n + 1)]; omega
theorem qSA_le (fu : Nat → Bool) (x y : Nat) : ∀ n, qSA fu x y n ≤ 6 * n
  | 0 => Nat.le_refl 0
  | n + 1 => by
    have := qSA_le fu x y n
    have := qWd_le fu x y (n + 1)
    unfold qSA; omega
theorem qWn_le (fu : Nat → Bool) (x y n : Nat) (hn : n ≤ 6) : qWd fu x y n * n ≤ 36 := by
  have := qWd_le fu x y n
  exact Nat.mul_le_mul (show qWd fu x y n ≤ 6 by omega) hn
theorem qSB_le (fu : Nat → Bool) (x y m : Nat) (hm : m ≤ 36) : ∀ n, n ≤ 6 → qSB fu x y m n ≤ 36
  | 0, _ => hm
  | n + 1, hn => by
    have := qSB_le fu x y m hm n (by omega)
    have := qWn_le fu x y (n + 1) hn
    rw [qSB_s]; omega
def qRA (fu : Nat → Bool) : Nat → Nat
  | 0 => 0
  | p + 1 => qRA fu p + qSA fu (p % 6) (p / 6) (6 - p / 6)
def qRB (fu : Nat → Bool) : Nat → Nat
  | 0 => 0
  | p + 1 => qSB fu (p % 6) (p / 6) (qRB fu p) (6 - p / 6)
theorem qRA_le (fu : Nat → Bool) : ∀ p, qRA fu p ≤ 36 * p
  | 0 => Nat.le_refl 0
  | p + 1 => by
    have := qRA_le fu p
    have := qSA_le fu (p % 6) (p / 6) (6 - p / 6)
    unfold qRA; omega
theorem qRB_le (fu : Nat → Bool) : ∀ p, qRB fu p ≤ 36
  | 0 => Nat.zero_le _
  | p + 1 => qSB_le fu _ _ _ (qRB_le fu p) _ (by omega)
theorem q_rugX {h : zHp} {fu : Nat → Bool} (S : qRX h fu) (w : Int32) : f_X5_rugs w h = some (if w = 0 then nI (qRA fu 36) else nI (qRB fu 36), h) := by
  unfold f_X5_rugs f_X5_rugs_7_lp
  refine q_for (S := fun p => (w, nI (qRA fu p), nI (qRB fu p), nI p, h)) 36 (fun p hp rec => ?_) (fun rec => ?_) zN (by rw [q_zN]; omega)
  · have hA := qRA_le fu p
    have hB := qRB_le fu p
    have hx : p % 6 < 6 := Nat.mod_lt _ (by omega)
    have hy : p / 6 < 6 := by omega
    simp only [f_X5_rugs_7]
    simp (disch := omega) only [f_X5_rugs_7, ↓reduceIte, ↓qM_e, ↓q_rem, q_mod, q_modN, q_lit, q_nI, q_lt, q_bd, q_ix, q_dz, q_iflt, q_ifnlt, q_ifeq, q_ifne, q_ifM, q_ifMM, q_ifMlt, q_ifltM, nI_add, pk_mul, q_sub, q_div, q_cl, q_st_s, q_st_i, q_st_c, Nat.add_zero, Nat.zero_add]
    unfold f_X5_rugs_39_lp
    rw [qRA, qRB]
    generalize qRA fu p = A at *
    generalize qRB fu p = B at *
    generalize hxx : p % 6 = x at *
    generalize hyy : p / 6 = y at *
    obtain ⟨e, e1, e2, e3⟩ := q_least (fun t => qWd fu x y t = 0) (6 - y)
    have hS0 : (w, nI A, nI B, nI p, nI x, nI (6 - x), nI y, nI y, h) = (fun t => (w, nI (A + qSA fu x y t), nI (qSB fu x y B t), nI p, nI x, nI (qWd fu x y t), nI y, nI (y + t), h)) 0 := rfl
    rw [hS0]
    have fin : qSA fu x y (6 - y) = qSA fu x y e ∧ qSB fu x y B (6 - y) = qSB fu x y B e := by
      rcases Nat.lt_or_ge e (6 - y) with z | z
      · have z0 := e3 z
        have a := qSA_0 z0 (6 - y - e)
        have b := qSB_0 (m := B) z0 (6 - y - e)
        rw [show e + (6 - y - e) = 6 - y by omega] at a b
        exact ⟨a, b⟩
      · rw [show 6 - y = e by omega]; exact ⟨rfl, rfl⟩
    rw [fin.1, fin.2]
    refine q_for (S := fun t => (w, nI (A + qSA fu x y t), nI (qSB fu x y B t), nI p, nI x, nI (qWd fu x y t), nI y, nI (y + t), h)) e (fun t ht rec2 => ?_) (fun rec2 => ?_) zN (by rw [q_zN]; omega)
    · have h0 := e2 t ht
      have h1 := qSA_le fu x y t
      have h2 := qSB_le fu x y B hB t (by omega)
      have h3 := qWd_le fu x y t
      have h4 := qFr_le fu x (y + t)
      have h5 := qWn_le fu x y (t + 1) (by omega)
      have h6 := q_frX S hx (show y + t < 6 by omega)
      have hm : (if nI (qFr fu x (y + t)) < nI (qWd fu x y t) then nI (qFr fu x (y + t)) else nI (qWd fu x y t)) = nI (qWd fu x y (t + 1)) := by
        rw [q_minX (by omega) (by omega), qWd_s, Nat.min_comm]
      have h7 := qWd_le fu x y (t + 1)
      have e4 : y + t - y + 1 = t + 1 := by omega
      rw [qSA, qSB_s]
      generalize qWd fu x y (t + 1) = W' at *
      simp only [f_X5_rugs_39]
      have h8 : (0 : Int32) < nI (qWd fu x y t) := nI_lt (a := 0) (b := qWd fu x y t) (by omega) (by omega)
      rw [q_ifT (show nI (y + t) < (6 : Int32) from nI_lt (a := y + t) (b := 6) (by omega) (by omega)), q_ifT h8, h6, q_bd]
      simp only [hm]
      simp (disch := omega) only [e4, q_maxX, Nat.add_assoc, ↓reduceIte, ↓qM_e, ↓q_rem, q_mod, q_modN, q_lit, q_nI, q_lt, q_bd, q_ix, q_dz, q_iflt, q_ifnlt, q_ifeq, q_ifne, q_ifM, q_ifMM, q_ifMlt, q_ifltM, nI_add, pk_mul, q_sub, q_div, q_cl, q_st_s, q_st_i, q_st_c, Nat.add_zero, Nat.zero_add]
    · have h1 := qSA_le fu x y e
      have h2 := qSB_le fu x y B hB e (by omega)
      rcases Nat.lt_or_ge e (6 - y) with z | z
      · have z0 := e3 z
        simp only [f_X5_rugs_39]
        simp (disch := omega) only [f_X5_rugs_39, z0, ↓reduceIte, ↓qM_e, ↓q_rem, q_mod, q_modN, q_lit, q_nI, q_lt, q_bd, q_ix, q_dz, q_iflt, q_ifnlt, q_ifeq, q_ifne, q_ifM, q_ifMM, q_ifMlt, q_ifltM, nI_add, pk_mul, q_sub, q_div, q_cl, q_st_s, q_st_i, q_st_c, Nat.add_zero, Nat.zero_add]
      · simp only [f_X5_rugs_39]
        simp (disch := omega) only [f_X5_rugs_39, ↓reduceIte, ↓qM_e, ↓q_rem, q_mod, q_modN, q_lit, q_nI, q_lt, q_bd, q_ix, q_dz, q_iflt, q_ifnlt, q_ifeq, q_ifne, q_ifM, q_ifMM, q_ifMlt, q_ifltM, nI_add, pk_mul, q_sub, q_div, q_cl, q_st_s, q_st_i, q_st_c, Nat.add_zero, Nat.zero_add]
  · simp only [f_X5_rugs_7]
    rw [q_ifF (show ¬ nI 36 < (36 : Int32) from nI_nlt (Nat.le_refl 36) (by omega))]
    by_cases z : w = 0
    · rw [if_pos z, if_pos z]
    · rw [if_neg z, if_neg z]
end Qrug
