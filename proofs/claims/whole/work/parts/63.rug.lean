/-! RUG -/
section Qrug
/-- how many places from x on in row y are free -/
def qFr (fu : Nat → Bool) (x y : Nat) : Nat := fa_first (fun t => fu (6 * y + x + t)) (6 - x)
/-- how wide from x on in n rows from y on -/
def qWd (fu : Nat → Bool) (x y n : Nat) : Nat := qFold (fun v s => min v (qFr fu x (y + s))) (6 - x) n
theorem qFr_le (fu : Nat → Bool) (x y : Nat) : qFr fu x y ≤ 6 - x := fa_first_le _ _
theorem qWd_le (fu : Nat → Bool) (x y n : Nat) : qWd fu x y n ≤ 6 - x := (qFold_min (fun s => qFr fu x (y + s)) (6 - x) n).1
theorem qWd_iff (fu : Nat → Bool) (x y n c : Nat) (hc : c ≤ 6 - x) : c ≤ qWd fu x y n ↔ ∀ s, s < n → c ≤ qFr fu x (y + s) := by
  obtain ⟨h1, h2, h3⟩ := qFold_min (fun s => qFr fu x (y + s)) (6 - x) n
  constructor
  · intro h s hs
    exact Nat.le_trans h (h2 s hs)
  · intro h
    show c ≤ qFold (fun v s => min v (qFr fu x (y + s))) (6 - x) n
    rcases h3 with q | ⟨s, s1, s2⟩
    · rw [q]; exact hc
    · rw [s2]; exact h s s1
theorem qFr_iff (fu : Nat → Bool) (x y c : Nat) (hc : c ≤ 6 - x) : c ≤ qFr fu x y ↔ ∀ t, t < c → fu (6 * y + x + t) = false := by
  constructor
  · intro h t ht
    exact fa_first_no _ _ t (by unfold qFr at h; omega)
  · intro h
    rcases Nat.lt_or_ge (qFr fu x y) c with z | z
    · exfalso
      have h1 := fa_first_yes (fun t => fu (6 * y + x + t)) (6 - x) (by unfold qFr at z; omega)
      have h2 := h _ z
      unfold qFr at h2
      simp only [] at h1
      rw [h2] at h1; cases h1
    · exact z
def qRX (h : zHp) (fu : Nat → Bool) : Prop := ∀ i, i < 36 → h 39 i = if fu i then nI 1 else nI 0
def qRM (k : zHp) (fu : Nat → Bool) : Prop := ∀ i, i < 36 → k 29 i = if fu i then nI 1 else nI 0
theorem q_frX {h : zHp} {fu : Nat → Bool} (S : qRX h fu) {x y : Nat} (hx : x < 6) (hy : y < 6) : f_X5_freeFrom (nI x) (nI y) h = some (nI (qFr fu x y), h) := by
  unfold f_X5_freeFrom f_X5_freeFrom_2_lp
  have hle := qFr_le fu x y
  refine q_for (S := fun t => (nI x, nI y, nI t, h)) (qFr fu x y) (fun t ht rec => ?_) (fun rec => ?_) zN (by rw [q_zN]; omega)
  · have h1 := fa_first_no (fun t => fu (6 * y + x + t)) (6 - x) t ht
    have h2 := S (y * 6 + x + t) (by omega)
    rw [show y * 6 + x + t = 6 * y + x + t by omega, h1] at h2
    simp only [Bool.false_eq_true, if_false] at h2
    simp only [f_X5_freeFrom_2]
    simp (disch := omega) only [show y * 6 + x + t = 6 * y + x + t by omega, h2, ↓reduceIte, ↓qM_e, ↓q_rem, q_mod, q_modN, q_lit, q_nI, q_lt, q_bd, q_ix, q_dz, q_iflt, q_ifnlt, q_ifeq, q_ifne, q_ifM, q_ifMM, q_ifMlt, q_ifltM, nI_add, pk_mul, q_sub, q_div, q_cl, q_st_s, q_st_i, q_st_c, Nat.add_zero, Nat.zero_add]
  · rcases Nat.lt_or_ge (qFr fu x y) (6 - x) with z | z
    · have h1 := fa_first_yes (fun t => fu (6 * y + x + t)) (6 - x) z
      have h2 := S (6 * y + x + qFr fu x y) (by omega)
      have h3 : fu (6 * y + x + qFr fu x y) = true := h1
      rw [h3, if_pos rfl] at h2
      generalize qFr fu x y = t at *
      simp only [f_X5_freeFrom_2]
      simp (disch := omega) only [show y * 6 + x + t = 6 * y + x + t by omega, h2, ↓reduceIte, ↓qM_e, ↓q_rem, q_mod, q_modN, q_lit, q_nI, q_lt, q_bd, q_ix, q_dz, q_iflt, q_ifnlt, q_ifeq, q_ifne, q_ifM, q_ifMM, q_ifMlt, q_ifltM, nI_add, pk_mul, q_sub, q_div, q_cl, q_st_s, q_st_i, q_st_c, Nat.add_zero, Nat.zero_add]
    · generalize qFr fu x y = t at *
      simp only [f_X5_freeFrom_2]
      simp (disch := omega) only [f_X5_freeFrom_2, ↓reduceIte, ↓qM_e, ↓q_rem, q_mod, q_modN, q_lit, q_nI, q_lt, q_bd, q_ix, q_dz, q_iflt, q_ifnlt, q_ifeq, q_ifne, q_ifM, q_ifMM, q_ifMlt, q_ifltM, nI_add, pk_mul, q_sub, q_div, q_cl, q_st_s, q_st_i, q_st_c, Nat.add_zero, Nat.zero_add]
def qSA (fu : Nat → Bool) (x y : Nat) : Nat → Nat
  | 0 => 0
  | n + 1 => qSA fu x y n + qWd fu x y (n + 1)
def qSB (fu : Nat → Bool) (x y m : Nat) (n : Nat) : Nat := qFold (fun v s => max v (qWd fu x y (s + 1) * (s + 1))) m n
theorem qWd_s (fu : Nat → Bool) (x y n : Nat) : qWd fu x y (n + 1) = min (qWd fu x y n) (qFr fu x (y + n)) := rfl
theorem qSB_s (fu : Nat → Bool) (x y m n : Nat) : qSB fu x y m (n + 1) = max (qSB fu x y m n) (qWd fu x y (n + 1) * (n + 1)) := rfl
theorem qWd_0 {fu : Nat → Bool} {x y e : Nat} (h : qWd fu x y e = 0) : ∀ n, qWd fu x y (e + n) = 0
  | 0 => h
  | n + 1 => by rw [← Nat.add_assoc, qWd_s, qWd_0 h n]; omega
theorem qSA_0 {fu : Nat → Bool} {x y e : Nat} (h : qWd fu x y e = 0) : ∀ n, qSA fu x y (e + n) = qSA fu x y e
  | 0 => rfl
  | n + 1 => by
    rw [← Nat.add_assoc, qSA, qSA_0 h n, Nat.add_assoc e, qWd_0 h (n + 1)]; omega
theorem qSB_0 {fu : Nat → Bool} {x y e m : Nat} (h : qWd fu x y e = 0) : ∀ n, qSB fu x y m (e + n) = qSB fu x y m e
  | 0 => rfl
  | n + 1 => by
    rw [← Nat.add_assoc, qSB_s, qSB_0 h n, Nat.add_assoc e, qWd_0 h (n + 1)]; omega
theorem qSA_le (fu : Nat → Bool) (x y : Nat) : ∀ n, qSA fu x y n ≤ 6 * n
  | 0 => Nat.le_refl 0
  | n + 1 => by
    have := qSA_le fu x y n
    have := qWd_le fu x y (n + 1)
    unfold qSA; omega
theorem qWn_le (fu : Nat → Bool) (x y n : Nat) (hn : n ≤ 6) : qWd fu x y n * n ≤ 36 := by
  have := qWd_le fu x y n
  exact Nat.mul_le_mul (show qWd fu x y n ≤ 6 by omega) hn
theorem qSB_le (fu : Nat → Bool) (x y m : Nat) (hm : m ≤ 36) : ∀ n, n ≤ 6 → qSB fu x y m n ≤ 36
  | 0, _ => hm
  | n + 1, hn => by
    have := qSB_le fu x y m hm n (by omega)
    have := qWn_le fu x y (n + 1) hn
    rw [qSB_s]; omega
def qRA (fu : Nat → Bool) : Nat → Nat
  | 0 => 0
  | p + 1 => qRA fu p + qSA fu (p % 6) (p / 6) (6 - p / 6)
def qRB (fu : Nat → Bool) : Nat → Nat
  | 0 => 0
  | p + 1 => qSB fu (p % 6) (p / 6) (qRB fu p) (6 - p / 6)
theorem qRA_le (fu : Nat → Bool) : ∀ p, qRA fu p ≤ 36 * p
  | 0 => Nat.le_refl 0
  | p + 1 => by
    have := qRA_le fu p
    have := qSA_le fu (p % 6) (p / 6) (6 - p / 6)
    unfold qRA; omega
theorem qRB_le (fu : Nat → Bool) : ∀ p, qRB fu p ≤ 36
  | 0 => Nat.zero_le _
  | p + 1 => qSB_le fu _ _ _ (qRB_le fu p) _ (by omega)
theorem q_rugX {h : zHp} {fu : Nat → Bool} (S : qRX h fu) (w : Int32) : f_X5_rugs w h = some (if w = 0 then nI (qRA fu 36) else nI (qRB fu 36), h) := by
  unfold f_X5_rugs f_X5_rugs_7_lp
  refine q_for (S := fun p => (w, nI (qRA fu p), nI (qRB fu p), nI p, h)) 36 (fun p hp rec => ?_) (fun rec => ?_) zN (by rw [q_zN]; omega)
  · have hA := qRA_le fu p
    have hB := qRB_le fu p
    have hx : p % 6 < 6 := Nat.mod_lt _ (by omega)
    have hy : p / 6 < 6 := by omega
    simp only [f_X5_rugs_7]
    simp (disch := omega) only [f_X5_rugs_7, ↓reduceIte, ↓qM_e, ↓q_rem, q_mod, q_modN, q_lit, q_nI, q_lt, q_bd, q_ix, q_dz, q_iflt, q_ifnlt, q_ifeq, q_ifne, q_ifM, q_ifMM, q_ifMlt, q_ifltM, nI_add, pk_mul, q_sub, q_div, q_cl, q_st_s, q_st_i, q_st_c, Nat.add_zero, Nat.zero_add]
    unfold f_X5_rugs_39_lp
    rw [qRA, qRB]
    generalize qRA fu p = A at *
    generalize qRB fu p = B at *
    generalize hxx : p % 6 = x at *
    generalize hyy : p / 6 = y at *
    obtain ⟨e, e1, e2, e3⟩ := q_least (fun t => qWd fu x y t = 0) (6 - y)
    have hS0 : (w, nI A, nI B, nI p, nI x, nI (6 - x), nI y, nI y, h) = (fun t => (w, nI (A + qSA fu x y t), nI (qSB fu x y B t), nI p, nI x, nI (qWd fu x y t), nI y, nI (y + t), h)) 0 := rfl
    rw [hS0]
    have fin : qSA fu x y (6 - y) = qSA fu x y e ∧ qSB fu x y B (6 - y) = qSB fu x y B e := by
      rcases Nat.lt_or_ge e (6 - y) with z | z
      · have z0 := e3 z
        have a := qSA_0 z0 (6 - y - e)
        have b := qSB_0 (m := B) z0 (6 - y - e)
        rw [show e + (6 - y - e) = 6 - y by omega] at a b
        exact ⟨a, b⟩
      · rw [show 6 - y = e by omega]; exact ⟨rfl, rfl⟩
    rw [fin.1, fin.2]
    refine q_for (S := fun t => (w, nI (A + qSA fu x y t), nI (qSB fu x y B t), nI p, nI x, nI (qWd fu x y t), nI y, nI (y + t), h)) e (fun t ht rec2 => ?_) (fun rec2 => ?_) zN (by rw [q_zN]; omega)
    · have h0 := e2 t ht
      have h1 := qSA_le fu x y t
      have h2 := qSB_le fu x y B hB t (by omega)
      have h3 := qWd_le fu x y t
      have h4 := qFr_le fu x (y + t)
      have h5 := qWn_le fu x y (t + 1) (by omega)
      have h6 := q_frX S hx (show y + t < 6 by omega)
      have hm : (if nI (qFr fu x (y + t)) < nI (qWd fu x y t) then nI (qFr fu x (y + t)) else nI (qWd fu x y t)) = nI (qWd fu x y (t + 1)) := by
        rw [q_minX (by omega) (by omega), qWd_s, Nat.min_comm]
      have h7 := qWd_le fu x y (t + 1)
      have e4 : y + t - y + 1 = t + 1 := by omega
      rw [qSA, qSB_s]
      generalize qWd fu x y (t + 1) = W' at *
      simp only [f_X5_rugs_39]
      rw [q_ifT (nI_lt (show y + t < 6 by omega) (by omega)), q_ifT (nI_lt (show 0 < qWd fu x y t by omega) (by omega)), h6, q_bd]
      simp only [hm]
      simp (disch := omega) only [e4, q_maxX, Nat.add_assoc, ↓reduceIte, ↓qM_e, ↓q_rem, q_mod, q_modN, q_lit, q_nI, q_lt, q_bd, q_ix, q_dz, q_iflt, q_ifnlt, q_ifeq, q_ifne, q_ifM, q_ifMM, q_ifMlt, q_ifltM, nI_add, pk_mul, q_sub, q_div, q_cl, q_st_s, q_st_i, q_st_c, Nat.add_zero, Nat.zero_add]
    · have h1 := qSA_le fu x y e
      have h2 := qSB_le fu x y B hB e (by omega)
      rcases Nat.lt_or_ge e (6 - y) with z | z
      · have z0 := e3 z
        simp only [f_X5_rugs_39]
        simp (disch := omega) only [f_X5_rugs_39, z0, ↓reduceIte, ↓qM_e, ↓q_rem, q_mod, q_modN, q_lit, q_nI, q_lt, q_bd, q_ix, q_dz, q_iflt, q_ifnlt, q_ifeq, q_ifne, q_ifM, q_ifMM, q_ifMlt, q_ifltM, nI_add, pk_mul, q_sub, q_div, q_cl, q_st_s, q_st_i, q_st_c, Nat.add_zero, Nat.zero_add]
      · simp only [f_X5_rugs_39]
        simp (disch := omega) only [f_X5_rugs_39, ↓reduceIte, ↓qM_e, ↓q_rem, q_mod, q_modN, q_lit, q_nI, q_lt, q_bd, q_ix, q_dz, q_iflt, q_ifnlt, q_ifeq, q_ifne, q_ifM, q_ifMM, q_ifMlt, q_ifltM, nI_add, pk_mul, q_sub, q_div, q_cl, q_st_s, q_st_i, q_st_c, Nat.add_zero, Nat.zero_add]
  · simp only [f_X5_rugs_7]
    rw [q_ifF (nI_nlt (Nat.le_refl 36) (by omega))]
    by_cases z : w = 0
    · rw [if_pos z, if_pos z]
    · rw [if_neg z, if_neg z]
-- the reference
def qOk (fu : Nat → Bool) (p t : Nat) : Bool := decide (p / 6 ≤ t / 6 ∧ p % 6 ≤ t % 6 ∧ t % 6 - p % 6 + 1 ≤ qWd fu (p % 6) (p / 6) (t / 6 - p / 6 + 1))
theorem q_hasM {k : zHp} {fu : Nat → Bool} (S : qRM k fu) {x1 y1 x2 y2 : Nat} (hx : x1 ≤ x2) (hx2 : x2 < 6) (hy : y1 ≤ y2) (hy2 : y2 < 6) : (x2 - x1 + 1 ≤ qWd fu x1 y1 (y2 - y1 + 1) ∧ f_X11_hasRoom (nI x1) (nI y1) (nI x2) (nI y2) k = some (nI 1, k)) ∨ (¬ x2 - x1 + 1 ≤ qWd fu x1 y1 (y2 - y1 + 1) ∧ f_X11_hasRoom (nI x1) (nI y1) (nI x2) (nI y2) k = some (nI 0, k)) := by
  rw [qWd_iff fu x1 y1 (y2 - y1 + 1) (x2 - x1 + 1) (by omega)]
  unfold f_X11_hasRoom f_X11_hasRoom_3_lp
  have row : ∀ y, y < 6 → (x2 - x1 + 1 ≤ qFr fu x1 y ∧ ∀ κ : Int32 × Int32 × Int32 × Int32 × zHp → Option (Int32 × zHp), f_X11_hasRoom_13_lp κ zN (nI x1, nI x2, nI y2, nI y, nI x1, k) = κ (nI x1, nI x2, nI y2, nI (y + 1), k)) ∨ (¬ x2 - x1 + 1 ≤ qFr fu x1 y ∧ ∀ κ : Int32 × Int32 × Int32 × Int32 × zHp → Option (Int32 × zHp), f_X11_hasRoom_13_lp κ zN (nI x1, nI x2, nI y2, nI y, nI x1, k) = some (nI 0, k)) := by
    intro y hy
    have step : ∀ t, x1 + t ≤ x2 → fu (6 * y + x1 + t) = false → ∀ (κ : Int32 × Int32 × Int32 × Int32 × zHp → Option (Int32 × zHp)) (rec : Int32 × Int32 × Int32 × Int32 × Int32 × zHp → Option (Int32 × zHp)), f_X11_hasRoom_13 κ rec (nI x1) (nI x2) (nI y2) (nI y) (nI (x1 + t)) k = rec (nI x1, nI x2, nI y2, nI y, nI (x1 + t + 1), k) := by
      intro t ht hf κ rec
      have h2 := S (6 * y + (x1 + t)) (by omega)
      rw [← Nat.add_assoc, hf] at h2
      simp only [Bool.false_eq_true, if_false, Nat.add_assoc] at h2
      simp only [f_X11_hasRoom_13]
      simp (disch := omega) only [f_X11_hasRoom_13, h2, ↓reduceIte, ↓qM_e, ↓q_rem, q_mod, q_modN, q_lit, q_nI, q_lt, q_bd, q_ix, q_dz, q_iflt, q_ifnlt, q_ifeq, q_ifne, q_ifM, q_ifMM, q_ifMlt, q_ifltM, nI_add, pk_mul, q_sub, q_div, q_cl, q_st_s, q_st_i, q_st_c, Nat.add_zero, Nat.zero_add]
    have hle := qFr_le fu x1 y
    by_cases z : x2 - x1 + 1 ≤ qFr fu x1 y
    · refine Or.inl ⟨z, fun κ => ?_⟩
      rw [qFr_iff fu x1 y _ (by omega)] at z
      unfold f_X11_hasRoom_13_lp
      refine q_for (S := fun t => (nI x1, nI x2, nI y2, nI y, nI (x1 + t), k)) (x2 - x1 + 1) (fun t ht rec => ?_) (fun rec => ?_) zN (by rw [q_zN]; omega)
      · exact step t (by omega) (z t ht) κ rec
      · rw [show x1 + (x2 - x1 + 1) = x2 + 1 by omega]
        simp only [f_X11_hasRoom_13]
        simp (disch := omega) only [f_X11_hasRoom_13, ↓reduceIte, ↓qM_e, ↓q_rem, q_mod, q_modN, q_lit, q_nI, q_lt, q_bd, q_ix, q_dz, q_iflt, q_ifnlt, q_ifeq, q_ifne, q_ifM, q_ifMM, q_ifMlt, q_ifltM, nI_add, pk_mul, q_sub, q_div, q_cl, q_st_s, q_st_i, q_st_c, Nat.add_zero, Nat.zero_add]
    · refine Or.inr ⟨z, fun κ => ?_⟩
      unfold f_X11_hasRoom_13_lp
      refine q_for (S := fun t => (nI x1, nI x2, nI y2, nI y, nI (x1 + t), k)) (qFr fu x1 y) (fun t ht rec => ?_) (fun rec => ?_) zN (by rw [q_zN]; omega)
      · exact step t (by omega) (fa_first_no (fun t => fu (6 * y + x1 + t)) (6 - x1) t ht) κ rec
      · have h1 : fu (6 * y + x1 + qFr fu x1 y) = true := fa_first_yes (fun t => fu (6 * y + x1 + t)) (6 - x1) (by show qFr fu x1 y < 6 - x1; omega)
        have h2 := S (6 * y + (x1 + qFr fu x1 y)) (by omega)
        rw [← Nat.add_assoc, h1, if_pos rfl, Nat.add_assoc] at h2
        generalize qFr fu x1 y = t at *
        simp only [f_X11_hasRoom_13]
        simp (disch := omega) only [f_X11_hasRoom_13, h2, ↓reduceIte, ↓qM_e, ↓q_rem, q_mod, q_modN, q_lit, q_nI, q_lt, q_bd, q_ix, q_dz, q_iflt, q_ifnlt, q_ifeq, q_ifne, q_ifM, q_ifMM, q_ifMlt, q_ifltM, nI_add, pk_mul, q_sub, q_div, q_cl, q_st_s, q_st_i, q_st_c, Nat.add_zero, Nat.zero_add]
  obtain ⟨e, e1, e2, e3⟩ := q_least (fun s => ¬ x2 - x1 + 1 ≤ qFr fu x1 (y1 + s)) (y2 - y1 + 1)
  have go : zlp (fun k3 v => f_X11_hasRoom_3 k3 v.1 v.2.1 v.2.2.1 v.2.2.2.1 v.2.2.2.2) zN (nI x1, nI x2, nI y2, nI y1, k) = if e < y2 - y1 + 1 then some (nI 0, k) else some (nI 1, k) := by
    refine q_for (S := fun s => (nI x1, nI x2, nI y2, nI (y1 + s), k)) e (fun s hs rec => ?_) (fun rec => ?_) zN (by rw [q_zN]; omega)
    · have h1 := e2 s hs
      rcases row (y1 + s) (by omega) with ⟨-, r⟩ | ⟨r, -⟩
      · simp only [f_X11_hasRoom_3]
        rw [q_ifF (nI_nlt (show y1 + s ≤ y2 by omega) (by omega)), r rec]; rfl
      · exact absurd r h1
    · rcases Nat.lt_or_ge e (y2 - y1 + 1) with z | z
      · rw [if_pos z]
        rcases row (y1 + e) (by omega) with ⟨r, -⟩ | ⟨-, r⟩
        · exact absurd r (e3 z)
        · simp only [f_X11_hasRoom_3]
          rw [q_ifF (nI_nlt (show y1 + e ≤ y2 by omega) (by omega)), r rec]
      · rw [if_neg (by omega)]
        simp only [f_X11_hasRoom_3]
        rw [q_ifT (nI_lt (show y2 < y1 + e by omega) (by omega))]; rfl
  rcases Nat.lt_or_ge e (y2 - y1 + 1) with z | z
  · rw [if_pos z] at go
    exact Or.inr ⟨fun q => e3 z (q e z), go⟩
  · rw [if_neg (by omega)] at go
    exact Or.inl ⟨fun s hs => Classical.not_not.mp (e2 s (by omega)), go⟩
def qAr (p t : Nat) : Nat := (t % 6 - p % 6 + 1) * (t / 6 - p / 6 + 1)
def qMB (fu : Nat → Bool) (p m n : Nat) : Nat := qFold (fun v t => if qOk fu p (p + t) then max v (qAr p (p + t)) else v) m n
def qMA (fu : Nat → Bool) (p n : Nat) : Nat := qCnt (fun t => qOk fu p (p + t)) n
theorem qAr_le {p t : Nat} (ht : t < 36) : qAr p t ≤ 36 := Nat.mul_le_mul (show t % 6 - p % 6 + 1 ≤ 6 by omega) (show t / 6 - p / 6 + 1 ≤ 6 by omega)
theorem qMB_le (fu : Nat → Bool) {p m : Nat} (hm : m ≤ 36) : ∀ n, p + n ≤ 36 → qMB fu p m n ≤ 36
  | 0, _ => hm
  | n + 1, hn => by
    have := qMB_le fu hm n (by omega)
    have h2 := qAr_le (p := p) (t := p + n) (by omega)
    have e : qMB fu p m (n + 1) = if qOk fu p (p + n) then max (qMB fu p m n) (qAr p (p + n)) else qMB fu p m n := rfl
    rw [e]
    split <;> omega
def qNA (fu : Nat → Bool) : Nat → Nat
  | 0 => 0
  | p + 1 => qNA fu p + qMA fu p (36 - p)
def qNB (fu : Nat → Bool) : Nat → Nat
  | 0 => 0
  | p + 1 => qMB fu p (qNB fu p) (36 - p)
theorem qNA_le (fu : Nat → Bool) : ∀ p, qNA fu p ≤ 36 * p
  | 0 => Nat.le_refl 0
  | p + 1 => by
    have := qNA_le fu p
    have : qMA fu p (36 - p) ≤ 36 - p := qCnt_le _ _
    unfold qNA; omega
theorem qNB_le (fu : Nat → Bool) : ∀ p, p ≤ 36 → qNB fu p ≤ 36
  | 0, _ => Nat.zero_le _
  | p + 1, h => qMB_le fu (qNB_le fu p (by omega)) _ (by omega)
theorem q_rugM {k : zHp} {fu : Nat → Bool} (S : qRM k fu) (w : Int32) : f_X11_rug_24_lp zN (w, nI 0, nI 0, nI 0, k) = some (if w = 0 then nI (qNA fu 36) else nI (qNB fu 36), k) := by
  unfold f_X11_rug_24_lp
  refine q_for (S := fun p => (w, nI (qNA fu p), nI (qNB fu p), nI p, k)) 36 (fun p hp rec => ?_) (fun rec => ?_) zN (by rw [q_zN]; omega)
  · have hA := qNA_le fu p
    have hB := qNB_le fu p (by omega)
    simp only [f_X11_rug_24]
    simp (disch := omega) only [f_X11_rug_24, ↓reduceIte, ↓qM_e, ↓q_rem, q_mod, q_modN, q_lit, q_nI, q_lt, q_bd, q_ix, q_dz, q_iflt, q_ifnlt, q_ifeq, q_ifne, q_ifM, q_ifMM, q_ifMlt, q_ifltM, nI_add, pk_mul, q_sub, q_div, q_cl, q_st_s, q_st_i, q_st_c, Nat.add_zero, Nat.zero_add]
    unfold f_X11_rug_35_lp
    rw [qNA, qNB]
    generalize qNA fu p = A at *
    generalize qNB fu p = B at *
    refine q_for (S := fun t => (w, nI (A + qMA fu p t), nI (qMB fu p B t), nI p, nI (p + t), k)) (36 - p) (fun t ht rec2 => ?_) (fun rec2 => ?_) zN (by rw [q_zN]; omega)
    · have h1 : qMA fu p t ≤ t := qCnt_le _ _
      have h2 := qMB_le fu (p := p) hB t (by omega)
      have h3 := qAr_le (p := p) (t := p + t) (by omega)
      have eB : qMB fu p B (t + 1) = if qOk fu p (p + t) then max (qMB fu p B t) (qAr p (p + t)) else qMB fu p B t := rfl
      have eA : qMA fu p (t + 1) = if qOk fu p (p + t) then qMA fu p t + 1 else qMA fu p t := rfl
      have hpx : p % 6 < 6 := Nat.mod_lt _ (by omega)
      have hpy : p / 6 < 6 := by omega
      have htx : (p + t) % 6 < 6 := Nat.mod_lt _ (by omega)
      have hty : (p + t) / 6 < 6 := by omega
      have htp : p / 6 ≤ (p + t) / 6 := Nat.div_le_div_right (by omega)
      rw [eA, eB]
      generalize qMA fu p t = a at *
      generalize qMB fu p B t = b at *
      rcases Nat.lt_or_ge ((p + t) % 6) (p % 6) with z | z
      · have hno : ¬ qOk fu p (p + t) = true := by unfold qOk; simp; intro _ q; omega
        rw [if_neg hno, if_neg hno]
        simp only [f_X11_rug_35]
        simp (disch := omega) only [f_X11_rug_35, Nat.add_assoc, ↓reduceIte, ↓qM_e, ↓q_rem, q_mod, q_modN, q_lit, q_nI, q_lt, q_bd, q_ix, q_dz, q_iflt, q_ifnlt, q_ifeq, q_ifne, q_ifM, q_ifMM, q_ifMlt, q_ifltM, nI_add, pk_mul, q_sub, q_div, q_cl, q_st_s, q_st_i, q_st_c, Nat.add_zero, Nat.zero_add]
      · rcases q_hasM S z htx htp hty with ⟨y, r⟩ | ⟨y, r⟩
        · have hok : qOk fu p (p + t) = true := by unfold qOk; exact decide_eq_true ⟨htp, z, y⟩
          rw [if_pos hok, if_pos hok]
          have hg := q_grM (a := b) (b := qAr p (p + t)) (k := k) (by omega) (by omega)
          have e4 : ((p + t) % 6 - p % 6 + 1) * ((p + t) / 6 - p / 6 + 1) = qAr p (p + t) := rfl
          simp only [f_X11_rug_35]
          simp (disch := omega) only [r, e4, hg, Nat.add_assoc, ↓reduceIte, ↓qM_e, ↓q_rem, q_mod, q_modN, q_lit, q_nI, q_lt, q_bd, q_ix, q_dz, q_iflt, q_ifnlt, q_ifeq, q_ifne, q_ifM, q_ifMM, q_ifMlt, q_ifltM, nI_add, pk_mul, q_sub, q_div, q_cl, q_st_s, q_st_i, q_st_c, Nat.add_zero, Nat.zero_add]
        · have hno : ¬ qOk fu p (p + t) = true := by unfold qOk; intro q; exact y (of_decide_eq_true q).2.2
          rw [if_neg hno, if_neg hno]
          simp only [f_X11_rug_35]
          simp (disch := omega) only [r, Nat.add_assoc, ↓reduceIte, ↓qM_e, ↓q_rem, q_mod, q_modN, q_lit, q_nI, q_lt, q_bd, q_ix, q_dz, q_iflt, q_ifnlt, q_ifeq, q_ifne, q_ifM, q_ifMM, q_ifMlt, q_ifltM, nI_add, pk_mul, q_sub, q_div, q_cl, q_st_s, q_st_i, q_st_c, Nat.add_zero, Nat.zero_add]
    · simp only [f_X11_rug_35]
      rw [show p + (36 - p) = 36 by omega]
      simp (disch := omega) only [↓reduceIte, ↓qM_e, ↓q_rem, q_mod, q_modN, q_lit, q_nI, q_lt, q_bd, q_ix, q_dz, q_iflt, q_ifnlt, q_ifeq, q_ifne, q_ifM, q_ifMM, q_ifMlt, q_ifltM, nI_add, pk_mul, q_sub, q_div, q_cl, q_st_s, q_st_i, q_st_c, Nat.add_zero, Nat.zero_add]
  · simp only [f_X11_rug_24]
    rw [q_ifF (nI_nlt (Nat.le_refl 36) (by omega))]
    by_cases z : w = 0
    · rw [if_pos z, if_pos z]
    · rw [if_neg z, if_neg z]
-- the two ways of counting
theorem qCnt_add (p : Nat → Bool) (m : Nat) : ∀ n, qCnt p (m + n) = qCnt p m + qCnt (fun t => p (m + t)) n
  | 0 => rfl
  | n + 1 => by
    rw [← Nat.add_assoc, qCnt, qCnt, qCnt_add p m n]
    split <;> omega
theorem qCnt_congr {p q : Nat → Bool} : ∀ n, (∀ t, t < n → p t = q t) → qCnt p n = qCnt q n
  | 0, _ => rfl
  | n + 1, h => by rw [qCnt, qCnt, qCnt_congr n (fun t ht => h t (by omega)), h n (by omega)]
theorem qCnt_none {p : Nat → Bool} : ∀ n, (∀ t, t < n → p t = false) → qCnt p n = 0
  | 0, _ => rfl
  | n + 1, h => by rw [qCnt, qCnt_none n (fun t ht => h t (by omega)), h n (by omega)]; rfl
theorem q_row6 : ∀ x, x < 6 → ∀ w, w ≤ 6 - x → qCnt (fun t => decide (x ≤ t ∧ t - x + 1 ≤ w)) 6 = w := by decide
theorem q_cntRow (fu : Nat → Bool) (p y : Nat) (hp : p < 36) (hy : p / 6 ≤ y) : qCnt (fun t => qOk fu p (6 * y + t)) 6 = qWd fu (p % 6) (p / 6) (y - p / 6 + 1) := by
  have hx : p % 6 < 6 := Nat.mod_lt _ (by omega)
  rw [← q_row6 (p % 6) hx _ (qWd_le fu (p % 6) (p / 6) (y - p / 6 + 1))]
  refine qCnt_congr 6 (fun t ht => ?_)
  unfold qOk
  rw [show (6 * y + t) / 6 = y by omega, show (6 * y + t) % 6 = t by omega]
  congr 1
  apply propext
  constructor
  · intro h; exact ⟨h.2.1, h.2.2⟩
  · intro h; exact ⟨hy, h.1, h.2⟩
theorem q_cntRows (fu : Nat → Bool) (p : Nat) (hp : p < 36) : ∀ n, p / 6 + n ≤ 6 → qCnt (qOk fu p) (6 * (p / 6 + n)) = qSA fu (p % 6) (p / 6) n
  | 0, _ => by
    refine qCnt_none _ (fun t ht => ?_)
    unfold qOk
    apply decide_eq_false
    intro h; omega
  | n + 1, hn => by
    rw [show 6 * (p / 6 + (n + 1)) = 6 * (p / 6 + n) + 6 by omega, qCnt_add, q_cntRows fu p hp n (by omega), q_cntRow fu p (p / 6 + n) hp (by omega), qSA]
    rw [show p / 6 + n - p / 6 + 1 = n + 1 by omega]
theorem q_sameA (fu : Nat → Bool) (p : Nat) (hp : p < 36) : qMA fu p (36 - p) = qSA fu (p % 6) (p / 6) (6 - p / 6) := by
  rw [← q_cntRows fu p hp (6 - p / 6) (by omega), show 6 * (p / 6 + (6 - p / 6)) = p + (36 - p) by omega, qCnt_add]
  have : qCnt (qOk fu p) p = 0 := by
    refine qCnt_none _ (fun t ht => ?_)
    unfold qOk
    apply decide_eq_false
    intro h
    have : t = 6 * (t / 6) + t % 6 := (Nat.div_add_mod t 6).symm
    have : p = 6 * (p / 6) + p % 6 := (Nat.div_add_mod p 6).symm
    omega
  rw [this, Nat.zero_add]; rfl
theorem qMB_is (fu : Nat → Bool) (p m : Nat) : ∀ n, m ≤ qMB fu p m n ∧ (∀ t, t < n → qOk fu p (p + t) = true → qAr p (p + t) ≤ qMB fu p m n) ∧ (qMB fu p m n = m ∨ ∃ t, t < n ∧ qOk fu p (p + t) = true ∧ qMB fu p m n = qAr p (p + t))
  | 0 => ⟨Nat.le_refl m, fun t ht => absurd ht (Nat.not_lt_zero t), Or.inl rfl⟩
  | n + 1 => by
    obtain ⟨h1, h2, h3⟩ := qMB_is fu p m n
    have e : qMB fu p m (n + 1) = if qOk fu p (p + n) then max (qMB fu p m n) (qAr p (p + n)) else qMB fu p m n := rfl
    rw [e]
    generalize qMB fu p m n = r at *
    by_cases z : qOk fu p (p + n) = true
    · rw [if_pos z]
      refine ⟨by omega, fun t ht hk => ?_, ?_⟩
      · by_cases y : t = n
        · rw [y]; omega
        · have := h2 t (by omega) hk; omega
      · rcases Nat.le_total r (qAr p (p + n)) with y | y
        · exact Or.inr ⟨n, by omega, z, by omega⟩
        · rw [Nat.max_eq_left y]
          rcases h3 with q | ⟨t, t1, t2, t3⟩
          · exact Or.inl q
          · exact Or.inr ⟨t, by omega, t2, t3⟩
    · rw [if_neg z]
      refine ⟨h1, fun t ht hk => ?_, ?_⟩
      · by_cases y : t = n
        · rw [y] at hk; exact absurd hk z
        · exact h2 t (by omega) hk
      · rcases h3 with q | ⟨t, t1, t2, t3⟩
        · exact Or.inl q
        · exact Or.inr ⟨t, by omega, t2, t3⟩
theorem q_sameB (fu : Nat → Bool) (p m : Nat) (hp : p < 36) : qMB fu p m (36 - p) = qSB fu (p % 6) (p / 6) m (6 - p / 6) := by
  obtain ⟨a1, a2, a3⟩ := qMB_is fu p m (36 - p)
  obtain ⟨b1, b2, b3⟩ := qFold_max (fun s => qWd fu (p % 6) (p / 6) (s + 1) * (s + 1)) m (6 - p / 6)
  have e : qSB fu (p % 6) (p / 6) m (6 - p / 6) = qFold (fun v t => max v (qWd fu (p % 6) (p / 6) (t + 1) * (t + 1))) m (6 - p / 6) := rfl
  rw [← e] at b1 b2 b3
  generalize qMB fu p m (36 - p) = M at *
  generalize qSB fu (p % 6) (p / 6) m (6 - p / 6) = X at *
  have hpp : p = 6 * (p / 6) + p % 6 := (Nat.div_add_mod p 6).symm
  apply Nat.le_antisymm
  · rcases a3 with q | ⟨t, t1, t2, t3⟩
    · omega
    · have h := of_decide_eq_true t2
      have := b2 ((p + t) / 6 - p / 6) (by omega)
      rw [t3]
      exact Nat.le_trans (Nat.mul_le_mul_right _ h.2.2) this
  · rcases b3 with q | ⟨s, s1, s2⟩
    · omega
    · rw [s2]
      rcases Nat.eq_zero_or_pos (qWd fu (p % 6) (p / 6) (s + 1)) with z | z
      · rw [z]; omega
      · have hw := qWd_le fu (p % 6) (p / 6) (s + 1)
        have hx : p % 6 < 6 := Nat.mod_lt _ (by omega)
        generalize hW : qWd fu (p % 6) (p / 6) (s + 1) = W at *
        have ht : p + (6 * s + (W - 1)) = 6 * (p / 6 + s) + (p % 6 + (W - 1)) := by omega
        have d1 : (p + (6 * s + (W - 1))) / 6 = p / 6 + s := by rw [ht]; omega
        have d2 : (p + (6 * s + (W - 1))) % 6 = p % 6 + (W - 1) := by rw [ht]; omega
        have := a2 (6 * s + (W - 1)) (by omega) (by
          unfold qOk
          rw [d1, d2]
          refine decide_eq_true ⟨by omega, by omega, ?_⟩
          rw [show p / 6 + s - p / 6 + 1 = s + 1 by omega, hW]; omega)
        unfold qAr at this
        rw [d1, d2, show p % 6 + (W - 1) - p % 6 + 1 = W by omega, show p / 6 + s - p / 6 + 1 = s + 1 by omega] at this
        exact this
theorem q_same (fu : Nat → Bool) : ∀ p, p ≤ 36 → qNA fu p = qRA fu p ∧ qNB fu p = qRB fu p
  | 0, _ => ⟨rfl, rfl⟩
  | p + 1, h => by
    obtain ⟨h1, h2⟩ := q_same fu p (by omega)
    rw [qNA, qRA, qNB, qRB, h1, h2, q_sameA fu p (by omega), q_sameB fu p _ (by omega)]
    exact ⟨rfl, rfl⟩
theorem q_ask_rug {h k : zHp} (R : qRel h k) (w : Int32) : qAsk h k (f_X10_rug w h) (f_X11_rug w k) := by
  obtain ⟨C, P, -, -, -, -, -, -, -, -, -, -, -, -, -, H⟩ := R.1
  have SM : qRM (zst k 0 0 0) (fun i => decide (k 29 i = 1)) := by
    intro i hi
    rw [q_st_c (by decide)]
    rcases (H i hi).2 with q | q
    · rw [q]; rfl
    · rw [q]; rfl
  have SX : qRX h (fun i => decide (k 29 i = 1)) := by
    intro i hi
    have e : h 39 i = k 29 i := (H i hi).1
    rw [e]
    rcases (H i hi).2 with q | q
    · rw [q]; rfl
    · rw [q]; rfl
  generalize (fun i => decide (k 29 i = 1)) = fu at *
  unfold f_X10_rug f_X11_rug
  rcases q_rng 0 1 w (by omega) with o | ⟨v, -, hv, rfl⟩
  · exact ⟨-1, h, zst k 0 0 0, by simp (disch := omega) only [q_wiO o, ↓reduceIte, ↓qM_e, ↓q_rem, q_mod, q_modN, q_lit, q_nI, q_lt, q_bd, q_ix, q_dz, q_iflt, q_ifnlt, q_ifeq, q_ifne, q_ifM, q_ifMM, q_ifMlt, q_ifltM, nI_add, pk_mul, q_sub, q_div, q_cl, q_st_s, q_st_i, q_st_c, Nat.add_zero, Nat.zero_add], by simp (disch := omega) only [q_inO o, ↓reduceIte, ↓qM_e, ↓q_rem, q_mod, q_modN, q_lit, q_nI, q_lt, q_bd, q_ix, q_dz, q_iflt, q_ifnlt, q_ifeq, q_ifne, q_ifM, q_ifMM, q_ifMlt, q_ifltM, nI_add, pk_mul, q_sub, q_div, q_cl, q_st_s, q_st_i, q_st_c, Nat.add_zero, Nat.zero_add], qXs_rf h, qMs_s0 k⟩
  have i1 := q_inI (h := zst k 0 0 (nI 0)) (lo := 0) (by omega) hv (by omega)
  have i2 := q_wiI (h := h) hv (by omega)
  have eM := q_rugM SM (nI v)
  obtain ⟨s1, s2⟩ := q_same fu 36 (Nat.le_refl 36)
  rcases (show v = 0 ∨ v = 1 by omega) with rfl | rfl
  · have eX := q_rugX SX (nI 0)
    rw [if_pos rfl] at eM eX
    rw [s1] at eM
    refine ⟨nI (qRA fu 36), h, zst k 0 0 0, ?_, ?_, qXs_rf h, qMs_s0 k⟩
    · simp (disch := omega) only [i2, eX, ↓reduceIte, ↓qM_e, ↓q_rem, q_mod, q_modN, q_lit, q_nI, q_lt, q_bd, q_ix, q_dz, q_iflt, q_ifnlt, q_ifeq, q_ifne, q_ifM, q_ifMM, q_ifMlt, q_ifltM, nI_add, pk_mul, q_sub, q_div, q_cl, q_st_s, q_st_i, q_st_c, Nat.add_zero, Nat.zero_add]
    · rw [← eM]
      simp (disch := omega) only [i1, ↓reduceIte, ↓qM_e, ↓q_rem, q_mod, q_modN, q_lit, q_nI, q_lt, q_bd, q_ix, q_dz, q_iflt, q_ifnlt, q_ifeq, q_ifne, q_ifM, q_ifMM, q_ifMlt, q_ifltM, nI_add, pk_mul, q_sub, q_div, q_cl, q_st_s, q_st_i, q_st_c, Nat.add_zero, Nat.zero_add]
  · have eX := q_rugX SX (nI 1)
    rw [if_neg (by decide)] at eM eX
    rw [s2] at eM
    refine ⟨nI (qRB fu 36), h, zst k 0 0 0, ?_, ?_, qXs_rf h, qMs_s0 k⟩
    · simp (disch := omega) only [i2, eX, ↓reduceIte, ↓qM_e, ↓q_rem, q_mod, q_modN, q_lit, q_nI, q_lt, q_bd, q_ix, q_dz, q_iflt, q_ifnlt, q_ifeq, q_ifne, q_ifM, q_ifMM, q_ifMlt, q_ifltM, nI_add, pk_mul, q_sub, q_div, q_cl, q_st_s, q_st_i, q_st_c, Nat.add_zero, Nat.zero_add]
    · rw [← eM]
      simp (disch := omega) only [i1, ↓reduceIte, ↓qM_e, ↓q_rem, q_mod, q_modN, q_lit, q_nI, q_lt, q_bd, q_ix, q_dz, q_iflt, q_ifnlt, q_ifeq, q_ifne, q_ifM, q_ifMM, q_ifMlt, q_ifltM, nI_add, pk_mul, q_sub, q_div, q_cl, q_st_s, q_st_i, q_st_c, Nat.add_zero, Nat.zero_add]
end Qrug
