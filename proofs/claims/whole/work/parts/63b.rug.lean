section Qrug2
-- the reference
def qOk (fu : Nat → Bool) (p t : Nat) : Bool := decide (p / 6 ≤ t / 6 ∧ p % 6 ≤ t % 6 ∧ t % 6 - p % 6 + 1 ≤ qWd fu (p % 6) (p / 6) (t / 6 - p / 6 + 1))
theorem q_hasM {k : zHp} {fu : Nat → Bool} (S : qRM k fu) {x1 y1 x2 y2 : Nat} (hx : x1 ≤ x2) (hx2 : x2 < 6) (hy : y1 ≤ y2) (hy2 : y2 < 6) : (x2 - x1 + 1 ≤ qWd fu x1 y1 (y2 - y1 + 1) ∧ f_X11_hasRoom (nI x1) (nI y1) (nI x2) (nI y2) k = some (nI 1, k)) ∨ (¬ x2 - x1 + 1 ≤ qWd fu x1 y1 (y2 - y1 + 1) ∧ f_X11_hasRoom (nI x1) (nI y1) (nI x2) (nI y2) k = some (nI 0, k)) := by
  rw [qWd_iff fu x1 y1 (y2 - y1 + 1) (x2 - x1 + 1) (by omega)]
  unfold f_X11_hasRoom f_X11_hasRoom_3_lp
  have row : ∀ y, y < 6 → (x2 - x1 + 1 ≤ qFr fu x1 y ∧ ∀ κ : Int32 × Int32 × Int32 × Int32 × zHp → Option (Int32 × zHp), f_X11_hasRoom_13_lp κ zN (nI x1, nI x2, nI y2, nI y, nI x1, k) = κ (nI x1, nI x2, nI y2, nI (y + 1), k)) ∨ (¬ x2 - x1 + 1 ≤ qFr fu x1 y ∧ ∀ κ : Int32 × Int32 × Int32 × Int32 × zHp → Option (Int32 × zHp), f_X11_hasRoom_13_lp κ zN (nI x1, nI x2, nI y2, nI y, nI x1, k) = some (nI 0, k)) := by
    intro y hy
    have step : ∀ t, x1 + t ≤ x2 → fu (6 * y + x1 + t) = false → ∀ (κ : Int32 × Int32 × Int32 × Int32 × zHp → Option (Int32 × zHp)) (rec : Int32 × Int32 × Int32 × Int32 × Int32 × zHp → Option (Int32 × zHp)), f_X11_hasRoom_13 κ rec (nI x1) (nI x2) (nI y2) (nI y) (nI (x1 + t)) k = rec (nI x1, nI x2, nI y2, nI y, nI (x1 + t + 1), k) := by
      intro t ht hf κ rec
      have h2 := S (6 * y + (x1 + t)) (by omega)
      rw [← Nat.add_assoc, hf] at h2
      simp only [Bool.false_eq_true, if_false, Nat.add_assoc] at h2
      simp only [f_X11_hasRoom_13]
      simp (disch := omega) only [f_X11_hasRoom_13, h2, ↓reduceIte, ↓qM_e, ↓q_rem, q_mod, q_modN, q_lit, q_nI, q_lt, q_bd, q_ix, q_dz, q_iflt, q_ifnlt, q_ifeq, q_ifne, q_ifM, q_ifMM, q_ifMlt, q_ifltM, nI_add, pk_mul, q_sub, q_div, q_cl, q_st_s, q_st_i, q_st_c, Nat.add_zero, Nat.zero_add]
    have hle := qFr_le fu x1 y
    by_cases z : x2 - x1 + 1 ≤ qFr fu x1 y
    · refine Or.inl ⟨z, fun κ => ?_⟩
      rw [qFr_iff fu x1 y _ (by omega)] at z
      unfold f_X11_hasRoom_13_lp
      refine q_for (S := fun t => (nI x1, nI x2, nI y2, nI y, nI (x1 + t), k)) (x2 - x1 + 1) (fun t ht rec => ?_) (fun rec => ?_) zN (by rw [q_zN]; omega)
      · exact step t (by omega) (z t ht) κ rec
      · rw [show x1 + (x2 - x1 + 1) = x2 + 1 by omega]
        simp only [f_X11_hasRoom_13]
        simp (disch := omega) only [f_X11_hasRoom_13, ↓reduceIte, ↓qM_e, ↓q_rem, q_mod, q_modN, q_lit, q_nI, q_lt, q_bd, q_ix, q_dz, q_iflt, q_ifnlt, q_ifeq, q_ifne, q_ifM, q_ifMM, q_ifMlt, q_ifltM, nI_add, pk_mul, q_sub, q_div, q_cl, q_st_s, q_st_i, q_st_c, Nat.add_zero, Nat.zero_add]
    · refine Or.inr ⟨z, fun κ => ?_⟩
      unfold f_X11_hasRoom_13_lp
      refine q_for (S := fun t => (nI x1, nI x2, nI y2, nI y, nI (x1 + t), k)) (qFr fu x1 y) (fun t ht rec => ?_) (fun rec => ?_) zN (by rw [q_zN]; omega)
      · exact step t (by omega) (fa_first_no (fun t => fu (6 * y + x1 + t)) (6 - x1) t ht) κ rec
      · have h1 : fu (6 * y + x1 + qFr fu x1 y) = true := fa_first_yes (fun t => fu (6 * y + x1 + t)) (6 - x1) (by show qFr fu x1 y < 6 - x1; omega)
        have h2 := S (6 * y + (x1 + qFr fu x1 y)) (by omega)
        rw [← Nat.add_assoc, h1, if_pos rfl, Nat.add_assoc] at h2
        generalize qFr fu x1 y = t at *
        simp only [f_X11_hasRoom_13]
        simp (disch := omega) only [f_X11_hasRoom_13, h2, ↓reduceIte, ↓qM_e, ↓q_rem, q_mod, q_modN, q_lit, q_nI, q_lt, q_bd, q_ix, q_dz, q_iflt, q_ifnlt, q_ifeq, q_ifne, q_ifM, q_ifMM, q_ifMlt, q_ifltM, nI_add, pk_mul, q_sub, q_div, q_cl, q_st_s, q_st_i, q_st_c, Nat.add_zero, Nat.zero_add]
  obtain ⟨e, e1, e2, e3⟩ := q_least (fun s => ¬ x2 - x1 + 1 ≤ qFr fu x1 (y1 + s)) (y2 - y1 + 1)
  have go : zlp (fun k3 v => f_X11_hasRoom_3 k3 v.1 v.2.1 v.2.2.1 v.2.2.2.1 v.2.2.2.2) zN (nI x1, nI x2, nI y2, nI y1, k) = if e < y2 - y1 + 1 then some (nI 0, k) else some (nI 1, k) := by
    refine q_for (S := fun s => (nI x1, nI x2, nI y2, nI (y1 + s), k)) e (fun s hs rec => ?_) (fun rec => ?_) zN (by rw [q_zN]; omega)
    · have h1 := e2 s hs
      rcases row (y1 + s) (by omega) with ⟨-, r⟩ | ⟨r, -⟩
      · simp only [f_X11_hasRoom_3]
        rw [q_ifF (nI_nlt (show y1 + s ≤ y2 by omega) (by omega)), r rec]; rfl
      · exact absurd r h1
    · rcases Nat.lt_or_ge e (y2 - y1 + 1) with z | z
      · rw [if_pos z]
        rcases row (y1 + e) (by omega) with ⟨r, -⟩ | ⟨-, r⟩
        · exact absurd r (e3 z)
        · simp only [f_X11_hasRoom_3]
          rw [q_ifF (nI_nlt (show y1 + e ≤ y2 by omega) (by omega)), r rec]
      · rw [if_neg (by omega)]
        simp only [f_X11_hasRoom_3]
        rw [q_ifT (nI_lt (show y2 < y1 + e by omega) (by omega))]; rfl
  rcases Nat.lt_or_ge e (y2 - y1 + 1) with z | z
  · rw [if_pos z] at go
    exact Or.inr ⟨fun q => e3 z (q e z), go⟩
  · rw [if_neg (by omega)] at go
    exact Or.inl ⟨fun s hs => Classical.not_not.mp (e2 s (by omega)), go⟩
def qAr (p t : Nat) : Nat := (t % 6 - p % 6 + 1) * (t / 6 - p / 6 + 1)
def qMB (fu : Nat → Bool) (p m n : Nat) : Nat := qFold (fun v t => if qOk fu p (p + t) then max v (qAr p (p + t)) else v) m n
def qMA (fu : Nat → Bool) (p n : Nat) : Nat := qCnt (fun t => qOk fu p (p + t)) n
theorem qAr_le {p t : Nat} (ht : t < 36) : qAr p t ≤ 36 := Nat.mul_le_mul (show t % 6 - p % 6 + 1 ≤ 6 by omega) (show t / 6 - p / 6 + 1 ≤ 6 by omega)
theorem qMB_le (fu : Nat → Bool) {p m : Nat} (hm : m ≤ 36) : ∀ n, p + n ≤ 36 → qMB fu p m n ≤ 36
  | 0, _ => hm
  | n + 1, hn => by
    have := qMB_le fu (p := p) hm n (by omega)
    have h2 := qAr_le (p := p) (t := p + n) (by omega)
    have e : qMB fu p m (n + 1) = if qOk fu p (p + n) then max (qMB fu p m n) (qAr p (p + n)) else qMB fu p m n := rfl
    rw [e]
    split <;> omega
def qNA (fu : Nat → Bool) : Nat → Nat
  | 0 => 0
  | p + 1 => qNA fu p + qMA fu p (36 - p)
def qNB (fu : Nat → Bool) : Nat → Nat
  | 0 => 0
  | p + 1 => qMB fu p (qNB fu p) (36 - p)
theorem qNA_le (fu : Nat → Bool) : ∀ p, qNA fu p ≤ 36 * p
  | 0 => Nat.le_refl 0
  | p + 1 => by
    have := qNA_le fu p
    have : qMA fu p (36 - p) ≤ 36 - p := qCnt_le _ _
    unfold qNA; omega
theorem qNB_le (fu : Nat → Bool) : ∀ p, p ≤ 36 → qNB fu p ≤ 36
  | 0, _ => Nat.zero_le _
  | p + 1, h => qMB_le fu (qNB_le fu p (by omega)) _ (by omega)
theorem q_rugM {k : zHp} {fu : Nat → Bool} (S : qRM k fu) (w : Int32) : f_X11_rug_24_lp zN (w, nI 0, nI 0, nI 0, k) = some (if w = 0 then nI (qNA fu 36) else nI (qNB fu 36), k) := by
  unfold f_X11_rug_24_lp
  refine q_for (S := fun p => (w, nI (qNA fu p), nI (qNB fu p), nI p, k)) 36 (fun p hp rec => ?_) (fun rec => ?_) zN (by rw [q_zN]; omega)
  · have hA := qNA_le fu p
    have hB := qNB_le fu p (by omega)
    simp only [f_X11_rug_24]
    simp (disch := omega) only [f_X11_rug_24, ↓reduceIte, ↓qM_e, ↓q_rem, q_mod, q_modN, q_lit, q_nI, q_lt, q_bd, q_ix, q_dz, q_iflt, q_ifnlt, q_ifeq, q_ifne, q_ifM, q_ifMM, q_ifMlt, q_ifltM, nI_add, pk_mul, q_sub, q_div, q_cl, q_st_s, q_st_i, q_st_c, Nat.add_zero, Nat.zero_add]
    unfold f_X11_rug_35_lp
    rw [qNA, qNB]
    generalize qNA fu p = A at *
    generalize qNB fu p = B at *
    refine q_for (S := fun t => (w, nI (A + qMA fu p t), nI (qMB fu p B t), nI p, nI (p + t), k)) (36 - p) (fun t ht rec2 => ?_) (fun rec2 => ?_) zN (by rw [q_zN]; omega)
    · have h1 : qMA fu p t ≤ t := qCnt_le _ _
      have h2 := qMB_le fu (p := p) hB t (by omega)
      have h3 := qAr_le (p := p) (t := p + t) (by omega)
      have eB : qMB fu p B (t + 1) = if qOk fu p (p + t) then max (qMB fu p B t) (qAr p (p + t)) else qMB fu p B t := rfl
      have eA : qMA fu p (t + 1) = if qOk fu p (p + t) then qMA fu p t + 1 else qMA fu p t := rfl
      have hpx : p % 6 < 6 := Nat.mod_lt _ (by omega)
      have hpy : p / 6 < 6 := by omega
      have htx : (p + t) % 6 < 6 := Nat.mod_lt _ (by omega)
      have hty : (p + t) / 6 < 6 := by omega
      have htp : p / 6 ≤ (p + t) / 6 := Nat.div_le_div_right (by omega)
      rw [eA, eB]
      generalize qMA fu p t = a at *
      generalize qMB fu p B t = b at *
      rcases Nat.lt_or_ge ((p + t) % 6) (p % 6) with z | z
      · have hno : ¬ qOk fu p (p + t) = true := by unfold qOk; simp; intro _ q; omega
        rw [if_neg hno, if_neg hno]
        simp only [f_X11_rug_35]
        simp (disch := omega) only [f_X11_rug_35, Nat.add_assoc, ↓reduceIte, ↓qM_e, ↓q_rem, q_mod, q_modN, q_lit, q_nI, q_lt, q_bd, q_ix, q_dz, q_iflt, q_ifnlt, q_ifeq, q_ifne, q_ifM, q_ifMM, q_ifMlt, q_ifltM, nI_add, pk_mul, q_sub, q_div, q_cl, q_st_s, q_st_i, q_st_c, Nat.add_zero, Nat.zero_add]
      · rcases q_hasM S z htx htp hty with ⟨y, r⟩ | ⟨y, r⟩
        · have hok : qOk fu p (p + t) = true := by unfold qOk; exact decide_eq_true ⟨htp, z, y⟩
          rw [if_pos hok, if_pos hok]
          have hg := q_grM (a := b) (b := qAr p (p + t)) (k := k) (by omega) (by omega)
          have e4 : ((p + t) % 6 - p % 6 + 1) * ((p + t) / 6 - p / 6 + 1) = qAr p (p + t) := rfl
          simp only [f_X11_rug_35]
          simp (disch := omega) only [r, e4, hg, Nat.add_assoc, ↓reduceIte, ↓qM_e, ↓q_rem, q_mod, q_modN, q_lit, q_nI, q_lt, q_bd, q_ix, q_dz, q_iflt, q_ifnlt, q_ifeq, q_ifne, q_ifM, q_ifMM, q_ifMlt, q_ifltM, nI_add, pk_mul, q_sub, q_div, q_cl, q_st_s, q_st_i, q_st_c, Nat.add_zero, Nat.zero_add]
        · have hno : ¬ qOk fu p (p + t) = true := by unfold qOk; intro q; exact y (of_decide_eq_true q).2.2
          rw [if_neg hno, if_neg hno]
          simp only [f_X11_rug_35]
          simp (disch := omega) only [r, Nat.add_assoc, ↓reduceIte, ↓qM_e, ↓q_rem, q_mod, q_modN, q_lit, q_nI, q_lt, q_bd, q_ix, q_dz, q_iflt, q_ifnlt, q_ifeq, q_ifne, q_ifM, q_ifMM, q_ifMlt, q_ifltM, nI_add, pk_mul, q_sub, q_div, q_cl, q_st_s, q_st_i, q_st_c, Nat.add_zero, Nat.zero_add]
    · simp only [f_X11_rug_35]
      rw [show p + (36 - p) = 36 by omega]
      simp (disch := omega) only [↓reduceIte, ↓qM_e, ↓q_rem, q_mod, q_modN, q_lit, q_nI, q_lt, q_bd, q_ix, q_dz, q_iflt, q_ifnlt, q_ifeq, q_ifne, q_ifM, q_ifMM, q_ifMlt, q_ifltM, nI_add, pk_mul, q_sub, q_div, q_cl, q_st_s, q_st_i, q_st_c, Nat.add_zero, Nat.zero_add]
  · simp only [f_X11_rug_24]
    rw [q_ifF (show ¬ nI 36 < (36 : Int32) from nI_nlt (Nat.le_refl 36) (by omega))]
    by_cases z : w = 0
    · rw [if_pos z, if_pos z]
    · rw [if_neg z, if_neg z]
end Qrug2
