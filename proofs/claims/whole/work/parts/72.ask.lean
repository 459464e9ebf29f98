/-! THE LAW IS ASKED -/
section Qask
theorem q_hereM {k : zHp} {P : Nat} (hP : P ≤ 14) (hp : k 0 7 = nI P) : f_X11_hereSet k = some (nI (qSet (fun i => decide (k 1 (35 + i) ≠ 0)) P), k) := by
  unfold f_X11_hereSet f_X11_hereSet_4_lp
  refine q_for (S := fun i => (nI (qSet (fun i => decide (k 1 (35 + i) ≠ 0)) i), nI i, k)) P (fun i hi rec => ?_) (fun rec => ?_) zN (by rw [q_zN]; omega)
  · by_cases z : k 1 (35 + i) = 0
    · rw [qSet, if_neg (by simp [z])]
      simp only [f_X11_hereSet_4]
      simp (disch := omega) only [hp, q_ifT (show k 1 (35 + i) = nI 0 from z), ↓reduceIte, ↓qM_e, ↓q_rem, q_mod, q_modN, q_lit, q_nI, q_lt, q_bd, q_ix, q_dz, q_iflt, q_ifnlt, q_ifeq, q_ifne, q_ifM, q_ifMM, q_ifMlt, q_ifltM, nI_add, pk_mul, q_sub, q_div, q_cl, q_st_s, q_st_i, q_st_c, Nat.add_zero, Nat.zero_add]
    · rw [qSet, if_pos (by simp [z])]
      simp only [f_X11_hereSet_4]
      simp (disch := omega) only [hp, q_ifF (show ¬ k 1 (35 + i) = nI 0 from z), q_shl1, fa_or, ↓reduceIte, ↓qM_e, ↓q_rem, q_mod, q_modN, q_lit, q_nI, q_lt, q_bd, q_ix, q_dz, q_iflt, q_ifnlt, q_ifeq, q_ifne, q_ifM, q_ifMM, q_ifMlt, q_ifltM, nI_add, pk_mul, q_sub, q_div, q_cl, q_st_s, q_st_i, q_st_c, Nat.add_zero, Nat.zero_add]
  · simp only [f_X11_hereSet_4]
    rw [hp, q_ifF (nI_nlt (Nat.le_refl P) (by omega))]
theorem q_awayX {h : zHp} {o P : Nat} (hP : P ≤ 14) (hp : h o 10 = nI P) : f_X4_awaySet o h = some (nI (qSet (fun i => decide (h (o + 6) i = 0)) P), h) := by
  unfold f_X4_awaySet f_X4_awaySet_4_lp
  refine q_for (S := fun i => (nI (qSet (fun i => decide (h (o + 6) i = 0)) i), nI i, h)) P (fun i hi rec => ?_) (fun rec => ?_) zN (by rw [q_zN]; omega)
  · by_cases z : h (o + 6) i = 0
    · rw [qSet, if_pos (by simp [z])]
      simp only [f_X4_awaySet_4]
      simp (disch := omega) only [hp, q_ifT (show h (o + 6) i = nI 0 from z), q_shl1, fa_or, ↓reduceIte, ↓qM_e, ↓q_rem, q_mod, q_modN, q_lit, q_nI, q_lt, q_bd, q_ix, q_dz, q_iflt, q_ifnlt, q_ifeq, q_ifne, q_ifM, q_ifMM, q_ifMlt, q_ifltM, nI_add, pk_mul, q_sub, q_div, q_cl, q_st_s, q_st_i, q_st_c, Nat.add_zero, Nat.zero_add]
    · rw [qSet, if_neg (by simp [z])]
      simp only [f_X4_awaySet_4]
      simp (disch := omega) only [hp, q_ifF (show ¬ h (o + 6) i = nI 0 from z), ↓reduceIte, ↓qM_e, ↓q_rem, q_mod, q_modN, q_lit, q_nI, q_lt, q_bd, q_ix, q_dz, q_iflt, q_ifnlt, q_ifeq, q_ifne, q_ifM, q_ifMM, q_ifMlt, q_ifltM, nI_add, pk_mul, q_sub, q_div, q_cl, q_st_s, q_st_i, q_st_c, Nat.add_zero, Nat.zero_add]
  · simp only [f_X4_awaySet_4]
    rw [hp, q_ifF (nI_nlt (Nat.le_refl P) (by omega))]
/-- who minds, as a number -/
def qMN (a b : Nat → Nat) (p : Nat) : Nat → Nat
  | 0 => 0
  | n + 1 => if b n = p then qMN a b p n ||| 2 ^ a n else qMN a b p n
theorem qMN_lt {a b : Nat → Nat} {p P : Nat} : ∀ n, (∀ i, i < n → a i < P) → qMN a b p n < 2 ^ P
  | 0, _ => Nat.pow_pos (by omega)
  | n + 1, h => by
    have ih := qMN_lt (a := a) (b := b) (p := p) n (fun i hi => h i (by omega))
    unfold qMN
    split
    · exact Nat.or_lt_two_pow ih (Nat.pow_lt_pow_right (by omega) (h n (by omega)))
    · exact ih
theorem qMind_N {f : Nat → Int32} {a b : Nat → Nat} {p P : Nat} (hp : p < 14) (hP : P ≤ 14) : ∀ n, (∀ i, i < n → a i < P ∧ b i < P ∧ f (4 * i + 2) = nI (a i) ∧ f (4 * i + 3) = nI (b i)) → qMind f (nI p) n = nI (qMN a b p n)
  | 0, _ => rfl
  | n + 1, h => by
    have ih := qMind_N (f := f) hp hP n (fun i hi => h i (by omega))
    obtain ⟨h1, h2, h3, h4⟩ := h n (by omega)
    unfold qMind qMN
    rw [ih, h3, h4]
    by_cases z : b n = p
    · rw [if_pos (by rw [z]), if_pos z, show (1 : Int32) = nI 1 from rfl, show (31 : Int32) = nI 31 from rfl, q_shl1 (by omega), fa_or]
    · rw [if_neg (fun q => z ((nI_eq (by omega) (by omega)).mp q)), if_neg z]
/-- a cell of Lines -/
theorem q_cell {h : zHp} {o n i j N M : Nat} (h0 : h o 0 = nI M) (h2 : h o 2 = nI n) (hN : zln wX (o + 1) = N) (hM : 4 * M = N) (hn : n ≤ M) (hb : N < 10000) (hi : i < n) (hj : j < 4) : f_X2_cell o (nI i) (nI j) h = some (h (o + 1) (4 * i + j), h) := by
  unfold f_X2_cell
  rw [h0, h2, hN]
  simp (disch := omega) only [show i * 4 + j = 4 * i + j by omega, ↓reduceIte, ↓qM_e, ↓q_rem, q_mod, q_modN, q_lit, q_nI, q_lt, q_bd, q_ix, q_dz, q_iflt, q_ifnlt, q_ifeq, q_ifne, q_ifM, q_ifMM, q_ifMlt, q_ifltM, nI_add, pk_mul, q_sub, q_div, q_cl, q_st_s, q_st_i, q_st_c, Nat.add_zero, Nat.zero_add]
theorem qMind_s (f : Nat → Int32) (p : Int32) (n : Nat) : qMind f p (n + 1) = if f (4 * n + 3) = p then qMind f p n ||| ((1 : Int32) <<< (f (4 * n + 2) &&& 31)) else qMind f p n := rfl
theorem q_mindX {h : zHp} {o n P : Nat} {p : Nat} (h0 : h o 0 = 16) (h2 : h o 2 = nI n) (hN : zln wX (o + 1) = 64) (hn : n ≤ 16) (hp : p < 14) (hP : P ≤ 14) (H : ∀ i, i < n → ∃ x y, x < P ∧ y < P ∧ h (o + 1) (4 * i + 2) = nI x ∧ h (o + 1) (4 * i + 3) = nI y) : f_X2_minders o (nI p) h = some (qMind (h (o + 1)) (nI p) n, h) := by
  unfold f_X2_minders f_X2_minders_4_lp
  refine q_for (S := fun i => (nI p, qMind (h (o + 1)) (nI p) i, nI i, h)) n (fun i hi rec => ?_) (fun rec => ?_) zN (by rw [q_zN]; omega)
  · have c3 := q_cell (j := 3) (M := 16) h0 h2 hN (by omega) hn (by omega) hi (by omega)
    have c2 := q_cell (j := 2) (M := 16) h0 h2 hN (by omega) hn (by omega) hi (by omega)
    obtain ⟨x, y, x1, y1, x2, y2⟩ := H i hi
    simp only [f_X2_minders_4]
    rw [h2, q_ifT (nI_lt hi (by omega)), show (3 : Int32) = nI 3 from rfl, c3, q_bd]
    dsimp only
    rw [qMind_s]
    by_cases z : h (o + 1) (4 * i + 3) = nI p
    · rw [if_pos z, if_pos z, show (2 : Int32) = nI 2 from rfl, c2, q_bd, q_lt, nI_1]
    · rw [if_neg z, if_neg z, nI_1]
  · simp only [f_X2_minders_4]
    rw [h2, q_ifF (nI_nlt (Nat.le_refl n) (by omega))]
theorem q_heldX (w : Nat) (hw : w < 3) (v : Int32) (h k : zHp) : ∃ r, f_X1_held (nI w) v h = some (r, h) ∧ f_X11_held v 0 (if w = 0 then 99 else if w = 1 then 20 else 1000) k = some (r, k) ∧ (∃ j, j ≤ (if w = 0 then 99 else if w = 1 then 20 else 1000) ∧ r = nI j) := by
  have main : ∀ M : Nat, M < 100000 → ∃ r, f_X1_held_22 v (nI M) h = some (r, h) ∧ f_X11_held v 0 (nI M) k = some (r, k) ∧ ∃ j, j ≤ M ∧ r = nI j := by
    intro M hM
    unfold f_X1_held_22 f_X11_held
    by_cases c : v < 0
    · refine ⟨0, ?_, by rw [if_pos c], 0, Nat.zero_le M, rfl⟩
      have c1 : v < nI M := Int32.lt_of_lt_of_le c (nI_pos' (by omega))
      rw [if_pos c1, if_neg (fun q => absurd (Int32.lt_trans q c) (by decide))]
    · obtain ⟨j, hj, rfl⟩ := nI_of c
      rw [if_neg c]
      rcases Nat.lt_or_ge M j with z | z
      · refine ⟨nI M, ?_, by rw [if_pos (nI_lt z hj)], M, Nat.le_refl M, rfl⟩
        rw [if_neg (nI_nlt (by omega) (by omega))]
        rcases Nat.eq_zero_or_pos M with y | y
        · subst y; rfl
        · rw [if_pos (show (0 : Int32) < nI M from nI_lt (a := 0) (b := M) y (by omega))]
      · refine ⟨nI j, ?_, by rw [if_neg (nI_nlt z (by omega))], j, z, rfl⟩
        have e : (if nI j < nI M then nI j else nI M) = nI j := by
          rcases Nat.lt_or_ge j M with y | y
          · rw [if_pos (nI_lt y (by omega))]
          · rw [if_neg (nI_nlt y (by omega)), show M = j by omega]
        rw [e]
        rcases Nat.eq_zero_or_pos j with y | y
        · subst y; rfl
        · rw [if_pos (show (0 : Int32) < nI j from nI_lt (a := 0) (b := j) y (by omega))]
  unfold f_X1_held
  rcases (show w = 0 ∨ w = 1 ∨ w = 2 by omega) with rfl | rfl | rfl
  · obtain ⟨r, r1, r2, r3⟩ := main 99 (by omega)
    exact ⟨r, by rw [if_pos (show nI 0 = 0 from rfl)]; exact r1, r2, r3⟩
  · obtain ⟨r, r1, r2, r3⟩ := main 20 (by omega)
    exact ⟨r, by rw [if_neg (by decide), if_pos (show nI 1 = 1 from rfl)]; exact r1, r2, r3⟩
  · obtain ⟨r, r1, r2, r3⟩ := main 1000 (by omega)
    exact ⟨r, by rw [if_neg (by decide), if_neg (by decide)]; exact r1, r2, r3⟩
def qUnt (k : zHp) (w : Nat) : Int32 := if w = 0 then 10 * k 20 2 + 5 * k 20 3 else if w = 1 then 10 - k 20 0 - k 20 6 else 900 - 5 * k 20 1
def qMost (w : Nat) : Int32 := if w = 0 then 99 else if w = 1 then 20 else 1000
/-- THE LAW tells both the same -/
theorem q_tell {h k : zHp} {w : Nat} (hw : w < 3) (L : qLaw h 13 k) (hA : qAskd h k) : ∃ r h' k', f_X1_tell 13 (nI w) h = some (r, h') ∧ f_X11_lawTells (nI w) (qUnt k w) (qMost w) k = some (r, k') ∧ (∀ c, c ≠ 19 → h' c = h c) ∧ (∀ c, c ≠ 21 → k' c = k c) ∧ ∃ j, j ≤ 1000 ∧ r = nI j ∧ (w = 0 → j ≤ 99) := by
  obtain ⟨n, sz, l1, l2, l3, l4, l5, l6⟩ := L
  -- the end of both
  have fin : ∀ (e : Nat) (h1 k1 : zHp), e ≤ n → (∀ c, c ≠ 19 → h1 c = h c) → (∀ c, c ≠ 21 → k1 c = k c) → (e < n → k 10 e = nI w) → ∃ r h' k', (if e < n then f_X1_tell_61 13 (nI w) (nI e) h1 else f_X1_tell_89 13 (nI w) h1) = some (r, h') ∧ ((if e < n then some (nI e, k1) else some (-1, k1)).bind fun x1 => (if x1.1 = (-1 : Int32) then (f_X11_held (qUnt k w) (0 : Int32) (qMost w) x1.2).bind fun x2 => some (x2.1, x2.2) else zix x1.1 48 (zix x1.1 48 ((f_X11_runs (0 : Int32) (x1.2 11 x1.1.toNatClampNeg) (x1.2 12 x1.1.toNatClampNeg) x1.2).bind fun x3 => (f_X11_held x3.1 (0 : Int32) (qMost w) x3.2).bind fun x4 => some (x4.1, x4.2))))) = some (r, k') ∧ (∀ c, c ≠ 19 → h' c = h c) ∧ (∀ c, c ≠ 21 → k' c = k c) ∧ ∃ j, j ≤ 1000 ∧ r = nI j ∧ (w = 0 → j ≤ 99) := by
    intro e h1 k1 he H1 K1 hwd
    have bnd : ∀ j : Nat, j ≤ (if w = 0 then 99 else if w = 1 then 20 else 1000) → j ≤ 1000 ∧ (w = 0 → j ≤ 99) := by
      intro j hj
      split at hj
      · exact ⟨by omega, fun _ => hj⟩
      · split at hj
        · exact ⟨by omega, fun q => by omega⟩
        · exact ⟨hj, fun q => by omega⟩
    rcases Nat.lt_or_ge e n with z | z
    · obtain ⟨wd, a, b, c, w1, w2, w3, w4, x1, x2, x3, x4, x5, x6, x7, x8, x9, x10⟩ := l6 e z
      have hA1 : qAskd h1 k1 := fun j hj => by rw [H1 160 (by omega), K1 20 (by omega)]; exact hA j hj
      obtain ⟨v, h2, k2, v1, v2, v3, v4⟩ := q_worth (o := 13) (a := a) (b := b) (h := h1) (k := k1) (r := [false]) (by omega) w2 (by omega) (fun i i1 i2 => by rw [H1 _ (by omega), K1 14 (by omega), K1 15 (by omega)]; exact l5 i (by omega)) hA1 (by rw [K1 14 (by omega), K1 15 (by omega)]; exact x9) (by simp) (fun _ _ => trivial)
      obtain ⟨r, r1, r2, j, j1, j2⟩ := q_heldX w hw v h2 k2
      obtain ⟨b1, b2⟩ := bnd j j1
      refine ⟨r, h2, k2, ?_, ?_, fun c hc => by rw [v3 c hc]; exact H1 c hc, fun c hc => by rw [v4 c hc]; exact K1 c hc, j, b1, j2, b2⟩
      · rw [if_pos z]
        have y1 : h1 15 e = nI a := by rw [H1 15 (by omega)]; exact x3
        have y2 : h1 16 e = nI b := by rw [H1 16 (by omega)]; exact x5
        simp only [f_X1_tell_61]
        simp (disch := omega) only [y1, y2, v1, r1, ↓reduceIte, ↓qM_e, ↓q_rem, q_mod, q_modN, q_lit, q_nI, q_lt, q_bd, q_ix, q_dz, q_iflt, q_ifnlt, q_ifeq, q_ifne, q_ifM, q_ifMM, q_ifMlt, q_ifltM, nI_add, pk_mul, q_sub, q_div, q_cl, q_st_s, q_st_i, q_st_c, Nat.add_zero, Nat.zero_add]
      · rw [if_pos z]
        have y1 : k1 11 e = nI a := by rw [K1 11 (by omega)]; exact x4
        have y2 : k1 12 e = nI b := by rw [K1 12 (by omega)]; exact x6
        have v2' : f_X11_runs (0 : Int32) (nI a) (nI b) k1 = some (v, k2) := v2
        have r2' : f_X11_held v (0 : Int32) (qMost w) k2 = some (r, k2) := r2
        rw [q_bd]
        dsimp only
        rw [q_ifF (show ¬ nI e = -1 from qM_ne (by omega)), q_ix (by omega) (by omega), q_ix (by omega) (by omega), q_cl (by omega), y1, y2, v2', q_bd, r2', q_bd]
    · obtain ⟨r, r1, r2, j, j1, j2⟩ := q_heldX w hw (qUnt k w) h1 k1
      obtain ⟨b1, b2⟩ := bnd j j1
      refine ⟨r, h1, k1, ?_, ?_, H1, K1, j, b1, j2, b2⟩
      · rw [if_neg (by omega)]
        have u : f_X1_untold (nI w) h1 = some (qUnt k w, h1) := by
          have a0 := hA 0 (by omega)
          have a1 := hA 1 (by omega)
          have a2 := hA 2 (by omega)
          have a3 := hA 3 (by omega)
          have a6 := hA 6 (by omega)
          have H := H1 160 (by omega)
          unfold f_X1_untold qUnt
          rcases (show w = 0 ∨ w = 1 ∨ w = 2 by omega) with rfl | rfl | rfl
          · simp (disch := omega) only [H, a2, a3, ↓reduceIte, ↓qM_e, ↓q_rem, q_mod, q_modN, q_lit, q_nI, q_lt, q_bd, q_ix, q_dz, q_iflt, q_ifnlt, q_ifeq, q_ifne, q_ifM, q_ifMM, q_ifMlt, q_ifltM, nI_add, pk_mul, q_sub, q_div, q_cl, q_st_s, q_st_i, q_st_c, Nat.add_zero, Nat.zero_add]
          · rw [if_neg (show ¬ (1 : Nat) = 0 by omega), if_pos (show (1 : Nat) = 1 from rfl)]
            simp (disch := omega) only [H, a0, a6, ↓reduceIte, ↓qM_e, ↓q_rem, q_mod, q_modN, q_lit, q_nI, q_lt, q_bd, q_ix, q_dz, q_iflt, q_ifnlt, q_ifeq, q_ifne, q_ifM, q_ifMM, q_ifMlt, q_ifltM, nI_add, pk_mul, q_sub, q_div, q_cl, q_st_s, q_st_i, q_st_c, Nat.add_zero, Nat.zero_add]
          · rw [if_neg (show ¬ (2 : Nat) = 0 by omega), if_neg (show ¬ (2 : Nat) = 1 by omega)]
            simp (disch := omega) only [H, a1, ↓reduceIte, ↓qM_e, ↓q_rem, q_mod, q_modN, q_lit, q_nI, q_lt, q_bd, q_ix, q_dz, q_iflt, q_ifnlt, q_ifeq, q_ifne, q_ifM, q_ifMM, q_ifMlt, q_ifltM, nI_add, pk_mul, q_sub, q_div, q_cl, q_st_s, q_st_i, q_st_c, Nat.add_zero, Nat.zero_add]
        unfold f_X1_tell_89
        rw [u, q_bd]
        dsimp only
        rw [r1, q_bd]
      · rw [if_neg (by omega)]
        have r2' : f_X11_held (qUnt k w) (0 : Int32) (qMost w) k1 = some (r, k1) := r2
        rw [q_bd]
        dsimp only
        rw [if_pos rfl, r2', q_bd]
  -- the search
  have srch : ∃ e h1 k1, e ≤ n ∧ (∀ c, c ≠ 19 → h1 c = h c) ∧ (∀ c, c ≠ 21 → k1 c = k c) ∧ (e < n → k 10 e = nI w) ∧ f_X1_tell 13 (nI w) h = (if e < n then f_X1_tell_61 13 (nI w) (nI e) h1 else f_X1_tell_89 13 (nI w) h1) ∧ f_X11_lineOf (nI w) k = (if e < n then some (nI e, k1) else some (-1, k1)) := by
    unfold f_X1_tell f_X11_lineOf f_X1_tell_2_lp f_X11_lineOf_2_lp
    refine q_exit2 (b1 := fun k2 v => f_X1_tell_2 13 k2 v.1 v.2.1 v.2.2) (b2 := fun k2 v => f_X11_lineOf_2 k2 v.1 v.2.1 v.2.2) (I := fun i v u => ∃ h1 k1, v = (nI w, nI i, h1) ∧ u = (nI w, nI i, k1) ∧ (∀ c, c ≠ 19 → h1 c = h c) ∧ (∀ c, c ≠ 21 → k1 c = k c)) n (Q := fun x y => ∃ e h1 k1, e ≤ n ∧ (∀ c, c ≠ 19 → h1 c = h c) ∧ (∀ c, c ≠ 21 → k1 c = k c) ∧ (e < n → k 10 e = nI w) ∧ x = (if e < n then f_X1_tell_61 13 (nI w) (nI e) h1 else f_X1_tell_89 13 (nI w) h1) ∧ y = (if e < n then some (nI e, k1) else some (-1, k1))) (fun i v u hi hI => ?_) (fun v u hI => ?_) _ _ ⟨h, k, rfl, rfl, fun _ _ => rfl, fun _ _ => rfl⟩ zN zN (by rw [q_zN]; omega) (by rw [q_zN]; omega)
    · obtain ⟨h1, k1, rfl, rfl, H1, K1⟩ := hI
      obtain ⟨wd, a, b, c, w1, w2, w3, w4, x1, x2, x3, x4, x5, x6, x7, x8, x9, x10⟩ := l6 i hi
      have g7 : h1 13 7 = nI n := by rw [H1 13 (by omega)]; exact l3
      have g1 : h1 14 i = nI wd := by rw [H1 14 (by omega)]; exact x1
      have g3 : h1 16 i = nI b := by rw [H1 16 (by omega)]; exact x5
      have g4 : h1 17 i = nI c := by rw [H1 17 (by omega)]; exact x7
      have m9 : k1 9 0 = nI n := by rw [K1 9 (by omega)]; exact l4
      have m10 : k1 10 i = nI wd := by rw [K1 10 (by omega)]; exact x2
      have m12 : k1 12 i = nI b := by rw [K1 12 (by omega)]; exact x6
      have m13 : k1 13 i = nI c := by rw [K1 13 (by omega)]; exact x8
      by_cases hwd : wd = w
      · subst hwd
        by_cases hbc : b = c
        · subst hbc
          refine Or.inr ⟨_, _, fun rec => ?_, fun rec => ?_, i, h1, k1, by omega, H1, K1, fun _ => x2, by rw [if_pos hi], by rw [if_pos hi]⟩
          · simp only [f_X1_tell_2]
            simp (disch := omega) only [g7, g1, g3, g4, ↓reduceIte, ↓qM_e, ↓q_rem, q_mod, q_modN, q_lit, q_nI, q_lt, q_bd, q_ix, q_dz, q_iflt, q_ifnlt, q_ifeq, q_ifne, q_ifM, q_ifMM, q_ifMlt, q_ifltM, nI_add, pk_mul, q_sub, q_div, q_cl, q_st_s, q_st_i, q_st_c, Nat.add_zero, Nat.zero_add]
          · simp only [f_X11_lineOf_2]
            simp (disch := omega) only [m9, m10, m12, m13, ↓reduceIte, ↓qM_e, ↓q_rem, q_mod, q_modN, q_lit, q_nI, q_lt, q_bd, q_ix, q_dz, q_iflt, q_ifnlt, q_ifeq, q_ifne, q_ifM, q_ifMM, q_ifMlt, q_ifltM, nI_add, pk_mul, q_sub, q_div, q_cl, q_st_s, q_st_i, q_st_c, Nat.add_zero, Nat.zero_add]
        · have hA1 : qAskd h1 k1 := fun j hj => by rw [H1 160 (by omega), K1 20 (by omega)]; exact hA j hj
          obtain ⟨v, h2, k2, v1, v2, v3, v4⟩ := q_worth (o := 13) (a := b) (b := c) (h := h1) (k := k1) (r := [true]) (by omega) w3 (by omega) (fun i i1 i2 => by rw [H1 _ (by omega), K1 14 (by omega), K1 15 (by omega)]; exact l5 i (by omega)) hA1 (by rw [K1 14 (by omega), K1 15 (by omega)]; exact x10.resolve_left hbc) (by simp) (fun _ _ => trivial)
          have H2 : ∀ c, c ≠ 19 → h2 c = h c := fun c hc => by rw [v3 c hc]; exact H1 c hc
          have K2 : ∀ c, c ≠ 21 → k2 c = k c := fun c hc => by rw [v4 c hc]; exact K1 c hc
          by_cases hv : v = 0
          · refine Or.inl ⟨(nI wd, nI (i + 1), h2), (nI wd, nI (i + 1), k2), fun rec => ?_, fun rec => ?_, h2, k2, rfl, rfl, H2, K2⟩
            · simp only [f_X1_tell_2]
              simp (disch := omega) only [g7, g1, g3, g4, v1, q_ifT (show v = nI 0 from hv), ↓reduceIte, ↓qM_e, ↓q_rem, q_mod, q_modN, q_lit, q_nI, q_lt, q_bd, q_ix, q_dz, q_iflt, q_ifnlt, q_ifeq, q_ifne, q_ifM, q_ifMM, q_ifMlt, q_ifltM, nI_add, pk_mul, q_sub, q_div, q_cl, q_st_s, q_st_i, q_st_c, Nat.add_zero, Nat.zero_add]
            · simp only [f_X11_lineOf_2]
              simp (disch := omega) only [m9, m10, m12, m13, v2, q_ifT (show v = nI 0 from hv), ↓reduceIte, ↓qM_e, ↓q_rem, q_mod, q_modN, q_lit, q_nI, q_lt, q_bd, q_ix, q_dz, q_iflt, q_ifnlt, q_ifeq, q_ifne, q_ifM, q_ifMM, q_ifMlt, q_ifltM, nI_add, pk_mul, q_sub, q_div, q_cl, q_st_s, q_st_i, q_st_c, Nat.add_zero, Nat.zero_add]
          · refine Or.inr ⟨_, _, fun rec => ?_, fun rec => ?_, i, h2, k2, by omega, H2, K2, fun _ => x2, by rw [if_pos hi], by rw [if_pos hi]⟩
            · simp only [f_X1_tell_2]
              simp (disch := omega) only [g7, g1, g3, g4, v1, q_ifF (show ¬ v = nI 0 from hv), ↓reduceIte, ↓qM_e, ↓q_rem, q_mod, q_modN, q_lit, q_nI, q_lt, q_bd, q_ix, q_dz, q_iflt, q_ifnlt, q_ifeq, q_ifne, q_ifM, q_ifMM, q_ifMlt, q_ifltM, nI_add, pk_mul, q_sub, q_div, q_cl, q_st_s, q_st_i, q_st_c, Nat.add_zero, Nat.zero_add]
            · simp only [f_X11_lineOf_2]
              simp (disch := omega) only [m9, m10, m12, m13, v2, q_ifF (show ¬ v = nI 0 from hv), ↓reduceIte, ↓qM_e, ↓q_rem, q_mod, q_modN, q_lit, q_nI, q_lt, q_bd, q_ix, q_dz, q_iflt, q_ifnlt, q_ifeq, q_ifne, q_ifM, q_ifMM, q_ifMlt, q_ifltM, nI_add, pk_mul, q_sub, q_div, q_cl, q_st_s, q_st_i, q_st_c, Nat.add_zero, Nat.zero_add]
      · refine Or.inl ⟨(nI w, nI (i + 1), h1), (nI w, nI (i + 1), k1), fun rec => ?_, fun rec => ?_, h1, k1, rfl, rfl, H1, K1⟩
        · simp only [f_X1_tell_2]
          simp (disch := omega) only [g7, g1, ↓reduceIte, ↓qM_e, ↓q_rem, q_mod, q_modN, q_lit, q_nI, q_lt, q_bd, q_ix, q_dz, q_iflt, q_ifnlt, q_ifeq, q_ifne, q_ifM, q_ifMM, q_ifMlt, q_ifltM, nI_add, pk_mul, q_sub, q_div, q_cl, q_st_s, q_st_i, q_st_c, Nat.add_zero, Nat.zero_add]
        · simp only [f_X11_lineOf_2]
          simp (disch := omega) only [m9, m10, ↓reduceIte, ↓qM_e, ↓q_rem, q_mod, q_modN, q_lit, q_nI, q_lt, q_bd, q_ix, q_dz, q_iflt, q_ifnlt, q_ifeq, q_ifne, q_ifM, q_ifMM, q_ifMlt, q_ifltM, nI_add, pk_mul, q_sub, q_div, q_cl, q_st_s, q_st_i, q_st_c, Nat.add_zero, Nat.zero_add]
    · obtain ⟨h1, k1, rfl, rfl, H1, K1⟩ := hI
      have g7 : h1 13 7 = nI n := by rw [H1 13 (by omega)]; exact l3
      have m9 : k1 9 0 = nI n := by rw [K1 9 (by omega)]; exact l4
      refine ⟨f_X1_tell_89 13 (nI w) h1, some (-1, k1), fun rec => ?_, fun rec => ?_, n, h1, k1, Nat.le_refl n, H1, K1, fun q => absurd q (Nat.lt_irrefl n), by rw [if_neg (Nat.lt_irrefl n)], by rw [if_neg (Nat.lt_irrefl n)]⟩
      · simp only [f_X1_tell_2]
        rw [g7, q_ifF (nI_nlt (Nat.le_refl n) (by omega))]
      · simp only [f_X11_lineOf_2]
        simp (disch := omega) only [m9, ↓reduceIte, ↓qM_e, ↓q_rem, q_mod, q_modN, q_lit, q_nI, q_lt, q_bd, q_ix, q_dz, q_iflt, q_ifnlt, q_ifeq, q_ifne, q_ifM, q_ifMM, q_ifMlt, q_ifltM, nI_add, pk_mul, q_sub, q_div, q_cl, q_st_s, q_st_i, q_st_c, Nat.add_zero, Nat.zero_add]
  obtain ⟨e, h1, k1, s1, s2, s3, s4, s5, s6⟩ := srch
  obtain ⟨r, h', k', r1, r2, r3, r4, r5⟩ := fin e h1 k1 s1 s2 s3 s4
  exact ⟨r, h', k', by rw [s5]; exact r1, by unfold f_X11_lawTells; rw [s6]; exact r2, r3, r4, r5⟩
end Qask
