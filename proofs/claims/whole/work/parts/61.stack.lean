/-! STACK: letting out, tracks -/
section Qstack2
theorem qMs_31 {k k' : zHp} {i : Nat} {v : Int32} (h : qMs k k') : qMs k (zst k' 31 i v) := qMs_st h (by simp [qPers, qPos])
theorem qXs_163 {h h' : zHp} {i : Nat} {v : Int32} (e : qXs h h') : qXs h (zst h' 163 i v) := qXs_st e (by decide) (by decide)
/-- the same answer, nothing that lasts changed -/
def qSame (h k : zHp) (x y : Option (Int32 × zHp)) : Prop := ∃ v h' k', x = some (v, h') ∧ y = some (v, k') ∧ qXs h h' ∧ qMs k k'
/-- the same answer, 0 or 1 -/
def qSameB (h k : zHp) (x y : Option (Int32 × zHp)) : Prop := ∃ v h' k', (v = nI 0 ∨ v = nI 1) ∧ x = some (v, h') ∧ y = some (v, k') ∧ qXs h h' ∧ qMs k k'
/-- the two stacks after nx were laid and i taken -/
def qStk (h0 k0 : zHp) (n : Nat) (f : Nat → Nat) (i nx hi : Nat) (h k : zHp) : Prop :=
  qXs h0 h ∧ qMs k0 k ∧ (∀ m, m < n → h 162 m = nI (f m) ∧ k 30 m = nI (f m)) ∧ k 0 53 = nI n ∧ hi + i = nx ∧ nx ≤ n ∧
  ∃ la : Nat → Nat, (∀ m, m < hi → la m < n ∧ h 163 m = nI (la m) ∧ k 31 m = nI (la m)) ∧ ∀ v, v < nx → (∃ m, m < hi ∧ la m = v) ∨ ∃ m, m < i ∧ f m = v
theorem q_lets {h0 k0 h k : zHp} {n : Nat} {f : Nat → Nat} (hn : n ≤ 8) (hf : ∀ i, i < n → f i < n) (hj : ∀ i j, i < n → j < n → f i = f j → i = j) (S : qStk h0 k0 n f 0 0 0 h k) : qSameB h0 k0 (f_X5_letsOut (nI n) h) (f_X11_canComeOff k) := by
  unfold f_X5_letsOut f_X11_canComeOff f_X5_letsOut_7_lp f_X11_canComeOff_6_lp
  refine q_exit2 (b1 := fun k7 v => f_X5_letsOut_7 k7 v.1 v.2.1 v.2.2.1 v.2.2.2.1 v.2.2.2.2) (b2 := fun k6 v => f_X11_canComeOff_6 k6 v.1 v.2.1 v.2.2.1 v.2.2.2) (I := fun i v w => ∃ nx hi h k, v = (nI n, nI nx, nI hi, nI i, h) ∧ w = (nI hi, nI nx, nI i, k) ∧ qStk h0 k0 n f i nx hi h k) n (Q := qSameB h0 k0) (fun i v w hi hI => ?_) (fun v w hI => ?_) _ _ ⟨0, 0, h, k, rfl, rfl, S⟩ zN zN (by rw [q_zN]; omega) (by rw [q_zN]; omega)
  · obtain ⟨nx, hg, h, k, rfl, rfl, S⟩ := hI
    have hfi := hf i hi
    -- laying
    obtain ⟨v', w', ⟨nx', hg', h', k', rfl, rfl, S', hle⟩, e1, e2⟩ := q_inv2k (K1 := Int32 × Int32 × Int32 × Int32 × zHp → Option (Int32 × zHp)) (K2 := Int32 × Int32 × Int32 × zHp → Option (Int32 × zHp)) (b1 := fun k7 k20 v => f_X5_letsOut_20 k7 k20 v.1 v.2.1 v.2.2.1 v.2.2.2.1 v.2.2.2.2) (b2 := fun k6 k14 v => f_X11_canComeOff_14 k6 k14 v.1 v.2.1 v.2.2.1 v.2.2.2) (I := fun j v w => ∃ nx' hg' h k, v = (nI n, nI nx', nI hg', nI i, h) ∧ w = (nI hg', nI nx', nI i, k) ∧ qStk h0 k0 n f i nx' hg' h k ∧ nx' = nx + j) (f i + 1 - nx) (fun j v w hjj hI => by
      obtain ⟨nx', hg', h, k, rfl, rfl, ⟨a1, a2, a3, a4, a5, a6, la, a7, a8⟩, rfl⟩ := hI
      obtain ⟨f1, f2⟩ := a3 i hi
      refine ⟨(nI n, nI (nx + j + 1), nI (hg' + 1), nI i, zst h 163 hg' (nI (nx + j))), (nI (hg' + 1), nI (nx + j + 1), nI i, zst k 31 hg' (nI (nx + j))), fun κ rec => ?_, fun κ rec => ?_, nx + j + 1, hg' + 1, _, _, rfl, rfl, ⟨qXs_163 a1, qMs_31 a2, fun m hm => ?_, ?_, by omega, by omega, fun m => if m = hg' then nx + j else la m, fun m hm => ?_, fun v hv => ?_⟩, by omega⟩
      · simp only [f_X5_letsOut_20]
        simp (disch := omega) only [f_X5_letsOut_20, f1, ↓reduceIte, ↓qM_e, ↓q_rem, q_mod, q_modN, q_lit, q_nI, q_lt, q_bd, q_ix, q_dz, q_iflt, q_ifnlt, q_ifeq, q_ifne, q_ifM, q_ifMM, q_ifMlt, q_ifltM, nI_add, pk_mul, q_sub, q_div, q_cl, q_st_s, q_st_i, q_st_c, Nat.add_zero, Nat.zero_add]
      · simp only [f_X11_canComeOff_14]
        simp (disch := omega) only [f_X11_canComeOff_14, f2, ↓reduceIte, ↓qM_e, ↓q_rem, q_mod, q_modN, q_lit, q_nI, q_lt, q_bd, q_ix, q_dz, q_iflt, q_ifnlt, q_ifeq, q_ifne, q_ifM, q_ifMM, q_ifMlt, q_ifltM, nI_add, pk_mul, q_sub, q_div, q_cl, q_st_s, q_st_i, q_st_c, Nat.add_zero, Nat.zero_add]
      · rw [q_st_c (by omega), q_st_c (by omega)]; exact a3 m hm
      · rw [q_st_c (by omega)]; exact a4
      · by_cases z : m = hg'
        · subst z
          dsimp only
          rw [if_pos rfl, q_st_s, q_st_s]
          exact ⟨by omega, rfl, rfl⟩
        · dsimp only
          rw [if_neg z, q_st_i z, q_st_i z]
          exact a7 m (by omega)
      · by_cases z : v = nx + j
        · exact Or.inl ⟨hg', by omega, by dsimp only; rw [if_pos rfl, z]⟩
        · rcases a8 v (by omega) with ⟨m, m1, m2⟩ | q
          · exact Or.inl ⟨m, by omega, by dsimp only; rw [if_neg (by omega)]; exact m2⟩
          · exact Or.inr q) (nI n, nI nx, nI hg, nI i, h) (nI hg, nI nx, nI i, k) ⟨nx, hg, h, k, rfl, rfl, S, by omega⟩ zN zN (by rw [q_zN]; omega) (by rw [q_zN]; omega)
    obtain ⟨a1, a2, a3, a4, a5, a6, la, a7, a8⟩ := S'
    obtain ⟨f1, f2⟩ := a3 i hi
    have hnx : f i < nx' := by omega
    have hg0 : 0 < hg' := by
      rcases Nat.eq_zero_or_pos hg' with z | z
      · exfalso
        rcases a8 (f i) hnx with ⟨m, m1, m2⟩ | ⟨m, m1, m2⟩
        · omega
        · have := hj m i (by omega) hi m2; omega
      · exact z
    obtain ⟨l1, l2, l3⟩ := a7 (hg' - 1) (by omega)
    have lstep : ∀ rec : Int32 × Int32 × Int32 × Int32 × zHp → Option (Int32 × zHp), f_X5_letsOut_7 rec (nI n) (nI nx) (nI hg) (nI i) h = f_X5_letsOut_53 rec (nI n) (nI nx') (nI hg') (nI i) h' := by
      intro rec
      have := e1 rec
      rw [q_lpS (F := zN - (f i + 1 - nx)) (by rw [q_zN]; omega)] at this
      simp only [f_X5_letsOut_7]
      simp (disch := omega) only [f_X5_letsOut_7, ↓reduceIte, ↓qM_e, ↓q_rem, q_mod, q_modN, q_lit, q_nI, q_lt, q_bd, q_ix, q_dz, q_iflt, q_ifnlt, q_ifeq, q_ifne, q_ifM, q_ifMM, q_ifMlt, q_ifltM, nI_add, pk_mul, q_sub, q_div, q_cl, q_st_s, q_st_i, q_st_c, Nat.add_zero, Nat.zero_add]
      unfold f_X5_letsOut_20_lp
      rw [this]
      simp only [f_X5_letsOut_20]
      simp (disch := omega) only [f_X5_letsOut_20, f1, ↓reduceIte, ↓qM_e, ↓q_rem, q_mod, q_modN, q_lit, q_nI, q_lt, q_bd, q_ix, q_dz, q_iflt, q_ifnlt, q_ifeq, q_ifne, q_ifM, q_ifMM, q_ifMlt, q_ifltM, nI_add, pk_mul, q_sub, q_div, q_cl, q_st_s, q_st_i, q_st_c, Nat.add_zero, Nat.zero_add]
    have mstep : ∀ rec : Int32 × Int32 × Int32 × zHp → Option (Int32 × zHp), f_X11_canComeOff_6 rec (nI hg) (nI nx) (nI i) k = if la (hg' - 1) = f i then rec (nI (hg' - 1), nI nx', nI (i + 1), k') else some (nI 0, k') := by
      intro rec
      have := e2 rec
      rw [q_lpS (F := zN - (f i + 1 - nx)) (by rw [q_zN]; omega)] at this
      have hk := S.2.2.2.1
      simp only [f_X11_canComeOff_6]
      simp (disch := omega) only [f_X11_canComeOff_6, hk, ↓reduceIte, ↓qM_e, ↓q_rem, q_mod, q_modN, q_lit, q_nI, q_lt, q_bd, q_ix, q_dz, q_iflt, q_ifnlt, q_ifeq, q_ifne, q_ifM, q_ifMM, q_ifMlt, q_ifltM, nI_add, pk_mul, q_sub, q_div, q_cl, q_st_s, q_st_i, q_st_c, Nat.add_zero, Nat.zero_add]
      unfold f_X11_canComeOff_14_lp
      rw [this]
      by_cases z : la (hg' - 1) = f i
      · rw [if_pos z]
        simp only [f_X11_canComeOff_14]
        simp (disch := omega) only [f_X11_canComeOff_14, f2, l3, ↓reduceIte, ↓qM_e, ↓q_rem, q_mod, q_modN, q_lit, q_nI, q_lt, q_bd, q_ix, q_dz, q_iflt, q_ifnlt, q_ifeq, q_ifne, q_ifM, q_ifMM, q_ifMlt, q_ifltM, nI_add, pk_mul, q_sub, q_div, q_cl, q_st_s, q_st_i, q_st_c, Nat.add_zero, Nat.zero_add]
      · rw [if_neg z]
        simp only [f_X11_canComeOff_14]
        simp (disch := omega) only [f_X11_canComeOff_14, f2, l3, ↓reduceIte, ↓qM_e, ↓q_rem, q_mod, q_modN, q_lit, q_nI, q_lt, q_bd, q_ix, q_dz, q_iflt, q_ifnlt, q_ifeq, q_ifne, q_ifM, q_ifMM, q_ifMlt, q_ifltM, nI_add, pk_mul, q_sub, q_div, q_cl, q_st_s, q_st_i, q_st_c, Nat.add_zero, Nat.zero_add]
    have lstep2 : ∀ rec : Int32 × Int32 × Int32 × Int32 × zHp → Option (Int32 × zHp), f_X5_letsOut_53 rec (nI n) (nI nx') (nI hg') (nI i) h' = if la (hg' - 1) = f i then rec (nI n, nI nx', nI (hg' - 1), nI (i + 1), h') else some (nI 0, h') := by
      intro rec
      have e5 : qM + nI hg' = nI (hg' - 1) := by rw [show hg' = (hg' - 1) + 1 by omega, qM_add]; rfl
      by_cases z : la (hg' - 1) = f i
      · rw [if_pos z]
        simp only [f_X5_letsOut_53]
        simp (disch := omega) only [f_X5_letsOut_53, f1, l2, qM_c, e5, ↓reduceIte, ↓qM_e, ↓q_rem, q_mod, q_modN, q_lit, q_nI, q_lt, q_bd, q_ix, q_dz, q_iflt, q_ifnlt, q_ifeq, q_ifne, q_ifM, q_ifMM, q_ifMlt, q_ifltM, nI_add, pk_mul, q_sub, q_div, q_cl, q_st_s, q_st_i, q_st_c, Nat.add_zero, Nat.zero_add]
      · rw [if_neg z]
        simp only [f_X5_letsOut_53]
        simp (disch := omega) only [f_X5_letsOut_53, f1, l2, ↓reduceIte, ↓qM_e, ↓q_rem, q_mod, q_modN, q_lit, q_nI, q_lt, q_bd, q_ix, q_dz, q_iflt, q_ifnlt, q_ifeq, q_ifne, q_ifM, q_ifMM, q_ifMlt, q_ifltM, nI_add, pk_mul, q_sub, q_div, q_cl, q_st_s, q_st_i, q_st_c, Nat.add_zero, Nat.zero_add]
    by_cases z : la (hg' - 1) = f i
    · refine Or.inl ⟨(nI n, nI nx', nI (hg' - 1), nI (i + 1), h'), (nI (hg' - 1), nI nx', nI (i + 1), k'), fun rec => ?_, fun rec => ?_, nx', hg' - 1, h', k', rfl, rfl, a1, a2, a3, a4, by omega, a6, la, fun m hm => a7 m (by omega), fun v hv => ?_⟩
      · show f_X5_letsOut_7 rec (nI n) (nI nx) (nI hg) (nI i) h = _
        rw [lstep, lstep2, if_pos z]
      · show f_X11_canComeOff_6 rec (nI hg) (nI nx) (nI i) k = _
        rw [mstep, if_pos z]
      · rcases a8 v hv with ⟨m, m1, m2⟩ | ⟨m, m1, m2⟩
        · by_cases y : m = hg' - 1
          · exact Or.inr ⟨i, by omega, by rw [← z, ← y]; exact m2⟩
          · exact Or.inl ⟨m, by omega, m2⟩
        · exact Or.inr ⟨m, by omega, m2⟩
    · refine Or.inr ⟨some (nI 0, h'), some (nI 0, k'), fun rec => ?_, fun rec => ?_, nI 0, h', k', Or.inl rfl, rfl, rfl, a1, a2⟩
      · show f_X5_letsOut_7 rec (nI n) (nI nx) (nI hg) (nI i) h = _
        rw [lstep, lstep2, if_neg z]
      · show f_X11_canComeOff_6 rec (nI hg) (nI nx) (nI i) k = _
        rw [mstep, if_neg z]
  · obtain ⟨nx, hg, h, k, rfl, rfl, S⟩ := hI
    have hk := S.2.2.2.1
    refine ⟨some (nI 1, h), some (nI 1, k), fun rec => ?_, fun rec => ?_, nI 1, h, k, Or.inr rfl, rfl, rfl, S.1, S.2.1⟩
    · simp only [f_X5_letsOut_7]
      simp (disch := omega) only [f_X5_letsOut_7, ↓reduceIte, ↓qM_e, ↓q_rem, q_mod, q_modN, q_lit, q_nI, q_lt, q_bd, q_ix, q_dz, q_iflt, q_ifnlt, q_ifeq, q_ifne, q_ifM, q_ifMM, q_ifMlt, q_ifltM, nI_add, pk_mul, q_sub, q_div, q_cl, q_st_s, q_st_i, q_st_c, Nat.add_zero, Nat.zero_add]
    · simp only [f_X11_canComeOff_6]
      simp (disch := omega) only [f_X11_canComeOff_6, hk, ↓reduceIte, ↓qM_e, ↓q_rem, q_mod, q_modN, q_lit, q_nI, q_lt, q_bd, q_ix, q_dz, q_iflt, q_ifnlt, q_ifeq, q_ifne, q_ifM, q_ifMM, q_ifMlt, q_ifltM, nI_add, pk_mul, q_sub, q_div, q_cl, q_st_s, q_st_i, q_st_c, Nat.add_zero, Nat.zero_add]
theorem q_grM {a b : Nat} {k : zHp} (ha : a < 2147483648) (hb : b < 2147483648) : f_X11_greater (nI a) (nI b) k = some (nI (max a b), k) := by
  unfold f_X11_greater
  rcases Nat.lt_or_ge b a with z | z
  · rw [q_ifT (nI_lt z ha), Nat.max_eq_left (by omega)]
  · rw [q_ifF (nI_nlt z hb), Nat.max_eq_right z]
theorem q_lsM {a b : Nat} {k : zHp} (ha : a < 2147483648) (hb : b < 2147483648) : f_X11_lesser (nI a) (nI b) k = some (nI (min a b), k) := by
  unfold f_X11_lesser
  rcases Nat.lt_or_ge a b with z | z
  · rw [q_ifT (nI_lt z hb), Nat.min_eq_left (by omega)]
  · rw [q_ifF (nI_nlt z ha), Nat.min_eq_right z]
theorem q_maxX {a b : Nat} {i : Decidable (nI a < nI b)} (ha : a < 2147483648) (hb : b < 2147483648) : @ite Int32 (nI a < nI b) i (nI b) (nI a) = nI (max a b) := by
  rcases Nat.lt_or_ge a b with z | z
  · rw [q_ifT (nI_lt z hb), Nat.max_eq_right (by omega)]
  · rw [q_ifF (nI_nlt z ha), Nat.max_eq_left z]
theorem q_minX {a b : Nat} {i : Decidable (nI a < nI b)} (ha : a < 2147483648) (hb : b < 2147483648) : @ite Int32 (nI a < nI b) i (nI a) (nI b) = nI (min a b) := by
  rcases Nat.lt_or_ge a b with z | z
  · rw [q_ifT (nI_lt z hb), Nat.min_eq_left (by omega)]
  · rw [q_ifF (nI_nlt z ha), Nat.min_eq_right z]
/-- tracks: so far -/
def qTr (h0 k0 : zHp) (n : Nat) (f : Nat → Nat) (i : Nat) (h k : zHp) : Prop :=
  qXs h0 h ∧ qMs k0 k ∧ (∀ m, m < n → h 162 m = nI (f m) ∧ k 30 m = nI (f m)) ∧ k 0 53 = nI n ∧ ∃ t : Nat → Nat, ∀ m, m < i → t m ≤ m + 1 ∧ h 163 m = nI (t m) ∧ k 31 m = nI (t m)
theorem q_tracks {h0 k0 h k : zHp} {n : Nat} {f : Nat → Nat} (hn : n ≤ 8) (hf : ∀ i, i < n → f i < n) (S : qTr h0 k0 n f 0 h k) : qSame h0 k0 (f_X5_tracks (nI n) h) (f_X11_tracks k) := by
  unfold f_X5_tracks f_X11_tracks f_X5_tracks_4_lp f_X11_tracks_4_lp
  refine q_exit2 (b1 := fun k4 v => f_X5_tracks_4 k4 v.1 v.2.1 v.2.2.1 v.2.2.2) (b2 := fun k4 v => f_X11_tracks_4 k4 v.1 v.2.1 v.2.2) (I := fun i v w => ∃ mo h k, v = (nI n, nI mo, nI i, h) ∧ w = (nI mo, nI i, k) ∧ mo ≤ i ∧ qTr h0 k0 n f i h k) n (Q := qSame h0 k0) (fun i v w hi hI => ?_) (fun v w hI => ?_) _ _ ⟨0, h, k, rfl, rfl, Nat.le_refl 0, S⟩ zN zN (by rw [q_zN]; omega) (by rw [q_zN]; omega)
  · obtain ⟨mo, h, k, rfl, rfl, hmo, S⟩ := hI
    have hk := S.2.2.2.1
    obtain ⟨v', w', ⟨c, h', k', rfl, rfl, hc, c1, c2, S'⟩, e1, e2⟩ := q_inv2k (K1 := Int32 × Int32 × Int32 × zHp → Option (Int32 × zHp)) (K2 := Int32 × Int32 × zHp → Option (Int32 × zHp)) (b1 := fun k4 k25 v => f_X5_tracks_25 k4 k25 v.1 v.2.1 v.2.2.1 v.2.2.2.1 v.2.2.2.2) (b2 := fun k4 k21 v => f_X11_tracks_21 k4 k21 v.1 v.2.1 v.2.2.1 v.2.2.2) (I := fun j v w => ∃ c h k, v = (nI n, nI mo, nI i, nI j, h) ∧ w = (nI mo, nI i, nI j, k) ∧ c ≤ j + 1 ∧ h 163 i = nI c ∧ k 31 i = nI c ∧ qTr h0 k0 n f i h k) i (fun j v w hj hI => by
      obtain ⟨c, h, k, rfl, rfl, hc, c1, c2, ⟨a1, a2, a3, a4, t, a5⟩⟩ := hI
      obtain ⟨f1, f2⟩ := a3 i hi
      obtain ⟨g1, g2⟩ := a3 j (by omega)
      obtain ⟨t1, t2, t3⟩ := a5 j hj
      have hfi := hf i hi
      have hfj := hf j (by omega)
      have hgr := q_grM (a := c) (b := t j + 1) (k := k) (by omega) (by omega)
      rcases Nat.lt_or_ge (f i) (f j) with z | z
      · refine ⟨(nI n, nI mo, nI i, nI (j + 1), zst h 163 i (nI (max c (t j + 1)))), (nI mo, nI i, nI (j + 1), zst k 31 i (nI (max c (t j + 1)))), fun κ rec => ?_, fun κ rec => ?_, max c (t j + 1), _, _, rfl, rfl, by omega, q_st_s, q_st_s, ⟨qXs_163 a1, qMs_31 a2, fun m hm => ?_, ?_, t, fun m hm => ?_⟩⟩
        · simp only [f_X5_tracks_25]
          simp (disch := omega) only [f_X5_tracks_25, f1, g1, c1, t2, q_maxX, ↓reduceIte, ↓qM_e, ↓q_rem, q_mod, q_modN, q_lit, q_nI, q_lt, q_bd, q_ix, q_dz, q_iflt, q_ifnlt, q_ifeq, q_ifne, q_ifM, q_ifMM, q_ifMlt, q_ifltM, nI_add, pk_mul, q_sub, q_div, q_cl, q_st_s, q_st_i, q_st_c, Nat.add_zero, Nat.zero_add]
        · simp only [f_X11_tracks_21]
          simp (disch := omega) only [f_X11_tracks_21, f2, g2, c2, t3, hgr, ↓reduceIte, ↓qM_e, ↓q_rem, q_mod, q_modN, q_lit, q_nI, q_lt, q_bd, q_ix, q_dz, q_iflt, q_ifnlt, q_ifeq, q_ifne, q_ifM, q_ifMM, q_ifMlt, q_ifltM, nI_add, pk_mul, q_sub, q_div, q_cl, q_st_s, q_st_i, q_st_c, Nat.add_zero, Nat.zero_add]
        · rw [q_st_c (by omega), q_st_c (by omega)]; exact a3 m hm
        · rw [q_st_c (by omega)]; exact a4
        · rw [q_st_i (by omega), q_st_i (by omega)]; exact a5 m hm
      · refine ⟨(nI n, nI mo, nI i, nI (j + 1), h), (nI mo, nI i, nI (j + 1), k), fun κ rec => ?_, fun κ rec => ?_, c, _, _, rfl, rfl, by omega, c1, c2, ⟨a1, a2, a3, a4, t, a5⟩⟩
        · simp only [f_X5_tracks_25]
          simp (disch := omega) only [f_X5_tracks_25, f1, g1, ↓reduceIte, ↓qM_e, ↓q_rem, q_mod, q_modN, q_lit, q_nI, q_lt, q_bd, q_ix, q_dz, q_iflt, q_ifnlt, q_ifeq, q_ifne, q_ifM, q_ifMM, q_ifMlt, q_ifltM, nI_add, pk_mul, q_sub, q_div, q_cl, q_st_s, q_st_i, q_st_c, Nat.add_zero, Nat.zero_add]
        · simp (disch := omega) only [f_X11_tracks_21, f2, g2, ↓reduceIte, ↓qM_e, ↓q_rem, q_mod, q_modN, q_lit, q_nI, q_lt, q_bd, q_ix, q_dz, q_iflt, q_ifnlt, q_ifeq, q_ifne, q_ifM, q_ifMM, q_ifMlt, q_ifltM, nI_add, pk_mul, q_sub, q_div, q_cl, q_st_s, q_st_i, q_st_c, Nat.add_zero, Nat.zero_add]) (nI n, nI mo, nI i, nI 0, zst h 163 i (nI 1)) (nI mo, nI i, nI 0, zst k 31 i (nI 1)) ⟨1, _, _, rfl, rfl, by omega, q_st_s, q_st_s, by
        obtain ⟨a1, a2, a3, a4, t, a5⟩ := S
        refine ⟨qXs_163 a1, qMs_31 a2, fun m hm => ?_, ?_, t, fun m hm => ?_⟩
        · rw [q_st_c (by omega), q_st_c (by omega)]; exact a3 m hm
        · rw [q_st_c (by omega)]; exact a4
        · rw [q_st_i (by omega), q_st_i (by omega)]; exact a5 m hm⟩ zN zN (by rw [q_zN]; omega) (by rw [q_zN]; omega)
    obtain ⟨a1, a2, a3, a4, t, a5⟩ := S'
    have hgr := q_grM (a := mo) (b := c) (k := k') (by omega) (by omega)
    refine Or.inl ⟨(nI n, nI (max mo c), nI (i + 1), h'), (nI (max mo c), nI (i + 1), k'), fun rec => ?_, fun rec => ?_, max mo c, h', k', rfl, rfl, by omega, a1, a2, a3, a4, fun m => if m = i then c else t m, fun m hm => ?_⟩
    · have := e1 rec
      rw [q_lpS (F := zN - i) (by rw [q_zN]; omega)] at this
      simp only [f_X5_tracks_4]
      simp (disch := omega) only [f_X5_tracks_4, ↓reduceIte, ↓qM_e, ↓q_rem, q_mod, q_modN, q_lit, q_nI, q_lt, q_bd, q_ix, q_dz, q_iflt, q_ifnlt, q_ifeq, q_ifne, q_ifM, q_ifMM, q_ifMlt, q_ifltM, nI_add, pk_mul, q_sub, q_div, q_cl, q_st_s, q_st_i, q_st_c, Nat.add_zero, Nat.zero_add]
      unfold f_X5_tracks_25_lp
      rw [this]
      simp only [f_X5_tracks_25]
      simp (disch := omega) only [f_X5_tracks_25, c1, q_maxX, ↓reduceIte, ↓qM_e, ↓q_rem, q_mod, q_modN, q_lit, q_nI, q_lt, q_bd, q_ix, q_dz, q_iflt, q_ifnlt, q_ifeq, q_ifne, q_ifM, q_ifMM, q_ifMlt, q_ifltM, nI_add, pk_mul, q_sub, q_div, q_cl, q_st_s, q_st_i, q_st_c, Nat.add_zero, Nat.zero_add]
    · have := e2 rec
      rw [q_lpS (F := zN - i) (by rw [q_zN]; omega)] at this
      simp only [f_X11_tracks_4]
      simp (disch := omega) only [f_X11_tracks_4, hk, ↓reduceIte, ↓qM_e, ↓q_rem, q_mod, q_modN, q_lit, q_nI, q_lt, q_bd, q_ix, q_dz, q_iflt, q_ifnlt, q_ifeq, q_ifne, q_ifM, q_ifMM, q_ifMlt, q_ifltM, nI_add, pk_mul, q_sub, q_div, q_cl, q_st_s, q_st_i, q_st_c, Nat.add_zero, Nat.zero_add]
      unfold f_X11_tracks_21_lp
      rw [this]
      simp only [f_X11_tracks_21]
      simp (disch := omega) only [f_X11_tracks_21, c2, hgr, ↓reduceIte, ↓qM_e, ↓q_rem, q_mod, q_modN, q_lit, q_nI, q_lt, q_bd, q_ix, q_dz, q_iflt, q_ifnlt, q_ifeq, q_ifne, q_ifM, q_ifMM, q_ifMlt, q_ifltM, nI_add, pk_mul, q_sub, q_div, q_cl, q_st_s, q_st_i, q_st_c, Nat.add_zero, Nat.zero_add]
    · by_cases z : m = i
      · subst z; dsimp only; rw [if_pos rfl]; exact ⟨by omega, c1, c2⟩
      · dsimp only; rw [if_neg z]; exact a5 m (by omega)
  · obtain ⟨mo, h, k, rfl, rfl, hmo, S⟩ := hI
    have hk := S.2.2.2.1
    refine ⟨some (nI mo, h), some (nI mo, k), fun rec => ?_, fun rec => ?_, nI mo, h, k, rfl, rfl, S.1, S.2.1⟩
    · simp only [f_X5_tracks_4]
      simp (disch := omega) only [f_X5_tracks_4, ↓reduceIte, ↓qM_e, ↓q_rem, q_mod, q_modN, q_lit, q_nI, q_lt, q_bd, q_ix, q_dz, q_iflt, q_ifnlt, q_ifeq, q_ifne, q_ifM, q_ifMM, q_ifMlt, q_ifltM, nI_add, pk_mul, q_sub, q_div, q_cl, q_st_s, q_st_i, q_st_c, Nat.add_zero, Nat.zero_add]
    · simp only [f_X11_tracks_4]
      simp (disch := omega) only [f_X11_tracks_4, hk, ↓reduceIte, ↓qM_e, ↓q_rem, q_mod, q_modN, q_lit, q_nI, q_lt, q_bd, q_ix, q_dz, q_iflt, q_ifnlt, q_ifeq, q_ifne, q_ifM, q_ifMM, q_ifMlt, q_ifltM, nI_add, pk_mul, q_sub, q_div, q_cl, q_st_s, q_st_i, q_st_c, Nat.add_zero, Nat.zero_add]
theorem q_ask_stack {h k : zHp} (a w : Int32) : qAsk h k (f_X10_stack a w h) (f_X11_stack a w k) := by
  obtain ⟨n, b, h', k', e1, e2, o1, o2, o3⟩ := q_orders a h (zst k 0 0 (nI 0))
  have o2' : qMs k k' := qMs_tr (qMs_s0 k) o2
  have e0 : f_X10_stack a w h = (if nI n = nI 0 then some (-1, h') else (f_X10_within w (nI 1) h').bind fun x2 => (if x2.1 = 0 then some ((-1 : Int32), x2.2) else (if w = 0 then (f_X5_letsOut (nI n) x2.2).bind fun x3 => some (x3.1, x3.2) else (f_X5_tracks (nI n) x2.2).bind fun x4 => some (x4.1, x4.2)))) := by
    unfold f_X10_stack
    rw [e1, q_bd]; rfl
  rw [e0]
  unfold f_X11_stack
  rcases q_rng 0 1 w (by omega) with o | ⟨v, -, hv, rfl⟩
  · refine ⟨-1, h', zst k 0 0 0, ?_, by simp (disch := omega) only [q_inO o, ↓reduceIte, ↓qM_e, ↓q_rem, q_mod, q_modN, q_lit, q_nI, q_lt, q_bd, q_ix, q_dz, q_iflt, q_ifnlt, q_ifeq, q_ifne, q_ifM, q_ifMM, q_ifMlt, q_ifltM, nI_add, pk_mul, q_sub, q_div, q_cl, q_st_s, q_st_i, q_st_c, Nat.add_zero, Nat.zero_add], o1, qMs_s0 k⟩
    by_cases z : nI n = nI 0
    · rw [if_pos z]
    · rw [if_neg z, q_wiO o]
      simp (disch := omega) only [↓reduceIte, ↓qM_e, ↓q_rem, q_mod, q_modN, q_lit, q_nI, q_lt, q_bd, q_ix, q_dz, q_iflt, q_ifnlt, q_ifeq, q_ifne, q_ifM, q_ifMM, q_ifMlt, q_ifltM, nI_add, pk_mul, q_sub, q_div, q_cl, q_st_s, q_st_i, q_st_c, Nat.add_zero, Nat.zero_add]
  have i1 := q_inI (h := zst k 0 0 (nI 0)) (lo := 0) (by omega) hv (by omega)
  have i2 := q_wiI (h := h') hv (by omega)
  rcases o3 with ⟨rfl, rfl⟩ | ⟨n1, n2, rfl, n3, f, n4, n5⟩
  · exact ⟨-1, h', k', by simp (disch := omega) only [↓reduceIte, ↓qM_e, ↓q_rem, q_mod, q_modN, q_lit, q_nI, q_lt, q_bd, q_ix, q_dz, q_iflt, q_ifnlt, q_ifeq, q_ifne, q_ifM, q_ifMM, q_ifMlt, q_ifltM, nI_add, pk_mul, q_sub, q_div, q_cl, q_st_s, q_st_i, q_st_c, Nat.add_zero, Nat.zero_add], by simp (disch := omega) only [i1, e2, ↓reduceIte, ↓qM_e, ↓q_rem, q_mod, q_modN, q_lit, q_nI, q_lt, q_bd, q_ix, q_dz, q_iflt, q_ifnlt, q_ifeq, q_ifne, q_ifM, q_ifMM, q_ifMlt, q_ifltM, nI_add, pk_mul, q_sub, q_div, q_cl, q_st_s, q_st_i, q_st_c, Nat.add_zero, Nat.zero_add], o1, o2'⟩
  · have S1 : qStk h k n f 0 0 0 h' k' := ⟨o1, o2', fun m hm => ⟨(n4 m hm).2.1, (n4 m hm).2.2⟩, n3, rfl, Nat.zero_le n, fun _ => 0, fun m hm => absurd hm (Nat.not_lt_zero m), fun v hv => absurd hv (Nat.not_lt_zero v)⟩
    have S2 : qTr h k n f 0 h' k' := ⟨o1, o2', fun m hm => ⟨(n4 m hm).2.1, (n4 m hm).2.2⟩, n3, fun _ => 0, fun m hm => absurd hm (Nat.not_lt_zero m)⟩
    rcases (show v = 0 ∨ v = 1 by omega) with rfl | rfl
    · obtain ⟨r, h2, k2, hr, r1, r2, r3, r4⟩ := q_lets n2 (fun i hi => (n4 i hi).1) n5 S1
      refine ⟨r, h2, k2, ?_, ?_, r3, r4⟩
      · simp (disch := omega) only [i2, r1, ↓reduceIte, ↓qM_e, ↓q_rem, q_mod, q_modN, q_lit, q_nI, q_lt, q_bd, q_ix, q_dz, q_iflt, q_ifnlt, q_ifeq, q_ifne, q_ifM, q_ifMM, q_ifMlt, q_ifltM, nI_add, pk_mul, q_sub, q_div, q_cl, q_st_s, q_st_i, q_st_c, Nat.add_zero, Nat.zero_add]
      · rcases hr with rfl | rfl
        · simp (disch := omega) only [i1, e2, r2, ↓reduceIte, ↓qM_e, ↓q_rem, q_mod, q_modN, q_lit, q_nI, q_lt, q_bd, q_ix, q_dz, q_iflt, q_ifnlt, q_ifeq, q_ifne, q_ifM, q_ifMM, q_ifMlt, q_ifltM, nI_add, pk_mul, q_sub, q_div, q_cl, q_st_s, q_st_i, q_st_c, Nat.add_zero, Nat.zero_add]
        · simp (disch := omega) only [i1, e2, r2, ↓reduceIte, ↓qM_e, ↓q_rem, q_mod, q_modN, q_lit, q_nI, q_lt, q_bd, q_ix, q_dz, q_iflt, q_ifnlt, q_ifeq, q_ifne, q_ifM, q_ifMM, q_ifMlt, q_ifltM, nI_add, pk_mul, q_sub, q_div, q_cl, q_st_s, q_st_i, q_st_c, Nat.add_zero, Nat.zero_add]
    · obtain ⟨r, h2, k2, r1, r2, r3, r4⟩ := q_tracks n2 (fun i hi => (n4 i hi).1) S2
      refine ⟨r, h2, k2, ?_, ?_, r3, r4⟩
      · simp (disch := omega) only [i2, r1, ↓reduceIte, ↓qM_e, ↓q_rem, q_mod, q_modN, q_lit, q_nI, q_lt, q_bd, q_ix, q_dz, q_iflt, q_ifnlt, q_ifeq, q_ifne, q_ifM, q_ifMM, q_ifMlt, q_ifltM, nI_add, pk_mul, q_sub, q_div, q_cl, q_st_s, q_st_i, q_st_c, Nat.add_zero, Nat.zero_add]
      · simp (disch := omega) only [i1, e2, r2, ↓reduceIte, ↓qM_e, ↓q_rem, q_mod, q_modN, q_lit, q_nI, q_lt, q_bd, q_ix, q_dz, q_iflt, q_ifnlt, q_ifeq, q_ifne, q_ifM, q_ifMM, q_ifMlt, q_ifltM, nI_add, pk_mul, q_sub, q_div, q_cl, q_st_s, q_st_i, q_st_c, Nat.add_zero, Nat.zero_add]
end Qstack2
