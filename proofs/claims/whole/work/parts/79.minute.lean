/-! A MINUTE GOES BY -/
section Qminute
variable {β : zHp × zHp}
theorem qDo_rf {o C P : Nat} {h k : zHp} (M : qMn β o C P h k) : qDo β o C P h k (some h) (some k) := ⟨h, k, rfl, rfl, M, fun _ _ _ _ _ _ => rfl, fun _ _ _ _ _ => rfl, rfl⟩
theorem q_zzb {R : Type} {b : Nat} {t : Option R} (hb : b ≤ 1) : zzb (nI b) t = t := by
  unfold zzb
  rcases (show b = 0 ∨ b = 1 by omega) with rfl | rfl
  · exact if_pos (Or.inl rfl)
  · exact if_pos (Or.inr rfl)
/-- hush -/
theorem q_hush {o C P : Nat} {h k : zHp} (M : qMn β o C P h k) : qDo β o C P h k (f_X0_hush o h) (f_X11_houseDoes_50_lp zN (nI 2, nI 0, k)) := by
  have ho := qMn_o M
  have hC := M.1.2.2.1.1
  unfold f_X0_hush f_X0_hush_2_lp f_X11_houseDoes_50_lp
  refine q_exit2 (b1 := fun k2 v => f_X0_hush_2 o k2 v.1 v.2) (b2 := fun k50 v => f_X11_houseDoes_50 k50 v.1 v.2.1 v.2.2) (I := fun i v u => ∃ h1 k1, v = (nI i, h1) ∧ u = (nI 2, nI i, k1) ∧ qMn β o C P h1 k1 ∧ qXm o h h1 ∧ qMm k k1 ∧ k1 1 0 = k 1 0) C (Q := fun x y => qDo β o C P h k x y) (fun i v u hi hI => Or.inl ?_) (fun v u hI => ?_) _ _ ⟨h, k, rfl, rfl, M, fun _ _ _ _ _ _ => rfl, fun _ _ _ _ _ => rfl, rfl⟩ zN zN (by rw [q_zN]; omega) (by rw [q_zN]; omega)
  · obtain ⟨h1, k1, rfl, rfl, M1, e1, e2, e3⟩ := hI
    obtain ⟨s, f, t, a1, a2, a3, a4, a5, a6, a7, a8, a9, a10, a11, a12⟩ := q_chair M1.1 hi
    have c6 : k1 0 6 = nI C := M1.1.1.1
    have c9 : h1 o 9 = nI C := M1.1.2.1.1
    have rX := q_rocksX hC c9 hi a7 (by omega)
    have sM := q_swM (k := k1) (c := i) (v := s / 2) (by omega) (by omega)
    obtain ⟨k4, hk4⟩ : ∃ k4, k4 = (if s / 2 = 0 then zst (zst k1 1 (5 + i) (nI (s / 2))) 1 (15 + i) (nI 0) else zst k1 1 (5 + i) (nI (s / 2))) := ⟨_, rfl⟩
    have sM' : f_X11_swings (nI i) (nI (s / 2)) k1 = some k4 := by rw [sM, hk4]; rfl
    have k4x : ∀ a, a ≠ 1 → k4 a = k1 a := by
      intro a ha
      rw [hk4]
      split <;> simp (disch := omega) only [q_st_c]
    have k4i : ∀ j, j ≠ 5 + i → j ≠ 15 + i → k4 1 j = k1 1 j := by
      intro j i1 i2
      rw [hk4]
      split <;> simp (disch := omega) only [q_st_i]
    have k4a : k4 1 (5 + i) = nI (s / 2) := by
      rw [hk4]
      split <;> simp (disch := omega) only [q_st_s, q_st_i]
    have k4b : k4 1 (15 + i) = if s / 2 = 0 then nI 0 else nI f := by
      rw [hk4]
      split
      · rw [q_st_s]
      · rw [q_st_i (by omega)]; exact a5
    have stM : ∀ rec : Int32 × Int32 × zHp → Option zHp, f_X11_houseDoes_50 rec (nI 2) (nI i) k1 = rec (nI 2, nI (i + 1), k4) := by
      intro rec
      simp only [f_X11_houseDoes_50]
      simp (disch := omega) only [c6, a4, sM', ↓reduceIte, ↓qM_e, ↓q_rem, q_mod, q_modN, q_lit, q_nI, q_lt, q_bd, q_ix, q_dz, q_iflt, q_ifnlt, q_ifeq, q_ifne, q_ifM, q_ifMM, q_ifMlt, q_ifltM, nI_add, pk_mul, q_sub, q_div, q_cl, q_st_s, q_st_i, q_st_c, Nat.add_zero, Nat.zero_add]
    rcases Nat.eq_zero_or_pos s with z | z
    · rw [if_neg (by omega)] at rX
      have k41 : k4 1 = k1 1 := by
        funext j
        by_cases j1 : j = 5 + i
        · rw [j1, k4a, a4, z]
        · by_cases j2 : j = 15 + i
          · rw [j2, k4b, if_pos (by omega), a5, a10.mpr z]
          · exact k4i j j1 j2
      have k4e : k4 = k1 := by
        funext a
        by_cases y : a = 1
        · rw [y]; exact k41
        · exact k4x a y
      refine ⟨(nI (i + 1), h1), (nI 2, nI (i + 1), k4), fun rec => ?_, stM, h1, k4, rfl, rfl, by rw [k4e]; exact M1, e1, by rw [k4e]; exact e2, by rw [k4e]; exact e3⟩
      simp only [f_X0_hush_2]
      simp (disch := omega) only [c9, rX, ↓reduceIte, ↓qM_e, ↓q_rem, q_mod, q_modN, q_lit, q_nI, q_lt, q_bd, q_ix, q_dz, q_iflt, q_ifnlt, q_ifeq, q_ifne, q_ifM, q_ifMM, q_ifMlt, q_ifltM, nI_add, pk_mul, q_sub, q_div, q_cl, q_st_s, q_st_i, q_st_c, Nat.add_zero, Nat.zero_add]
    · rw [if_pos z] at rX
      have M4 := qMn_rock (v := s / 2) (f := f) (k' := k4) M1 hi (by omega) a2 (by omega) (by rw [a6, show t = 0 by omega]) rfl k4x k4i k4a k4b
      have sX := q_rockX (h := h1) (o := o) (c := i) (v := s / 2) (a := h1 (o + 3) i) (by omega) (by omega)
      have sX' : f_X4_rock o (nI i) (nI (s / 2)) (h1 (o + 3) i) h1 = some (zst (zst h1 (o + 2) i (nI (s / 2))) (o + 3) i (if 0 < s / 2 then nI f - 1 else -1)) := by rw [sX, a8]
      refine ⟨(nI (i + 1), _), (nI 2, nI (i + 1), k4), fun rec => ?_, stM, _, k4, rfl, rfl, M4, fun a b1 b2 b3 b4 b5 => by rw [q_st_c (by omega), q_st_c (by omega)]; exact e1 a b1 b2 b3 b4 b5, fun a b1 b2 b3 b4 => by rw [k4x a b1]; exact e2 a b1 b2 b3 b4, by rw [k4i 0 (by omega) (by omega)]; exact e3⟩
      simp only [f_X0_hush_2]
      rw [show h1 o 9 = nI C from c9, q_ifT (nI_lt hi (by omega)), rX, q_bd]
      dsimp only
      rw [if_neg (show ¬ nI 1 = 0 by decide), q_ix (by omega) (by omega), q_ix (by omega) (by omega), q_cl (by omega), a7, show (2 : Int32) = nI 2 from rfl, q_div (by omega) (by omega) (by omega), sX', q_bd, nI_1]
  · obtain ⟨h1, k1, rfl, rfl, M1, e1, e2, e3⟩ := hI
    have c6 : k1 0 6 = nI C := M1.1.1.1
    have c9 : h1 o 9 = nI C := M1.1.2.1.1
    refine ⟨some h1, some k1, fun rec => ?_, fun rec => ?_, h1, k1, rfl, rfl, M1, e1, e2, e3⟩
    · simp only [f_X0_hush_2]
      rw [show h1 o 9 = nI C from c9, q_ifF (nI_nlt (Nat.le_refl C) (by omega))]
    · simp only [f_X11_houseDoes_50]
      rw [show k1 0 6 = nI C from c6, q_ifF (nI_nlt (Nat.le_refl C) (by omega))]
theorem q_hd50 {v : Nat} (hv : v < 1000) (hv2 : v ≠ 2) (k : zHp) : f_X11_houseDoes_50_lp zN (nI v, nI 0, k) = some k := by
  unfold f_X11_houseDoes_50_lp
  rw [q_lpS (by rw [q_zN]; omega)]
  simp only [f_X11_houseDoes_50]
  rw [q_ifF (show ¬ nI v = (2 : Int32) from fun q => hv2 ((nI_eq (a := v) (b := 2) (by omega) (by omega)).mp q)), ite_self]
/-- the house keeps one line -/
theorem q_keep {o C P n i : Nat} {h k : zHp} (M : qMn β o C P h k) (H : qHouse h 22 n (k 18) C) (hi : i < n) : qDo β o C P h k (f_X0_keepHouse o (nI i) h) (f_X11_houseDoes (nI (3 * i)) k) := by
  have ho := qMn_o M
  have hC := M.1.2.2.1.1
  obtain ⟨g0, g2, g3, g4⟩ := H
  obtain ⟨m, m1, m2, m3, m4⟩ := g4 i hi
  have hz : zln wX 23 = 64 := by decide +kernel
  have cl : ∀ j, j < 4 → f_X2_cell 22 (nI i) (nI j) h = some (h 23 (4 * i + j), h) := fun j hj => q_cell (M := 16) g0 g2 hz (by omega) g3 (by omega) hi hj
  have cl1 := cl 1 (by omega)
  have cl2 := cl 2 (by omega)
  have cl3 := cl 3 (by omega)
  rcases m4 with ⟨c, hc, x1, x2, x3, x4⟩ | ⟨d, hd, x1, x2, x3, x4⟩ | ⟨x1, x2⟩
  · have x1' : h 23 (4 * i + 1) = nI 22 := x1
    have x2' : k 18 (3 * i + 1) = nI 0 := x2
    have x3' : h 23 (4 * i + 2) = nI c := x3
    obtain ⟨s, f, t, a1, a2, a3, a4, a5, a6, a7, a8, a9, a10, a11, a12⟩ := q_chair M.1 hc
    have rM := q_rocksM (k := k) (c := c) (by omega) a4 (by omega)
    rcases Nat.eq_zero_or_pos s with z | z
    · rw [if_neg (by omega)] at rM
      have lX := q_letN M hc (by rw [a4, z])
      refine ⟨h, k, ?_, ?_, M, fun _ _ _ _ _ _ => rfl, fun _ _ _ _ _ => rfl, rfl⟩
      · unfold f_X0_keepHouse
        simp (disch := omega) only [cl1, cl2, x1', x3', lX, ↓reduceIte, ↓qM_e, ↓q_rem, q_mod, q_modN, q_lit, q_nI, q_lt, q_bd, q_ix, q_dz, q_iflt, q_ifnlt, q_ifeq, q_ifne, q_ifM, q_ifMM, q_ifMlt, q_ifltM, nI_add, pk_mul, q_sub, q_div, q_cl, q_st_s, q_st_i, q_st_c, Nat.add_zero, Nat.zero_add]
      · have e50 := q_hd50 (v := 0) (by omega) (by omega) k
        simp only [f_X11_houseDoes, f_X11_houseDoes_35]
        simp (disch := omega) only [x2', x4, rM, e50, ↓reduceIte, ↓qM_e, ↓q_rem, q_mod, q_modN, q_lit, q_nI, q_lt, q_bd, q_ix, q_dz, q_iflt, q_ifnlt, q_ifeq, q_ifne, q_ifM, q_ifMM, q_ifMlt, q_ifltM, nI_add, pk_mul, q_sub, q_div, q_cl, q_st_s, q_st_i, q_st_c, Nat.add_zero, Nat.zero_add]
    · rw [if_pos z] at rM
      obtain ⟨h', k', n1, n2, n3⟩ := q_let M hc z (by omega) a4
      refine ⟨h', k', ?_, ?_, n3⟩
      · unfold f_X0_keepHouse
        simp (disch := omega) only [cl1, cl2, x1', x3', n1, ↓reduceIte, ↓qM_e, ↓q_rem, q_mod, q_modN, q_lit, q_nI, q_lt, q_bd, q_ix, q_dz, q_iflt, q_ifnlt, q_ifeq, q_ifne, q_ifM, q_ifMM, q_ifMlt, q_ifltM, nI_add, pk_mul, q_sub, q_div, q_cl, q_st_s, q_st_i, q_st_c, Nat.add_zero, Nat.zero_add]
      · have e50 := q_hd50 (v := 0) (by omega) (by omega) k'
        simp only [f_X11_houseDoes, f_X11_houseDoes_35]
        simp (disch := omega) only [x2', x4, rM, n2, e50, ↓reduceIte, ↓qM_e, ↓q_rem, q_mod, q_modN, q_lit, q_nI, q_lt, q_bd, q_ix, q_dz, q_iflt, q_ifnlt, q_ifeq, q_ifne, q_ifM, q_ifMM, q_ifMlt, q_ifltM, nI_add, pk_mul, q_sub, q_div, q_cl, q_st_s, q_st_i, q_st_c, Nat.add_zero, Nat.zero_add]
  · have x1' : h 23 (4 * i + 1) = nI 9 := x1
    have x2' : k 18 (3 * i + 1) = nI 1 := x2
    have x3' : h 23 (4 * i + 3) = nI d := x3
    obtain ⟨q1, q2, q3, q4, q5, q6, -, -⟩ := M.1.2.1
    have M1 : qMn β o C P (zst h o 11 (nI d)) (zst k 1 3 (nI d)) := qMn_lo M (fun a q1 _ _ => q_st_c q1) (fun a q1 _ _ => q_st_c q1) (fun i hi => q_st_i (by omega)) (q_st_i (by omega)) (q_st_i (by omega)) (q_st_i (by omega)) (q_st_i (by omega)) (by rw [q_st_s, q_st_s]) (by rw [q_st_i (by omega), q_st_i (by omega)]; exact q4) (by rw [q_st_i (by omega), q_st_i (by omega)]; exact q5) (by rw [q_st_i (by omega), q_st_i (by omega)]; exact q6)
    refine ⟨_, _, ?_, ?_, M1, fun a a1 _ _ _ _ => q_st_c (by omega), fun a a1 _ _ _ => q_st_c a1, q_st_i (by omega)⟩
    · unfold f_X0_keepHouse
      simp (disch := omega) only [cl1, cl3, x1', x3', ↓reduceIte, ↓qM_e, ↓q_rem, q_mod, q_modN, q_lit, q_nI, q_lt, q_bd, q_ix, q_dz, q_iflt, q_ifnlt, q_ifeq, q_ifne, q_ifM, q_ifMM, q_ifMlt, q_ifltM, nI_add, pk_mul, q_sub, q_div, q_cl, q_st_s, q_st_i, q_st_c, Nat.add_zero, Nat.zero_add]
    · have e50 := q_hd50 (v := 1) (by omega) (by omega) (zst k 1 3 (nI d))
      simp only [f_X11_houseDoes, f_X11_houseDoes_35]
      simp (disch := omega) only [x2', x4, e50, ↓reduceIte, ↓qM_e, ↓q_rem, q_mod, q_modN, q_lit, q_nI, q_lt, q_bd, q_ix, q_dz, q_iflt, q_ifnlt, q_ifeq, q_ifne, q_ifM, q_ifMM, q_ifMlt, q_ifltM, nI_add, pk_mul, q_sub, q_div, q_cl, q_st_s, q_st_i, q_st_c, Nat.add_zero, Nat.zero_add]
  · have x1' : h 23 (4 * i + 1) = nI 23 := x1
    have x2' : k 18 (3 * i + 1) = nI 2 := x2
    obtain ⟨h', k', n1, n2, n3⟩ := q_hush M
    refine ⟨h', k', ?_, ?_, n3⟩
    · unfold f_X0_keepHouse
      simp (disch := omega) only [cl1, x1', n1, ↓reduceIte, ↓qM_e, ↓q_rem, q_mod, q_modN, q_lit, q_nI, q_lt, q_bd, q_ix, q_dz, q_iflt, q_ifnlt, q_ifeq, q_ifne, q_ifM, q_ifMM, q_ifMlt, q_ifltM, nI_add, pk_mul, q_sub, q_div, q_cl, q_st_s, q_st_i, q_st_c, Nat.add_zero, Nat.zero_add]
    · simp only [f_X11_houseDoes, f_X11_houseDoes_35]
      simp (disch := omega) only [x2', n2, ↓reduceIte, ↓qM_e, ↓q_rem, q_mod, q_modN, q_lit, q_nI, q_lt, q_bd, q_ix, q_dz, q_iflt, q_ifnlt, q_ifeq, q_ifne, q_ifM, q_ifMM, q_ifMlt, q_ifltM, nI_add, pk_mul, q_sub, q_div, q_cl, q_st_s, q_st_i, q_st_c, Nat.add_zero, Nat.zero_add]
theorem q_c92n {v w : Nat} (p : Int32) (k : zHp) (hv : v < 1000) (hw : w < 1000) (n : ¬ (v = 3 ∧ w = 0)) : f_X11_callsOne_92 p (nI v) (nI w) k = some (nI 0, k) := by
  unfold f_X11_callsOne_92
  by_cases z : v = 3
  · simp (disch := omega) only [↓reduceIte, ↓qM_e, ↓q_rem, q_mod, q_modN, q_lit, q_nI, q_lt, q_bd, q_ix, q_dz, q_iflt, q_ifnlt, q_ifeq, q_ifne, q_ifM, q_ifMM, q_ifMlt, q_ifltM, nI_add, pk_mul, q_sub, q_div, q_cl, q_st_s, q_st_i, q_st_c, Nat.add_zero, Nat.zero_add]
  · simp (disch := omega) only [↓reduceIte, ↓qM_e, ↓q_rem, q_mod, q_modN, q_lit, q_nI, q_lt, q_bd, q_ix, q_dz, q_iflt, q_ifnlt, q_ifeq, q_ifne, q_ifM, q_ifMM, q_ifMlt, q_ifltM, nI_add, pk_mul, q_sub, q_div, q_cl, q_st_s, q_st_i, q_st_c, Nat.add_zero, Nat.zero_add]
theorem q_c92y (p : Int32) (k : zHp) : f_X11_callsOne_92 p (nI 3) (nI 0) k = (f_X11_comesBack p k).bind fun x1 => some (nI 0, x1) := by
  unfold f_X11_callsOne_92
  simp (disch := omega) only [↓reduceIte, ↓qM_e, ↓q_rem, q_mod, q_modN, q_lit, q_nI, q_lt, q_bd, q_ix, q_dz, q_iflt, q_ifnlt, q_ifeq, q_ifne, q_ifM, q_ifMM, q_ifMlt, q_ifltM, nI_add, pk_mul, q_sub, q_div, q_cl, q_st_s, q_st_i, q_st_c, Nat.add_zero, Nat.zero_add]
theorem q_c77n {v w : Nat} (p : Int32) (k : zHp) (hv : v < 1000) (hw : w < 1000) (n : ¬ (v = 2 ∧ ¬ w = 0)) : f_X11_callsOne_77 p (nI v) (nI w) k = f_X11_callsOne_92 p (nI v) (nI w) k := by
  unfold f_X11_callsOne_77
  by_cases z : v = 2
  · simp (disch := omega) only [↓reduceIte, ↓qM_e, ↓q_rem, q_mod, q_modN, q_lit, q_nI, q_lt, q_bd, q_ix, q_dz, q_iflt, q_ifnlt, q_ifeq, q_ifne, q_ifM, q_ifMM, q_ifMlt, q_ifltM, nI_add, pk_mul, q_sub, q_div, q_cl, q_st_s, q_st_i, q_st_c, Nat.add_zero, Nat.zero_add]
  · simp (disch := omega) only [↓reduceIte, ↓qM_e, ↓q_rem, q_mod, q_modN, q_lit, q_nI, q_lt, q_bd, q_ix, q_dz, q_iflt, q_ifnlt, q_ifeq, q_ifne, q_ifM, q_ifMM, q_ifMlt, q_ifltM, nI_add, pk_mul, q_sub, q_div, q_cl, q_st_s, q_st_i, q_st_c, Nat.add_zero, Nat.zero_add]
theorem q_c77y {w : Nat} (p : Int32) (k : zHp) (hw : w < 1000) (n : 0 < w) : f_X11_callsOne_77 p (nI 2) (nI w) k = (f_X11_goesAway p k).bind fun x1 => some (nI 0, x1) := by
  unfold f_X11_callsOne_77
  have e : (fun x1 => f_X11_callsOne_92 p (nI 2) (nI w) x1) = fun x1 => some (nI 0, x1) := funext (fun x => q_c92n p x (by omega) hw (by omega))
  rw [if_pos (show nI 2 = 2 from rfl), if_neg (show ¬ nI w = 0 from fun q => by have := (nI_eq (a := w) (b := 0) (by omega) (by omega)).mp q; omega), e]
theorem q_c61n {v w : Nat} (p : Int32) (k : zHp) (hv : v < 1000) (hw : w < 1000) (n : ¬ (v = 1 ∧ w = 2)) : f_X11_callsOne_61 p (nI v) (nI w) k = f_X11_callsOne_77 p (nI v) (nI w) k := by
  unfold f_X11_callsOne_61
  by_cases z : v = 1
  · simp (disch := omega) only [↓reduceIte, ↓qM_e, ↓q_rem, q_mod, q_modN, q_lit, q_nI, q_lt, q_bd, q_ix, q_dz, q_iflt, q_ifnlt, q_ifeq, q_ifne, q_ifM, q_ifMM, q_ifMlt, q_ifltM, nI_add, pk_mul, q_sub, q_div, q_cl, q_st_s, q_st_i, q_st_c, Nat.add_zero, Nat.zero_add]
  · simp (disch := omega) only [↓reduceIte, ↓qM_e, ↓q_rem, q_mod, q_modN, q_lit, q_nI, q_lt, q_bd, q_ix, q_dz, q_iflt, q_ifnlt, q_ifeq, q_ifne, q_ifM, q_ifMM, q_ifMlt, q_ifltM, nI_add, pk_mul, q_sub, q_div, q_cl, q_st_s, q_st_i, q_st_c, Nat.add_zero, Nat.zero_add]
theorem q_c61y (p : Int32) (k : zHp) : f_X11_callsOne_61 p (nI 1) (nI 2) k = (f_X11_rises p k).bind fun x1 => some (nI 0, x1) := by
  unfold f_X11_callsOne_61
  have e : (fun x1 => f_X11_callsOne_77 p (nI 1) (nI 2) x1) = fun x1 => some (nI 0, x1) := funext (fun x => by rw [q_c77n p x (by omega) (by omega) (by omega), q_c92n p x (by omega) (by omega) (by omega)])
  rw [if_pos (show nI 1 = 1 from rfl), if_pos (show nI 2 = 2 from rfl), e]
/-- one who is called answers -/
theorem q_answer {o C P n i : Nat} {h k : zHp} (M : qMn β o C P h k) (H : qCalls h 20 n (k 17) C P) (hi : i < n) : ∃ (b : Nat) (h' k' : zHp), b ≤ 1 ∧ f_X0_answer o (nI i) h = some (nI (1 - b), h') ∧ f_X11_callsOne (nI (4 * i)) k = some (nI b, k') ∧ qMn β o C P h' k' ∧ qXm o h h' ∧ qMm k k' ∧ k' 1 0 = k 1 0 := by
  have ho := qMn_o M
  have hC := M.1.2.2.1.1
  have hP := M.1.2.2.1.2.1
  obtain ⟨g0, g2, g3, g4⟩ := H
  obtain ⟨m, v, p, m1, m2, hp, m3, m4, m5, m6, m7, m8, m9⟩ := g4 i hi
  have hz : zln wX 21 = 64 := by decide +kernel
  have cl : ∀ j, j < 4 → f_X2_cell 20 (nI i) (nI j) h = some (h 21 (4 * i + j), h) := fun j hj => q_cell (M := 16) g0 g2 hz (by omega) g3 (by omega) hi hj
  have cl1 := cl 1 (by omega)
  have cl2 := cl 2 (by omega)
  have cl3 := cl 3 (by omega)
  have m5' : h 21 (4 * i + 1) = nI (18 + v) := m5
  have m7' : h 21 (4 * i + 2) = nI p := m7
  obtain ⟨w, hw, ew⟩ : ∃ w, w ≤ 2 ∧ k 1 (35 + p) = nI w := by
    rcases (M.1.2.2.1.2.2.2.2 p hp).1 with q | q | q
    · exact ⟨0, by omega, q⟩
    · exact ⟨1, by omega, q⟩
    · exact ⟨2, by omega, q⟩
  have iX1 := q_isW M hp ew (by omega) 1 (by omega)
  have iX0 := q_isW M hp ew (by omega) 0 (by omega)
  have idle : ∀ x y, x = some (nI 1, h) → y = some (nI 0, k) → ∃ (b : Nat) (h' k' : zHp), b ≤ 1 ∧ x = some (nI (1 - b), h') ∧ y = some (nI b, k') ∧ qMn β o C P h' k' ∧ qXm o h h' ∧ qMm k k' ∧ k' 1 0 = k 1 0 := fun x y hx hy => ⟨0, h, k, by omega, hx, hy, M, fun _ _ _ _ _ _ => rfl, fun _ _ _ _ _ => rfl, rfl⟩
  have does : ∀ x y h' k', x = some (nI 1, h') → y = some (nI 0, k') → (qMn β o C P h' k' ∧ qXm o h h' ∧ qMm k k' ∧ k' 1 0 = k 1 0) → ∃ (b : Nat) (h' k' : zHp), b ≤ 1 ∧ x = some (nI (1 - b), h') ∧ y = some (nI b, k') ∧ qMn β o C P h' k' ∧ qXm o h h' ∧ qMm k k' ∧ k' 1 0 = k 1 0 := fun x y h' k' hx hy r => ⟨0, h', k', by omega, hx, hy, r⟩
  rcases (show v = 0 ∨ v = 1 ∨ v = 2 ∨ v = 3 by omega) with rfl | rfl | rfl | rfl
  · have m5'' : h 21 (4 * i + 1) = nI 18 := m5'
    obtain ⟨c, hc, c1, c2⟩ := m9 rfl
    have c1' : h 21 (4 * i + 3) = nI c := c1
    by_cases z : w = 1
    · subst z
      rw [if_pos rfl] at iX1
      rcases q_sits M hp hc ew with ⟨h', k', n1, n2, n3⟩ | ⟨f1, f2, h', k', n1, n2, n3, n4⟩
      · refine does _ _ h' k' ?_ ?_ n3
        · have hne : f_X0_findsSeat o (nI p) (nI c) h = some (nI 1, h') := by
            unfold f_X0_findsSeat
            rw [n1, q_bd]
            dsimp only
            rw [if_neg (show ¬ nI 1 = 0 by decide), q_zzb (by omega)]
          unfold f_X0_answer
          simp (disch := omega) only [cl1, cl2, cl3, m5'', m7', c1', iX1, hne, ↓reduceIte, ↓qM_e, ↓q_rem, q_mod, q_modN, q_lit, q_nI, q_lt, q_bd, q_ix, q_dz, q_iflt, q_ifnlt, q_ifeq, q_ifne, q_ifM, q_ifMM, q_ifMlt, q_ifltM, nI_add, pk_mul, q_sub, q_div, q_cl, q_st_s, q_st_i, q_st_c, Nat.add_zero, Nat.zero_add]
        · simp only [f_X11_callsOne]
          simp (disch := omega) only [m8, m6, ew, c2, n2, ↓reduceIte, ↓qM_e, ↓q_rem, q_mod, q_modN, q_lit, q_nI, q_lt, q_bd, q_ix, q_dz, q_iflt, q_ifnlt, q_ifeq, q_ifne, q_ifM, q_ifMM, q_ifMlt, q_ifltM, nI_add, pk_mul, q_sub, q_div, q_cl, q_st_s, q_st_i, q_st_c, Nat.add_zero, Nat.zero_add]
      · refine ⟨1, h', k', by omega, ?_, ?_, n4⟩
        · have hne : f_X0_findsSeat o (nI p) (nI c) h = some (nI 0, h') := by
            unfold f_X0_findsSeat
            rw [n1, q_bd]
            dsimp only
            rw [if_pos (show nI 0 = 0 from rfl), show (1 : Int32) = nI 1 from rfl, n2, q_bd, q_zzb (by omega)]
          unfold f_X0_answer
          simp (disch := omega) only [cl1, cl2, cl3, m5'', m7', c1', iX1, hne, ↓reduceIte, ↓qM_e, ↓q_rem, q_mod, q_modN, q_lit, q_nI, q_lt, q_bd, q_ix, q_dz, q_iflt, q_ifnlt, q_ifeq, q_ifne, q_ifM, q_ifMM, q_ifMlt, q_ifltM, nI_add, pk_mul, q_sub, q_div, q_cl, q_st_s, q_st_i, q_st_c, Nat.add_zero, Nat.zero_add]
        · simp only [f_X11_callsOne]
          simp (disch := omega) only [m8, m6, ew, c2, n3, ↓reduceIte, ↓qM_e, ↓q_rem, q_mod, q_modN, q_lit, q_nI, q_lt, q_bd, q_ix, q_dz, q_iflt, q_ifnlt, q_ifeq, q_ifne, q_ifM, q_ifMM, q_ifMlt, q_ifltM, nI_add, pk_mul, q_sub, q_div, q_cl, q_st_s, q_st_i, q_st_c, Nat.add_zero, Nat.zero_add]
    · rw [if_neg z] at iX1
      refine idle _ _ ?_ ?_
      · unfold f_X0_answer
        simp (disch := omega) only [cl1, cl2, m5'', m7', iX1, ↓reduceIte, ↓qM_e, ↓q_rem, q_mod, q_modN, q_lit, q_nI, q_lt, q_bd, q_ix, q_dz, q_iflt, q_ifnlt, q_ifeq, q_ifne, q_ifM, q_ifMM, q_ifMlt, q_ifltM, nI_add, pk_mul, q_sub, q_div, q_cl, q_st_s, q_st_i, q_st_c, Nat.add_zero, Nat.zero_add]
      · unfold f_X11_callsOne
        simp (disch := omega) only [q_c61y, q_c77y, q_c92y, q_c61n, q_c77n, q_c92n, m8, m6, ew, ↓reduceIte, ↓qM_e, ↓q_rem, q_mod, q_modN, q_lit, q_nI, q_lt, q_bd, q_ix, q_dz, q_iflt, q_ifnlt, q_ifeq, q_ifne, q_ifM, q_ifMM, q_ifMlt, q_ifltM, nI_add, pk_mul, q_sub, q_div, q_cl, q_st_s, q_st_i, q_st_c, Nat.add_zero, Nat.zero_add]
  · have m5'' : h 21 (4 * i + 1) = nI 19 := m5'
    by_cases z : w = 2
    · subst z
      obtain ⟨h', k', n1, n2, n3, n4, n5, n6, n7⟩ := q_rises M hp ew
      refine does _ _ h' k' ?_ ?_ ⟨n3, n4, n5, n6⟩
      · unfold f_X0_answer
        simp (disch := omega) only [cl1, cl2, m5'', m7', n1, ↓reduceIte, ↓qM_e, ↓q_rem, q_mod, q_modN, q_lit, q_nI, q_lt, q_bd, q_ix, q_dz, q_iflt, q_ifnlt, q_ifeq, q_ifne, q_ifM, q_ifMM, q_ifMlt, q_ifltM, nI_add, pk_mul, q_sub, q_div, q_cl, q_st_s, q_st_i, q_st_c, Nat.add_zero, Nat.zero_add]
      · unfold f_X11_callsOne
        simp (disch := omega) only [q_c61y, q_c77y, q_c92y, q_c61n, q_c77n, q_c92n, m8, m6, ew, n2, ↓reduceIte, ↓qM_e, ↓q_rem, q_mod, q_modN, q_lit, q_nI, q_lt, q_bd, q_ix, q_dz, q_iflt, q_ifnlt, q_ifeq, q_ifne, q_ifM, q_ifMM, q_ifMlt, q_ifltM, nI_add, pk_mul, q_sub, q_div, q_cl, q_st_s, q_st_i, q_st_c, Nat.add_zero, Nat.zero_add]
    · have gX := q_getUpN M hp (by rw [ew]; exact fun q => z ((nI_eq (b := 2) (by omega) (by omega)).mp q))
      refine idle _ _ ?_ ?_
      · unfold f_X0_answer
        simp (disch := omega) only [cl1, cl2, m5'', m7', gX, ↓reduceIte, ↓qM_e, ↓q_rem, q_mod, q_modN, q_lit, q_nI, q_lt, q_bd, q_ix, q_dz, q_iflt, q_ifnlt, q_ifeq, q_ifne, q_ifM, q_ifMM, q_ifMlt, q_ifltM, nI_add, pk_mul, q_sub, q_div, q_cl, q_st_s, q_st_i, q_st_c, Nat.add_zero, Nat.zero_add]
      · unfold f_X11_callsOne
        simp (disch := omega) only [q_c61y, q_c77y, q_c92y, q_c61n, q_c77n, q_c92n, m8, m6, ew, ↓reduceIte, ↓qM_e, ↓q_rem, q_mod, q_modN, q_lit, q_nI, q_lt, q_bd, q_ix, q_dz, q_iflt, q_ifnlt, q_ifeq, q_ifne, q_ifM, q_ifMM, q_ifMlt, q_ifltM, nI_add, pk_mul, q_sub, q_div, q_cl, q_st_s, q_st_i, q_st_c, Nat.add_zero, Nat.zero_add]
  · have m5'' : h 21 (4 * i + 1) = nI 20 := m5'
    rcases (show w = 0 ∨ w = 1 ∨ w = 2 by omega) with rfl | rfl | rfl
    · have gX := q_getUpN M hp (by rw [ew]; decide)
      rw [if_neg (by omega)] at iX1
      have gA : f_X0_goAway o (nI p) h = some h := by
        unfold f_X0_goAway
        simp (disch := omega) only [iX1, ↓reduceIte, ↓qM_e, ↓q_rem, q_mod, q_modN, q_lit, q_nI, q_lt, q_bd, q_ix, q_dz, q_iflt, q_ifnlt, q_ifeq, q_ifne, q_ifM, q_ifMM, q_ifMlt, q_ifltM, nI_add, pk_mul, q_sub, q_div, q_cl, q_st_s, q_st_i, q_st_c, Nat.add_zero, Nat.zero_add]
      refine idle _ _ ?_ ?_
      · unfold f_X0_answer
        simp (disch := omega) only [cl1, cl2, m5'', m7', gX, gA, ↓reduceIte, ↓qM_e, ↓q_rem, q_mod, q_modN, q_lit, q_nI, q_lt, q_bd, q_ix, q_dz, q_iflt, q_ifnlt, q_ifeq, q_ifne, q_ifM, q_ifMM, q_ifMlt, q_ifltM, nI_add, pk_mul, q_sub, q_div, q_cl, q_st_s, q_st_i, q_st_c, Nat.add_zero, Nat.zero_add]
      · unfold f_X11_callsOne
        simp (disch := omega) only [q_c61y, q_c77y, q_c92y, q_c61n, q_c77n, q_c92n, m8, m6, ew, ↓reduceIte, ↓qM_e, ↓q_rem, q_mod, q_modN, q_lit, q_nI, q_lt, q_bd, q_ix, q_dz, q_iflt, q_ifnlt, q_ifeq, q_ifne, q_ifM, q_ifMM, q_ifMlt, q_ifltM, nI_add, pk_mul, q_sub, q_div, q_cl, q_st_s, q_st_i, q_st_c, Nat.add_zero, Nat.zero_add]
    · have gX := q_getUpN M hp (by rw [ew]; decide)
      obtain ⟨h', k', n1, n2, n3⟩ := q_goAway1 M hp ew
      have gM : f_X11_goesAway (nI p) k = some k' := by
        unfold f_X11_goesAway
        simp (disch := omega) only [ew, n2, ↓reduceIte, ↓qM_e, ↓q_rem, q_mod, q_modN, q_lit, q_nI, q_lt, q_bd, q_ix, q_dz, q_iflt, q_ifnlt, q_ifeq, q_ifne, q_ifM, q_ifMM, q_ifMlt, q_ifltM, nI_add, pk_mul, q_sub, q_div, q_cl, q_st_s, q_st_i, q_st_c, Nat.add_zero, Nat.zero_add]
      refine does _ _ h' k' ?_ ?_ n3
      · unfold f_X0_answer
        simp (disch := omega) only [cl1, cl2, m5'', m7', gX, n1, ↓reduceIte, ↓qM_e, ↓q_rem, q_mod, q_modN, q_lit, q_nI, q_lt, q_bd, q_ix, q_dz, q_iflt, q_ifnlt, q_ifeq, q_ifne, q_ifM, q_ifMM, q_ifMlt, q_ifltM, nI_add, pk_mul, q_sub, q_div, q_cl, q_st_s, q_st_i, q_st_c, Nat.add_zero, Nat.zero_add]
      · unfold f_X11_callsOne
        simp (disch := omega) only [q_c61y, q_c77y, q_c92y, q_c61n, q_c77n, q_c92n, m8, m6, ew, gM, ↓reduceIte, ↓qM_e, ↓q_rem, q_mod, q_modN, q_lit, q_nI, q_lt, q_bd, q_ix, q_dz, q_iflt, q_ifnlt, q_ifeq, q_ifne, q_ifM, q_ifMM, q_ifMlt, q_ifltM, nI_add, pk_mul, q_sub, q_div, q_cl, q_st_s, q_st_i, q_st_c, Nat.add_zero, Nat.zero_add]
    · obtain ⟨h1, k1, r1, r2, r3, r4, r5, r6, r7⟩ := q_rises M hp ew
      obtain ⟨h', k', n1, n2, n3, n4, n5, n6⟩ := q_goAway1 r3 hp r7
      have gM : f_X11_goesAway (nI p) k = some k' := by
        unfold f_X11_goesAway
        simp (disch := omega) only [ew, r2, n2, ↓reduceIte, ↓qM_e, ↓q_rem, q_mod, q_modN, q_lit, q_nI, q_lt, q_bd, q_ix, q_dz, q_iflt, q_ifnlt, q_ifeq, q_ifne, q_ifM, q_ifMM, q_ifMlt, q_ifltM, nI_add, pk_mul, q_sub, q_div, q_cl, q_st_s, q_st_i, q_st_c, Nat.add_zero, Nat.zero_add]
      refine does _ _ h' k' ?_ ?_ ⟨n3, qXm_tr r4 n4, qMm_tr r5 n5, n6.trans r6⟩
      · unfold f_X0_answer
        simp (disch := omega) only [cl1, cl2, m5'', m7', r1, n1, ↓reduceIte, ↓qM_e, ↓q_rem, q_mod, q_modN, q_lit, q_nI, q_lt, q_bd, q_ix, q_dz, q_iflt, q_ifnlt, q_ifeq, q_ifne, q_ifM, q_ifMM, q_ifMlt, q_ifltM, nI_add, pk_mul, q_sub, q_div, q_cl, q_st_s, q_st_i, q_st_c, Nat.add_zero, Nat.zero_add]
      · unfold f_X11_callsOne
        simp (disch := omega) only [q_c61y, q_c77y, q_c92y, q_c61n, q_c77n, q_c92n, m8, m6, ew, gM, ↓reduceIte, ↓qM_e, ↓q_rem, q_mod, q_modN, q_lit, q_nI, q_lt, q_bd, q_ix, q_dz, q_iflt, q_ifnlt, q_ifeq, q_ifne, q_ifM, q_ifMM, q_ifMlt, q_ifltM, nI_add, pk_mul, q_sub, q_div, q_cl, q_st_s, q_st_i, q_st_c, Nat.add_zero, Nat.zero_add]
  · have m5'' : h 21 (4 * i + 1) = nI 21 := m5'
    by_cases z : w = 0
    · subst z
      obtain ⟨h', k', n1, n2, n3⟩ := q_comes M hp ew
      refine does _ _ h' k' ?_ ?_ n3
      · unfold f_X0_answer
        simp (disch := omega) only [cl1, cl2, m5'', m7', n1, ↓reduceIte, ↓qM_e, ↓q_rem, q_mod, q_modN, q_lit, q_nI, q_lt, q_bd, q_ix, q_dz, q_iflt, q_ifnlt, q_ifeq, q_ifne, q_ifM, q_ifMM, q_ifMlt, q_ifltM, nI_add, pk_mul, q_sub, q_div, q_cl, q_st_s, q_st_i, q_st_c, Nat.add_zero, Nat.zero_add]
      · unfold f_X11_callsOne
        simp (disch := omega) only [q_c61y, q_c77y, q_c92y, q_c61n, q_c77n, q_c92n, m8, m6, ew, n2, ↓reduceIte, ↓qM_e, ↓q_rem, q_mod, q_modN, q_lit, q_nI, q_lt, q_bd, q_ix, q_dz, q_iflt, q_ifnlt, q_ifeq, q_ifne, q_ifM, q_ifMM, q_ifMlt, q_ifltM, nI_add, pk_mul, q_sub, q_div, q_cl, q_st_s, q_st_i, q_st_c, Nat.add_zero, Nat.zero_add]
    · rw [if_neg z] at iX0
      have cB : f_X0_comeBack o (nI p) h = some h := by
        unfold f_X0_comeBack
        simp (disch := omega) only [iX0, ↓reduceIte, ↓qM_e, ↓q_rem, q_mod, q_modN, q_lit, q_nI, q_lt, q_bd, q_ix, q_dz, q_iflt, q_ifnlt, q_ifeq, q_ifne, q_ifM, q_ifMM, q_ifMlt, q_ifltM, nI_add, pk_mul, q_sub, q_div, q_cl, q_st_s, q_st_i, q_st_c, Nat.add_zero, Nat.zero_add]
      refine idle _ _ ?_ ?_
      · unfold f_X0_answer
        simp (disch := omega) only [cl1, cl2, m5'', m7', cB, ↓reduceIte, ↓qM_e, ↓q_rem, q_mod, q_modN, q_lit, q_nI, q_lt, q_bd, q_ix, q_dz, q_iflt, q_ifnlt, q_ifeq, q_ifne, q_ifM, q_ifMM, q_ifMlt, q_ifltM, nI_add, pk_mul, q_sub, q_div, q_cl, q_st_s, q_st_i, q_st_c, Nat.add_zero, Nat.zero_add]
      · unfold f_X11_callsOne
        simp (disch := omega) only [q_c61y, q_c77y, q_c92y, q_c61n, q_c77n, q_c92n, m8, m6, ew, ↓reduceIte, ↓qM_e, ↓q_rem, q_mod, q_modN, q_lit, q_nI, q_lt, q_bd, q_ix, q_dz, q_iflt, q_ifnlt, q_ifeq, q_ifne, q_ifM, q_ifMM, q_ifMlt, q_ifltM, nI_add, pk_mul, q_sub, q_div, q_cl, q_st_s, q_st_i, q_st_c, Nat.add_zero, Nat.zero_add]
end Qminute
