/-! WHERE IT GOES, WHEN A SEAT IS FREE -/
section Qgoes2
theorem q_th_ask {h k : zHp} (R : qRel h k) {x y : Option (Int32 × zHp)} (q : qAsk h (zst k 0 0 0) x y) : qCall x y := qAsk.call (qRel_s (qXs_rf h) (qMs_s0 k) R) q
theorem q_call_goes {h k : zHp} (R : qRel h k) (a b : Int32) : qCall (f_X10_goes a b h) (f_X11_goes a b k) := by
  have R0 : qRel h (zst k 0 0 0) := qRel_s (qXs_rf h) (qMs_s0 k) R
  refine q_th_ask R ?_
  have stay : ∀ x y, x = some ((-1 : Int32), h) → y = some ((-1 : Int32), zst k 0 0 0) → qAsk h (zst k 0 0 0) x y := fun x y hx hy => ⟨-1, h, zst k 0 0 0, hx, hy, qXs_rf h, qMs_rf _⟩
  unfold f_X10_goes f_X11_goes
  rcases q_rng 1 60 a (by omega) with o | ⟨t, ht, ht2, rfl⟩
  · refine stay _ _ (q_out2 o) ?_
    rw [q_lt]
    have := q_inO (h := zst k 0 0 0) o
    rw [show (1 : Int32) = nI 1 from rfl, show (60 : Int32) = nI 60 from rfl, this, q_bd]
    exact if_pos rfl
  rcases q_rng 0 3 b (by omega) with o | ⟨w, -, hw, rfl⟩
  · refine stay _ _ ?_ ?_
    · rw [if_neg (show ¬ nI t < (1 : Int32) from nI_nlt (b := 1) ht (by omega)), if_neg (show ¬ (60 : Int32) < nI t from nI_nlt (a := 60) ht2 (by omega)), show (3 : Int32) = nI 3 from rfl, q_wiO o, q_bd]
      exact if_pos rfl
    · rw [q_lt, show (1 : Int32) = nI 1 from rfl, show (60 : Int32) = nI 60 from rfl, q_inI (h := zst k 0 0 0) ht ht2 (by omega), q_bd]
      dsimp only
      rw [if_neg (show ¬ nI 1 = 0 by decide), show (0 : Int32) = nI 0 from rfl, show (3 : Int32) = nI 3 from rfl, q_inO o, q_bd]
      exact if_pos rfl
  obtain ⟨C, P, n, m, h1, k1, e1, e2, M, c1, c2, c3, c4, fX, fM⟩ := q_think R0
  have hC := M.1.2.2.1.1
  have hP := M.1.2.2.1.2.1
  rw [if_neg (show ¬ nI t < (1 : Int32) from nI_nlt (b := 1) ht (by omega)), if_neg (show ¬ (60 : Int32) < nI t from nI_nlt (a := 60) ht2 (by omega)), show (3 : Int32) = nI 3 from rfl, q_wiI hw (by omega), q_bd]
  rw [q_lt, show (1 : Int32) = nI 1 from rfl, show (60 : Int32) = nI 60 from rfl, q_inI (h := zst k 0 0 0) ht ht2 (by omega), q_bd]
  dsimp only
  rw [if_neg (show ¬ nI 1 = 0 by decide), if_neg (show ¬ nI 1 = 0 by decide), show (0 : Int32) = nI 0 from rfl, q_inI (h := zst k 0 0 (nI 0)) (lo := 0) (Nat.zero_le w) hw (by omega), q_bd, e1, q_bd]
  dsimp only
  have e2' : f_X11_thinks (zst k 0 0 (nI 0)) = some k1 := e2
  rw [if_neg (show ¬ nI 1 = nI 0 by decide), e2', q_bd]
  have s0 : (zst k 0 0 (nI 0)) = zst k 0 0 0 := rfl
  rw [s0]
  unfold f_X10_goes_37_lp f_X11_goes_34_lp
  refine q_exit2 (b1 := fun k37 v => f_X10_goes_37 k37 v.1 v.2.1 v.2.2.1 v.2.2.2) (b2 := fun k34 v => f_X11_goes_34 k34 v.1 v.2.1 v.2.2.1 v.2.2.2) (I := fun i v u => ∃ h2 k2, v = (nI t, nI w, nI i, h2) ∧ u = (nI t, nI w, nI i, k2) ∧ qMn (h, zst k 0 0 0) 136 C P h2 k2 ∧ qXm 136 h1 h2 ∧ qMm k1 k2) t (Q := fun x y => qAsk h (zst k 0 0 0) x y) (fun i v u hi hI => Or.inl ?_) (fun v u hI => ?_) _ _ ⟨h1, k1, rfl, rfl, M, fun _ _ _ _ _ _ => rfl, fun _ _ _ _ _ => rfl⟩ zN zN (by rw [q_zN]; omega) (by rw [q_zN]; omega)
  · obtain ⟨h2, k2, rfl, rfl, M2, f1, f2⟩ := hI
    have H2 : qCalls h2 20 n (k2 17) C P := by
      rw [f2 17 (by omega) (by omega) (by omega) (by omega)]
      exact qCalls_c (f1 _ (by omega) (by omega) (by omega) (by omega) (by omega)) (f1 _ (by omega) (by omega) (by omega) (by omega) (by omega)) (fun _ _ => rfl) c2
    have H3 : qHouse h2 22 m (k2 18) C := by
      rw [f2 18 (by omega) (by omega) (by omega) (by omega)]
      exact qHouse_c (f1 _ (by omega) (by omega) (by omega) (by omega) (by omega)) (f1 _ (by omega) (by omega) (by omega) (by omega) (by omega)) (fun _ _ => rfl) c4
    obtain ⟨r, h3, k3, g1, g2, g3, g4, g5, g6⟩ := q_goesBy M2 H2 (by rw [f2 0 (by omega) (by omega) (by omega) (by omega)]; exact c1) H3 (by rw [f2 0 (by omega) (by omega) (by omega) (by omega)]; exact c3)
    refine ⟨(nI t, nI w, nI (i + 1), h3), (nI t, nI w, nI (i + 1), k3), fun rec => ?_, fun rec => ?_, h3, k3, rfl, rfl, g4, qXm_tr f1 g5, qMm_tr f2 g6⟩
    · simp only [f_X10_goes_37]
      simp (disch := omega) only [g2, ↓reduceIte, ↓qM_e, ↓q_rem, q_mod, q_modN, q_lit, q_nI, q_lt, q_bd, q_ix, q_dz, q_iflt, q_ifnlt, q_ifeq, q_ifne, q_ifM, q_ifMM, q_ifMlt, q_ifltM, nI_add, pk_mul, q_sub, q_div, q_cl, q_st_s, q_st_i, q_st_c, Nat.add_zero, Nat.zero_add]
    · simp only [f_X11_goes_34]
      simp (disch := omega) only [g3, ↓reduceIte, ↓qM_e, ↓q_rem, q_mod, q_modN, q_lit, q_nI, q_lt, q_bd, q_ix, q_dz, q_iflt, q_ifnlt, q_ifeq, q_ifne, q_ifM, q_ifMM, q_ifMlt, q_ifltM, nI_add, pk_mul, q_sub, q_div, q_cl, q_st_s, q_st_i, q_st_c, Nat.add_zero, Nat.zero_add]
  · obtain ⟨h2, k2, rfl, rfl, M2, f1, f2⟩ := hI
    obtain ⟨q1, q2, q3, q4, q5⟩ : h2 136 0 = 1 ∧ k2 0 5 = 1 ∧ h2 11 = h 11 ∧ h2 12 = h 12 ∧ k2 6 = (zst k 0 0 0) 6 := by
      rcases M2.2.2 with ⟨q, -⟩ | ⟨-, q⟩
      · omega
      · exact q
    have FX := fX h2 f1 q3 q4 q1
    obtain ⟨k3, t1, t2⟩ := fM k2 f2 q5
    have g9 : h2 136 9 = nI C := M2.1.2.1.1
    have g10 : h2 136 10 = nI P := M2.1.2.1.2.1
    have g6 : k2 0 6 = nI C := M2.1.1.1
    have g7 : k2 0 7 = nI P := M2.1.1.2
    have fin : ∀ (v : Int32) (x y : Option (Int32 × zHp)), x = some (v, h2) → y = some (v, k3) → qAsk h (zst k 0 0 0) x y := fun v x y hx hy => ⟨v, h2, k3, hx, hy, FX, t2⟩
    have stX : ∀ rec : Int32 × Int32 × Int32 × zHp → Option (Int32 × zHp), f_X10_goes_37 rec (nI t) (nI w) (nI t) h2 = (if nI w = (0 : Int32) then (f_X10_sum 138 10 (h2 136 9) h2).bind fun x3 => some (x3.1, x3.2) else (if nI w = (1 : Int32) then (f_X10_sum 143 14 (h2 136 10) h2).bind fun x5 => some (x5.1, x5.2) else (if nI w = (2 : Int32) then (f_X10_sum 144 14 (h2 136 10) h2).bind fun x7 => some (x7.1, x7.2) else (f_X4_freeSet 136 h2).bind fun x8 => (f_J6_bitCount_0f7a4 x8.1 x8.2).bind fun x9 => some (x9.1, x9.2)))) := by
      intro rec
      simp only [f_X10_goes_37]
      rw [q_ifF (nI_nlt (Nat.le_refl t) (by omega))]
    have stM : ∀ rec : Int32 × Int32 × Int32 × zHp → Option (Int32 × zHp), f_X11_goes_34 rec (nI t) (nI w) (nI t) k2 = (if nI w = 0 then (f_X11_sumOf (5 : Int32) (k2 0 6) k2).bind fun x2 => (f_X11_endsThought x2.2).bind fun x3 => some (x2.1, x3) else (if nI w = (1 : Int32) then (f_X11_sumOf (49 : Int32) (k2 0 7) k2).bind fun x4 => (f_X11_endsThought x4.2).bind fun x5 => some (x4.1, x5) else (if nI w = (2 : Int32) then (f_X11_sumOf (63 : Int32) (k2 0 7) k2).bind fun x6 => (f_X11_endsThought x6.2).bind fun x7 => some (x6.1, x7) else (f_X11_freeSet k2).bind fun x8 => (f_X11_onesOf x8.1 x8.2).bind fun x9 => (f_X11_endsThought x9.2).bind fun x10 => some (x9.1, x10)))) := by
      intro rec
      simp only [f_X11_goes_34]
      rw [q_ifF (nI_nlt (Nat.le_refl t) (by omega))]
    refine ⟨_, _, stX, stM, ?_⟩
    rcases (show w = 0 ∨ w = 1 ∨ w = 2 ∨ w = 3 by omega) with rfl | rfl | rfl | rfl
    · obtain ⟨v, v1, v2⟩ := q_sum (h := h2) (k := k2) (b := 138) (n := 10) (N := C) (o := 5) hC (by omega) (by omega) (fun i hi => (M2.1.2.1.2.2.2.2.2.2.1 i hi).2.1)
      refine fin v _ _ ?_ ?_
      · simp (disch := omega) only [g9, v1, ↓reduceIte, ↓qM_e, ↓q_rem, q_mod, q_modN, q_lit, q_nI, q_lt, q_bd, q_ix, q_dz, q_iflt, q_ifnlt, q_ifeq, q_ifne, q_ifM, q_ifMM, q_ifMlt, q_ifltM, nI_add, pk_mul, q_sub, q_div, q_cl, q_st_s, q_st_i, q_st_c, Nat.add_zero, Nat.zero_add]
      · simp (disch := omega) only [g6, v2, t1, ↓reduceIte, ↓qM_e, ↓q_rem, q_mod, q_modN, q_lit, q_nI, q_lt, q_bd, q_ix, q_dz, q_iflt, q_ifnlt, q_ifeq, q_ifne, q_ifM, q_ifMM, q_ifMlt, q_ifltM, nI_add, pk_mul, q_sub, q_div, q_cl, q_st_s, q_st_i, q_st_c, Nat.add_zero, Nat.zero_add]
    · obtain ⟨v, v1, v2⟩ := q_sum (h := h2) (k := k2) (b := 143) (n := 14) (N := P) (o := 49) hP (by omega) (by omega) (fun i hi => (M2.1.2.1.2.2.2.2.2.2.2 i hi).2.2.1)
      refine fin v _ _ ?_ ?_
      · simp (disch := omega) only [g10, v1, ↓reduceIte, ↓qM_e, ↓q_rem, q_mod, q_modN, q_lit, q_nI, q_lt, q_bd, q_ix, q_dz, q_iflt, q_ifnlt, q_ifeq, q_ifne, q_ifM, q_ifMM, q_ifMlt, q_ifltM, nI_add, pk_mul, q_sub, q_div, q_cl, q_st_s, q_st_i, q_st_c, Nat.add_zero, Nat.zero_add]
      · simp (disch := omega) only [g7, v2, t1, ↓reduceIte, ↓qM_e, ↓q_rem, q_mod, q_modN, q_lit, q_nI, q_lt, q_bd, q_ix, q_dz, q_iflt, q_ifnlt, q_ifeq, q_ifne, q_ifM, q_ifMM, q_ifMlt, q_ifltM, nI_add, pk_mul, q_sub, q_div, q_cl, q_st_s, q_st_i, q_st_c, Nat.add_zero, Nat.zero_add]
    · obtain ⟨v, v1, v2⟩ := q_sum (h := h2) (k := k2) (b := 144) (n := 14) (N := P) (o := 63) hP (by omega) (by omega) (fun i hi => (M2.1.2.1.2.2.2.2.2.2.2 i hi).2.2.2)
      refine fin v _ _ ?_ ?_
      · simp (disch := omega) only [g10, v1, ↓reduceIte, ↓qM_e, ↓q_rem, q_mod, q_modN, q_lit, q_nI, q_lt, q_bd, q_ix, q_dz, q_iflt, q_ifnlt, q_ifeq, q_ifne, q_ifM, q_ifMM, q_ifMlt, q_ifltM, nI_add, pk_mul, q_sub, q_div, q_cl, q_st_s, q_st_i, q_st_c, Nat.add_zero, Nat.zero_add]
      · simp (disch := omega) only [g7, v2, t1, ↓reduceIte, ↓qM_e, ↓q_rem, q_mod, q_modN, q_lit, q_nI, q_lt, q_bd, q_ix, q_dz, q_iflt, q_ifnlt, q_ifeq, q_ifne, q_ifM, q_ifMM, q_ifMlt, q_ifltM, nI_add, pk_mul, q_sub, q_div, q_cl, q_st_s, q_st_i, q_st_c, Nat.add_zero, Nat.zero_add]
    · obtain ⟨S, s1, s2, s3⟩ := q_freeSet M2.1
      have b1 := q_bitCount s1 h2
      have b2 := q_onesOf s1 k2
      refine fin (nI (qPop 14 S)) _ _ ?_ ?_
      · simp (disch := omega) only [s2, b1, ↓reduceIte, ↓qM_e, ↓q_rem, q_mod, q_modN, q_lit, q_nI, q_lt, q_bd, q_ix, q_dz, q_iflt, q_ifnlt, q_ifeq, q_ifne, q_ifM, q_ifMM, q_ifMlt, q_ifltM, nI_add, pk_mul, q_sub, q_div, q_cl, q_st_s, q_st_i, q_st_c, Nat.add_zero, Nat.zero_add]
      · simp (disch := omega) only [s3, b2, t1, ↓reduceIte, ↓qM_e, ↓q_rem, q_mod, q_modN, q_lit, q_nI, q_lt, q_bd, q_ix, q_dz, q_iflt, q_ifnlt, q_ifeq, q_ifne, q_ifM, q_ifMM, q_ifMlt, q_ifltM, nI_add, pk_mul, q_sub, q_div, q_cl, q_st_s, q_st_i, q_st_c, Nat.add_zero, Nat.zero_add]
theorem q_call_seat {h k : zHp} (R : qRel h k) : qCall (f_X10_seat h) (f_X11_seat k) := by
  have R0 : qRel h (zst k 0 0 0) := qRel_s (qXs_rf h) (qMs_s0 k) R
  refine q_th_ask R ?_
  obtain ⟨C, P, n, m, h1, k1, e1, e2, M, c1, c2, c3, c4, fX, fM⟩ := q_think R0
  unfold f_X10_seat f_X11_seat
  rw [e1, q_bd, q_lt, e2, q_bd]
  unfold f_X10_seat_16_lp f_X11_seat_11_lp
  have ends : ∀ (v : Nat) (h2 k2 : zHp), v < 100 → qXm 136 h1 h2 → qMm k1 k2 → h2 11 = h 11 → h2 12 = h 12 → h2 136 0 = 1 → k2 6 = (zst k 0 0 0) 6 → ∃ k3, f_X11_seat_36 (nI v) k2 = some (if v ≤ 60 then nI v else -1, k3) ∧ qXs h h2 ∧ qMs (zst k 0 0 0) k3 := by
    intro v h2 k2 hv f1 f2 q3 q4 q1 q5
    obtain ⟨k3, t1, t2⟩ := fM k2 f2 q5
    refine ⟨k3, ?_, fX h2 f1 q3 q4 q1, t2⟩
    unfold f_X11_seat_36
    rw [t1, q_bd]
    rcases Nat.lt_or_ge 60 v with z | z
    · rw [if_pos (show (60 : Int32) < nI v from nI_lt (a := 60) z (by omega)), if_neg (by omega)]
    · rw [if_neg (show ¬ (60 : Int32) < nI v from nI_nlt (a := 60) z (by omega)), if_pos z]
  refine q_exit2 (b1 := fun k16 v => f_X10_seat_16 k16 v.1 v.2) (b2 := fun k11 v => f_X11_seat_11 k11 v.1 v.2) (I := fun i v u => ∃ h2 k2, v = (nI i, h2) ∧ u = (nI i, k2) ∧ (i ≤ 60 → qMn (h, zst k 0 0 0) 136 C P h2 k2) ∧ qXm 136 h1 h2 ∧ qMm k1 k2 ∧ h2 11 = h 11 ∧ h2 12 = h 12 ∧ h2 136 0 = 1 ∧ k2 6 = (zst k 0 0 0) 6) 61 (Q := fun x y => qAsk h (zst k 0 0 0) x y) (fun i v u hi hI => ?_) (fun v u hI => ?_) _ _ ⟨h1, k1, rfl, rfl, fun _ => M, fun _ _ _ _ _ _ => rfl, fun _ _ _ _ _ => rfl, ?_⟩ zN zN (by rw [q_zN]; omega) (by rw [q_zN]; omega)
  · obtain ⟨h2, k2, rfl, rfl, M2, f1, f2, q3, q4, q1, q5⟩ := hI
    have M2 := M2 (by omega)
    obtain ⟨S, s1, s2, s3⟩ := q_freeSet M2.1
    have l1 : ¬ (60 : Int32) < nI i := nI_nlt (a := 60) (by omega) (by omega)
    by_cases z : S = 0
    · subst z
      have H2 : qCalls h2 20 n (k2 17) C P := by
        rw [f2 17 (by omega) (by omega) (by omega) (by omega)]
        exact qCalls_c (f1 _ (by omega) (by omega) (by omega) (by omega) (by omega)) (f1 _ (by omega) (by omega) (by omega) (by omega) (by omega)) (fun _ _ => rfl) c2
      have H3 : qHouse h2 22 m (k2 18) C := by
        rw [f2 18 (by omega) (by omega) (by omega) (by omega)]
        exact qHouse_c (f1 _ (by omega) (by omega) (by omega) (by omega) (by omega)) (f1 _ (by omega) (by omega) (by omega) (by omega) (by omega)) (fun _ _ => rfl) c4
      obtain ⟨r, h3, k3, g1, g2, g3, g4, g5, g6⟩ := q_goesBy M2 H2 (by rw [f2 0 (by omega) (by omega) (by omega) (by omega)]; exact c1) H3 (by rw [f2 0 (by omega) (by omega) (by omega) (by omega)]; exact c3)
      obtain ⟨r1, r2, r3, r4, r5⟩ : h3 136 0 = 1 ∧ k3 0 5 = 1 ∧ h3 11 = h 11 ∧ h3 12 = h 12 ∧ k3 6 = (zst k 0 0 0) 6 := by
        rcases g4.2.2 with ⟨q, -⟩ | ⟨-, q⟩
        · omega
        · exact q
      have stM : ∀ rec : Int32 × zHp → Option (Int32 × zHp), f_X11_seat_11 rec (nI i) k2 = rec (nI (i + 1), k3) := by
        intro rec
        simp only [f_X11_seat_11]
        rw [if_neg l1, s3, q_bd]
        dsimp only
        rw [if_pos (show nI 0 = 0 from rfl), g3, q_bd, q_lt, nI_1]
      rcases Nat.lt_or_ge i 60 with y | y
      · refine Or.inl ⟨(nI (i + 1), h3), (nI (i + 1), k3), fun rec => ?_, stM, h3, k3, rfl, rfl, fun _ => g4, qXm_tr f1 g5, qMm_tr f2 g6, r3, r4, r1, r5⟩
        simp only [f_X10_seat_16]
        rw [if_neg l1, s2, q_bd]
        dsimp only
        rw [if_pos (show nI 0 = 0 from rfl), if_pos (show nI i < (60 : Int32) from nI_lt (b := 60) y (by omega)), g2, q_bd, nI_1]
      · refine Or.inl ⟨(nI (i + 1), h2), (nI (i + 1), k3), fun rec => ?_, stM, h2, k3, rfl, rfl, fun q => by omega, f1, qMm_tr f2 g6, q3, q4, q1, r5⟩
        simp only [f_X10_seat_16]
        rw [if_neg l1, s2, q_bd]
        dsimp only
        rw [if_pos (show nI 0 = 0 from rfl), if_neg (show ¬ nI i < (60 : Int32) from nI_nlt (b := 60) y (by omega)), nI_1]
    · obtain ⟨k3, t1, t2, t3⟩ := ends i h2 k2 (by omega) f1 f2 q3 q4 q1 q5
      rw [if_pos (by omega)] at t1
      have zS : ¬ nI S = 0 := fun q => z ((nI_eq (a := S) (b := 0) (by omega) (by omega)).mp q)
      refine Or.inr ⟨some (nI i, h2), some (nI i, k3), fun rec => ?_, fun rec => ?_, nI i, h2, k3, rfl, rfl, t2, t3⟩
      · simp only [f_X10_seat_16]
        rw [if_neg l1, s2, q_bd]
        dsimp only
        rw [if_neg zS]
      · simp only [f_X11_seat_11]
        rw [if_neg l1, s3, q_bd]
        dsimp only
        rw [if_neg zS]; exact t1
  · obtain ⟨h2, k2, rfl, rfl, -, f1, f2, q3, q4, q1, q5⟩ := hI
    obtain ⟨k3, t1, t2, t3⟩ := ends 61 h2 k2 (by omega) f1 f2 q3 q4 q1 q5
    rw [if_neg (by omega)] at t1
    refine ⟨some (-1, h2), some (-1, k3), fun rec => ?_, fun rec => ?_, -1, h2, k3, rfl, rfl, t2, t3⟩
    · simp only [f_X10_seat_16]
      exact if_pos (by decide)
    · simp only [f_X11_seat_11]
      rw [if_pos (by decide)]; exact t1
  · rcases M.2.2 with ⟨q, -⟩ | ⟨-, q⟩
    · omega
    · exact ⟨q.2.2.1, q.2.2.2.1, q.1, q.2.2.2.2⟩
end Qgoes2
