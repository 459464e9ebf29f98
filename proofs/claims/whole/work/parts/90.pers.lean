/-! A PERSON COMES; SOMETHING IS SET -/
section Qpers
theorem q_call_person {h k : zHp} (R : qRel h k) (a : Int32) : qCall (f_X10_person a h) (f_X11_person a k) := by
  have R0 : qRel h (zst k 0 0 0) := qRel_s (qXs_rf h) (qMs_s0 k) R
  obtain ⟨k0, hk0⟩ : ∃ k0, k0 = zst k 0 0 0 := ⟨_, rfl⟩
  have hk0' : zst k 0 0 (nI 0) = k0 := hk0.symm
  rw [← hk0] at R0
  obtain ⟨C, P, n, m, M, -⟩ := qRel_M (β := (h, h)) R0
  have hC := M.1.2.2.1.1
  have hP := M.1.2.2.1.2.1
  obtain ⟨p1, p2, p3, p4, p5, p6, p7, p8⟩ := M.1.2.1
  obtain ⟨c6, c7⟩ := M.1.1
  have stay : ∀ x y, x = some ((-1 : Int32), h) → y = some ((-1 : Int32), k0) → qCall x y := fun x y hx hy => ⟨-1, h, k0, hx, hy, R0⟩
  rcases q_rng 0 9 a (by omega) with o | ⟨v, -, hv, rfl⟩
  · have w1 := q_wiO (h := h) o
    have w2 := q_inO (h := k0) o
    refine stay _ _ ?_ ?_
    · unfold f_X10_person
      simp (disch := omega) only [w1, ↓reduceIte, ↓qM_e, ↓q_rem, q_mod, q_modN, q_lit, q_nI, q_lt, q_bd, q_ix, q_dz, q_iflt, q_ifnlt, q_ifeq, q_ifne, q_ifM, q_ifMM, q_ifMlt, q_ifltM, nI_add, pk_mul, q_sub, q_div, q_cl, q_st_s, q_st_i, q_st_c, Nat.add_zero, Nat.zero_add]
    · unfold f_X11_person
      simp (disch := omega) only [hk0', w2, ↓reduceIte, ↓qM_e, ↓q_rem, q_mod, q_modN, q_lit, q_nI, q_lt, q_bd, q_ix, q_dz, q_iflt, q_ifnlt, q_ifeq, q_ifne, q_ifM, q_ifMM, q_ifMlt, q_ifltM, nI_add, pk_mul, q_sub, q_div, q_cl, q_st_s, q_st_i, q_st_c, Nat.add_zero, Nat.zero_add]
  have w1 := q_wiI (h := h) (a := v) (m := 9) hv (by omega)
  have w2 := q_inI (h := k0) (a := v) (lo := 0) (hi := 9) (Nat.zero_le v) hv (by omega)
  rcases Nat.lt_or_ge P 14 with z | z
  · have hx : ∀ a, ¬(2 ≤ a ∧ a ≤ 10) → a ≠ 79 → (zst (zst (zst (zst (zst (zst h 79 3 (nI 0)) 7 P (nI v)) 8 P (nI 1)) 9 P (nI 0)) 10 P (nI 0)) 2 10 (nI (P + 1))) a = h a := fun a q1 q2 => by simp (disch := omega) only [q_st_c]
    refine ⟨nI P, zst (zst (zst (zst (zst (zst h 79 3 (nI 0)) 7 P (nI v)) 8 P (nI 1)) 9 P (nI 0)) 10 P (nI 0)) 2 10 (nI (P + 1)), zst (zst (zst (zst (zst (zst k0 5 P (nI v)) 1 (35 + P) (nI 1)) 1 (49 + P) (nI 0)) 1 (63 + P) (nI 0)) 0 7 (nI (P + 1))) 0 3 (nI 0), ?_, ?_, qRel_new R0 M.1.1 (Nat.le_refl C) (show P ≤ P + 1 by omega) ?_ ?_ ?_ hx (by simp (disch := omega) only [q_st_c, q_st_i]) (by simp (disch := omega) only [q_st_c, q_st_i]) (by simp (disch := omega) only [q_st_c, q_st_s]) (fun a q1 q2 q3 q4 => by simp (disch := omega) only [q_st_c]) (fun i q1 q2 q3 q4 => by simp (disch := omega) only [q_st_c, q_st_i]) q_st_s (by simp (disch := omega) only [q_st_c, q_st_i])⟩
    · have e1 : nI (P + 1) - nI 1 = nI P := nI_pred P
      simp only [f_X10_person, f_X3_forget, f_X4_addPerson]
      simp (disch := omega) only [w1, p2, e1, ↓reduceIte, ↓qM_e, ↓q_rem, q_mod, q_modN, q_lit, q_nI, q_lt, q_bd, q_ix, q_dz, q_iflt, q_ifnlt, q_ifeq, q_ifne, q_ifM, q_ifMM, q_ifMlt, q_ifltM, nI_add, pk_mul, q_sub, q_div, q_cl, q_st_s, q_st_i, q_st_c, Nat.add_zero, Nat.zero_add]
    · have e1 : nI (P + 1) - nI 1 = nI P := nI_pred P
      unfold f_X11_person
      simp (disch := omega) only [hk0', w2, c7, e1, ↓reduceIte, ↓qM_e, ↓q_rem, q_mod, q_modN, q_lit, q_nI, q_lt, q_bd, q_ix, q_dz, q_iflt, q_ifnlt, q_ifeq, q_ifne, q_ifM, q_ifMM, q_ifMlt, q_ifltM, nI_add, pk_mul, q_sub, q_div, q_cl, q_st_s, q_st_i, q_st_c, Nat.add_zero, Nat.zero_add]
    · exact ⟨by simp (disch := omega) only [q_st_c, q_st_i]; exact c6, by simp (disch := omega) only [q_st_s, q_st_i]⟩
    · refine ⟨?_, q_st_s, ?_, ?_, ?_, ?_, fun c hc => ?_, fun p hp => ?_⟩
      · simp (disch := omega) only [q_st_c, q_st_i]; exact p1
      · simp (disch := omega) only [q_st_c, q_st_i]; exact p3
      · simp (disch := omega) only [q_st_c, q_st_i]; exact p4
      · simp (disch := omega) only [q_st_c, q_st_i]; exact p5
      · simp (disch := omega) only [q_st_c, q_st_i]; exact p6
      · simp (disch := omega) only [q_st_c, q_st_i]
        exact p7 c hc
      · by_cases y : p = P
        · subst y
          refine ⟨?_, ?_, ?_, ?_⟩ <;> simp (disch := omega) only [q_st_c, q_st_i, q_st_s]
        · simp (disch := omega) only [q_st_c, q_st_i]
          exact p8 p (by omega)
    · obtain ⟨S, F, T, W, Rw, N⟩ := qFine_N M.1.2.2.1
      obtain ⟨-, -, N3, N4, N5⟩ := id N
      refine qFine_of (S := S) (F := F) (T := T) (W := fun q => if q = P then 1 else W q) ⟨fun d hd => ?_, fun q hq => ?_⟩ ⟨hC, by omega, fun d hd => ?_, fun d q hd hq e => ?_, fun q hq => ?_⟩
      · simp (disch := omega) only [q_st_c, q_st_i]
        exact Rw.1 d hd
      · dsimp only
        by_cases y : q = P
        · subst y
          rw [if_pos rfl]
          simp (disch := omega) only [q_st_c, q_st_i, q_st_s]
        · rw [if_neg y]
          simp (disch := omega) only [q_st_c, q_st_i]
          exact Rw.2 q (by omega)
      · obtain ⟨g1, g2, g3, g4, g5⟩ := N3 d hd
        exact ⟨g1, by omega, by omega, g4, g5⟩
      · have g3 := (N3 d hd).2.2.1
        dsimp only
        rw [if_neg (by omega)]
        exact N4 d q hd (by omega) e
      · dsimp only
        by_cases y : q = P
        · rw [if_pos y]; exact ⟨by omega, by omega⟩
        · rw [if_neg y]; exact N5 q (by omega)
  · have hp14 : P = 14 := by omega
    subst hp14
    refine stay _ _ ?_ ?_
    · unfold f_X10_person
      simp (disch := omega) only [w1, p2, ↓reduceIte, ↓qM_e, ↓q_rem, q_mod, q_modN, q_lit, q_nI, q_lt, q_bd, q_ix, q_dz, q_iflt, q_ifnlt, q_ifeq, q_ifne, q_ifM, q_ifMM, q_ifMlt, q_ifltM, nI_add, pk_mul, q_sub, q_div, q_cl, q_st_s, q_st_i, q_st_c, Nat.add_zero, Nat.zero_add]
    · unfold f_X11_person
      simp (disch := omega) only [hk0', w2, c7, ↓reduceIte, ↓qM_e, ↓q_rem, q_mod, q_modN, q_lit, q_nI, q_lt, q_bd, q_ix, q_dz, q_iflt, q_ifnlt, q_ifeq, q_ifne, q_ifM, q_ifMM, q_ifMlt, q_ifltM, nI_add, pk_mul, q_sub, q_div, q_cl, q_st_s, q_st_i, q_st_c, Nat.add_zero, Nat.zero_add]
/-- after forgetting: one cell of the porch -/
theorem q_call_set {h k : zHp} (R : qRel h k) (a b c : Int32) : qCall (f_X10_set a b c h) (f_X11_set a b c k) := by
  have R0 : qRel h (zst k 0 0 0) := qRel_s (qXs_rf h) (qMs_s0 k) R
  obtain ⟨k0, hk0⟩ : ∃ k0, k0 = zst k 0 0 0 := ⟨_, rfl⟩
  have hk0' : zst k 0 0 (nI 0) = k0 := hk0.symm
  rw [← hk0] at R0
  obtain ⟨C, P, n, m, M, -⟩ := qRel_M (β := (h, h)) R0
  have hC := M.1.2.2.1.1
  have hP := M.1.2.2.1.2.1
  obtain ⟨p1, p2, p3, p4, p5, p6, p7, p8⟩ := M.1.2.1
  obtain ⟨c6, c7⟩ := M.1.1
  have no : ∀ x y, x = some (nI 0, h) → y = some (nI 0, k0) → qCall x y := fun x y hx hy => ⟨nI 0, h, k0, hx, hy, R0⟩
  have eM : f_X11_set a b c k = (f_X11_canSet a b c k0).bind fun x2 => (if x2.1 = 0 then some ((0 : Int32), x2.2) else (if a = 0 then zix b 10 (zlt (zst x2.2 4 b.toNatClampNeg c) fun h3 => f_X11_set_28 a b c h3) else f_X11_set_28 a b c x2.2)) := by rw [hk0]; rfl
  rw [eM]
  unfold f_X10_set f_X3_forget
  by_cases e0 : a = 0
  · subst e0
    have eX : f_X10_mayBeSet 0 b c h = (f_X4_isChair 2 b h).bind fun x2 => (if x2.1 = 0 then some ((0 : Int32), x2.2) else (f_X10_within c (9 : Int32) x2.2).bind fun x3 => (if x3.1 = 0 then some ((0 : Int32), x3.2) else some ((1 : Int32), x3.2))) := by unfold f_X10_mayBeSet; exact if_pos rfl
    have eN : f_X11_canSet 0 b c k0 = (f_X11_isChair b k0).bind fun x1 => (if x1.1 = 0 then some ((0 : Int32), x1.2) else (f_X11_isIn c (0 : Int32) (9 : Int32) x1.2).bind fun x2 => (if x2.1 = 0 then some ((0 : Int32), x2.2) else some ((1 : Int32), x2.2))) := by unfold f_X11_canSet; exact if_pos rfl
    rw [eX, eN]
    rcases (q_chrs M.1 b).symm with ⟨n1, n2⟩ | ⟨d, hd, rfl⟩
    · refine no _ _ ?_ ?_
      · simp (disch := omega) only [n1, ↓reduceIte, ↓qM_e, ↓q_rem, q_mod, q_modN, q_lit, q_nI, q_lt, q_bd, q_ix, q_dz, q_iflt, q_ifnlt, q_ifeq, q_ifne, q_ifM, q_ifMM, q_ifMlt, q_ifltM, nI_add, pk_mul, q_sub, q_div, q_cl, q_st_s, q_st_i, q_st_c, Nat.add_zero, Nat.zero_add]
      · simp (disch := omega) only [n2, ↓reduceIte, ↓qM_e, ↓q_rem, q_mod, q_modN, q_lit, q_nI, q_lt, q_bd, q_ix, q_dz, q_iflt, q_ifnlt, q_ifeq, q_ifne, q_ifM, q_ifMM, q_ifMlt, q_ifltM, nI_add, pk_mul, q_sub, q_div, q_cl, q_st_s, q_st_i, q_st_c, Nat.add_zero, Nat.zero_add]
    have iX := q_isCh hC M.1.2.1.1 hd
    have iM := q_isCM M.1.1.1 hC hd
    rcases q_rng 0 9 c (by omega) with o | ⟨v, -, hv, rfl⟩
    · have w1 := q_wiO (h := h) o
      have w2 := q_inO (h := k0) o
      refine no _ _ ?_ ?_
      · simp (disch := omega) only [iX, w1, ↓reduceIte, ↓qM_e, ↓q_rem, q_mod, q_modN, q_lit, q_nI, q_lt, q_bd, q_ix, q_dz, q_iflt, q_ifnlt, q_ifeq, q_ifne, q_ifM, q_ifMM, q_ifMlt, q_ifltM, nI_add, pk_mul, q_sub, q_div, q_cl, q_st_s, q_st_i, q_st_c, Nat.add_zero, Nat.zero_add]
      · simp (disch := omega) only [iM, w2, ↓reduceIte, ↓qM_e, ↓q_rem, q_mod, q_modN, q_lit, q_nI, q_lt, q_bd, q_ix, q_dz, q_iflt, q_ifnlt, q_ifeq, q_ifne, q_ifM, q_ifMM, q_ifMlt, q_ifltM, nI_add, pk_mul, q_sub, q_div, q_cl, q_st_s, q_st_i, q_st_c, Nat.add_zero, Nat.zero_add]
    have w1 := q_wiI (h := h) (a := v) (m := 9) hv (by omega)
    have w2 := q_inI (h := k0) (a := v) (lo := 0) (hi := 9) (Nat.zero_le v) hv (by omega)
    refine ⟨nI 1, zst (zst h 79 3 (nI 0)) 3 d (nI v), zst (zst k0 4 d (nI v)) 0 3 (nI 0), ?_, ?_, qRel_new R0 M.1.1 (Nat.le_refl C) (Nat.le_refl P) ⟨by rw [q_st_i (by omega), q_st_c (by omega)]; exact c6, by rw [q_st_i (by omega), q_st_c (by omega)]; exact c7⟩ ?_ (by rw [q_st_c (by omega), q_st_c (by omega)]; exact M.1.2.2.1) (fun a q1 q2 => by rw [q_st_c (by omega), q_st_c q2]) (by rw [q_st_c (by omega), q_st_c (by omega)]) (by rw [q_st_c (by omega), q_st_i (by omega)]) (by rw [q_st_c (by omega), q_st_s]) (fun a q1 q2 q3 q4 => by rw [q_st_c q1, q_st_c q3]) (fun i q1 q2 q3 q4 => by rw [q_st_i q2, q_st_c (by omega)]) q_st_s (by rw [q_st_c (by omega), q_st_c (by omega)])⟩
    · simp (disch := omega) only [iX, w1, ↓reduceIte, ↓qM_e, ↓q_rem, q_mod, q_modN, q_lit, q_nI, q_lt, q_bd, q_ix, q_dz, q_iflt, q_ifnlt, q_ifeq, q_ifne, q_ifM, q_ifMM, q_ifMlt, q_ifltM, nI_add, pk_mul, q_sub, q_div, q_cl, q_st_s, q_st_i, q_st_c, Nat.add_zero, Nat.zero_add]
    · simp only [f_X11_set_28, f_X11_set_40, f_X11_set_51]
      simp (disch := omega) only [iM, w2, ↓reduceIte, ↓qM_e, ↓q_rem, q_mod, q_modN, q_lit, q_nI, q_lt, q_bd, q_ix, q_dz, q_iflt, q_ifnlt, q_ifeq, q_ifne, q_ifM, q_ifMM, q_ifMlt, q_ifltM, nI_add, pk_mul, q_sub, q_div, q_cl, q_st_s, q_st_i, q_st_c, Nat.add_zero, Nat.zero_add]
    · refine ⟨?_, ?_, ?_, ?_, ?_, ?_, fun c hc => ?_, fun p hp => ?_⟩
      · simp (disch := omega) only [q_st_c]; exact p1
      · simp (disch := omega) only [q_st_c]; exact p2
      · simp (disch := omega) only [q_st_c]; exact p3
      · simp (disch := omega) only [q_st_c]; exact p4
      · simp (disch := omega) only [q_st_c]; exact p5
      · simp (disch := omega) only [q_st_c]; exact p6
      · by_cases y : c = d
        · subst y
          simp (disch := omega) only [q_st_c, q_st_s]
          exact ⟨trivial, (p7 c hc).2⟩
        · simp (disch := omega) only [q_st_c, q_st_i]
          exact p7 c hc
      · simp (disch := omega) only [q_st_c]
        exact p8 p hp
  by_cases e1 : a = 1
  · subst e1
    have eX : f_X10_mayBeSet 1 b c h = (f_X4_isPerson 2 b h).bind fun x2 => (if x2.1 = 0 then some ((0 : Int32), x2.2) else (f_X10_within c (9 : Int32) x2.2).bind fun x3 => (if x3.1 = 0 then some ((0 : Int32), x3.2) else some ((1 : Int32), x3.2))) := by unfold f_X10_mayBeSet; rw [if_neg e0]; exact if_pos rfl
    have eN : f_X11_canSet 1 b c k0 = (f_X11_isPerson b k0).bind fun x1 => (if x1.1 = 0 then some ((0 : Int32), x1.2) else (f_X11_isIn c (0 : Int32) (9 : Int32) x1.2).bind fun x2 => (if x2.1 = 0 then some ((0 : Int32), x2.2) else some ((1 : Int32), x2.2))) := by unfold f_X11_canSet; rw [if_neg e0]; exact if_pos rfl
    rw [eX, eN]
    rcases (q_pers M.1 b).symm with ⟨n1, n2⟩ | ⟨d, hd, rfl⟩
    · refine no _ _ ?_ ?_
      · simp (disch := omega) only [n1, ↓reduceIte, ↓qM_e, ↓q_rem, q_mod, q_modN, q_lit, q_nI, q_lt, q_bd, q_ix, q_dz, q_iflt, q_ifnlt, q_ifeq, q_ifne, q_ifM, q_ifMM, q_ifMlt, q_ifltM, nI_add, pk_mul, q_sub, q_div, q_cl, q_st_s, q_st_i, q_st_c, Nat.add_zero, Nat.zero_add]
      · simp (disch := omega) only [n2, ↓reduceIte, ↓qM_e, ↓q_rem, q_mod, q_modN, q_lit, q_nI, q_lt, q_bd, q_ix, q_dz, q_iflt, q_ifnlt, q_ifeq, q_ifne, q_ifM, q_ifMM, q_ifMlt, q_ifltM, nI_add, pk_mul, q_sub, q_div, q_cl, q_st_s, q_st_i, q_st_c, Nat.add_zero, Nat.zero_add]
    have iX := q_isPe hP M.1.2.1.2.1 hd
    have iM := q_isPM M.1.1.2 hP hd
    rcases q_rng 0 9 c (by omega) with o | ⟨v, -, hv, rfl⟩
    · have w1 := q_wiO (h := h) o
      have w2 := q_inO (h := k0) o
      refine no _ _ ?_ ?_
      · simp (disch := omega) only [iX, w1, ↓reduceIte, ↓qM_e, ↓q_rem, q_mod, q_modN, q_lit, q_nI, q_lt, q_bd, q_ix, q_dz, q_iflt, q_ifnlt, q_ifeq, q_ifne, q_ifM, q_ifMM, q_ifMlt, q_ifltM, nI_add, pk_mul, q_sub, q_div, q_cl, q_st_s, q_st_i, q_st_c, Nat.add_zero, Nat.zero_add]
      · simp (disch := omega) only [iM, w2, ↓reduceIte, ↓qM_e, ↓q_rem, q_mod, q_modN, q_lit, q_nI, q_lt, q_bd, q_ix, q_dz, q_iflt, q_ifnlt, q_ifeq, q_ifne, q_ifM, q_ifMM, q_ifMlt, q_ifltM, nI_add, pk_mul, q_sub, q_div, q_cl, q_st_s, q_st_i, q_st_c, Nat.add_zero, Nat.zero_add]
    have w1 := q_wiI (h := h) (a := v) (m := 9) hv (by omega)
    have w2 := q_inI (h := k0) (a := v) (lo := 0) (hi := 9) (Nat.zero_le v) hv (by omega)
    refine ⟨nI 1, zst (zst h 79 3 (nI 0)) 7 d (nI v), zst (zst k0 5 d (nI v)) 0 3 (nI 0), ?_, ?_, qRel_new R0 M.1.1 (Nat.le_refl C) (Nat.le_refl P) ⟨by rw [q_st_i (by omega), q_st_c (by omega)]; exact c6, by rw [q_st_i (by omega), q_st_c (by omega)]; exact c7⟩ ?_ (by rw [q_st_c (by omega), q_st_c (by omega)]; exact M.1.2.2.1) (fun a q1 q2 => by rw [q_st_c (by omega), q_st_c q2]) (by rw [q_st_c (by omega), q_st_c (by omega)]) (by rw [q_st_c (by omega), q_st_i (by omega)]) (by rw [q_st_c (by omega), q_st_s]) (fun a q1 q2 q3 q4 => by rw [q_st_c q1, q_st_c q4]) (fun i q1 q2 q3 q4 => by rw [q_st_i q2, q_st_c (by omega)]) q_st_s (by rw [q_st_c (by omega), q_st_c (by omega)])⟩
    · simp (disch := omega) only [iX, w1, ↓reduceIte, ↓qM_e, ↓q_rem, q_mod, q_modN, q_lit, q_nI, q_lt, q_bd, q_ix, q_dz, q_iflt, q_ifnlt, q_ifeq, q_ifne, q_ifM, q_ifMM, q_ifMlt, q_ifltM, nI_add, pk_mul, q_sub, q_div, q_cl, q_st_s, q_st_i, q_st_c, Nat.add_zero, Nat.zero_add]
    · simp only [f_X11_set_28, f_X11_set_40, f_X11_set_51]
      simp (disch := omega) only [iM, w2, ↓reduceIte, ↓qM_e, ↓q_rem, q_mod, q_modN, q_lit, q_nI, q_lt, q_bd, q_ix, q_dz, q_iflt, q_ifnlt, q_ifeq, q_ifne, q_ifM, q_ifMM, q_ifMlt, q_ifltM, nI_add, pk_mul, q_sub, q_div, q_cl, q_st_s, q_st_i, q_st_c, Nat.add_zero, Nat.zero_add]
    · refine ⟨?_, ?_, ?_, ?_, ?_, ?_, fun c hc => ?_, fun p hp => ?_⟩
      · simp (disch := omega) only [q_st_c]; exact p1
      · simp (disch := omega) only [q_st_c]; exact p2
      · simp (disch := omega) only [q_st_c]; exact p3
      · simp (disch := omega) only [q_st_c]; exact p4
      · simp (disch := omega) only [q_st_c]; exact p5
      · simp (disch := omega) only [q_st_c]; exact p6
      · simp (disch := omega) only [q_st_c]
        exact p7 c hc
      · by_cases y : p = d
        · subst y
          simp (disch := omega) only [q_st_c, q_st_s]
          exact ⟨trivial, (p8 p hp).2⟩
        · simp (disch := omega) only [q_st_c, q_st_i]
          exact p8 p hp
  by_cases e2 : a = 2
  · subst e2
    have eX : f_X10_mayBeSet 2 b c h = (f_X4_rocks 2 b h).bind fun x8 => (if x8.1 = 0 then some ((0 : Int32), x8.2) else (f_X10_within c (99 : Int32) x8.2).bind fun x9 => (if x9.1 = 0 then some ((0 : Int32), x9.2) else some ((1 : Int32), x9.2))) := by unfold f_X10_mayBeSet; rw [if_neg e0, if_neg e1]; exact if_pos rfl
    have eN : f_X11_canSet 2 b c k0 = (f_X11_isChair b k0).bind fun x5 => (if x5.1 = 0 then some ((0 : Int32), x5.2) else (f_X11_doesRock b x5.2).bind fun x6 => (if x6.1 = 0 then some ((0 : Int32), x6.2) else (f_X11_isIn c (0 : Int32) (99 : Int32) x6.2).bind fun x7 => (if x7.1 = 0 then some ((0 : Int32), x7.2) else some ((1 : Int32), x7.2)))) := by unfold f_X11_canSet; rw [if_neg e0, if_neg e1]; exact if_pos rfl
    rw [eX, eN]
    rcases (q_chrs M.1 b).symm with ⟨n1, n2⟩ | ⟨d, hd, rfl⟩
    · have rX : f_X4_rocks 2 b h = some (nI 0, h) := by
        unfold f_X4_rocks
        rw [n1, q_bd]; exact if_pos rfl
      refine no _ _ ?_ ?_
      · simp (disch := omega) only [rX, ↓reduceIte, ↓qM_e, ↓q_rem, q_mod, q_modN, q_lit, q_nI, q_lt, q_bd, q_ix, q_dz, q_iflt, q_ifnlt, q_ifeq, q_ifne, q_ifM, q_ifMM, q_ifMlt, q_ifltM, nI_add, pk_mul, q_sub, q_div, q_cl, q_st_s, q_st_i, q_st_c, Nat.add_zero, Nat.zero_add]
      · simp (disch := omega) only [n2, ↓reduceIte, ↓qM_e, ↓q_rem, q_mod, q_modN, q_lit, q_nI, q_lt, q_bd, q_ix, q_dz, q_iflt, q_ifnlt, q_ifeq, q_ifne, q_ifM, q_ifMM, q_ifMlt, q_ifltM, nI_add, pk_mul, q_sub, q_div, q_cl, q_st_s, q_st_i, q_st_c, Nat.add_zero, Nat.zero_add]
    obtain ⟨s, f, t, a1, a2, a3, a4, a5, a6, a7, a8, -⟩ := q_chair M.1 hd
    have iM := q_isCM M.1.1.1 hC hd
    have rX := q_rocksX hC M.1.2.1.1 hd a7 (by omega)
    have rM := q_rocksM (k := k0) (c := d) (by omega) a4 (by omega)
    rcases Nat.eq_zero_or_pos s with z | z
    · rw [if_neg (by omega)] at rX rM
      refine no _ _ ?_ ?_
      · simp (disch := omega) only [rX, ↓reduceIte, ↓qM_e, ↓q_rem, q_mod, q_modN, q_lit, q_nI, q_lt, q_bd, q_ix, q_dz, q_iflt, q_ifnlt, q_ifeq, q_ifne, q_ifM, q_ifMM, q_ifMlt, q_ifltM, nI_add, pk_mul, q_sub, q_div, q_cl, q_st_s, q_st_i, q_st_c, Nat.add_zero, Nat.zero_add]
      · simp (disch := omega) only [iM, rM, ↓reduceIte, ↓qM_e, ↓q_rem, q_mod, q_modN, q_lit, q_nI, q_lt, q_bd, q_ix, q_dz, q_iflt, q_ifnlt, q_ifeq, q_ifne, q_ifM, q_ifMM, q_ifMlt, q_ifltM, nI_add, pk_mul, q_sub, q_div, q_cl, q_st_s, q_st_i, q_st_c, Nat.add_zero, Nat.zero_add]
    rw [if_pos z] at rX rM
    rcases q_rng 0 99 c (by omega) with o | ⟨v, -, hv, rfl⟩
    · have w1 := q_wiO (h := h) o
      have w2 := q_inO (h := k0) o
      refine no _ _ ?_ ?_
      · simp (disch := omega) only [rX, w1, ↓reduceIte, ↓qM_e, ↓q_rem, q_mod, q_modN, q_lit, q_nI, q_lt, q_bd, q_ix, q_dz, q_iflt, q_ifnlt, q_ifeq, q_ifne, q_ifM, q_ifMM, q_ifMlt, q_ifltM, nI_add, pk_mul, q_sub, q_div, q_cl, q_st_s, q_st_i, q_st_c, Nat.add_zero, Nat.zero_add]
      · simp (disch := omega) only [iM, rM, w2, ↓reduceIte, ↓qM_e, ↓q_rem, q_mod, q_modN, q_lit, q_nI, q_lt, q_bd, q_ix, q_dz, q_iflt, q_ifnlt, q_ifeq, q_ifne, q_ifM, q_ifMM, q_ifMlt, q_ifltM, nI_add, pk_mul, q_sub, q_div, q_cl, q_st_s, q_st_i, q_st_c, Nat.add_zero, Nat.zero_add]
    have w1 := q_wiI (h := h) (a := v) (m := 99) hv (by omega)
    have w2 := q_inI (h := k0) (a := v) (lo := 0) (hi := 99) (Nat.zero_le v) hv (by omega)
    obtain ⟨k4, hk4⟩ : ∃ k4, k4 = (if v = 0 then zst (zst k0 1 (5 + d) (nI v)) 1 (15 + d) (nI 0) else zst k0 1 (5 + d) (nI v)) := ⟨_, rfl⟩
    have k4x : ∀ a, a ≠ 1 → k4 a = k0 a := by
      intro a ha
      rw [hk4]
      split <;> simp (disch := omega) only [q_st_c]
    have k4i : ∀ i, i ≠ 5 + d → i ≠ 15 + d → k4 1 i = k0 1 i := by
      intro i i1 i2
      rw [hk4]
      split <;> simp (disch := omega) only [q_st_i]
    have k4a : k4 1 (5 + d) = nI v := by
      rw [hk4]
      split <;> simp (disch := omega) only [q_st_s, q_st_i]
    have k4b : k4 1 (15 + d) = if v = 0 then nI 0 else nI f := by
      rw [hk4]
      split
      · rw [q_st_s]
      · rw [q_st_i (by omega)]; exact a5
    obtain ⟨-, -, -, -, -, -, hf0, ht0⟩ := (⟨trivial, trivial, trivial, trivial, trivial, trivial, (show f = 0 ↔ s = 0 from by obtain ⟨s', f', t', x1, x2, x3, x4, x5, x6, x7, x8, x9, x10, x11, x12⟩ := q_chair M.1 hd; have e1 := (nI_eq (by omega) (by omega)).mp (x4.symm.trans a4); have e2 := (nI_eq (by omega) (by omega)).mp (x5.symm.trans a5); rw [← e1, ← e2]; exact x10), (show 0 < t → s = 0 from by obtain ⟨s', f', t', x1, x2, x3, x4, x5, x6, x7, x8, x9, x10, x11, x12⟩ := q_chair M.1 hd; have e1 := (nI_eq (by omega) (by omega)).mp (x4.symm.trans a4); have e2 := (nI_eq (by omega) (by omega)).mp (x6.symm.trans a6); rw [← e1, ← e2]; exact x11)⟩ : True ∧ True ∧ True ∧ True ∧ True ∧ True ∧ (f = 0 ↔ s = 0) ∧ (0 < t → s = 0))
    have M4 := qMn_rock (v := v) (f := f) (k' := k4) M hd hv a2 (by omega) (by rw [a6, show t = 0 by omega]) rfl k4x k4i k4a k4b
    have a8' : h 5 d = nI f - 1 := a8
    have sX := q_rockX (h := zst h 79 3 (nI 0)) (o := 2) (c := d) (v := v) (a := nI f - 1) (by omega) (by omega)
    have sM := q_swM (k := k0) (c := d) (v := v) (by omega) (by omega)
    have sM' : f_X11_swings (nI d) (nI v) k0 = some k4 := by rw [sM, hk4]; rfl
    obtain ⟨x, hx⟩ : ∃ x : Int32, x = (if 0 < v then nI f - 1 else -1) := ⟨_, rfl⟩
    rw [← hx] at M4 sX
    obtain ⟨g, hg⟩ : ∃ g : Int32, g = nI f - 1 := ⟨_, rfl⟩
    rw [← hg] at a8' sX
    refine ⟨nI 1, zst (zst (zst h 79 3 (nI 0)) 4 d (nI v)) 5 d x, zst k4 0 3 (nI 0), ?_, ?_, qRel_new R0 M.1.1 (Nat.le_refl C) (Nat.le_refl P) ⟨by rw [q_st_i (by omega), k4x 0 (by omega)]; exact c6, by rw [q_st_i (by omega), k4x 0 (by omega)]; exact c7⟩ ?_ (by rw [q_st_c (by omega)]; exact M4.1.2.2.1) (fun a q1 q2 => by rw [q_st_c (by omega), q_st_c (by omega), q_st_c q2]) (by rw [q_st_c (by omega), q_st_c (by omega), q_st_c (by omega)]) (by rw [q_st_c (by omega), q_st_c (by omega), q_st_i (by omega)]) (by rw [q_st_c (by omega), q_st_c (by omega), q_st_s]) (fun a q1 q2 q3 q4 => by rw [q_st_c q1, k4x a q2]) (fun i q1 q2 q3 q4 => by rw [q_st_i q2, k4x 0 (by omega)]) q_st_s (by rw [q_st_c (by omega), k4i 2 (by omega) (by omega)])⟩
    · have sX' : f_X4_rock 2 (nI d) (nI v) g (zst h 79 3 (nI 0)) = some (zst (zst (zst h 79 3 (nI 0)) 4 d (nI v)) 5 d x) := sX
      simp (disch := omega) only [rX, w1, a8', sX', ↓reduceIte, ↓qM_e, ↓q_rem, q_mod, q_modN, q_lit, q_nI, q_lt, q_bd, q_ix, q_dz, q_iflt, q_ifnlt, q_ifeq, q_ifne, q_ifM, q_ifMM, q_ifMlt, q_ifltM, nI_add, pk_mul, q_sub, q_div, q_cl, q_st_s, q_st_i, q_st_c, Nat.add_zero, Nat.zero_add]
    · simp only [f_X11_set_28, f_X11_set_40, f_X11_set_51]
      simp (disch := omega) only [iM, rM, w2, sM', ↓reduceIte, ↓qM_e, ↓q_rem, q_mod, q_modN, q_lit, q_nI, q_lt, q_bd, q_ix, q_dz, q_iflt, q_ifnlt, q_ifeq, q_ifne, q_ifM, q_ifMM, q_ifMlt, q_ifltM, nI_add, pk_mul, q_sub, q_div, q_cl, q_st_s, q_st_i, q_st_c, Nat.add_zero, Nat.zero_add]
    · rw [q_st_c (by omega), q_st_c (by omega), q_st_c (by omega)]
      refine qPo_c hC hP (fun a q1 q2 => ?_) (fun _ _ => rfl) (fun _ _ => rfl) (fun _ _ => rfl) M4.1.2.1
      by_cases y5 : a = 5
      · subst y5
        funext i
        by_cases yi : i = d
        · rw [yi, q_st_s, q_st_s]
        · rw [q_st_i yi, q_st_i yi, q_st_c (by omega), q_st_c (by omega), q_st_c (by omega)]
      · rw [q_st_c y5, q_st_c y5]
        by_cases y4 : a = 4
        · subst y4
          funext i
          by_cases yi : i = d
          · rw [yi, q_st_s, q_st_s]
          · rw [q_st_i yi, q_st_i yi, q_st_c (by omega)]
        · rw [q_st_c y4, q_st_c y4, q_st_c (by omega)]
  by_cases e3 : a = 3
  · subst e3
    have eX : f_X10_mayBeSet 3 b c h = (f_X10_within c (9 : Int32) h).bind fun x11 => zzb x11.1 (some (x11.1, x11.2)) := by unfold f_X10_mayBeSet; rw [if_neg e0, if_neg e1, if_neg e2]; exact if_pos rfl
    have eN : f_X11_canSet 3 b c k0 = (f_X11_isIn c (0 : Int32) (9 : Int32) k0).bind fun x8 => (if x8.1 = 0 then some ((0 : Int32), x8.2) else some ((1 : Int32), x8.2)) := by unfold f_X11_canSet; rw [if_neg e0, if_neg e1, if_neg e2]; exact if_pos rfl
    rw [eX, eN]
    rcases q_rng 0 9 c (by omega) with o | ⟨v, -, hv, rfl⟩
    · have w1 := q_wiO (h := h) o
      have w2 := q_inO (h := k0) o
      refine no _ _ ?_ ?_
      · simp (disch := omega) only [w1, q_zzb, ↓reduceIte, ↓qM_e, ↓q_rem, q_mod, q_modN, q_lit, q_nI, q_lt, q_bd, q_ix, q_dz, q_iflt, q_ifnlt, q_ifeq, q_ifne, q_ifM, q_ifMM, q_ifMlt, q_ifltM, nI_add, pk_mul, q_sub, q_div, q_cl, q_st_s, q_st_i, q_st_c, Nat.add_zero, Nat.zero_add]
      · simp (disch := omega) only [w2, ↓reduceIte, ↓qM_e, ↓q_rem, q_mod, q_modN, q_lit, q_nI, q_lt, q_bd, q_ix, q_dz, q_iflt, q_ifnlt, q_ifeq, q_ifne, q_ifM, q_ifMM, q_ifMlt, q_ifltM, nI_add, pk_mul, q_sub, q_div, q_cl, q_st_s, q_st_i, q_st_c, Nat.add_zero, Nat.zero_add]
    have w1 := q_wiI (h := h) (a := v) (m := 9) hv (by omega)
    have w2 := q_inI (h := k0) (a := v) (lo := 0) (hi := 9) (Nat.zero_le v) hv (by omega)
    refine ⟨nI 1, zst (zst h 79 3 (nI 0)) 2 11 (nI v), zst (zst k0 1 3 (nI v)) 0 3 (nI 0), ?_, ?_, qRel_new R0 M.1.1 (Nat.le_refl C) (Nat.le_refl P) ⟨by rw [q_st_i (by omega), q_st_c (by omega)]; exact c6, by rw [q_st_i (by omega), q_st_c (by omega)]; exact c7⟩ ?_ ?_ (fun a q1 q2 => by rw [q_st_c (by omega), q_st_c q2]) (by rw [q_st_i (by omega), q_st_c (by omega)]) (by rw [q_st_c (by omega), q_st_i (by omega)]) (by rw [q_st_c (by omega), q_st_s]) (fun a q1 q2 q3 q4 => by rw [q_st_c q1, q_st_c q2]) (fun i q1 q2 q3 q4 => by rw [q_st_i q2, q_st_c (by omega)]) q_st_s (by rw [q_st_c (by omega), q_st_i (by omega)])⟩
    · simp (disch := omega) only [w1, q_zzb, ↓reduceIte, ↓qM_e, ↓q_rem, q_mod, q_modN, q_lit, q_nI, q_lt, q_bd, q_ix, q_dz, q_iflt, q_ifnlt, q_ifeq, q_ifne, q_ifM, q_ifMM, q_ifMlt, q_ifltM, nI_add, pk_mul, q_sub, q_div, q_cl, q_st_s, q_st_i, q_st_c, Nat.add_zero, Nat.zero_add]
    · simp only [f_X11_set_28, f_X11_set_40, f_X11_set_51]
      simp (disch := omega) only [w2, ↓reduceIte, ↓qM_e, ↓q_rem, q_mod, q_modN, q_lit, q_nI, q_lt, q_bd, q_ix, q_dz, q_iflt, q_ifnlt, q_ifeq, q_ifne, q_ifM, q_ifMM, q_ifMlt, q_ifltM, nI_add, pk_mul, q_sub, q_div, q_cl, q_st_s, q_st_i, q_st_c, Nat.add_zero, Nat.zero_add]
    · refine ⟨?_, ?_, ?_, ?_, ?_, ?_, fun c hc => ?_, fun p hp => ?_⟩
      · simp (disch := omega) only [q_st_c, q_st_i]; exact p1
      · simp (disch := omega) only [q_st_c, q_st_i]; exact p2
      · simp (disch := omega) only [q_st_c, q_st_s]
      · simp (disch := omega) only [q_st_c, q_st_i]; exact p4
      · simp (disch := omega) only [q_st_c, q_st_i]; exact p5
      · simp (disch := omega) only [q_st_c, q_st_i]; exact p6
      · simp (disch := omega) only [q_st_c, q_st_i]
        exact p7 c hc
      · simp (disch := omega) only [q_st_c, q_st_i]
        exact p8 p hp
    · refine qFine_c (fun i q1 q2 => ?_) M.1.2.2.1
      simp (disch := omega) only [q_st_c, q_st_i]
  refine no _ _ ?_ ?_
  · unfold f_X10_mayBeSet
    rw [if_neg e0, if_neg e1, if_neg e2, if_neg e3, q_bd]; exact if_pos rfl
  · unfold f_X11_canSet
    rw [if_neg e0, if_neg e1, if_neg e2, if_neg e3, q_bd]; exact if_pos rfl
end Qpers
