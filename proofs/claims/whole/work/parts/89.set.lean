/-! SETTING: a chair, a person, the state .. -/
section Qset
theorem qRel_new {h k h' k' : zHp} (R : qRel h k) {C P C' P' : Nat} (ch : qCh k C P) (hC : C ≤ C') (hP : P ≤ P') (ch' : qCh k' C' P') (po : qPo h' 2 (k' 1) (k' 4) (k' 5) C' P') (fi : qFine (k' 1) C' P') (e : ∀ a, ¬(2 ≤ a ∧ a ≤ 10) → a ≠ 79 → h' a = h a) (e0 : h' 2 0 = h 2 0) (e79 : h' 79 2 = h 79 2) (u0 : h' 79 3 = nI 0) (f : ∀ a, a ≠ 0 → a ≠ 1 → a ≠ 4 → a ≠ 5 → k' a = k a) (f0 : ∀ i, i ≠ 0 → i ≠ 3 → i ≠ 6 → i ≠ 7 → k' 0 i = k 0 i) (k3 : k' 0 3 = nI 0) (k12 : k' 1 2 = k 1 2) : qRel h' k' := by
  obtain ⟨⟨C0, P0, h1, ⟨h2, h3⟩, ⟨b0, ⟨b, b1, b2, b3⟩, b4⟩, h5, ⟨n, h6, h7⟩, ⟨n2, h8, h9⟩, ⟨n3, h10, h11⟩, h12⟩, ⟨u, m, C1, P1, nn, p1, p2, p3, p4, p5, p6, p7, p8⟩, ⟨t, t1, t2, t3, t4⟩, ⟨x1, x2, x3, x4, x5, x6, x7⟩, hI⟩ := R
  have hC' := fi.1
  have hP' := fi.2.1
  obtain ⟨rfl, rfl⟩ := qCh_u h1 ch h3.1 (by omega) h3.2.1 (by omega)
  have f38 : k' 38 = k 38 := f 38 (by omega) (by omega) (by omega) (by omega)
  refine ⟨⟨C', P', ch', ⟨po, fi⟩, ⟨by rw [e _ (by omega) (by omega)]; exact b0, ⟨b, b1, by rw [e _ (by omega) (by omega)]; exact b2, by rw [k12]; exact b3⟩, fun i hi => by rw [e _ (by omega) (by omega), f 6 (by omega) (by omega) (by omega) (by omega)]; exact b4 i hi⟩, ?_, ⟨n, by rw [f0 34 (by omega) (by omega) (by omega) (by omega)]; exact h6, ?_⟩, ⟨n2, by rw [f0 36 (by omega) (by omega) (by omega) (by omega)]; exact h8, ?_⟩, ⟨n3, by rw [f0 38 (by omega) (by omega) (by omega) (by omega)]; exact h10, ?_⟩, qTold_f (fun a q1 q2 => e a (by omega) (by omega)) (fun a q1 q2 => f a (by omega) (by omega) (by omega) (by omega)) (fun i q1 q2 => f0 i (by omega) (by omega) (by omega) (by omega)) h12⟩, ⟨0, m, C', P', b, by omega, p2, u0, k3, by rw [e79]; exact p5, ch', by rw [k12]; exact b3, fun j hj => by omega⟩, ⟨t, t1, ?_, ?_, fun i hi => ?_⟩, ⟨by rw [e0]; exact x1, ?_, ?_, ?_, ?_, ?_, ?_⟩, ?_⟩
  · have l1 := qLaw_c (h' := h') (fun a q1 q2 => e a (by omega) (by omega)) (qAs_rf k) h5
    obtain ⟨n2, sz, y⟩ := l1
    refine ⟨n2, sz, ?_⟩
    rw [f 9 (by omega) (by omega) (by omega) (by omega), f 10 (by omega) (by omega) (by omega) (by omega), f 11 (by omega) (by omega) (by omega) (by omega), f 12 (by omega) (by omega) (by omega) (by omega), f 13 (by omega) (by omega) (by omega) (by omega), f 14 (by omega) (by omega) (by omega) (by omega), f 15 (by omega) (by omega) (by omega) (by omega)]
    exact y
  · rw [f 17 (by omega) (by omega) (by omega) (by omega)]
    obtain ⟨y1, y2, y3, y4⟩ := h7
    refine ⟨by rw [e _ (by omega) (by omega)]; exact y1, by rw [e _ (by omega) (by omega)]; exact y2, y3, fun i hi => ?_⟩
    obtain ⟨mm, v, p, z1, z2, z3, z4, z5, z6, z7, z8, z9, z10⟩ := y4 i hi
    rw [e _ (by omega) (by omega)]
    refine ⟨mm, v, p, z1, z2, by omega, z4, z5, z6, z7, z8, z9, fun q => ?_⟩
    obtain ⟨c, c1, c2⟩ := z10 q
    exact ⟨c, by omega, c2⟩
  · rw [f 18 (by omega) (by omega) (by omega) (by omega)]
    obtain ⟨y1, y2, y3, y4⟩ := h9
    refine ⟨by rw [e _ (by omega) (by omega)]; exact y1, by rw [e _ (by omega) (by omega)]; exact y2, y3, fun i hi => ?_⟩
    obtain ⟨mm, z1, z2, z3, z4⟩ := y4 i hi
    rw [e _ (by omega) (by omega)]
    refine ⟨mm, z1, z2, z3, ?_⟩
    rcases z4 with ⟨c, c1, c2⟩ | z4
    · exact Or.inl ⟨c, by omega, c2⟩
    · exact Or.inr z4
  · rw [f 19 (by omega) (by omega) (by omega) (by omega)]
    obtain ⟨y1, y2, y3, y4, y5⟩ := h11
    refine ⟨by rw [e _ (by omega) (by omega)]; exact y1, by rw [e _ (by omega) (by omega)]; exact y2, y3, fun i hi => ?_, fun p hp => by rw [e _ (by omega) (by omega)]; exact y5 p hp⟩
    obtain ⟨x, y, z1, z2, z3⟩ := y4 i hi
    rw [e _ (by omega) (by omega)]
    exact ⟨x, y, by omega, by omega, z3⟩
  · rw [e 145 (by omega) (by omega)]; exact t2
  · rw [f0 12 (by omega) (by omega) (by omega) (by omega)]; exact t3
  · rw [e 146 (by omega) (by omega), f 7 (by omega) (by omega) (by omega) (by omega)]; exact t4 i hi
  · rw [e 136 (by omega) (by omega)]; exact x2
  · rw [e 157 (by omega) (by omega)]; exact x3
  · rw [f0 5 (by omega) (by omega) (by omega) (by omega)]; exact x4
  · intro i hi
    rw [f 8 (by omega) (by omega) (by omega) (by omega)]; exact x5 i hi
  · rw [e 145 (by omega) (by omega), f0 32 (by omega) (by omega) (by omega) (by omega)]; exact x6
  · rw [e 145 (by omega) (by omega), f0 33 (by omega) (by omega) (by omega) (by omega)]; exact x7
  · rw [e 0 (by omega) (by omega), f0 66 (by omega) (by omega) (by omega) (by omega), e 50 (by omega) (by omega), e 59 (by omega) (by omega), e 61 (by omega) (by omega), e 63 (by omega) (by omega)]
    rcases hI with q | ⟨q1, q2, q3⟩
    · exact Or.inl q
    · refine Or.inr ⟨q1, q2, qWh_c (fun a z1 z2 z3 => ?_) (qAs_un f38) q3⟩
      exact e a (by omega) (by omega)
theorem q_call_state {h k : zHp} (R : qRel h k) (a : Int32) : qCall (f_X10_state a h) (f_X11_state a k) := by
  obtain ⟨C, P, n, m, M, -⟩ := qRel_M (β := (h, h)) R
  obtain ⟨p1, p2, p3, p4, p5, p6, p7, p8⟩ := M.1.2.1
  refine ⟨k 1 1, zst (zst h 2 14 a) 79 3 (nI 0), zst (zst (zst k 0 0 (nI 0)) 1 1 a) 0 3 (nI 0), ?_, ?_, qRel_new R M.1.1 (Nat.le_refl C) (Nat.le_refl P) ?_ ?_ ?_ (fun a q1 q2 => by rw [q_st_c q2, q_st_c (by omega)]) (by rw [q_st_c (by omega), q_st_i (by omega)]) (by rw [q_st_i (by omega), q_st_c (by omega)]) q_st_s (fun a q1 q2 q3 q4 => by rw [q_st_c q1, q_st_c q2, q_st_c q1]) (fun i q1 q2 q3 q4 => by rw [q_st_i q2, q_st_c (by omega), q_st_i q1]) q_st_s (by rw [q_st_c (by omega), q_st_i (by omega), q_st_c (by omega)])⟩
  · unfold f_X10_state f_X3_forget
    rw [q_lt, q_lt, q_lt, q_bd, p6]; rfl
  · unfold f_X11_state
    simp (disch := omega) only [↓reduceIte, ↓qM_e, ↓q_rem, q_mod, q_modN, q_lit, q_nI, q_lt, q_bd, q_ix, q_dz, q_iflt, q_ifnlt, q_ifeq, q_ifne, q_ifM, q_ifMM, q_ifMlt, q_ifltM, nI_add, pk_mul, q_sub, q_div, q_cl, q_st_s, q_st_i, q_st_c, Nat.add_zero, Nat.zero_add]
  · exact ⟨by rw [q_st_i (by omega), q_st_c (by omega), q_st_i (by omega)]; exact M.1.1.1, by rw [q_st_i (by omega), q_st_c (by omega), q_st_i (by omega)]; exact M.1.1.2⟩
  · have e1 : (zst (zst (zst k 0 0 (nI 0)) 1 1 a) 0 3 (nI 0)) 1 = (zst k 1 1 a) 1 := by
      funext i
      rw [q_st_c (by omega)]
      by_cases z : i = 1
      · rw [z, q_st_s, q_st_s]
      · rw [q_st_i z, q_st_i z, q_st_c (by omega)]
    have e4 : (zst (zst (zst k 0 0 (nI 0)) 1 1 a) 0 3 (nI 0)) 4 = k 4 := by rw [q_st_c (by omega), q_st_c (by omega), q_st_c (by omega)]
    have e5 : (zst (zst (zst k 0 0 (nI 0)) 1 1 a) 0 3 (nI 0)) 5 = k 5 := by rw [q_st_c (by omega), q_st_c (by omega), q_st_c (by omega)]
    rw [e1, e4, e5]
    refine ⟨?_, ?_, ?_, ?_, ?_, ?_, fun c hc => ?_, fun p hp => ?_⟩
    · rw [q_st_c (by omega), q_st_i (by omega)]; exact p1
    · rw [q_st_c (by omega), q_st_i (by omega)]; exact p2
    · rw [q_st_c (by omega), q_st_i (by omega), q_st_i (by omega)]; exact p3
    · rw [q_st_c (by omega), q_st_i (by omega), q_st_i (by omega)]; exact p4
    · rw [q_st_c (by omega), q_st_i (by omega), q_st_i (by omega)]; exact p5
    · rw [q_st_c (by omega), q_st_s, q_st_s]
    · simp (disch := omega) only [q_st_c, q_st_i]
      exact p7 c hc
    · simp (disch := omega) only [q_st_c, q_st_i]
      exact p8 p hp
  · refine qFine_c (fun i q1 q2 => ?_) M.1.2.2.1
    simp (disch := omega) only [q_st_c, q_st_i]
theorem q_call_chair {h k : zHp} (R : qRel h k) (a : Int32) : qCall (f_X10_chair a h) (f_X11_chair a k) := by
  have R0 : qRel h (zst k 0 0 0) := qRel_s (qXs_rf h) (qMs_s0 k) R
  obtain ⟨k0, hk0⟩ : ∃ k0, k0 = zst k 0 0 0 := ⟨_, rfl⟩
  have hk0' : zst k 0 0 (nI 0) = k0 := hk0.symm
  rw [← hk0] at R0
  obtain ⟨C, P, n, m, M, -⟩ := qRel_M (β := (h, h)) R0
  have hC := M.1.2.2.1.1
  have hP := M.1.2.2.1.2.1
  obtain ⟨p1, p2, p3, p4, p5, p6, p7, p8⟩ := M.1.2.1
  obtain ⟨c6, c7⟩ := M.1.1
  have stay : ∀ x y, x = some ((-1 : Int32), h) → y = some ((-1 : Int32), k0) → qCall x y := fun x y hx hy => ⟨-1, h, k0, hx, hy, R0⟩
  rcases q_rng 0 9 a (by omega) with o | ⟨v, -, hv, rfl⟩
  · have w1 := q_wiO (h := h) o
    have w2 := q_inO (h := k0) o
    refine stay _ _ ?_ ?_
    · unfold f_X10_chair
      simp (disch := omega) only [w1, ↓reduceIte, ↓qM_e, ↓q_rem, q_mod, q_modN, q_lit, q_nI, q_lt, q_bd, q_ix, q_dz, q_iflt, q_ifnlt, q_ifeq, q_ifne, q_ifM, q_ifMM, q_ifMlt, q_ifltM, nI_add, pk_mul, q_sub, q_div, q_cl, q_st_s, q_st_i, q_st_c, Nat.add_zero, Nat.zero_add]
    · unfold f_X11_chair
      simp (disch := omega) only [hk0', w2, ↓reduceIte, ↓qM_e, ↓q_rem, q_mod, q_modN, q_lit, q_nI, q_lt, q_bd, q_ix, q_dz, q_iflt, q_ifnlt, q_ifeq, q_ifne, q_ifM, q_ifMM, q_ifMlt, q_ifltM, nI_add, pk_mul, q_sub, q_div, q_cl, q_st_s, q_st_i, q_st_c, Nat.add_zero, Nat.zero_add]
  have w1 := q_wiI (h := h) (a := v) (m := 9) hv (by omega)
  have w2 := q_inI (h := k0) (a := v) (lo := 0) (hi := 9) (Nat.zero_le v) hv (by omega)
  rcases Nat.lt_or_ge C 10 with z | z
  · have hx : ∀ a, ¬(2 ≤ a ∧ a ≤ 10) → a ≠ 79 → (zst (zst (zst (zst (zst (zst h 79 3 (nI 0)) 3 C (nI v)) 6 C qM) 4 C (nI 0)) 5 C qM) 2 9 (nI (C + 1))) a = h a := fun a q1 q2 => by simp (disch := omega) only [q_st_c]
    refine ⟨nI C, zst (zst (zst (zst (zst (zst h 79 3 (nI 0)) 3 C (nI v)) 6 C qM) 4 C (nI 0)) 5 C qM) 2 9 (nI (C + 1)), zst (zst (zst (zst (zst (zst k0 4 C (nI v)) 1 (5 + C) (nI 0)) 1 (15 + C) (nI 0)) 1 (25 + C) (nI 0)) 0 6 (nI (C + 1))) 0 3 (nI 0), ?_, ?_, qRel_new R0 M.1.1 (show C ≤ C + 1 by omega) (Nat.le_refl P) ?_ ?_ ?_ hx (by simp (disch := omega) only [q_st_c, q_st_i]) (by simp (disch := omega) only [q_st_c, q_st_i]) (by simp (disch := omega) only [q_st_c, q_st_s]) (fun a q1 q2 q3 q4 => by simp (disch := omega) only [q_st_c]) (fun i q1 q2 q3 q4 => by simp (disch := omega) only [q_st_c, q_st_i]) q_st_s (by simp (disch := omega) only [q_st_c, q_st_i])⟩
    · have e1 : nI (C + 1) - nI 1 = nI C := nI_pred C
      simp only [f_X10_chair, f_X3_forget, f_X4_addChair, f_X4_rock]
      simp (disch := omega) only [w1, p1, e1, ↓reduceIte, ↓qM_e, ↓q_rem, q_mod, q_modN, q_lit, q_nI, q_lt, q_bd, q_ix, q_dz, q_iflt, q_ifnlt, q_ifeq, q_ifne, q_ifM, q_ifMM, q_ifMlt, q_ifltM, nI_add, pk_mul, q_sub, q_div, q_cl, q_st_s, q_st_i, q_st_c, Nat.add_zero, Nat.zero_add]
    · have e1 : nI (C + 1) - nI 1 = nI C := nI_pred C
      unfold f_X11_chair
      simp (disch := omega) only [hk0', w2, c6, e1, ↓reduceIte, ↓qM_e, ↓q_rem, q_mod, q_modN, q_lit, q_nI, q_lt, q_bd, q_ix, q_dz, q_iflt, q_ifnlt, q_ifeq, q_ifne, q_ifM, q_ifMM, q_ifMlt, q_ifltM, nI_add, pk_mul, q_sub, q_div, q_cl, q_st_s, q_st_i, q_st_c, Nat.add_zero, Nat.zero_add]
    · exact ⟨by simp (disch := omega) only [q_st_s, q_st_i], by simp (disch := omega) only [q_st_c, q_st_i]; exact c7⟩
    · refine ⟨q_st_s, ?_, ?_, ?_, ?_, ?_, fun c hc => ?_, fun p hp => ?_⟩
      · simp (disch := omega) only [q_st_c, q_st_i]; exact p2
      · simp (disch := omega) only [q_st_c, q_st_i]; exact p3
      · simp (disch := omega) only [q_st_c, q_st_i]; exact p4
      · simp (disch := omega) only [q_st_c, q_st_i]; exact p5
      · simp (disch := omega) only [q_st_c, q_st_i]; exact p6
      · by_cases y : c = C
        · subst y
          refine ⟨?_, ?_, ?_, ?_⟩
          · simp (disch := omega) only [q_st_c, q_st_i, q_st_s]
          · simp (disch := omega) only [q_st_c, q_st_i, q_st_s]
          · simp (disch := omega) only [q_st_c, q_st_i, q_st_s]; rfl
          · simp (disch := omega) only [q_st_c, q_st_i, q_st_s]; rfl
        · simp (disch := omega) only [q_st_c, q_st_i]
          exact p7 c (by omega)
      · simp (disch := omega) only [q_st_c, q_st_i]
        exact p8 p hp
    · obtain ⟨S, F, T, W, Rw, N⟩ := qFine_N M.1.2.2.1
      obtain ⟨-, -, N3, N4, N5⟩ := id N
      refine qFine_of (S := fun d => if d = C then 0 else S d) (F := fun d => if d = C then 0 else F d) (T := fun d => if d = C then 0 else T d) (W := W) ⟨fun d hd => ?_, fun q hq => ?_⟩ ⟨by omega, hP, fun d hd => ?_, fun d q hd hq e => ?_, fun q hq => ⟨(N5 q hq).1, fun e => ?_⟩⟩
      · dsimp only
        by_cases y : d = C
        · subst y
          rw [if_pos rfl, if_pos rfl, if_pos rfl]
          refine ⟨?_, ?_, ?_⟩ <;> simp (disch := omega) only [q_st_c, q_st_i, q_st_s]
        · rw [if_neg y, if_neg y, if_neg y]
          simp (disch := omega) only [q_st_c, q_st_i]
          exact Rw.1 d (by omega)
      · simp (disch := omega) only [q_st_c, q_st_i]
        exact Rw.2 q hq
      · dsimp only
        by_cases y : d = C
        · rw [if_pos y, if_pos y, if_pos y]; omega
        · rw [if_neg y, if_neg y, if_neg y]; exact N3 d (by omega)
      · dsimp only at e ⊢
        by_cases y : d = C
        · rw [if_pos y] at e; omega
        · rw [if_neg y] at e
          obtain ⟨w1, w2⟩ := N4 d q (by omega) hq e
          refine ⟨w1, fun d' hd' e' => ?_⟩
          by_cases y' : d' = C
          · rw [if_pos y'] at e'; omega
          · rw [if_neg y'] at e'; exact w2 d' (by omega) e'
      · dsimp only
        obtain ⟨d, d1, d2⟩ := (N5 q hq).2 e
        exact ⟨d, by omega, by rw [if_neg (by omega)]; exact d2⟩
  · have hc10 : C = 10 := by omega
    subst hc10
    refine stay _ _ ?_ ?_
    · unfold f_X10_chair
      simp (disch := omega) only [w1, p1, ↓reduceIte, ↓qM_e, ↓q_rem, q_mod, q_modN, q_lit, q_nI, q_lt, q_bd, q_ix, q_dz, q_iflt, q_ifnlt, q_ifeq, q_ifne, q_ifM, q_ifMM, q_ifMlt, q_ifltM, nI_add, pk_mul, q_sub, q_div, q_cl, q_st_s, q_st_i, q_st_c, Nat.add_zero, Nat.zero_add]
    · unfold f_X11_chair
      simp (disch := omega) only [hk0', w2, c6, ↓reduceIte, ↓qM_e, ↓q_rem, q_mod, q_modN, q_lit, q_nI, q_lt, q_bd, q_ix, q_dz, q_iflt, q_ifnlt, q_ifeq, q_ifne, q_ifM, q_ifMM, q_ifMlt, q_ifltM, nI_add, pk_mul, q_sub, q_div, q_cl, q_st_s, q_st_i, q_st_c, Nat.add_zero, Nat.zero_add]
end Qset
