/-! LOOK -/
section Qlook
theorem q_rockSet {h k : zHp} {o C P : Nat} (X : qCtx h k o C P) : ∃ S, f_X4_rockingSet o h = some (nI S, h) ∧ f_X11_rockSet k = some (nI S, k) := by
  have hC := X.2.2.1.1
  have g9 : h o 9 = nI C := X.2.1.1
  have g6 : k 0 6 = nI C := X.1.1
  unfold f_X4_rockingSet f_X4_rockingSet_4_lp f_X11_rockSet f_X11_rockSet_4_lp
  refine q_exit2 (b1 := fun k4 v => f_X4_rockingSet_4 o k4 v.1 v.2.1 v.2.2) (b2 := fun k4 v => f_X11_rockSet_4 k4 v.1 v.2.1 v.2.2) (I := fun i v u => ∃ S, v = (nI S, nI i, h) ∧ u = (nI S, nI i, k)) C (Q := fun x y => ∃ S, x = some (nI S, h) ∧ y = some (nI S, k)) (fun i v u hi hI => Or.inl ?_) (fun v u hI => ?_) _ _ ⟨0, rfl, rfl⟩ zN zN (by rw [q_zN]; omega) (by rw [q_zN]; omega)
  · obtain ⟨S, rfl, rfl⟩ := hI
    obtain ⟨s, f, t, a1, a2, a3, a4, a5, a6, a7, a8, a9, a10, a11, a12⟩ := q_chair X hi
    have rX := q_rocksX hC g9 hi a7 (by omega)
    have rM := q_rocksM (k := k) (c := i) (by omega) a4 (by omega)
    rcases Nat.eq_zero_or_pos s with y | y
    · rw [if_neg (show ¬ 0 < s by omega)] at rX rM
      refine ⟨(nI S, nI (i + 1), h), (nI S, nI (i + 1), k), fun rec => ?_, fun rec => ?_, _, rfl, rfl⟩
      · simp only [f_X4_rockingSet_4]
        simp (disch := omega) only [g9, rX, ↓reduceIte, ↓qM_e, ↓q_rem, q_mod, q_modN, q_lit, q_nI, q_lt, q_bd, q_ix, q_dz, q_iflt, q_ifnlt, q_ifeq, q_ifne, q_ifM, q_ifMM, q_ifMlt, q_ifltM, nI_add, pk_mul, q_sub, q_div, q_cl, q_st_s, q_st_i, q_st_c, Nat.add_zero, Nat.zero_add]
      · simp only [f_X11_rockSet_4]
        simp (disch := omega) only [g6, rM, ↓reduceIte, ↓qM_e, ↓q_rem, q_mod, q_modN, q_lit, q_nI, q_lt, q_bd, q_ix, q_dz, q_iflt, q_ifnlt, q_ifeq, q_ifne, q_ifM, q_ifMM, q_ifMlt, q_ifltM, nI_add, pk_mul, q_sub, q_div, q_cl, q_st_s, q_st_i, q_st_c, Nat.add_zero, Nat.zero_add]
    · rw [if_pos y] at rX rM
      refine ⟨(nI (S ||| 2 ^ i), nI (i + 1), h), (nI (S ||| 2 ^ i), nI (i + 1), k), fun rec => ?_, fun rec => ?_, _, rfl, rfl⟩
      · simp only [f_X4_rockingSet_4]
        simp (disch := omega) only [g9, rX, q_shl1, fa_or, ↓reduceIte, ↓qM_e, ↓q_rem, q_mod, q_modN, q_lit, q_nI, q_lt, q_bd, q_ix, q_dz, q_iflt, q_ifnlt, q_ifeq, q_ifne, q_ifM, q_ifMM, q_ifMlt, q_ifltM, nI_add, pk_mul, q_sub, q_div, q_cl, q_st_s, q_st_i, q_st_c, Nat.add_zero, Nat.zero_add]
      · simp only [f_X11_rockSet_4]
        simp (disch := omega) only [g6, rM, q_shl1, fa_or, ↓reduceIte, ↓qM_e, ↓q_rem, q_mod, q_modN, q_lit, q_nI, q_lt, q_bd, q_ix, q_dz, q_iflt, q_ifnlt, q_ifeq, q_ifne, q_ifM, q_ifMM, q_ifMlt, q_ifltM, nI_add, pk_mul, q_sub, q_div, q_cl, q_st_s, q_st_i, q_st_c, Nat.add_zero, Nat.zero_add]
  · obtain ⟨S, rfl, rfl⟩ := hI
    refine ⟨some (nI S, h), some (nI S, k), fun rec => ?_, fun rec => ?_, S, rfl, rfl⟩
    · simp only [f_X4_rockingSet_4]
      rw [g9, q_ifF (nI_nlt (Nat.le_refl C) (by omega))]
    · simp only [f_X11_rockSet_4]
      rw [g6, q_ifF (nI_nlt (Nat.le_refl C) (by omega))]
theorem q_awaySet {h k : zHp} {o C P : Nat} (X : qCtx h k o C P) : ∃ S A, f_X4_awaySet o h = some (nI A, h) ∧ f_X11_hereSet k = some (nI S, k) ∧ nI (2 ^ P - 1) &&& (nI S ^^^ qM) = nI A := by
  have hP := X.2.2.1.2.1
  obtain ⟨p1, p2, p3, p4, p5, p6, p7, p8⟩ := X.2.1
  have h2P : 2 ^ P ≤ 2 ^ 14 := Nat.pow_le_pow_right (by omega) hP
  have hpos : 0 < 2 ^ P := Nat.pow_pos (by omega)
  have haw := q_awayX (h := h) (o := o) hP p2
  have hset := qSet_lt (fun i => decide (h (o + 6) i = 0)) P
  have hset2 := qSet_lt (fun i => decide (k 1 (35 + i) ≠ 0)) P
  have eset : qSet (fun i => decide (k 1 (35 + i) ≠ 0)) P = qSet (fun i => !(fun i => decide (h (o + 6) i = 0)) i) P := by
    refine qSet_congr P (fun i hi => ?_)
    show decide (k 1 (35 + i) ≠ 0) = !(decide (h (o + 6) i = 0))
    rw [(p8 i hi).2.1]
    simp
  have mi := q_minus (m := 2 ^ P - 1) (a := qSet (fun i => decide (k 1 (35 + i) ≠ 0)) P) (n := P) (by omega) (by omega) (fun i => decide (h (o + 6) i = 0)) (by omega) eset
  refine ⟨_, _, haw, q_hereM hP X.1.2, mi.trans ?_⟩
  rw [Nat.and_comm, Nat.and_two_pow_sub_one_eq_mod, Nat.mod_eq_of_lt hset]
theorem q_call_look {h k : zHp} (R : qRel h k) (a : Int32) : qCall (f_X10_look a h) (f_X11_look a k) := by
  have R0 : qRel h (zst k 0 0 0) := qRel_s (qXs_rf h) (qMs_s0 k) R
  refine q_th_ask R ?_
  obtain ⟨k0, hk0⟩ : ∃ k0, k0 = zst k 0 0 0 := ⟨_, rfl⟩
  rw [← hk0] at R0 ⊢
  obtain ⟨C, P, n, m, M, -⟩ := qRel_M (β := (h, h)) R0
  have hC := M.1.2.2.1.1
  have hP := M.1.2.2.1.2.1
  have h2P : 2 ^ P ≤ 2 ^ 14 := Nat.pow_le_pow_right (by omega) hP
  have hpos : 0 < 2 ^ P := Nat.pow_pos (by omega)
  obtain ⟨p1, p2, p3, p4, p5, p6, p7, p8⟩ := M.1.2.1
  obtain ⟨c6, c7⟩ := M.1.1
  obtain ⟨b0, ⟨b, b1, b2, b3⟩, b4⟩ := M.2.1
  have b2' : h 11 2 = nI b := b2
  obtain ⟨⟨C', P', -, -, -, ⟨nl, sz, -, -, l3, l4, -⟩, ⟨n1, k34, hc⟩, ⟨n2, k36, hh⟩, ⟨n3, k38, hk⟩, -⟩, ⟨u, mm, -, -, -, -, -, u1, u2, -⟩, -⟩ := R0
  have l3' : h 13 7 = nI nl := l3
  have g20 : h 20 2 = nI n1 := hc.2.1
  have g22 : h 22 2 = nI n2 := hh.2.1
  have g24 : h 24 2 = nI n3 := hk.2.1
  have stay : ∀ v x y, x = some (v, h) → y = some (v, k0) → qAsk h k0 x y := fun v x y hx hy => ⟨v, h, k0, hx, hy, qXs_rf h, qMs_rf _⟩
  have eM : ∀ y : zHp → Option (Int32 × zHp), (zlt (zst k 0 0 (0 : Int32)) fun h1 => y h1) = y k0 := fun y => by rw [hk0]; rfl
  unfold f_X10_look f_X11_look f_X4_show
  rw [eM]
  rcases q_rng 0 14 a (by omega) with o | ⟨j, -, hj, rfl⟩
  · have ne : ∀ j, j ≤ 14 → ¬ a = nI j := by
      intro j hj e
      subst e
      rcases o with o | o
      · exact nI_pos (by omega) o
      · exact nI_nlt (a := 14) hj (by omega) o
    refine stay (-100000) _ _ ?_ ?_
    · rw [if_neg (show ¬ a = (8 : Int32) from ne 8 (by omega)), if_neg (show ¬ a = (9 : Int32) from ne 9 (by omega)), if_neg (show ¬ a = (10 : Int32) from ne 10 (by omega)), if_neg (show ¬ a = (11 : Int32) from ne 11 (by omega)), if_neg (show ¬ a = (12 : Int32) from ne 12 (by omega)), if_neg (show ¬ a = (13 : Int32) from ne 13 (by omega)), if_neg (show ¬ a = (14 : Int32) from ne 14 (by omega)), if_neg (show ¬ a = (0 : Int32) from ne 0 (by omega)), if_neg (show ¬ a = (1 : Int32) from ne 1 (by omega)), if_neg (show ¬ a = (2 : Int32) from ne 2 (by omega)), if_neg (show ¬ a = (3 : Int32) from ne 3 (by omega)), if_neg (show ¬ a = (4 : Int32) from ne 4 (by omega)), if_neg (show ¬ a = (5 : Int32) from ne 5 (by omega)), if_neg (show ¬ a = (6 : Int32) from ne 6 (by omega)), if_neg (show ¬ a = (7 : Int32) from ne 7 (by omega)), if_neg (show ¬ a = (8 : Int32) from ne 8 (by omega)), if_neg (show ¬ a = (9 : Int32) from ne 9 (by omega)), q_bd]
    · rw [if_neg (show ¬ a = (0 : Int32) from ne 0 (by omega)), if_neg (show ¬ a = (1 : Int32) from ne 1 (by omega)), if_neg (show ¬ a = (2 : Int32) from ne 2 (by omega)), if_neg (show ¬ a = (3 : Int32) from ne 3 (by omega)), if_neg (show ¬ a = (4 : Int32) from ne 4 (by omega)), if_neg (show ¬ a = (5 : Int32) from ne 5 (by omega)), if_neg (show ¬ a = (6 : Int32) from ne 6 (by omega)), if_neg (show ¬ a = (7 : Int32) from ne 7 (by omega)), if_neg (show ¬ a = (8 : Int32) from ne 8 (by omega)), if_neg (show ¬ a = (9 : Int32) from ne 9 (by omega)), if_neg (show ¬ a = (10 : Int32) from ne 10 (by omega)), if_neg (show ¬ a = (11 : Int32) from ne 11 (by omega)), if_neg (show ¬ a = (12 : Int32) from ne 12 (by omega)), if_neg (show ¬ a = (13 : Int32) from ne 13 (by omega)), if_neg (show ¬ a = (14 : Int32) from ne 14 (by omega))]
  obtain ⟨S1, s1, s2⟩ := q_rockSet M.1
  obtain ⟨S2, -, s3, s4⟩ := q_freeSet M.1
  obtain ⟨S3, A, s5, s6, s7⟩ := q_awaySet M.1
  have eP : nI (2 ^ P) - nI 1 = nI (2 ^ P - 1) := q_sub (by omega)
  rcases (show j = 0 ∨ j = 1 ∨ j = 2 ∨ j = 3 ∨ j = 4 ∨ j = 5 ∨ j = 6 ∨ j = 7 ∨ j = 8 ∨ j = 9 ∨ j = 10 ∨ j = 11 ∨ j = 12 ∨ j = 13 ∨ j = 14 by omega) with rfl | rfl | rfl | rfl | rfl | rfl | rfl | rfl | rfl | rfl | rfl | rfl | rfl | rfl | rfl
  · refine stay (nI C) _ _ ?_ ?_
    · rw [if_neg (show ¬ nI 0 = (8 : Int32) by decide), if_neg (show ¬ nI 0 = (9 : Int32) by decide), if_neg (show ¬ nI 0 = (10 : Int32) by decide), if_neg (show ¬ nI 0 = (11 : Int32) by decide), if_neg (show ¬ nI 0 = (12 : Int32) by decide), if_neg (show ¬ nI 0 = (13 : Int32) by decide), if_neg (show ¬ nI 0 = (14 : Int32) by decide), if_pos (show nI 0 = (0 : Int32) from rfl), q_bd, p1]
    · rw [if_pos (show nI 0 = (0 : Int32) from rfl), c6]
  · refine stay (nI P) _ _ ?_ ?_
    · rw [if_neg (show ¬ nI 1 = (8 : Int32) by decide), if_neg (show ¬ nI 1 = (9 : Int32) by decide), if_neg (show ¬ nI 1 = (10 : Int32) by decide), if_neg (show ¬ nI 1 = (11 : Int32) by decide), if_neg (show ¬ nI 1 = (12 : Int32) by decide), if_neg (show ¬ nI 1 = (13 : Int32) by decide), if_neg (show ¬ nI 1 = (14 : Int32) by decide), if_neg (show ¬ nI 1 = (0 : Int32) by decide), if_pos (show nI 1 = (1 : Int32) from rfl), q_bd, p2]
    · rw [if_neg (show ¬ nI 1 = (0 : Int32) by decide), if_pos (show nI 1 = (1 : Int32) from rfl), c7]
  · refine stay (nI S1) _ _ ?_ ?_
    · rw [if_neg (show ¬ nI 2 = (8 : Int32) by decide), if_neg (show ¬ nI 2 = (9 : Int32) by decide), if_neg (show ¬ nI 2 = (10 : Int32) by decide), if_neg (show ¬ nI 2 = (11 : Int32) by decide), if_neg (show ¬ nI 2 = (12 : Int32) by decide), if_neg (show ¬ nI 2 = (13 : Int32) by decide), if_neg (show ¬ nI 2 = (14 : Int32) by decide), if_neg (show ¬ nI 2 = (0 : Int32) by decide), if_neg (show ¬ nI 2 = (1 : Int32) by decide), if_pos (show nI 2 = (2 : Int32) from rfl), s1, q_bd, q_bd]
    · rw [if_neg (show ¬ nI 2 = (0 : Int32) by decide), if_neg (show ¬ nI 2 = (1 : Int32) by decide), if_pos (show nI 2 = (2 : Int32) from rfl), s2, q_bd]
  · refine stay (nI S2) _ _ ?_ ?_
    · rw [if_neg (show ¬ nI 3 = (8 : Int32) by decide), if_neg (show ¬ nI 3 = (9 : Int32) by decide), if_neg (show ¬ nI 3 = (10 : Int32) by decide), if_neg (show ¬ nI 3 = (11 : Int32) by decide), if_neg (show ¬ nI 3 = (12 : Int32) by decide), if_neg (show ¬ nI 3 = (13 : Int32) by decide), if_neg (show ¬ nI 3 = (14 : Int32) by decide), if_neg (show ¬ nI 3 = (0 : Int32) by decide), if_neg (show ¬ nI 3 = (1 : Int32) by decide), if_neg (show ¬ nI 3 = (2 : Int32) by decide), if_pos (show nI 3 = (3 : Int32) from rfl), s3, q_bd, q_bd]
    · rw [if_neg (show ¬ nI 3 = (0 : Int32) by decide), if_neg (show ¬ nI 3 = (1 : Int32) by decide), if_neg (show ¬ nI 3 = (2 : Int32) by decide), if_pos (show nI 3 = (3 : Int32) from rfl), s4, q_bd]
  · refine stay (nI A) _ _ ?_ ?_
    · rw [if_neg (show ¬ nI 4 = (8 : Int32) by decide), if_neg (show ¬ nI 4 = (9 : Int32) by decide), if_neg (show ¬ nI 4 = (10 : Int32) by decide), if_neg (show ¬ nI 4 = (11 : Int32) by decide), if_neg (show ¬ nI 4 = (12 : Int32) by decide), if_neg (show ¬ nI 4 = (13 : Int32) by decide), if_neg (show ¬ nI 4 = (14 : Int32) by decide), if_neg (show ¬ nI 4 = (0 : Int32) by decide), if_neg (show ¬ nI 4 = (1 : Int32) by decide), if_neg (show ¬ nI 4 = (2 : Int32) by decide), if_neg (show ¬ nI 4 = (3 : Int32) by decide), if_pos (show nI 4 = (4 : Int32) from rfl), s5, q_bd, q_bd]
    · rw [if_neg (show ¬ nI 4 = (0 : Int32) by decide), if_neg (show ¬ nI 4 = (1 : Int32) by decide), if_neg (show ¬ nI 4 = (2 : Int32) by decide), if_neg (show ¬ nI 4 = (3 : Int32) by decide), if_pos (show nI 4 = (4 : Int32) from rfl), s6, q_bd]
      dsimp only
      rw [c7, show (1 : Int32) = nI 1 from rfl, show (31 : Int32) = nI 31 from rfl, q_shl1 (by omega), eP]
      exact congrArg (fun x => some (x, k0)) s7
  · refine stay (k0 1 3) _ _ ?_ ?_
    · rw [if_neg (show ¬ nI 5 = (8 : Int32) by decide), if_neg (show ¬ nI 5 = (9 : Int32) by decide), if_neg (show ¬ nI 5 = (10 : Int32) by decide), if_neg (show ¬ nI 5 = (11 : Int32) by decide), if_neg (show ¬ nI 5 = (12 : Int32) by decide), if_neg (show ¬ nI 5 = (13 : Int32) by decide), if_neg (show ¬ nI 5 = (14 : Int32) by decide), if_neg (show ¬ nI 5 = (0 : Int32) by decide), if_neg (show ¬ nI 5 = (1 : Int32) by decide), if_neg (show ¬ nI 5 = (2 : Int32) by decide), if_neg (show ¬ nI 5 = (3 : Int32) by decide), if_neg (show ¬ nI 5 = (4 : Int32) by decide), if_pos (show nI 5 = (5 : Int32) from rfl), q_bd, p3]
    · rw [if_neg (show ¬ nI 5 = (0 : Int32) by decide), if_neg (show ¬ nI 5 = (1 : Int32) by decide), if_neg (show ¬ nI 5 = (2 : Int32) by decide), if_neg (show ¬ nI 5 = (3 : Int32) by decide), if_neg (show ¬ nI 5 = (4 : Int32) by decide), if_pos (show nI 5 = (5 : Int32) from rfl), show (3 : Int32) = nI 3 from rfl, q_ix (by omega) (by omega), q_cl (by omega)]
  · refine stay (k0 1 4) _ _ ?_ ?_
    · rw [if_neg (show ¬ nI 6 = (8 : Int32) by decide), if_neg (show ¬ nI 6 = (9 : Int32) by decide), if_neg (show ¬ nI 6 = (10 : Int32) by decide), if_neg (show ¬ nI 6 = (11 : Int32) by decide), if_neg (show ¬ nI 6 = (12 : Int32) by decide), if_neg (show ¬ nI 6 = (13 : Int32) by decide), if_neg (show ¬ nI 6 = (14 : Int32) by decide), if_neg (show ¬ nI 6 = (0 : Int32) by decide), if_neg (show ¬ nI 6 = (1 : Int32) by decide), if_neg (show ¬ nI 6 = (2 : Int32) by decide), if_neg (show ¬ nI 6 = (3 : Int32) by decide), if_neg (show ¬ nI 6 = (4 : Int32) by decide), if_neg (show ¬ nI 6 = (5 : Int32) by decide), if_pos (show nI 6 = (6 : Int32) from rfl), q_bd, p4]
    · rw [if_neg (show ¬ nI 6 = (0 : Int32) by decide), if_neg (show ¬ nI 6 = (1 : Int32) by decide), if_neg (show ¬ nI 6 = (2 : Int32) by decide), if_neg (show ¬ nI 6 = (3 : Int32) by decide), if_neg (show ¬ nI 6 = (4 : Int32) by decide), if_neg (show ¬ nI 6 = (5 : Int32) by decide), if_pos (show nI 6 = (6 : Int32) from rfl), show (4 : Int32) = nI 4 from rfl, q_ix (by omega) (by omega), q_cl (by omega)]
  · refine stay (k0 1 0) _ _ ?_ ?_
    · rw [if_neg (show ¬ nI 7 = (8 : Int32) by decide), if_neg (show ¬ nI 7 = (9 : Int32) by decide), if_neg (show ¬ nI 7 = (10 : Int32) by decide), if_neg (show ¬ nI 7 = (11 : Int32) by decide), if_neg (show ¬ nI 7 = (12 : Int32) by decide), if_neg (show ¬ nI 7 = (13 : Int32) by decide), if_neg (show ¬ nI 7 = (14 : Int32) by decide), if_neg (show ¬ nI 7 = (0 : Int32) by decide), if_neg (show ¬ nI 7 = (1 : Int32) by decide), if_neg (show ¬ nI 7 = (2 : Int32) by decide), if_neg (show ¬ nI 7 = (3 : Int32) by decide), if_neg (show ¬ nI 7 = (4 : Int32) by decide), if_neg (show ¬ nI 7 = (5 : Int32) by decide), if_neg (show ¬ nI 7 = (6 : Int32) by decide), if_pos (show nI 7 = (7 : Int32) from rfl), q_bd, p5]
    · rw [if_neg (show ¬ nI 7 = (0 : Int32) by decide), if_neg (show ¬ nI 7 = (1 : Int32) by decide), if_neg (show ¬ nI 7 = (2 : Int32) by decide), if_neg (show ¬ nI 7 = (3 : Int32) by decide), if_neg (show ¬ nI 7 = (4 : Int32) by decide), if_neg (show ¬ nI 7 = (5 : Int32) by decide), if_neg (show ¬ nI 7 = (6 : Int32) by decide), if_pos (show nI 7 = (7 : Int32) from rfl), show (0 : Int32) = nI 0 from rfl, q_ix (by omega) (by omega), q_cl (by omega)]
  · refine stay (nI b) _ _ ?_ ?_
    · rw [if_pos (show nI 8 = (8 : Int32) from rfl), b2']
    · rw [if_neg (show ¬ nI 8 = (0 : Int32) by decide), if_neg (show ¬ nI 8 = (1 : Int32) by decide), if_neg (show ¬ nI 8 = (2 : Int32) by decide), if_neg (show ¬ nI 8 = (3 : Int32) by decide), if_neg (show ¬ nI 8 = (4 : Int32) by decide), if_neg (show ¬ nI 8 = (5 : Int32) by decide), if_neg (show ¬ nI 8 = (6 : Int32) by decide), if_neg (show ¬ nI 8 = (7 : Int32) by decide), if_pos (show nI 8 = (8 : Int32) from rfl), show (2 : Int32) = nI 2 from rfl, q_ix (by omega) (by omega), q_cl (by omega), b3]
  · refine stay (k0 1 1) _ _ ?_ ?_
    · rw [if_neg (show ¬ nI 9 = (8 : Int32) by decide), if_pos (show nI 9 = (9 : Int32) from rfl), if_neg (show ¬ nI 9 = (0 : Int32) by decide), if_neg (show ¬ nI 9 = (1 : Int32) by decide), if_neg (show ¬ nI 9 = (2 : Int32) by decide), if_neg (show ¬ nI 9 = (3 : Int32) by decide), if_neg (show ¬ nI 9 = (4 : Int32) by decide), if_neg (show ¬ nI 9 = (5 : Int32) by decide), if_neg (show ¬ nI 9 = (6 : Int32) by decide), if_neg (show ¬ nI 9 = (7 : Int32) by decide), if_neg (show ¬ nI 9 = (8 : Int32) by decide), if_pos (show nI 9 = (9 : Int32) from rfl), q_bd, p6]
    · rw [if_neg (show ¬ nI 9 = (0 : Int32) by decide), if_neg (show ¬ nI 9 = (1 : Int32) by decide), if_neg (show ¬ nI 9 = (2 : Int32) by decide), if_neg (show ¬ nI 9 = (3 : Int32) by decide), if_neg (show ¬ nI 9 = (4 : Int32) by decide), if_neg (show ¬ nI 9 = (5 : Int32) by decide), if_neg (show ¬ nI 9 = (6 : Int32) by decide), if_neg (show ¬ nI 9 = (7 : Int32) by decide), if_neg (show ¬ nI 9 = (8 : Int32) by decide), if_pos (show nI 9 = (9 : Int32) from rfl), show (1 : Int32) = nI 1 from rfl, q_ix (by omega) (by omega), q_cl (by omega)]
  · refine stay (nI nl) _ _ ?_ ?_
    · rw [if_neg (show ¬ nI 10 = (8 : Int32) by decide), if_neg (show ¬ nI 10 = (9 : Int32) by decide), if_pos (show nI 10 = (10 : Int32) from rfl), l3']
    · rw [if_neg (show ¬ nI 10 = (0 : Int32) by decide), if_neg (show ¬ nI 10 = (1 : Int32) by decide), if_neg (show ¬ nI 10 = (2 : Int32) by decide), if_neg (show ¬ nI 10 = (3 : Int32) by decide), if_neg (show ¬ nI 10 = (4 : Int32) by decide), if_neg (show ¬ nI 10 = (5 : Int32) by decide), if_neg (show ¬ nI 10 = (6 : Int32) by decide), if_neg (show ¬ nI 10 = (7 : Int32) by decide), if_neg (show ¬ nI 10 = (8 : Int32) by decide), if_neg (show ¬ nI 10 = (9 : Int32) by decide), if_pos (show nI 10 = (10 : Int32) from rfl), show (0 : Int32) = nI 0 from rfl, q_ix (by omega) (by omega), q_cl (by omega), l4]
  · refine stay (nI n1) _ _ ?_ ?_
    · rw [if_neg (show ¬ nI 11 = (8 : Int32) by decide), if_neg (show ¬ nI 11 = (9 : Int32) by decide), if_neg (show ¬ nI 11 = (10 : Int32) by decide), if_pos (show nI 11 = (11 : Int32) from rfl), g20]
    · rw [if_neg (show ¬ nI 11 = (0 : Int32) by decide), if_neg (show ¬ nI 11 = (1 : Int32) by decide), if_neg (show ¬ nI 11 = (2 : Int32) by decide), if_neg (show ¬ nI 11 = (3 : Int32) by decide), if_neg (show ¬ nI 11 = (4 : Int32) by decide), if_neg (show ¬ nI 11 = (5 : Int32) by decide), if_neg (show ¬ nI 11 = (6 : Int32) by decide), if_neg (show ¬ nI 11 = (7 : Int32) by decide), if_neg (show ¬ nI 11 = (8 : Int32) by decide), if_neg (show ¬ nI 11 = (9 : Int32) by decide), if_neg (show ¬ nI 11 = (10 : Int32) by decide), if_pos (show nI 11 = (11 : Int32) from rfl), k34]
  · refine stay (nI n2) _ _ ?_ ?_
    · rw [if_neg (show ¬ nI 12 = (8 : Int32) by decide), if_neg (show ¬ nI 12 = (9 : Int32) by decide), if_neg (show ¬ nI 12 = (10 : Int32) by decide), if_neg (show ¬ nI 12 = (11 : Int32) by decide), if_pos (show nI 12 = (12 : Int32) from rfl), g22]
    · rw [if_neg (show ¬ nI 12 = (0 : Int32) by decide), if_neg (show ¬ nI 12 = (1 : Int32) by decide), if_neg (show ¬ nI 12 = (2 : Int32) by decide), if_neg (show ¬ nI 12 = (3 : Int32) by decide), if_neg (show ¬ nI 12 = (4 : Int32) by decide), if_neg (show ¬ nI 12 = (5 : Int32) by decide), if_neg (show ¬ nI 12 = (6 : Int32) by decide), if_neg (show ¬ nI 12 = (7 : Int32) by decide), if_neg (show ¬ nI 12 = (8 : Int32) by decide), if_neg (show ¬ nI 12 = (9 : Int32) by decide), if_neg (show ¬ nI 12 = (10 : Int32) by decide), if_neg (show ¬ nI 12 = (11 : Int32) by decide), if_pos (show nI 12 = (12 : Int32) from rfl), k36]
  · refine stay (nI n3) _ _ ?_ ?_
    · rw [if_neg (show ¬ nI 13 = (8 : Int32) by decide), if_neg (show ¬ nI 13 = (9 : Int32) by decide), if_neg (show ¬ nI 13 = (10 : Int32) by decide), if_neg (show ¬ nI 13 = (11 : Int32) by decide), if_neg (show ¬ nI 13 = (12 : Int32) by decide), if_pos (show nI 13 = (13 : Int32) from rfl), g24]
    · rw [if_neg (show ¬ nI 13 = (0 : Int32) by decide), if_neg (show ¬ nI 13 = (1 : Int32) by decide), if_neg (show ¬ nI 13 = (2 : Int32) by decide), if_neg (show ¬ nI 13 = (3 : Int32) by decide), if_neg (show ¬ nI 13 = (4 : Int32) by decide), if_neg (show ¬ nI 13 = (5 : Int32) by decide), if_neg (show ¬ nI 13 = (6 : Int32) by decide), if_neg (show ¬ nI 13 = (7 : Int32) by decide), if_neg (show ¬ nI 13 = (8 : Int32) by decide), if_neg (show ¬ nI 13 = (9 : Int32) by decide), if_neg (show ¬ nI 13 = (10 : Int32) by decide), if_neg (show ¬ nI 13 = (11 : Int32) by decide), if_neg (show ¬ nI 13 = (12 : Int32) by decide), if_pos (show nI 13 = (13 : Int32) from rfl), k38]
  · refine stay (nI u) _ _ ?_ ?_
    · rw [if_neg (show ¬ nI 14 = (8 : Int32) by decide), if_neg (show ¬ nI 14 = (9 : Int32) by decide), if_neg (show ¬ nI 14 = (10 : Int32) by decide), if_neg (show ¬ nI 14 = (11 : Int32) by decide), if_neg (show ¬ nI 14 = (12 : Int32) by decide), if_neg (show ¬ nI 14 = (13 : Int32) by decide), if_pos (show nI 14 = (14 : Int32) from rfl), u1]
    · rw [if_neg (show ¬ nI 14 = (0 : Int32) by decide), if_neg (show ¬ nI 14 = (1 : Int32) by decide), if_neg (show ¬ nI 14 = (2 : Int32) by decide), if_neg (show ¬ nI 14 = (3 : Int32) by decide), if_neg (show ¬ nI 14 = (4 : Int32) by decide), if_neg (show ¬ nI 14 = (5 : Int32) by decide), if_neg (show ¬ nI 14 = (6 : Int32) by decide), if_neg (show ¬ nI 14 = (7 : Int32) by decide), if_neg (show ¬ nI 14 = (8 : Int32) by decide), if_neg (show ¬ nI 14 = (9 : Int32) by decide), if_neg (show ¬ nI 14 = (10 : Int32) by decide), if_neg (show ¬ nI 14 = (11 : Int32) by decide), if_neg (show ¬ nI 14 = (12 : Int32) by decide), if_neg (show ¬ nI 14 = (13 : Int32) by decide), if_pos (show nI 14 = (14 : Int32) from rfl), u2]
end Qlook
