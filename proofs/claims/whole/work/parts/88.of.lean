/-! WHAT A CHAIR IS, A PERSON, THE BOOK, THE PORCH -/
section Qof
theorem q_frm {h h' k k' : zHp} (e : ∀ a, a ≠ 160 → a ≠ 19 → h' a = h a) (f : ∀ a, a ≠ 20 → a ≠ 21 → k' a = k a) : qXs h h' ∧ qMs k k' := by
  refine ⟨⟨fun a ha => e a (fun q => by subst q; cases ha) (fun q => by subst q; cases ha), by rw [e 136 (by omega) (by omega)]⟩, fun a i hp => ?_⟩
  have z20 : a ≠ 20 := fun q => by subst q; simp [qPers, qPos] at hp
  have z21 : a ≠ 21 := fun q => by subst q; simp [qPers, qPos] at hp
  rw [f a z20 z21]
theorem q_call_of {h k : zHp} (R : qRel h k) (a b : Int32) : qCall (f_X10_of a b h) (f_X11_of a b k) := by
  have R0 : qRel h (zst k 0 0 0) := qRel_s (qXs_rf h) (qMs_s0 k) R
  refine q_th_ask R ?_
  obtain ⟨k0, hk0⟩ : ∃ k0, k0 = zst k 0 0 0 := ⟨_, rfl⟩
  rw [← hk0] at R0 ⊢
  obtain ⟨C, P, n, m, M, -⟩ := qRel_M (β := (h, h)) R0
  have hC := M.1.2.2.1.1
  have hP := M.1.2.2.1.2.1
  have g7 : k0 0 7 = nI P := M.1.1.2
  have stay : ∀ v x y, x = some (v, h) → y = some (v, k0) → qAsk h k0 x y := fun v x y hx hy => ⟨v, h, k0, hx, hy, qXs_rf h, qMs_rf _⟩
  unfold f_X10_of f_X11_of
  rw [q_lt, ← hk0]
  rcases (q_chrs M.1 a).symm with ⟨n1, n2⟩ | ⟨c, hc, rfl⟩
  · refine stay (-2) _ _ ?_ ?_
    · rw [n1, q_bd]; exact if_pos rfl
    · rw [n2, q_bd]; exact if_pos rfl
  have iX := q_isCh hC M.1.2.1.1 hc
  have iM := q_isCM M.1.1.1 hC hc
  obtain ⟨s, f, t, a1, a2, a3, a4, a5, a6, a7, a8, a9, a10, a11, a12⟩ := q_chair M.1 hc
  rw [iX, q_bd, iM, q_bd]
  dsimp only
  rw [if_neg (show ¬ nI 1 = 0 by decide), if_neg (show ¬ nI 1 = 0 by decide)]
  obtain ⟨p, hp⟩ : ∃ p, qWho P p = nI f - 1 := by
    rcases Nat.eq_zero_or_pos f with z | z
    · exact ⟨P, by unfold qWho; rw [if_neg (by omega), z]; rfl⟩
    · exact ⟨f - 1, by rw [qWho_p (by omega), show f = f - 1 + 1 by omega, q_m1s]; rfl⟩
  have whom : f_X11_forWhom (nI c) k0 = some (nI f - 1, k0) := by
    have w0 : nI f - nI 1 = nI f - 1 := rfl
    unfold f_X11_forWhom
    simp (disch := omega) only [a5, w0, ↓reduceIte, ↓qM_e, ↓q_rem, q_mod, q_modN, q_lit, q_nI, q_lt, q_bd, q_ix, q_dz, q_iflt, q_ifnlt, q_ifeq, q_ifne, q_ifM, q_ifMM, q_ifMlt, q_ifltM, nI_add, pk_mul, q_sub, q_div, q_cl, q_st_s, q_st_i, q_st_c, Nat.add_zero, Nat.zero_add]
  by_cases e0 : b = 0
  · rw [if_pos e0, if_pos e0]
    refine stay (k0 4 c) _ _ ?_ ?_
    · rw [q_ix (by omega) (by omega), q_cl (by omega)]; exact congrArg (fun x => some (x, h)) a12
    · rw [q_ix (by omega) (by omega), q_cl (by omega)]
  rw [if_neg e0, if_neg e0]
  by_cases e1 : b = 1
  · rw [if_pos e1, if_pos e1]
    refine stay (nI s) _ _ ?_ ?_
    · rw [q_ix (by omega) (by omega), q_cl (by omega)]; exact congrArg (fun x => some (x, h)) a7
    · rw [show (5 : Int32) = nI 5 from rfl, nI_add, q_ix (by omega) (by omega), q_cl (by omega), a4]
  rw [if_neg e1, if_neg e1]
  by_cases e2 : b = 2
  · rw [if_pos e2, if_pos e2]
    refine stay (nI f - 1) _ _ ?_ ?_
    · rw [q_ix (by omega) (by omega), q_cl (by omega)]; exact congrArg (fun x => some (x, h)) a8
    · rw [whom, q_bd]
  rw [if_neg e2, if_neg e2]
  by_cases e3 : b = 3
  · rw [if_pos e3, if_pos e3]
    refine stay (nI t - 1) _ _ ?_ ?_
    · rw [q_ix (by omega) (by omega), q_cl (by omega)]; exact congrArg (fun x => some (x, h)) a9
    · unfold f_X11_takenBy
      rw [show (25 : Int32) = nI 25 from rfl, nI_add, q_ix (by omega) (by omega), q_cl (by omega), a6]; rfl
  rw [if_neg e3, if_neg e3]
  have a8' : h 5 c = qWho P p := by rw [hp]; exact a8
  by_cases e4 : b = 4
  · rw [if_pos e4, if_pos e4]
    obtain ⟨r, h', k5, k', b1, b2, b3, b4, b5, -⟩ := q_ask (p := p) (w := 1) (Or.inl rfl) M.1 hc (by omega)
    obtain ⟨f1, f2⟩ := q_frm b4 b5
    have b3' : f_X11_lawTells (1 : Int32) (((10 : Int32) - (k5 20 (0 : Int32).toNatClampNeg)) - (k5 20 (6 : Int32).toNatClampNeg)) (20 : Int32) k5 = some (nI r, k') := b3
    refine ⟨nI r, h', k', ?_, ?_, f1, f2⟩
    · rw [q_ix (by omega) (by omega), q_cl (by omega), a8', show (1 : Int32) = nI 1 from rfl, b1, q_bd]
    · unfold f_X11_fadesOf
      rw [whom, q_bd, ← hp, b2, q_bd, b3', q_bd, show (0 : Int32) = nI 0 from rfl, q_ix (by omega) (by omega), show (6 : Int32) = nI 6 from rfl, q_ix (by omega) (by omega), q_bd]
  rw [if_neg e4, if_neg e4]
  by_cases e5 : b = 5
  · rw [if_pos e5, if_pos e5]
    obtain ⟨r, h', k5, k', b1, b2, b3, b4, b5, -⟩ := q_ask (p := p) (w := 2) (Or.inl rfl) M.1 hc (by omega)
    obtain ⟨f1, f2⟩ := q_frm b4 b5
    have b3' : f_X11_lawTells (2 : Int32) ((900 : Int32) - ((5 : Int32) * (k5 20 (1 : Int32).toNatClampNeg))) (1000 : Int32) k5 = some (nI r, k') := b3
    refine ⟨nI r, h', k', ?_, ?_, f1, f2⟩
    · rw [q_ix (by omega) (by omega), q_cl (by omega), a8', show (2 : Int32) = nI 2 from rfl, b1, q_bd]
    · unfold f_X11_jumpsAt
      rw [whom, q_bd, ← hp, b2, q_bd, b3', q_bd, show (1 : Int32) = nI 1 from rfl, q_ix (by omega) (by omega), q_bd]
  rw [if_neg e5, if_neg e5]
  have hM : (9 : Int32) + k0 0 7 = nI (9 + P) := by rw [g7]; exact nI_add 9 P
  rw [hM]
  rcases q_rng 10 (9 + P) b (by omega) with o | ⟨j, hj, hj2, rfl⟩
  · refine stay (-2) _ _ ?_ ?_
    · by_cases z : b < (10 : Int32)
      · rw [if_pos z]
      · rw [if_neg z]
        have z9 := o.resolve_left z
        rcases q_pers M.1 (b - 10) with ⟨q, hq, eq⟩ | ⟨n1, -⟩
        · exfalso
          have : b = nI (10 + q) := by
            have e : b - 10 + 10 = nI q + 10 := by rw [eq]
            rw [Int32.sub_add_cancel] at e
            rw [e, show (10 : Int32) = nI 10 from rfl, nI_add, Nat.add_comm]
          rw [this] at z9
          exact nI_nlt (by omega) (by omega) z9
        · rw [n1, q_bd]; exact if_pos rfl
    · rw [show (10 : Int32) = nI 10 from rfl, q_inO o, q_bd]; exact if_pos rfl
  · have ej : nI j - (10 : Int32) = nI (j - 10) := q_sub hj
    have iP := q_isPe hP M.1.2.1.2.1 (show j - 10 < P by omega)
    obtain ⟨r, h', k', b1, b2, -, b4, b5, -⟩ := q_swingsOf M hc (show j - 10 < P by omega)
    obtain ⟨f1, f2⟩ := q_frm b4 b5
    refine ⟨nI r, h', k', ?_, ?_, f1, f2⟩
    · rw [if_neg (show ¬ nI j < (10 : Int32) from nI_nlt (b := 10) hj (by omega)), ej, iP, q_bd]
      dsimp only
      rw [if_neg (show ¬ nI 1 = 0 by decide), show (0 : Int32) = nI 0 from rfl, b1, q_bd]
    · rw [show (10 : Int32) = nI 10 from rfl, q_inI (h := k0) hj hj2 (by omega), q_bd]
      dsimp only
      rw [if_neg (show ¬ nI 1 = 0 by decide), show nI j - nI 10 = nI (j - 10) from q_sub hj, b2, q_bd]
theorem q_call_book {h k : zHp} (R : qRel h k) (a b : Int32) : qCall (f_X10_book a b h) (f_X11_book a b k) := by
  refine q_th_ask R ?_
  obtain ⟨C, P, n, m, M, -⟩ := qRel_M (β := (h, h)) R
  obtain ⟨b0, ⟨c, b1, b2, b3⟩, b4⟩ := M.2.1
  have b0' : h 11 0 = nI 150 := b0
  have b2' : h 11 2 = nI c := b2
  have hz : zln wX 12 = 600 := by decide +kernel
  have stay : ∀ v x y, x = some (v, h) → y = some (v, zst k 0 0 0) → qAsk h (zst k 0 0 0) x y := fun v x y hx hy => ⟨v, h, zst k 0 0 0, hx, hy, qXs_rf h, qMs_rf _⟩
  unfold f_X10_book f_X11_book
  by_cases z : ∃ j, j < c ∧ a = nI j
  · obtain ⟨j, hj, rfl⟩ := z
    have cm : nI c - 1 = nI (c - 1) := by
      rw [show c = c - 1 + 1 by omega, q_m1s]; rfl
    rcases q_rng 0 3 b (by omega) with o | ⟨w, -, hw, rfl⟩
    · refine stay (-1) _ _ ?_ ?_
      · unfold f_X2_cell
        rw [if_neg (nI_pos (by omega)), b2', if_pos (nI_lt hj (by omega)), b0', if_pos (nI_lt (show j < 150 by omega) (by omega))]
        by_cases y : b < 0
        · rw [if_pos y, q_bd]
        · rw [if_neg y, if_neg (show ¬ b < (4 : Int32) from fun q => by
            obtain ⟨i, hi, rfl⟩ := nI_of y
            have h3 := o.resolve_left y
            have i3 := Decidable.byContradiction fun q => nI_nlt (a := 3) (b := i) (Nat.le_of_not_lt q) (by omega) h3
            exact nI_nlt (b := 4) (by omega) hi q), q_bd]
      · rw [q_lt, show (0 : Int32) = nI 0 from rfl, show (2 : Int32) = nI 2 from rfl, q_ix (by omega) (by omega), q_cl (by omega), q_st_c (show (1 : Nat) ≠ 0 by omega), b3, cm, q_inI (h := zst k 0 0 (nI 0)) (lo := 0) (Nat.zero_le j) (by omega) (by omega), q_bd]
        dsimp only
        rw [if_neg (show ¬ nI 1 = nI 0 by decide), show (3 : Int32) = nI 3 from rfl, q_inO o, q_bd]
        exact if_pos rfl
    · refine stay (h 12 (4 * j + w)) _ _ ?_ ?_
      · unfold f_X2_cell
        rw [hz]
        simp (disch := omega) only [b2', b0', show j * 4 + w = 4 * j + w by omega, ↓reduceIte, ↓qM_e, ↓q_rem, q_mod, q_modN, q_lit, q_nI, q_lt, q_bd, q_ix, q_dz, q_iflt, q_ifnlt, q_ifeq, q_ifne, q_ifM, q_ifMM, q_ifMlt, q_ifltM, nI_add, pk_mul, q_sub, q_div, q_cl, q_st_s, q_st_i, q_st_c, Nat.add_zero, Nat.zero_add]
      · have b3' : k 1 2 = nI c := b3
        have e4 : k 6 (4 * j + w) = h 12 (4 * j + w) := (b4 _ (by omega)).symm
        have cm' : nI c - nI 1 = nI (c - 1) := cm
        have i1 := q_inI (h := zst k 0 0 (nI 0)) (lo := 0) (a := j) (hi := c - 1) (Nat.zero_le j) (by omega) (by omega)
        have i2 := q_inI (h := zst k 0 0 (nI 0)) (lo := 0) (a := w) (hi := 3) (Nat.zero_le w) hw (by omega)
        simp (disch := omega) only [b3', cm', i1, i2, e4, ↓reduceIte, ↓qM_e, ↓q_rem, q_mod, q_modN, q_lit, q_nI, q_lt, q_bd, q_ix, q_dz, q_iflt, q_ifnlt, q_ifeq, q_ifne, q_ifM, q_ifMM, q_ifMlt, q_ifltM, nI_add, pk_mul, q_sub, q_div, q_cl, q_st_s, q_st_i, q_st_c, Nat.add_zero, Nat.zero_add]
  · have out : ∀ k', f_X11_isIn a (nI 0) (nI c - 1) k' = some (nI 0, k') := by
      intro k'
      unfold f_X11_isIn
      by_cases y : a < nI 0
      · rw [if_pos y]; rfl
      · obtain ⟨i, hi, rfl⟩ := nI_of y
        have : c ≤ i := Decidable.byContradiction fun q => z ⟨i, by omega, rfl⟩
        rw [if_neg y, if_pos]
        · rfl
        · rcases Nat.eq_zero_or_pos c with x | x
          · rw [x]; exact Int32.lt_of_lt_of_le (show nI 0 - 1 < 0 by decide) (nI_pos' hi)
          · rw [show c = c - 1 + 1 by omega, q_m1s]; exact nI_lt (by omega) hi
    refine stay (-1) _ _ ?_ ?_
    · unfold f_X2_cell
      by_cases y : a < 0
      · rw [if_pos y, q_bd]
      · obtain ⟨i, hi, rfl⟩ := nI_of y
        have : c ≤ i := Decidable.byContradiction fun q => z ⟨i, by omega, rfl⟩
        rw [if_neg y, b2', if_neg (nI_nlt this hi), q_bd]
    · rw [q_lt, show (0 : Int32) = nI 0 from rfl, show (2 : Int32) = nI 2 from rfl, q_ix (by omega) (by omega), q_cl (by omega), q_st_c (show (1 : Nat) ≠ 0 by omega), b3, out, q_bd]
      exact if_pos rfl
end Qof
