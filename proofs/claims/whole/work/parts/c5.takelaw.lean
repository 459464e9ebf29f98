/-! A TEXT: THE LAW that the reference takes -/
section Qtakelaw
theorem q_takeL (k : zHp) {n s : Nat} (hn : n ≤ 16) (hs : s ≤ 400) (e25 : k 0 25 = 0) (e26 : k 0 26 = nI s) : ∃ k', f_X11_takesLaw (nI n) k = some k' ∧ k' 9 0 = nI n ∧ (∀ a i, 10 ≤ a → a ≤ 13 → i < n → k' a i = k a (32 + i)) ∧ (∀ a i, a = 14 ∨ a = 15 → i < s → k' a i = k a (800 + i)) ∧ ∀ a i, ¬(a = 9 ∧ i = 0) → ¬(10 ≤ a ∧ a ≤ 13 ∧ i < n) → ¬((a = 14 ∨ a = 15) ∧ i < s) → k' a i = k a i := by
  have l1 : (1 : Int32) = nI 1 := rfl
  have i0 : ∀ j, (16 : Int32) * 0 + nI j = nI j := fun j => by rw [show (16 : Int32) * 0 = nI 0 by decide, nI_add, Nat.zero_add]
  have j0 : ∀ j, (400 : Int32) * 0 + nI j = nI j := fun j => by rw [show (400 : Int32) * 0 = nI 0 by decide, nI_add, Nat.zero_add]
  have i32 : ∀ j, (32 : Int32) + nI j = nI (32 + j) := fun j => nI_add 32 j
  have i800 : ∀ j, (800 : Int32) + nI j = nI (800 + j) := fun j => nI_add 800 j
  -- the rows
  have rows : ∃ k1, f_X11_takesLaw (nI n) k = f_X11_takesLaw_107_lp zN (nI n, nI 0, k1) ∧ (∀ a i, 10 ≤ a → a ≤ 13 → i < n → k1 a i = k a (32 + i)) ∧ (∀ a i, ¬(10 ≤ a ∧ a ≤ 13 ∧ i < n) → k1 a i = k a i) := by
    unfold f_X11_takesLaw f_X11_takesLaw_2_lp
    refine q_exit (b := fun k2 v => f_X11_takesLaw_2 k2 v.1 v.2.1 v.2.2) (I := fun j v => ∃ k1, v = (nI n, nI j, k1) ∧ (∀ a i, 10 ≤ a → a ≤ 13 → i < j → k1 a i = k a (32 + i)) ∧ (∀ a i, ¬(10 ≤ a ∧ a ≤ 13 ∧ i < j) → k1 a i = k a i)) n (Q := fun x => ∃ k1, x = f_X11_takesLaw_107_lp zN (nI n, nI 0, k1) ∧ (∀ a i, 10 ≤ a → a ≤ 13 → i < n → k1 a i = k a (32 + i)) ∧ (∀ a i, ¬(10 ≤ a ∧ a ≤ 13 ∧ i < n) → k1 a i = k a i)) (fun j v hj hI => Or.inl ?_) (fun v hI => ?_) _ ⟨k, rfl, fun a i _ _ hi => absurd hi (Nat.not_lt_zero i), fun _ _ _ => rfl⟩ zN (by rw [q_zN]; omega)
    · obtain ⟨k1, rfl, H1, H2⟩ := hI
      have c25 : k1 0 25 = 0 := (H2 0 25 (by omega)).trans e25
      refine ⟨(nI n, nI (j + 1), zst (zst (zst (zst k1 10 j (k1 10 (32 + j))) 11 j (k1 11 (32 + j))) 12 j (k1 12 (32 + j))) 13 j (k1 13 (32 + j))), fun rec => ?_, _, rfl, ?_, ?_⟩
      · show f_X11_takesLaw_2 rec (nI n) (nI j) k1 = _
        unfold f_X11_takesLaw_2
        rw [if_pos (show nI j < nI n from nI_lt hj (by omega))]
        simp (disch := omega) only [c25, i0, i32, q_ix, q_lt, q_cl, q_st_c]
        rw [l1, nI_add]
      · intro a i p q hi
        rw [q_st, q_st, q_st, q_st]
        by_cases z : i = j
        · rw [z, if_pos rfl, if_pos rfl, if_pos rfl, if_pos rfl]
          rcases (show a = 10 ∨ a = 11 ∨ a = 12 ∨ a = 13 by omega) with y | y | y | y <;> subst y
          · rw [if_neg (by decide), if_neg (by decide), if_neg (by decide), if_pos rfl]; exact H2 _ _ (by omega)
          · rw [if_neg (by decide), if_neg (by decide), if_pos rfl]; exact H2 _ _ (by omega)
          · rw [if_neg (by decide), if_pos rfl]; exact H2 _ _ (by omega)
          · rw [if_pos rfl]; exact H2 _ _ (by omega)
        · rw [if_neg z, if_neg z, if_neg z, if_neg z, ite_self, ite_self, ite_self, ite_self]; exact H1 a i p q (by omega)
      · intro a i q
        have st : ∀ (g : zHp) (x : Nat) (v : Int32), 10 ≤ x → x ≤ 13 → zst g x j v a i = g a i := fun g x v p1 p2 => by
          rw [q_st]
          by_cases z : a = x
          · rw [if_pos z, if_neg (by omega)]
          · rw [if_neg z]
        rw [st _ 13 _ (by omega) (by omega), st _ 12 _ (by omega) (by omega), st _ 11 _ (by omega) (by omega), st _ 10 _ (by omega) (by omega)]; exact H2 a i (by omega)
    · obtain ⟨k1, rfl, H1, H2⟩ := hI
      refine ⟨_, fun rec => ?_, k1, rfl, H1, H2⟩
      show f_X11_takesLaw_2 rec (nI n) (nI n) k1 = _
      unfold f_X11_takesLaw_2
      rw [if_neg (show ¬ nI n < nI n from nI_nlt (Nat.le_refl _) (by omega))]; rfl
  obtain ⟨k1, e1, R1, R2⟩ := rows
  rw [e1]
  unfold f_X11_takesLaw_107_lp
  refine q_exit (b := fun k107 v => f_X11_takesLaw_107 k107 v.1 v.2.1 v.2.2) (I := fun j v => ∃ k2, v = (nI n, nI j, k2) ∧ (∀ a i, a = 14 ∨ a = 15 → i < j → k2 a i = k1 a (800 + i)) ∧ (∀ a i, ¬((a = 14 ∨ a = 15) ∧ i < j) → k2 a i = k1 a i)) s (Q := fun x => ∃ k', x = some k' ∧ k' 9 0 = nI n ∧ (∀ a i, 10 ≤ a → a ≤ 13 → i < n → k' a i = k a (32 + i)) ∧ (∀ a i, a = 14 ∨ a = 15 → i < s → k' a i = k a (800 + i)) ∧ ∀ a i, ¬(a = 9 ∧ i = 0) → ¬(10 ≤ a ∧ a ≤ 13 ∧ i < n) → ¬((a = 14 ∨ a = 15) ∧ i < s) → k' a i = k a i) (fun j v hj hI => Or.inl ?_) (fun v hI => ?_) _ ⟨k1, rfl, fun a i _ hi => absurd hi (Nat.not_lt_zero i), fun _ _ _ => rfl⟩ zN (by rw [q_zN]; omega)
  · obtain ⟨k2, rfl, H1, H2⟩ := hI
    have c25 : k2 0 25 = 0 := (H2 0 25 (by omega)).trans ((R2 0 25 (by omega)).trans e25)
    have c26 : k2 0 26 = nI s := (H2 0 26 (by omega)).trans ((R2 0 26 (by omega)).trans e26)
    refine ⟨(nI n, nI (j + 1), zst (zst k2 14 j (k2 14 (800 + j))) 15 j (k2 15 (800 + j))), fun rec => ?_, _, rfl, ?_, ?_⟩
    · show f_X11_takesLaw_107 rec (nI n) (nI j) k2 = _
      unfold f_X11_takesLaw_107
      rw [if_pos (show nI j < k2 0 26 by rw [c26]; exact nI_lt hj (by omega))]
      simp (disch := omega) only [c25, j0, i800, q_ix, q_lt, q_cl, q_st_c]
      rw [l1, nI_add]
    · intro a i p hi
      rw [q_st, q_st]
      by_cases z : i = j
      · rw [z, if_pos rfl, if_pos rfl]
        rcases p with y | y <;> subst y
        · rw [if_neg (by decide), if_pos rfl]; exact H2 _ _ (by omega)
        · rw [if_pos rfl]; exact H2 _ _ (by omega)
      · rw [if_neg z, if_neg z, ite_self, ite_self]; exact H1 a i p (by omega)
    · intro a i q
      have st : ∀ (g : zHp) (x : Nat) (v : Int32), x = 14 ∨ x = 15 → zst g x j v a i = g a i := fun g x v p1 => by
        rw [q_st]
        by_cases z : a = x
        · rw [if_pos z, if_neg (by omega)]
        · rw [if_neg z]
      rw [st _ 15 _ (by omega), st _ 14 _ (by omega)]; exact H2 a i (by omega)
  · obtain ⟨k2, rfl, H1, H2⟩ := hI
    have c25 : k2 0 25 = 0 := (H2 0 25 (by omega)).trans ((R2 0 25 (by omega)).trans e25)
    have c26 : k2 0 26 = nI s := (H2 0 26 (by omega)).trans ((R2 0 26 (by omega)).trans e26)
    refine ⟨some (zst k2 9 0 (nI n)), fun rec => ?_, _, rfl, q_st_s, fun a i p q hi => by rw [q_st_c (by omega), H2 a i (by omega)]; exact R1 a i p q hi, fun a i p hi => by rw [q_st_c (by omega), H1 a i p hi]; exact R2 _ _ (by omega), fun a i p q r => ?_⟩
    · show f_X11_takesLaw_107 rec (nI n) (nI s) k2 = _
      unfold f_X11_takesLaw_107
      rw [if_neg (show ¬ nI s < k2 0 26 by rw [c26]; exact nI_nlt (Nat.le_refl _) (by omega)), c25, show (0 : Int32) = nI 0 from rfl, q_ix (by omega) (by omega), q_lt, q_cl (by omega)]
    · rw [q_st]
      by_cases z : a = 9
      · rw [if_pos z, if_neg (by omega), H2 a i (by omega)]; exact R2 a i q
      · rw [if_neg z, H2 a i r]; exact R2 a i q
end Qtakelaw
