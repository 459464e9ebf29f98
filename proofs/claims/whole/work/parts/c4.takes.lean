/-! A TEXT: what the reference takes -/
section Qtakes
def qyCpI (k k' : zHp) (A b j : Nat) : Prop := (∀ i, i < j → k' A i = k A (b + i)) ∧ ∀ a i, ¬(a = A ∧ i < j) → k' a i = k a i
theorem qyCpI_0 (k : zHp) (A b : Nat) : qyCpI k k A b 0 := ⟨fun i hi => absurd hi (Nat.not_lt_zero i), fun _ _ _ => rfl⟩
theorem qyCpI_s {k k' : zHp} {A b j : Nat} (H : qyCpI k k' A b j) (hj : j < b) : qyCpI k (zst k' A j (k' A (b + j))) A b (j + 1) := by
  obtain ⟨h1, h2⟩ := H
  refine ⟨fun i hi => ?_, fun a i q => ?_⟩
  · by_cases z : i = j
    · rw [z, q_st_s, h2 A (b + j) (by omega)]
    · rw [q_st_i z]; exact h1 i (by omega)
  · rw [q_st]
    by_cases z : a = A
    · rw [if_pos z, if_neg (by omega)]; exact h2 a i (by omega)
    · rw [if_neg z]; exact h2 a i (by omega)
theorem q_take3 (k : zHp) (c : Nat) : ∃ k1, f_X11_takesOther 3 (nI c) k = some (zst k1 0 38 (nI c)) ∧ qyCpI k k1 19 14 14 := by
  have l1 : (1 : Int32) = nI 1 := rfl
  unfold f_X11_takesOther f_X11_takesOther_7_lp
  rw [if_pos (show (3 : Int32) = 3 from rfl)]
  refine q_exit (b := fun k7 v => f_X11_takesOther_7 k7 v.1 v.2.1 v.2.2) (I := fun j v => ∃ k1, v = (nI c, nI j, k1) ∧ qyCpI k k1 19 14 j) 14 (Q := fun x => ∃ k1, x = some (zst k1 0 38 (nI c)) ∧ qyCpI k k1 19 14 14) (fun j v hj hI => Or.inl ?_) (fun v hI => ?_) _ ⟨k, rfl, qyCpI_0 k 19 14⟩ zN (by rw [q_zN]; omega)
  · obtain ⟨k1, rfl, H⟩ := hI
    refine ⟨(nI c, nI (j + 1), zst k1 19 j (k1 19 (14 + j))), fun rec => ?_, _, rfl, qyCpI_s H hj⟩
    show f_X11_takesOther_7 rec (nI c) (nI j) k1 = _
    unfold f_X11_takesOther_7
    rw [if_pos (show nI j < (14 : Int32) from qlR 14 hj (by omega)), show (14 : Int32) = nI 14 from rfl, nI_add, q_ix (by omega) (by omega), q_ix (by omega) (by omega), q_lt, q_cl (by omega), q_cl (by omega), l1, nI_add]
  · obtain ⟨k1, rfl, H⟩ := hI
    refine ⟨_, fun rec => ?_, k1, rfl, H⟩
    show f_X11_takesOther_7 rec (nI c) (nI 14) k1 = _
    unfold f_X11_takesOther_7
    rw [if_neg (show ¬ nI 14 < (14 : Int32) by decide), q_lt]
theorem q_take1 (k : zHp) {c : Nat} (hc : c ≤ 16) : ∃ k1, f_X11_takesOther 1 (nI c) k = some (zst (zst k1 0 34 (nI c)) 0 3 0) ∧ qyCpI k k1 17 64 (4 * c) := by
  have l1 : (1 : Int32) = nI 1 := rfl
  have m4 : (4 : Int32) * nI c = nI (4 * c) := pk_mul 4 c
  have last : ∀ k1, f_X11_takesOther_77_lp zN (1, nI c, 0, k1) = some (zst (zst k1 0 34 (nI c)) 0 3 0) := fun k1 => by
    have e : f_X11_takesOther_110 1 (nI c) k1 = some (zst (zst k1 0 34 (nI c)) 0 3 0) := by
      unfold f_X11_takesOther_110 f_X11_takesOther_120
      rw [if_pos (show (1 : Int32) = 1 from rfl), q_lt, if_neg (show ¬ (1 : Int32) = 2 by decide), q_lt]
    unfold f_X11_takesOther_77_lp
    refine q_lp1 (by rw [q_zN]; omega) (fun rec => ?_)
    show f_X11_takesOther_77 rec 1 (nI c) 0 k1 = _
    unfold f_X11_takesOther_77
    rw [if_neg (show ¬ (1 : Int32) = 2 by decide), e, ite_self]
  unfold f_X11_takesOther f_X11_takesOther_42_lp
  rw [if_neg (show ¬ (1 : Int32) = 3 by decide)]
  refine q_exit (b := fun k42 v => f_X11_takesOther_42 k42 v.1 v.2.1 v.2.2.1 v.2.2.2) (I := fun j v => ∃ k1, v = (1, nI c, nI j, k1) ∧ qyCpI k k1 17 64 j) (4 * c) (Q := fun x => ∃ k1, x = some (zst (zst k1 0 34 (nI c)) 0 3 0) ∧ qyCpI k k1 17 64 (4 * c)) (fun j v hj hI => Or.inl ?_) (fun v hI => ?_) _ ⟨k, rfl, qyCpI_0 k 17 64⟩ zN (by rw [q_zN]; omega)
  · obtain ⟨k1, rfl, H⟩ := hI
    refine ⟨(1, nI c, nI (j + 1), zst k1 17 j (k1 17 (64 + j))), fun rec => ?_, _, rfl, qyCpI_s H (by omega)⟩
    show f_X11_takesOther_42 rec 1 (nI c) (nI j) k1 = _
    unfold f_X11_takesOther_42
    rw [m4, if_pos (show nI j < nI (4 * c) from nI_lt hj (by omega)), if_pos (show (1 : Int32) = 1 from rfl), show (64 : Int32) = nI 64 from rfl, nI_add, q_ix (by omega) (by omega), q_ix (by omega) (by omega), q_lt, q_cl (by omega), q_cl (by omega), l1, nI_add]
  · obtain ⟨k1, rfl, H⟩ := hI
    refine ⟨_, fun rec => ?_, k1, rfl, H⟩
    show f_X11_takesOther_42 rec 1 (nI c) (nI (4 * c)) k1 = _
    unfold f_X11_takesOther_42
    rw [m4, if_neg (show ¬ nI (4 * c) < nI (4 * c) from nI_nlt (Nat.le_refl _) (by omega))]; exact last k1
theorem q_take2 (k : zHp) {c : Nat} (hc : c ≤ 16) : ∃ k1, f_X11_takesOther 2 (nI c) k = some (zst (zst k1 0 36 (nI c)) 0 3 0) ∧ qyCpI k k1 18 48 (3 * c) := by
  have l1 : (1 : Int32) = nI 1 := rfl
  have m3 : (3 : Int32) * nI c = nI (3 * c) := pk_mul 3 c
  have e : ∀ k1, f_X11_takesOther_110 2 (nI c) k1 = some (zst (zst k1 0 36 (nI c)) 0 3 0) := fun k1 => by
    unfold f_X11_takesOther_110 f_X11_takesOther_120
    rw [if_neg (show ¬ (2 : Int32) = 1 by decide), if_pos (show (2 : Int32) = 2 from rfl), q_lt, q_lt]
  have first : f_X11_takesOther 2 (nI c) k = f_X11_takesOther_77_lp zN (2, nI c, nI 0, k) := by
    unfold f_X11_takesOther f_X11_takesOther_42_lp
    rw [if_neg (show ¬ (2 : Int32) = 3 by decide)]
    refine q_lp1 (by rw [q_zN]; omega) (fun rec => ?_)
    show f_X11_takesOther_42 rec 2 (nI c) 0 k = _
    unfold f_X11_takesOther_42
    rw [if_neg (show ¬ (2 : Int32) = 1 by decide), ite_self]; rfl
  rw [first]
  unfold f_X11_takesOther_77_lp
  refine q_exit (b := fun k77 v => f_X11_takesOther_77 k77 v.1 v.2.1 v.2.2.1 v.2.2.2) (I := fun j v => ∃ k1, v = (2, nI c, nI j, k1) ∧ qyCpI k k1 18 48 j) (3 * c) (Q := fun x => ∃ k1, x = some (zst (zst k1 0 36 (nI c)) 0 3 0) ∧ qyCpI k k1 18 48 (3 * c)) (fun j v hj hI => Or.inl ?_) (fun v hI => ?_) _ ⟨k, rfl, qyCpI_0 k 18 48⟩ zN (by rw [q_zN]; omega)
  · obtain ⟨k1, rfl, H⟩ := hI
    refine ⟨(2, nI c, nI (j + 1), zst k1 18 j (k1 18 (48 + j))), fun rec => ?_, _, rfl, qyCpI_s H (by omega)⟩
    show f_X11_takesOther_77 rec 2 (nI c) (nI j) k1 = _
    unfold f_X11_takesOther_77
    rw [m3, if_pos (show nI j < nI (3 * c) from nI_lt hj (by omega)), if_pos (show (2 : Int32) = 2 from rfl), show (48 : Int32) = nI 48 from rfl, nI_add, q_ix (by omega) (by omega), q_ix (by omega) (by omega), q_lt, q_cl (by omega), q_cl (by omega), l1, nI_add]
  · obtain ⟨k1, rfl, H⟩ := hI
    refine ⟨_, fun rec => ?_, k1, rfl, H⟩
    show f_X11_takesOther_77 rec 2 (nI c) (nI (3 * c)) k1 = _
    unfold f_X11_takesOther_77
    rw [m3, if_neg (show ¬ nI (3 * c) < nI (3 * c) from nI_nlt (Nat.le_refl _) (by omega)), e]
end Qtakes
