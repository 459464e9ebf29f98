section Qrug3
-- the two ways of counting
theorem qCnt_add (p : Nat → Bool) (m : Nat) : ∀ n, qCnt p (m + n) = qCnt p m + qCnt (fun t => p (m + t)) n
  | 0 => rfl
  | n + 1 => by
    rw [← Nat.add_assoc, qCnt, qCnt, qCnt_add p m n]
    split <;> omega
theorem qCnt_congr {p q : Nat → Bool} : ∀ n, (∀ t, t < n → p t = q t) → qCnt p n = qCnt q n
  | 0, _ => rfl
  | n + 1, h => by rw [qCnt, qCnt, qCnt_congr n (fun t ht => h t (by omega)), h n (by omega)]
theorem qCnt_none {p : Nat → Bool} : ∀ n, (∀ t, t < n → p t = false) → qCnt p n = 0
  | 0, _ => rfl
  | n + 1, h => by rw [qCnt, qCnt_none n (fun t ht => h t (by omega)), h n (by omega)]; rfl
theorem q_row6 : ∀ x, x < 6 → ∀ w, w ≤ 6 - x → qCnt (fun t => decide (x ≤ t ∧ t - x + 1 ≤ w)) 6 = w := by decide
theorem q_cntRow (fu : Nat → Bool) (p y : Nat) (hp : p < 36) (hy : p / 6 ≤ y) : qCnt (fun t => qOk fu p (6 * y + t)) 6 = qWd fu (p % 6) (p / 6) (y - p / 6 + 1) := by
  have hx : p % 6 < 6 := Nat.mod_lt _ (by omega)
  rw [← q_row6 (p % 6) hx _ (qWd_le fu (p % 6) (p / 6) (y - p / 6 + 1))]
  refine qCnt_congr 6 (fun t ht => ?_)
  unfold qOk
  rw [show (6 * y + t) / 6 = y by omega, show (6 * y + t) % 6 = t by omega]
  congr 1
  apply propext
  constructor
  · intro h; exact ⟨h.2.1, h.2.2⟩
  · intro h; exact ⟨hy, h.1, h.2⟩
theorem q_cntRows (fu : Nat → Bool) (p : Nat) (hp : p < 36) : ∀ n, p / 6 + n ≤ 6 → qCnt (qOk fu p) (6 * (p / 6 + n)) = qSA fu (p % 6) (p / 6) n
  | 0, _ => by
    refine qCnt_none _ (fun t ht => ?_)
    unfold qOk
    apply decide_eq_false
    intro h; omega
  | n + 1, hn => by
    rw [show 6 * (p / 6 + (n + 1)) = 6 * (p / 6 + n) + 6 by omega, qCnt_add, q_cntRows fu p hp n (by omega), q_cntRow fu p (p / 6 + n) hp (by omega), qSA]
    rw [show p / 6 + n - p / 6 + 1 = n + 1 by omega]
theorem q_sameA (fu : Nat → Bool) (p : Nat) (hp : p < 36) : qMA fu p (36 - p) = qSA fu (p % 6) (p / 6) (6 - p / 6) := by
  rw [← q_cntRows fu p hp (6 - p / 6) (by omega), show 6 * (p / 6 + (6 - p / 6)) = p + (36 - p) by omega, qCnt_add]
  have : qCnt (qOk fu p) p = 0 := by
    refine qCnt_none _ (fun t ht => ?_)
    unfold qOk
    apply decide_eq_false
    intro h
    have : t = 6 * (t / 6) + t % 6 := (Nat.div_add_mod t 6).symm
    have : p = 6 * (p / 6) + p % 6 := (Nat.div_add_mod p 6).symm
    omega
  rw [this, Nat.zero_add]; rfl
theorem qMB_is (fu : Nat → Bool) (p m : Nat) : ∀ n, m ≤ qMB fu p m n ∧ (∀ t, t < n → qOk fu p (p + t) = true → qAr p (p + t) ≤ qMB fu p m n) ∧ (qMB fu p m n = m ∨ ∃ t, t < n ∧ qOk fu p (p + t) = true ∧ qMB fu p m n = qAr p (p + t))
  | 0 => ⟨Nat.le_refl m, fun t ht => absurd ht (Nat.not_lt_zero t), Or.inl rfl⟩
  | n + 1 => by
    obtain ⟨h1, h2, h3⟩ := qMB_is fu p m n
    have e : qMB fu p m (n + 1) = if qOk fu p (p + n) then max (qMB fu p m n) (qAr p (p + n)) else qMB fu p m n := rfl
    rw [e]
    generalize qMB fu p m n = r at *
    by_cases z : qOk fu p (p + n) = true
    · rw [if_pos z]
      refine ⟨by omega, fun t ht hk => ?_, ?_⟩
      · by_cases y : t = n
        · rw [y]; omega
        · have := h2 t (by omega) hk; omega
      · rcases Nat.le_total r (qAr p (p + n)) with y | y
        · exact Or.inr ⟨n, by omega, z, by omega⟩
        · rw [Nat.max_eq_left y]
          rcases h3 with q | ⟨t, t1, t2, t3⟩
          · exact Or.inl q
          · exact Or.inr ⟨t, by omega, t2, t3⟩
    · rw [if_neg z]
      refine ⟨h1, fun t ht hk => ?_, ?_⟩
      · by_cases y : t = n
        · rw [y] at hk; exact absurd hk z
        · exact h2 t (by omega) hk
      · rcases h3 with q | ⟨t, t1, t2, t3⟩
        · exact Or.inl q
        · exact Or.inr ⟨t, by omega, t2, t3⟩
theorem q_sameB (fu : Nat → Bool) (p m : Nat) (hp : p < 36) : qMB fu p m (36 - p) = qSB fu (p % 6) (p / 6) m (6 - p / 6) := by
  obtain ⟨a1, a2, a3⟩ := qMB_is fu p m (36 - p)
  obtain ⟨b1, b2, b3⟩ := qFold_max (fun s => qWd fu (p % 6) (p / 6) (s + 1) * (s + 1)) m (6 - p / 6)
  have e : qSB fu (p % 6) (p / 6) m (6 - p / 6) = qFold (fun v t => max v (qWd fu (p % 6) (p / 6) (t + 1) * (t + 1))) m (6 - p / 6) := rfl
  rw [← e] at b1 b2 b3
  generalize qMB fu p m (36 - p) = M at *
  generalize qSB fu (p % 6) (p / 6) m (6 - p / 6) = X at *
  have hpp : p = 6 * (p / 6) + p % 6 := (Nat.div_add_mod p 6).symm
  apply Nat.le_antisymm
  · rcases a3 with q | ⟨t, t1, t2, t3⟩
    · omega
    · have h := of_decide_eq_true t2
      have := b2 ((p + t) / 6 - p / 6) (by omega)
      rw [t3]
      exact Nat.le_trans (Nat.mul_le_mul_right _ h.2.2) this
  · rcases b3 with q | ⟨s, s1, s2⟩
    · omega
    · rw [s2]
      rcases Nat.eq_zero_or_pos (qWd fu (p % 6) (p / 6) (s + 1)) with z | z
      · rw [z]; omega
      · have hw := qWd_le fu (p % 6) (p / 6) (s + 1)
        have hx : p % 6 < 6 := Nat.mod_lt _ (by omega)
        generalize hW : qWd fu (p % 6) (p / 6) (s + 1) = W at *
        have ht : p + (6 * s + (W - 1)) = 6 * (p / 6 + s) + (p % 6 + (W - 1)) := by omega
        have d1 : (p + (6 * s + (W - 1))) / 6 = p / 6 + s := by rw [ht]; omega
        have d2 : (p + (6 * s + (W - 1))) % 6 = p % 6 + (W - 1) := by rw [ht]; omega
        have := a2 (6 * s + (W - 1)) (by omega) (by
          unfold qOk
          rw [d1, d2]
          refine decide_eq_true ⟨by omega, by omega, ?_⟩
          rw [show p / 6 + s - p / 6 + 1 = s + 1 by omega, hW]; omega)
        unfold qAr at this
        rw [d1, d2, show p % 6 + (W - 1) - p % 6 + 1 = W by omega, show p / 6 + s - p / 6 + 1 = s + 1 by omega] at this
        exact this
theorem q_same (fu : Nat → Bool) : ∀ p, p ≤ 36 → qNA fu p = qRA fu p ∧ qNB fu p = qRB fu p
  | 0, _ => ⟨rfl, rfl⟩
  | p + 1, h => by
    obtain ⟨h1, h2⟩ := q_same fu p (by omega)
    rw [qNA, qRA, qNB, qRB, h1, h2, q_sameA fu p (by omega), q_sameB fu p _ (by omega)]
    exact ⟨rfl, rfl⟩
end Qrug3
