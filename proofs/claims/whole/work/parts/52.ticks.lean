/-! TICKS, the numbers -/
section Qticks
def qSat (mm rr : Nat → Nat) (i t : Nat) : Prop := ∀ j, j < i → t % mm j = rr j
/-- what i ticks say together: nothing, or one rest t of a time p -/
def qMeet (mm rr : Nat → Nat) (i p t : Nat) : Prop := t < p ∧ qSat mm rr i t ∧ ∀ t', qSat mm rr i t' → t' % p = t
theorem q_lcm (p m : Nat) : p / Nat.gcd p m * m = Nat.lcm p m := by
  unfold Nat.lcm
  rw [Nat.mul_comm, Nat.mul_comm p m, Nat.mul_div_assoc _ (Nat.gcd_dvd_left p m)]
theorem q_modadd {t q p m : Nat} : (t + q * p) % m = (t + q % m * p) % m := by
  rw [Nat.add_mod, Nat.mul_mod q p m, Nat.add_mod t (q % m * p), Nat.mul_mod (q % m) p m, Nat.mod_mod]
/-- the next tick found -/
theorem qMeet_next {mm rr : Nat → Nat} {i p t e : Nat} (hm : 0 < mm i) (hp : 0 < p) (H : qMeet mm rr i p t) (he : (t + e * p) % mm i = rr i) (hmin : ∀ j, j < e → (t + j * p) % mm i ≠ rr i) (hdv : ∀ j, j < i → mm j ∣ p) : qMeet mm rr (i + 1) (Nat.lcm p (mm i)) (t + e * p) := by
  obtain ⟨h1, h2, h3⟩ := H
  have hpl : p ∣ Nat.lcm p (mm i) := Nat.dvd_lcm_left _ _
  have hml : mm i ∣ Nat.lcm p (mm i) := Nat.dvd_lcm_right _ _
  have hl0 : 0 < Nat.lcm p (mm i) := Nat.lcm_pos hp hm
  have hs : qSat mm rr (i + 1) (t + e * p) := by
    intro j hj
    rcases Nat.lt_or_ge j i with q | q
    · obtain ⟨c, hc⟩ := hdv j q
      have : t + e * p = t + mm j * (e * c) := by rw [hc, Nat.mul_left_comm]
      rw [this, Nat.add_mul_mod_self_left]
      exact h2 j q
    · have : j = i := by omega
      rw [this]; exact he
  have key : ∀ t', qSat mm rr (i + 1) t' → t' % Nat.lcm p (mm i) = (t + e * p) % Nat.lcm p (mm i) := by
    intro t' ht'
    have a1 : t' % p = (t + e * p) % p := by
      rw [h3 t' (fun j hj => ht' j (by omega)), Nat.add_mul_mod_self_right, Nat.mod_eq_of_lt h1]
    have a2 : t' % mm i = (t + e * p) % mm i := by rw [he]; exact ht' i (by omega)
    rcases Nat.le_total t' (t + e * p) with q | q
    · have b1 : p ∣ (t + e * p) - t' := (Nat.dvd_iff_mod_eq_zero ..).mpr (Nat.sub_mod_eq_zero_of_mod_eq a1.symm)
      have b2 : mm i ∣ (t + e * p) - t' := (Nat.dvd_iff_mod_eq_zero ..).mpr (Nat.sub_mod_eq_zero_of_mod_eq a2.symm)
      obtain ⟨c, hc⟩ := Nat.lcm_dvd b1 b2
      have : t + e * p = t' + Nat.lcm p (mm i) * c := by omega
      rw [this, Nat.add_mul_mod_self_left]
    · have b1 : p ∣ t' - (t + e * p) := (Nat.dvd_iff_mod_eq_zero ..).mpr (Nat.sub_mod_eq_zero_of_mod_eq a1)
      have b2 : mm i ∣ t' - (t + e * p) := (Nat.dvd_iff_mod_eq_zero ..).mpr (Nat.sub_mod_eq_zero_of_mod_eq a2)
      obtain ⟨c, hc⟩ := Nat.lcm_dvd b1 b2
      have : t' = (t + e * p) + Nat.lcm p (mm i) * c := by omega
      rw [this, Nat.add_mul_mod_self_left]
  have hlt : t + e * p < Nat.lcm p (mm i) := by
    rcases Nat.lt_or_ge (t + e * p) (Nat.lcm p (mm i)) with q | q
    · exact q
    · exfalso
      obtain ⟨c, hc⟩ := hpl
      have hc0 : 0 < c := by
        rcases Nat.eq_zero_or_pos c with z | z
        · rw [z] at hc; omega
        · exact z
      have hce : c ≤ e := by
        rcases Nat.lt_or_ge e c with z | z
        · exfalso
          have h8 : (e + 1) * p ≤ c * p := Nat.mul_le_mul_right p z
          have h9 : (e + 1) * p = e * p + p := Nat.succ_mul e p
          have h10 : Nat.lcm p (mm i) = c * p := by rw [hc, Nat.mul_comm]
          omega
        · exact z
      refine hmin (e - c) (by omega) ?_
      have : t + e * p = (t + (e - c) * p) + Nat.lcm p (mm i) := by
        rw [hc, Nat.mul_comm p c, Nat.add_assoc, ← Nat.add_mul, Nat.sub_add_cancel hce]
      rw [this] at he
      obtain ⟨d, hd⟩ := hml
      rw [hd, Nat.add_mul_mod_self_left] at he
      exact he
  exact ⟨hlt, hs, fun t' ht' => by rw [key t' ht', Nat.mod_eq_of_lt hlt]⟩
/-- the next tick never -/
theorem qMeet_none {mm rr : Nat → Nat} {i p t : Nat} (hm : 0 < mm i) (H : qMeet mm rr i p t) (hno : ∀ j, j < mm i → (t + j * p) % mm i ≠ rr i) : ∀ t', ¬ qSat mm rr (i + 1) t' := by
  intro t' ht'
  obtain ⟨h1, h2, h3⟩ := H
  have a1 := h3 t' (fun j hj => ht' j (by omega))
  have a2 := Nat.mod_add_div t' p
  rw [a1] at a2
  have a3 := ht' i (by omega)
  rw [← a2, Nat.mul_comm, q_modadd] at a3
  exact hno _ (Nat.mod_lt _ hm) a3
end Qticks
