/-! WHAT CAN BE UNDONE: both keep -/
section Qpast2
theorem q_ring1 : ∀ m, m < 6 → ∀ u, u < 6 → ∀ j, j < 7 → ((m + 1) % 6 + 6 - (u + 1) + j) % 6 = (m + 6 - u + j) % 6 := by decide
theorem q_ring2 : ∀ m, m < 6 → ∀ u, u < 6 → ∀ j, j < u → ¬ (m + 6 - u + j) % 6 = m := by decide
theorem q_ring6 : ∀ m, m < 6 → ∀ j, j < 5 → ¬ (m + 6 - 6 + (j + 1)) % 6 = m := by decide
theorem q_ring3 : ∀ m, m < 6 → ∀ u, u < 6 → (m + 6 - u + u) % 6 = m := by decide
theorem q_ring4 : ∀ m, m < 6 → ((m + 1) % 6 + 6 - 6 + 5) % 6 = m := by decide
theorem q_ring5 : ∀ m, m < 6 → ∀ j, j < 5 → ((m + 1) % 6 + 6 - 6 + j) % 6 = (m + 6 - 6 + (j + 1)) % 6 := by decide
theorem q_keepM6 {k : zHp} {u : Nat} (h3 : k 0 3 = nI 6) (hu : u = 6) : ∃ k', f_X11_keepsAhead k = some k' ∧ k' 0 3 = nI (if u < 6 then u + 1 else 6) ∧ (∀ i, i ≠ 3 → k' 0 i = k 0 i) ∧ (∀ a, a ≠ 0 → a ≠ 2 → k' a = k a) ∧ (∀ i, i < 77 → k' 2 (77 * (if u < 6 then u else 5) + i) = k 1 i) ∧ (∀ i, u < 6 → i < 77 * u → k' 2 i = k 2 i) ∧ ∀ i, u = 6 → i < 385 → k' 2 i = k 2 (i + 77) := by
  have hl : ¬ u < 6 := by omega
  rw [if_neg hl, if_neg hl]
  obtain ⟨k1, a1, a2, a3⟩ := q_keep21 (k := zst k 0 3 (nI 5)) q_st_s
  have b3 : k1 0 3 = nI 5 := by rw [a2 0 (by omega), q_st_s]
  obtain ⟨k', e1, e2, e3, e4, e5, e6⟩ := q_keep55 (k := k1) (u := 5) b3 (by omega)
  refine ⟨k', ?_, e2, fun i hi => ?_, fun a b1 b2 => ?_, fun i hi => ?_, fun i q => absurd q hl, fun i _ hi => ?_⟩
  · unfold f_X11_keepsAhead
    rw [h3, if_pos (show nI 6 = (6 : Int32) from rfl), q_lt, show nI 6 - (1 : Int32) = nI 5 from nI_pred 5]
    exact a1.trans e1
  · rw [e3 i hi, a2 0 (by omega), q_st_i hi]
  · rw [e4 a b1 b2, a2 a b2, q_st_c b1]
  · rw [e5 i hi, a2 1 (by omega), q_st_c (by omega)]
  · rw [e6 i (by omega), a3 i hi, q_st_c (by omega)]
theorem q_keepM {k : zHp} {u : Nat} (h3 : k 0 3 = nI u) (hu : u ≤ 6) : ∃ k', f_X11_keepsAhead k = some k' ∧ k' 0 3 = nI (if u < 6 then u + 1 else 6) ∧ (∀ i, i ≠ 3 → k' 0 i = k 0 i) ∧ (∀ a, a ≠ 0 → a ≠ 2 → k' a = k a) ∧ (∀ i, i < 77 → k' 2 (77 * (if u < 6 then u else 5) + i) = k 1 i) ∧ (∀ i, u < 6 → i < 77 * u → k' 2 i = k 2 i) ∧ ∀ i, u = 6 → i < 385 → k' 2 i = k 2 (i + 77) := by
  rcases Nat.lt_or_ge u 6 with z | z
  · obtain ⟨k', e1, e2, e3, e4, e5, e6⟩ := q_keep55 h3 z
    rw [if_pos z, if_pos z]
    refine ⟨k', ?_, e2, e3, e4, e5, fun i _ hi => e6 i hi, fun i q => by omega⟩
    unfold f_X11_keepsAhead
    simp (disch := omega) only [h3, e1, ↓reduceIte, ↓qM_e, ↓q_rem, q_mod, q_modN, q_lit, q_nI, q_lt, q_bd, q_ix, q_dz, q_iflt, q_ifnlt, q_ifeq, q_ifne, q_ifM, q_ifMM, q_ifMlt, q_ifltM, nI_add, pk_mul, q_sub, q_div, q_cl, q_st_s, q_st_i, q_st_c, Nat.add_zero, Nat.zero_add]
  · have hu6 : u = 6 := by omega
    exact q_keepM6 (by rw [hu6] at h3; exact h3) hu6
/-- both keep what is -/
theorem q_keeps {h k : zHp} {C P : Nat} (Pst : qPast h k) (ch : qCh k C P) (Po : qPo h 2 (k 1) (k 4) (k 5) C P) (F : qFine (k 1) C P) {n : Nat} (hn : n ≤ 150) (hb : h 11 2 = nI n) (kb : k 1 2 = nI n) : ∃ h' k', f_X3_keep 2 (h 11 2) h = some h' ∧ f_X11_keepsAhead k = some k' ∧ qPast h' k' ∧ (∀ a, ¬(79 ≤ a ∧ a ≤ 135) → h' a = h a) ∧ (∀ a, a ≠ 0 → a ≠ 2 → k' a = k a) ∧ ∀ i, i ≠ 3 → k' 0 i = k 0 i := by
  obtain ⟨u, m, C', P', n', p1, p2, p3, p4, p5, p6, p7, p8⟩ := Pst
  have hC := F.1
  have hP := F.2.1
  obtain ⟨h', x1, x2, x3, x4, x5, x6, x7, x8, x9⟩ := q_keepX p5 p2 p3 p1 (h 11 2)
  obtain ⟨k', y1, y2, y3, y4, y5, y6, y7⟩ := q_keepM p4 p1
  have k1' : k' 1 = k 1 := y4 1 (by omega) (by omega)
  have k4' : k' 4 = k 4 := y4 4 (by omega) (by omega)
  have k5' : k' 5 = k 5 := y4 5 (by omega) (by omega)
  have ch' : qCh k' C P := ⟨by rw [y3 6 (by omega)]; exact ch.1, by rw [y3 7 (by omega)]; exact ch.2⟩
  have cu : 0 < u → C' = C ∧ P' = P := by
    intro hu
    have g := (p8 0 hu).2.1
    exact qCh_u p6 ch g.1 hC g.2.1 hP
  -- the new one
  have new : ∀ j, j = (if u < 6 then u else 5) → qPo h' (82 + 9 * m) (fun i => k' 2 (77 * j + i)) (k' 4) (k' 5) C P ∧ qFine (fun i => k' 2 (77 * j + i)) C P ∧ ∃ b, b ≤ 150 ∧ h' 81 m = nI b ∧ k' 2 (77 * j + 2) = nI b := by
    intro j hj
    subst hj
    refine ⟨?_, qFine_c (fun i q1 q2 => y5 i (by omega)) F, n, hn, by rw [x6]; exact hb, by rw [y5 2 (by omega)]; exact kb⟩
    rw [k4', k5']
    refine qPo_copy hC hP x7 x8 x9 (b := 2) ?_
    exact qPo_c hC hP (fun _ _ _ => rfl) (fun i hi => y5 i hi) (fun _ _ => rfl) (fun _ _ => rfl) Po
  have hdis : ∀ r, r < 6 → r ≠ m → ∀ a, 82 + 9 * r ≤ a → a ≤ 82 + 9 * r + 8 → ¬(82 + 9 * m ≤ a ∧ a ≤ 90 + 9 * m) := by
    intro r _ hn a q1 q2
    omega
  -- an old one: the class's at r, the reference's jth becomes its jth'
  have old : ∀ j j', j < u → (m + 6 - u + j) % 6 ≠ m → (∀ i, i < 77 → k' 2 (77 * j' + i) = k 2 (77 * j + i)) → qPo h' (82 + 9 * ((m + 6 - u + j) % 6)) (fun i => k' 2 (77 * j' + i)) (k' 4) (k' 5) C P ∧ qFine (fun i => k' 2 (77 * j' + i)) C P ∧ ∃ b, b ≤ 150 ∧ h' 81 ((m + 6 - u + j) % 6) = nI b ∧ k' 2 (77 * j' + 2) = nI b := by
    intro j j' hj ne ek
    obtain ⟨rfl, rfl⟩ := cu (by omega)
    obtain ⟨g1, g2, b, g3, g4, g5⟩ := p8 j hj
    have hr : (m + 6 - u + j) % 6 < 6 := Nat.mod_lt _ (by omega)
    rw [k4', k5']
    refine ⟨qPo_c hC hP (fun a q1 q2 => x2 a (hdis _ hr ne a q1 q2) (by omega) (by omega)) (fun i hi => ek i hi) (fun _ _ => rfl) (fun _ _ => rfl) g1, qFine_c (fun i q1 q2 => ek i (by omega)) g2, b, g3, by rw [x5 _ ne]; exact g4, by rw [ek 2 (by omega)]; exact g5⟩
  refine ⟨h', k', x1, y1, ⟨if u < 6 then u + 1 else 6, (m + 1) % 6, C, P, n, ?_, Nat.mod_lt _ (by omega), x4, y2, x3, ch', by rw [k1']; exact kb, fun j hj => ?_⟩, fun a ha => x2 a (by omega) (by omega) (by omega), y4, y3⟩
  · split <;> omega
  · rcases Nat.lt_or_ge u 6 with z | z
    · rw [if_pos z] at hj ⊢
      have em : ((m + 1) % 6 + 6 - (u + 1) + j) % 6 = (m + 6 - u + j) % 6 := q_ring1 m p2 u z j (by omega)
      rw [em]
      by_cases zj : j = u
      · have e2 : (m + 6 - u + j) % 6 = m := by rw [zj]; exact q_ring3 m p2 u z
        rw [e2]
        exact new j (by rw [if_pos z]; exact zj)
      · exact old j j (by omega) (q_ring2 m p2 u z j (by omega)) (fun i hi => y6 _ z (by omega))
    · have hu6 : u = 6 := by omega
      subst hu6
      rw [if_neg (by omega)] at hj ⊢
      by_cases zj : j = 5
      · have e2 : ((m + 1) % 6 + 6 - 6 + j) % 6 = m := by rw [zj]; exact q_ring4 m p2
        rw [e2]
        exact new j (by rw [if_neg (by omega)]; exact zj)
      · have em : ((m + 1) % 6 + 6 - 6 + j) % 6 = (m + 6 - 6 + (j + 1)) % 6 := q_ring5 m p2 j (by omega)
        rw [em]
        exact old (j + 1) j (by omega) (q_ring6 m p2 j (by omega)) (fun i hi => by rw [y7 _ rfl (by omega)]; congr 1; omega)
end Qpast2
