/-! UNDOING -/
section Qundo
variable {β : zHp × zHp}
theorem q_ring7 : ∀ m, m < 6 → ∀ u, u < 6 → ∀ j, j < 6 → ((m + 6 - 1) % 6 + 6 - u + j) % 6 = (m + 6 - (u + 1) + j) % 6 := by decide
theorem q_ring8 : ∀ m, m < 6 → ∀ u, u < 6 → (m + 6 - (u + 1) + u) % 6 = (m + 6 - 1) % 6 := by decide
theorem q_undo26 {k : zHp} {u : Nat} (h3 : k 0 3 = nI u) (hu : u < 6) : ∃ k', f_X11_undo_26_lp zN (nI 0, k) = some (nI 1, k') ∧ (∀ a, a ≠ 1 → k' a = k a) ∧ ∀ i, i < 77 → k' 1 i = k 2 (77 * u + i) := by
  unfold f_X11_undo_26_lp
  refine q_exit (b := fun k26 v => f_X11_undo_26 k26 v.1 v.2) (I := fun j v => ∃ k1, v = (nI j, k1) ∧ (∀ a, a ≠ 1 → k1 a = k a) ∧ ∀ i, i < j → k1 1 i = k 2 (77 * u + i)) 77 (Q := fun r => ∃ k', r = some (nI 1, k') ∧ (∀ a, a ≠ 1 → k' a = k a) ∧ ∀ i, i < 77 → k' 1 i = k 2 (77 * u + i)) (fun j v hj hI => Or.inl ?_) (fun v hI => ?_) _ ⟨k, rfl, fun _ _ => rfl, fun i hi => by omega⟩ zN (by rw [q_zN]; omega)
  · obtain ⟨k1, rfl, e1, e2⟩ := hI
    have e0 : k1 0 3 = nI u := by rw [e1 0 (by omega)]; exact h3
    have e4 : k1 2 = k 2 := e1 2 (by omega)
    refine ⟨(nI (j + 1), zst k1 1 j (k 2 (77 * u + j))), fun rec => ?_, _, rfl, fun a ha => by rw [q_st_c ha]; exact e1 a ha, fun i hi => ?_⟩
    · simp only [f_X11_undo_26]
      simp (disch := omega) only [e0, e4, ↓reduceIte, ↓qM_e, ↓q_rem, q_mod, q_modN, q_lit, q_nI, q_lt, q_bd, q_ix, q_dz, q_iflt, q_ifnlt, q_ifeq, q_ifne, q_ifM, q_ifMM, q_ifMlt, q_ifltM, nI_add, pk_mul, q_sub, q_div, q_cl, q_st_s, q_st_i, q_st_c, Nat.add_zero, Nat.zero_add]
    · by_cases z : i = j
      · rw [z, q_st_s]
      · rw [q_st_i z]; exact e2 i (by omega)
  · obtain ⟨k1, rfl, e1, e2⟩ := hI
    refine ⟨some (nI 1, k1), fun rec => ?_, _, rfl, e1, e2⟩
    simp only [f_X11_undo_26]
    simp (disch := omega) only [↓reduceIte, ↓qM_e, ↓q_rem, q_mod, q_modN, q_lit, q_nI, q_lt, q_bd, q_ix, q_dz, q_iflt, q_ifnlt, q_ifeq, q_ifne, q_ifM, q_ifMM, q_ifMlt, q_ifltM, nI_add, pk_mul, q_sub, q_div, q_cl, q_st_s, q_st_i, q_st_c, Nat.add_zero, Nat.zero_add]
theorem q_call_undo {h k : zHp} (R : qRel h k) : qCall (f_X10_undo h) (f_X11_undo k) := by
  have R0 : qRel h (zst k 0 0 0) := qRel_s (qXs_rf h) (qMs_s0 k) R
  obtain ⟨C, P, n, m', M, -⟩ := qRel_M (β := (h, h)) R0
  obtain ⟨u, m, C', P', n', p1, p2, p3, p4, p5, p6, p7, p8⟩ := id R0.2.1
  have hC := M.1.2.2.1.1
  have hP := M.1.2.2.1.2.1
  obtain ⟨k0, hk0⟩ : ∃ k0, k0 = zst k 0 0 0 := ⟨_, rfl⟩
  have eM : f_X11_undo k = (if (k0 0 3) = 0 then some ((0 : Int32), k0) else zlt (zst k0 0 3 ((k0 0 3) - (1 : Int32))) fun h2 => f_X11_undo_26_lp zN ((0 : Int32), h2)) := by rw [hk0]; rfl
  rw [eM]
  rw [← hk0] at R0 M p4 p6 p7 p8
  cases u with
  | zero =>
    refine ⟨nI 0, h, k0, ?_, if_pos p4, R0⟩
    unfold f_X10_undo f_X3_goBack
    rw [if_pos (show h 79 3 = 0 from p3), q_bd]; exact q_zzb (b := 0) (by omega)
  | succ u =>
    obtain ⟨g1, g2, b, g3, g4, g5⟩ := p8 u (by omega)
    obtain ⟨rfl, rfl⟩ := qCh_u p6 M.1.1 g2.1 hC g2.2.1 hP
    rw [q_ring8 m p2 u (by omega)] at g1 g4
    obtain ⟨r, hr, hr2⟩ : ∃ r, r = (m + 6 - 1) % 6 ∧ r < 6 := ⟨_, rfl, Nat.mod_lt _ (by omega)⟩
    rw [← hr] at g1 g4
    obtain ⟨h1, c1, c2, c3, c4, c5, c6⟩ := q_copy (h := zst (zst h 79 3 (nI u)) 79 2 (nI r)) (o := 2) (b := 82 + 9 * r) (by omega)
    obtain ⟨k1, d1, d2, d3⟩ := q_undo26 (k := zst k0 0 3 (nI u)) (u := u) q_st_s (by omega)
    have h79 : h1 79 2 = nI r := by rw [c2 79 (by omega), q_st_s]
    have h81 : h1 81 r = nI b := by rw [c2 81 (by omega), q_st_c (by omega), q_st_c (by omega)]; exact g4
    have d3' : ∀ i, i < 77 → k1 1 i = k0 2 (77 * u + i) := fun i hi => by rw [d3 i hi, q_st_c (by omega)]
    have dd : ∀ a, a ≠ 0 → a ≠ 1 → k1 a = k0 a := fun a a0 a1 => by rw [d2 a a1, q_st_c a0]
    have d0 : ∀ i, i ≠ 3 → k1 0 i = k0 0 i := fun i hi => by rw [d2 0 (by omega), q_st_i hi]
    have hx : ∀ a, ¬(2 ≤ a ∧ a ≤ 10) → a ≠ 11 → a ≠ 79 → (zst h1 11 2 (nI b)) a = h a := fun a a1 a2 a3 => by rw [q_st_c a2, c2 a (by omega), q_st_c a3, q_st_c a3]
    have M1 : qMn (h, h) 2 C' P' (zst h1 11 2 (nI b)) k1 := by
      obtain ⟨⟨⟨a1, a2⟩, y2, y3, y4, nn, y5⟩, ⟨b0, ⟨bb, bb1, bb2, bb3⟩, b4⟩, yO⟩ := M
      refine ⟨⟨⟨by rw [d0 6 (by omega)]; exact a1, by rw [d0 7 (by omega)]; exact a2⟩, ?_, qFine_c (fun i q1 q2 => d3' i (by omega)) g2, ?_, nn, ?_⟩, ⟨?_, ⟨b, g3, ?_, ?_⟩, fun i hi => ?_⟩, Or.inl ⟨rfl, ?_, ?_⟩⟩
      · rw [dd 4 (by omega) (by omega), dd 5 (by omega) (by omega)]
        have q := qPo_copy (h := zst (zst h 79 3 (nI u)) 79 2 (nI r)) (h' := h1) (o := 2) (b := 82 + 9 * r) hC hP c3 c4 c5 (qPo_c hC hP (fun a q1 q2 => by rw [q_st_c (by omega), q_st_c (by omega)]) (fun _ _ => rfl) (fun _ _ => rfl) (fun _ _ => rfl) g1)
        exact qPo_c hC hP (fun a q1 q2 => q_st_c (by omega)) (fun i hi => d3' i hi) (fun _ _ => rfl) (fun _ _ => rfl) q
      · have l1 := qLaw_c (h' := zst h1 11 2 (nI b)) (fun a q1 q2 => hx a (by omega) (by omega) (by omega)) (qAs_rf k0) y4
        obtain ⟨n2, sz, y⟩ := l1
        refine ⟨n2, sz, ?_⟩
        rw [dd 9 (by omega) (by omega), dd 10 (by omega) (by omega), dd 11 (by omega) (by omega), dd 12 (by omega) (by omega), dd 13 (by omega) (by omega), dd 14 (by omega) (by omega), dd 15 (by omega) (by omega)]
        exact y
      · rw [dd 19 (by omega) (by omega)]
        exact qKin_c hP (hx _ (by omega) (by omega) (by omega)) (hx _ (by omega) (by omega) (by omega)) (fun _ _ => rfl) y5
      · rw [show (1 : Nat) + 10 = 11 from rfl, q_st_i (by omega), c2 11 (by omega), q_st_c (by omega), q_st_c (by omega)]; exact b0
      · rw [show (1 : Nat) + 10 = 11 from rfl, q_st_s]
      · rw [d3' 2 (by omega)]; exact g5
      · rw [hx _ (by omega) (by omega) (by omega), dd 6 (by omega) (by omega)]; exact b4 i hi
      · rw [q_st_c (by omega), c6 0 (by omega), q_st_c (by omega), q_st_c (by omega)]
        rcases yO with ⟨-, q, -⟩ | ⟨q, -⟩
        · exact q
        · omega
      · rw [d0 5 (by omega)]
        rcases yO with ⟨-, -, q⟩ | ⟨q, -⟩
        · exact q
        · omega
    refine ⟨nI 1, zst h1 11 2 (nI b), k1, ?_, ?_, qRel_mn R0 M1 M.1.1 (fun a a1 a2 a3 a4 a5 a6 => hx a a1 a2 (by omega)) (fun a a0 a1 _ _ _ _ => dd a a0 a1) (fun i _ i3 => d0 i i3) ⟨u, r, C', P', b, by omega, hr2, ?_, ?_, ?_, M1.1.1, ?_, fun j hj => ?_⟩⟩
    · have e3 : h 79 3 - nI 1 = nI u := by rw [p3]; exact nI_pred u
      have e6 : (m + 6 - 1) % 6 = r := hr.symm
      have e5 : (m + 5) % 6 = r := hr.symm
      have e0 : ¬ h 79 3 = nI 0 := by rw [p3]; exact fun q => by have := (nI_eq (by omega) (by omega)).mp q; omega
      unfold f_X10_undo f_X3_goBack
      simp (disch := omega) only [q_ifF e0, e3, p5, e5, e6, c1, h79, h81, q_zzb, ↓reduceIte, ↓qM_e, ↓q_rem, q_mod, q_modN, q_lit, q_nI, q_lt, q_bd, q_ix, q_dz, q_iflt, q_ifnlt, q_ifeq, q_ifne, q_ifM, q_ifMM, q_ifMlt, q_ifltM, nI_add, pk_mul, q_sub, q_div, q_cl, q_st_s, q_st_i, q_st_c, Nat.add_zero, Nat.zero_add]
    · rw [if_neg (show ¬ k0 0 3 = 0 by rw [p4]; exact fun q => by have := (nI_eq (a := u + 1) (b := 0) (by omega) (by omega)).mp q; omega), q_lt, p4, show nI (u + 1) - (1 : Int32) = nI u from nI_pred u]
      exact d1
    · rw [q_st_c (by omega), c2 79 (by omega), q_st_i (by omega), q_st_s]
    · rw [d2 0 (by omega), q_st_s]
    · rw [q_st_c (by omega), h79]
    · rw [d3' 2 (by omega)]; exact g5
    · obtain ⟨g1, g2, g⟩ := p8 j (by omega)
      rw [hr, q_ring7 m p2 u (by omega) j (by omega), dd 2 (by omega) (by omega), dd 4 (by omega) (by omega), dd 5 (by omega) (by omega), hx 81 (by omega) (by omega) (by omega)]
      have h6 : (m + 6 - (u + 1) + j) % 6 < 6 := Nat.mod_lt _ (by omega)
      exact ⟨qPo_c hC hP (fun a q1 q2 => hx a (by omega) (by omega) (by omega)) (fun _ _ => rfl) (fun _ _ => rfl) (fun _ _ => rfl) g1, g2, g⟩
end Qundo
