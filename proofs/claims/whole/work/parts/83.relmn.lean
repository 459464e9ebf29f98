/-! THE RELATION, when the porch has changed -/
section Qrelmn
variable {β : zHp × zHp}
theorem qTold_f {h h' k k' : zHp} (e : ∀ a, 27 ≤ a → a ≤ 39 → h' a = h a) (f : ∀ a, 22 ≤ a → a ≤ 36 → k' a = k a) (f0 : ∀ i, 42 ≤ i → i ≤ 62 → k' 0 i = k 0 i) (H : qTold h 1 k) : qTold h' 1 k' := by
  unfold qTold qTicks qWont qPts qRowN qCoins qFull at H ⊢
  simp (disch := omega) only [e, f, f0]
  exact H
theorem qRel_mn {h k h' k' : zHp} (R : qRel h k) {C P : Nat} (M : qMn β 2 C P h' k') (ch : qCh k C P) (e : ∀ a, ¬(2 ≤ a ∧ a ≤ 10) → a ≠ 11 → a ≠ 12 → a ≠ 160 → a ≠ 19 → ¬(79 ≤ a ∧ a ≤ 135) → h' a = h a) (f : ∀ a, a ≠ 0 → a ≠ 1 → a ≠ 2 → a ≠ 6 → a ≠ 20 → a ≠ 21 → k' a = k a) (f0 : ∀ i, i ≠ 0 → i ≠ 3 → k' 0 i = k 0 i) (Pst : qPast h' k') : qRel h' k' := by
  obtain ⟨⟨C0, P0, h1, ⟨h2, h3⟩, h4, h5, ⟨n, h6, h7⟩, ⟨n2, h8, h9⟩, ⟨n3, h10, h11⟩, h12⟩, -, ⟨t, t1, t2, t3, t4⟩, ⟨x1, x2, x3, x4, x5, x6, x7⟩, hI⟩ := R
  obtain ⟨⟨y1, y2, y3, y4, y5⟩, yB, yO⟩ := M
  have hC := y3.1
  have hP := y3.2.1
  obtain ⟨rfl, rfl⟩ := qCh_u h1 ch h3.1 hC h3.2.1 hP
  have f38 : k' 38 = k 38 := f 38 (by omega) (by omega) (by omega) (by omega) (by omega) (by omega)
  have yO' : h' 2 0 = 0 ∧ k' 0 5 = 0 := by
    rcases yO with ⟨-, q⟩ | ⟨q, -⟩
    · exact q
    · omega
  refine ⟨⟨C0, P0, y1, ⟨y2, y3⟩, yB, y4, ⟨n, by rw [f0 34 (by omega) (by omega)]; exact h6, qCalls_c (e _ (by omega) (by omega) (by omega) (by omega) (by omega) (by omega)) (e _ (by omega) (by omega) (by omega) (by omega) (by omega) (by omega)) (fun i hi => by rw [f 17 (by omega) (by omega) (by omega) (by omega) (by omega) (by omega)]) h7⟩, ⟨n2, by rw [f0 36 (by omega) (by omega)]; exact h8, qHouse_c (e _ (by omega) (by omega) (by omega) (by omega) (by omega) (by omega)) (e _ (by omega) (by omega) (by omega) (by omega) (by omega) (by omega)) (fun i hi => by rw [f 18 (by omega) (by omega) (by omega) (by omega) (by omega) (by omega)]) h9⟩, ⟨n3, by rw [f0 38 (by omega) (by omega)]; exact h10, qKin_c hP (e _ (by omega) (by omega) (by omega) (by omega) (by omega) (by omega)) (e _ (by omega) (by omega) (by omega) (by omega) (by omega) (by omega)) (fun i hi => by rw [f 19 (by omega) (by omega) (by omega) (by omega) (by omega) (by omega)]) h11⟩, qTold_f (fun a q1 q2 => e a (by omega) (by omega) (by omega) (by omega) (by omega) (by omega)) (fun a q1 q2 => f a (by omega) (by omega) (by omega) (by omega) (by omega) (by omega)) (fun i q1 q2 => f0 i (by omega) (by omega)) h12⟩, Pst, ⟨t, t1, ?_, ?_, fun i hi => ?_⟩, ⟨yO'.1, ?_, ?_, yO'.2, ?_, ?_, ?_⟩, ?_⟩
  · rw [e 145 (by omega) (by omega) (by omega) (by omega) (by omega) (by omega)]; exact t2
  · rw [f0 12 (by omega) (by omega)]; exact t3
  · rw [e 146 (by omega) (by omega) (by omega) (by omega) (by omega) (by omega), f 7 (by omega) (by omega) (by omega) (by omega) (by omega) (by omega)]; exact t4 i hi
  · rw [e 136 (by omega) (by omega) (by omega) (by omega) (by omega) (by omega)]; exact x2
  · rw [e 157 (by omega) (by omega) (by omega) (by omega) (by omega) (by omega)]; exact x3
  · intro i hi
    rw [f 8 (by omega) (by omega) (by omega) (by omega) (by omega) (by omega)]; exact x5 i hi
  · rw [e 145 (by omega) (by omega) (by omega) (by omega) (by omega) (by omega), f0 32 (by omega) (by omega)]; exact x6
  · rw [e 145 (by omega) (by omega) (by omega) (by omega) (by omega) (by omega), f0 33 (by omega) (by omega)]; exact x7
  · rw [e 0 (by omega) (by omega) (by omega) (by omega) (by omega) (by omega), f0 66 (by omega) (by omega), e 50 (by omega) (by omega) (by omega) (by omega) (by omega) (by omega), e 59 (by omega) (by omega) (by omega) (by omega) (by omega) (by omega), e 61 (by omega) (by omega) (by omega) (by omega) (by omega) (by omega), e 63 (by omega) (by omega) (by omega) (by omega) (by omega) (by omega)]
    rcases hI with q | ⟨q1, q2, q3⟩
    · exact Or.inl q
    · exact Or.inr ⟨q1, q2, qWh_c (fun a z1 z2 z3 => e a (by omega) (by omega) (by omega) (by omega) (by omega) (by omega)) (qAs_un f38) q3⟩
theorem qRel_M {h k : zHp} (R : qRel h k) : ∃ C P n m, qMn β 2 C P h k ∧ k 0 34 = nI n ∧ qCalls h 20 n (k 17) C P ∧ k 0 36 = nI m ∧ qHouse h 22 m (k 18) C := by
  obtain ⟨⟨C, P, h1, ⟨h2, h3⟩, h4, h5, ⟨n, h6, h7⟩, ⟨n2, h8, h9⟩, ⟨n3, h10, h11⟩, h12⟩, -, -, ⟨x1, x2, x3, x4, -⟩, -⟩ := R
  exact ⟨C, P, n, n2, ⟨⟨h1, h2, h3, h5, n3, h11⟩, h4, Or.inl ⟨rfl, x1, x4⟩⟩, h6, h7, h8, h9⟩
theorem qMn_k {h k h' k' : zHp} {C P : Nat} (M : qMn β 2 C P h k) (e : ∀ a, ¬(79 ≤ a ∧ a ≤ 135) → h' a = h a) (f : ∀ a, a ≠ 0 → a ≠ 2 → k' a = k a) (f0 : ∀ i, i ≠ 3 → k' 0 i = k 0 i) : qMn β 2 C P h' k' := by
  obtain ⟨⟨⟨a1, a2⟩, y2, y3, y4, n, y5⟩, yB, yO⟩ := M
  have hC := y3.1
  have hP := y3.2.1
  refine ⟨⟨⟨by rw [f0 6 (by omega)]; exact a1, by rw [f0 7 (by omega)]; exact a2⟩, ?_, ?_, ?_, n, ?_⟩, ?_, ?_⟩
  · rw [f 1 (by omega) (by omega), f 4 (by omega) (by omega), f 5 (by omega) (by omega)]
    exact qPo_c hC hP (fun a q1 q2 => e a (by omega)) (fun _ _ => rfl) (fun _ _ => rfl) (fun _ _ => rfl) y2
  · rw [f 1 (by omega) (by omega)]; exact y3
  · have l1 := qLaw_c (h' := h') (fun a q1 q2 => e a (by omega)) (qAs_rf k) y4
    obtain ⟨nn, sz, y⟩ := l1
    refine ⟨nn, sz, ?_⟩
    rw [f 9 (by omega) (by omega), f 10 (by omega) (by omega), f 11 (by omega) (by omega), f 12 (by omega) (by omega), f 13 (by omega) (by omega), f 14 (by omega) (by omega), f 15 (by omega) (by omega)]
    exact y
  · rw [f 19 (by omega) (by omega)]
    exact qKin_c hP (e _ (by omega)) (e _ (by omega)) (fun _ _ => rfl) y5
  · obtain ⟨b0, ⟨b, b1, b2, b3⟩, b4⟩ := yB
    exact ⟨by rw [e _ (by omega)]; exact b0, ⟨b, b1, by rw [e _ (by omega)]; exact b2, by rw [f 1 (by omega) (by omega)]; exact b3⟩, fun i hi => by rw [e _ (by omega), f 6 (by omega) (by omega)]; exact b4 i hi⟩
  · rcases yO with ⟨q0, q1, q2⟩ | ⟨q, -⟩
    · exact Or.inl ⟨q0, by rw [e 2 (by omega)]; exact q1, by rw [f0 5 (by omega)]; exact q2⟩
    · omega
theorem qMn_ch {o C P : Nat} {h k : zHp} (M : qMn β o C P h k) : qCh k C P := M.1.1
/-- both keep: then the porch may be changed -/
theorem q_kept {h k : zHp} (R : qRel h k) : ∃ C P n m h1 k1, f_X3_keep 2 (h 11 2) h = some h1 ∧ f_X11_keepsAhead k = some k1 ∧ qMn β 2 C P h k ∧ qMn β 2 C P h1 k1 ∧ k1 0 34 = nI n ∧ qCalls h1 20 n (k1 17) C P ∧ k1 0 36 = nI m ∧ qHouse h1 22 m (k1 18) C ∧ (∀ i, k1 1 i = k 1 i) ∧ ∀ h' k', qMn β 2 C P h' k' → qXm 2 h1 h' → qMm k1 k' → qRel h' k' := by
  obtain ⟨C, P, n, m, M, c1, c2, c3, c4⟩ := qRel_M R
  obtain ⟨b, b1, b2, b3⟩ := M.2.1.2.1
  obtain ⟨h1, k1, x1, x2, x3, x4, x5, x6⟩ := q_keeps R.2.1 (qMn_ch M) M.1.2.1 M.1.2.2.1 b1 b2 b3
  refine ⟨C, P, n, m, h1, k1, x1, x2, M, qMn_k M x4 x5 x6, by rw [x6 34 (by omega)]; exact c1, ?_, by rw [x6 36 (by omega)]; exact c3, ?_, fun i => by rw [x5 1 (by omega) (by omega)], fun h' k' M' e f => ?_⟩
  · rw [x5 17 (by omega) (by omega)]
    exact qCalls_c (x4 _ (by omega)) (x4 _ (by omega)) (fun _ _ => rfl) c2
  · rw [x5 18 (by omega) (by omega)]
    exact qHouse_c (x4 _ (by omega)) (x4 _ (by omega)) (fun _ _ => rfl) c4
  · have k2 : k' 2 = k1 2 := f 2 (by omega) (by omega) (by omega) (by omega)
    have k4 : k' 4 = k1 4 := f 4 (by omega) (by omega) (by omega) (by omega)
    have k5 : k' 5 = k1 5 := f 5 (by omega) (by omega) (by omega) (by omega)
    have k0 : k' 0 = k1 0 := f 0 (by omega) (by omega) (by omega) (by omega)
    refine qRel_mn R M' (qMn_ch M) (fun a a1 a2 a3 a4 a5 a6 => by rw [e a (by omega) a2 a3 a4 a5]; exact x4 a a6) (fun a a0 a1 a2 a3 a4 a5 => by rw [f a a1 a3 a4 a5]; exact x5 a a0 a2) (fun i i0 i3 => by rw [k0]; exact x6 i i3) ?_
    obtain ⟨u, mm, C', P', n', p1, p2, p3, p4, p5, p6, p7, p8⟩ := x3
    obtain ⟨bb, bb1, bb2, bb3⟩ := M'.2.1.2.1
    refine ⟨u, mm, C', P', bb, p1, p2, by rw [e 79 (by omega) (by omega) (by omega) (by omega) (by omega)]; exact p3, by rw [k0]; exact p4, by rw [e 79 (by omega) (by omega) (by omega) (by omega) (by omega)]; exact p5, ⟨by rw [k0]; exact p6.1, by rw [k0]; exact p6.2⟩, bb3, fun j hj => ?_⟩
    obtain ⟨g1, g2, g⟩ := p8 j hj
    have hr : (mm + 6 - u + j) % 6 < 6 := Nat.mod_lt _ (by omega)
    rw [k2, k4, k5, e 81 (by omega) (by omega) (by omega) (by omega) (by omega)]
    exact ⟨qPo_c g2.1 g2.2.1 (fun a q1 q2 => e a (by omega) (by omega) (by omega) (by omega) (by omega)) (fun _ _ => rfl) (fun _ _ => rfl) (fun _ _ => rfl) g1, g2, g⟩
/-- minutes go by -/
theorem q_call_minutes {h k : zHp} (R : qRel h k) (a : Int32) : qCall (f_X10_minutes a h) (f_X11_minutes a k) := by
  have R0 : qRel h (zst k 0 0 0) := qRel_s (qXs_rf h) (qMs_s0 k) R
  obtain ⟨C, P, n, m, M, -⟩ := qRel_M (β := (h, h)) R0
  have n13 : h 2 13 = zst k 0 0 0 1 0 := M.1.2.1.2.2.2.2.1
  have n13' : h 2 13 = k 1 0 := n13
  unfold f_X10_minutes f_X11_minutes
  rcases q_rng 1 60 a (by omega) with o | ⟨t, ht, ht2, rfl⟩
  · refine ⟨-1, h, zst k 0 0 0, ?_, ?_, R0⟩
    · exact q_out2 o
    · rw [q_lt]
      have := q_inO (h := zst k 0 0 0) o
      rw [show (1 : Int32) = nI 1 from rfl, show (60 : Int32) = nI 60 from rfl, this, q_bd]
      exact if_pos rfl
  · by_cases z : (9999 : Int32) < k 1 0 + nI t
    · refine ⟨-1, h, zst k 0 0 0, ?_, ?_, R0⟩
      · rw [if_neg (show ¬ nI t < (1 : Int32) from nI_nlt (b := 1) ht (by omega)), if_neg (show ¬ (60 : Int32) < nI t from nI_nlt (a := 60) ht2 (by omega)), n13', if_pos z]
      · rw [q_lt, show (1 : Int32) = nI 1 from rfl, show (60 : Int32) = nI 60 from rfl, q_inI (h := zst k 0 0 0) ht ht2 (by omega), q_bd]
        dsimp only
        rw [if_neg (show ¬ nI 1 = 0 by decide), show (0 : Int32) = nI 0 from rfl, q_ix (by omega) (by omega), q_cl (by omega)]
        exact if_pos z
    · have eX : ∀ y : Option (Int32 × zHp), (if nI t < (1 : Int32) then some ((-1 : Int32), h) else (if (60 : Int32) < nI t then some ((-1 : Int32), h) else (if (9999 : Int32) < ((h 2 13) + nI t) then some ((-1 : Int32), h) else y))) = y := by
        intro y
        rw [if_neg (show ¬ nI t < (1 : Int32) from nI_nlt (b := 1) ht (by omega)), if_neg (show ¬ (60 : Int32) < nI t from nI_nlt (a := 60) ht2 (by omega)), n13', if_neg z]
      rw [eX, q_lt, show (1 : Int32) = nI 1 from rfl, show (60 : Int32) = nI 60 from rfl, q_inI (h := zst k 0 0 0) ht ht2 (by omega), q_bd]
      dsimp only
      rw [if_neg (show ¬ nI 1 = 0 by decide), show (0 : Int32) = nI 0 from rfl, q_ix (by omega) (by omega), q_cl (by omega), if_neg (show ¬ (9999 : Int32) < zst k 0 0 (nI 0) 1 0 + nI t from z)]
      unfold f_X10_minutes_35_lp f_X11_minutes_36_lp
      refine q_exit2 (b1 := fun k35 v => f_X10_minutes_35 k35 v.1 v.2.1 v.2.2.1 v.2.2.2) (b2 := fun k36 v => f_X11_minutes_36 k36 v.1 v.2.1 v.2.2.1 v.2.2.2) (I := fun i v u => ∃ r h1 k1, r ≤ 16 * i ∧ v = (nI t, nI r, nI i, h1) ∧ u = (nI t, nI r, nI i, k1) ∧ qRel h1 k1) t (Q := fun x y => qCall x y) (fun i v u hi hI => Or.inl ?_) (fun v u hI => ?_) _ _ ⟨0, h, zst k 0 0 0, by omega, rfl, rfl, R0⟩ zN zN (by rw [q_zN]; omega) (by rw [q_zN]; omega)
      · obtain ⟨r, h1, k1, hr, rfl, rfl, R1⟩ := hI
        obtain ⟨C1, P1, n1, m1, h2, k2, e1, e2, -, e3, e4, e5, e6, e7, -, e8⟩ := q_kept (β := (h, h)) R1
        obtain ⟨r2, h3, k3, g1, g2, g3, g4, g5, g6⟩ := q_goesBy e3 e5 e4 e7 e6
        refine ⟨(nI t, nI (r + r2), nI (i + 1), h3), (nI t, nI (r + r2), nI (i + 1), k3), fun rec => ?_, fun rec => ?_, r + r2, h3, k3, by omega, rfl, rfl, e8 h3 k3 g4 g5 g6⟩
        · simp only [f_X10_minutes_35]
          simp (disch := omega) only [e1, g2, ↓reduceIte, ↓qM_e, ↓q_rem, q_mod, q_modN, q_lit, q_nI, q_lt, q_bd, q_ix, q_dz, q_iflt, q_ifnlt, q_ifeq, q_ifne, q_ifM, q_ifMM, q_ifMlt, q_ifltM, nI_add, pk_mul, q_sub, q_div, q_cl, q_st_s, q_st_i, q_st_c, Nat.add_zero, Nat.zero_add]
        · simp only [f_X11_minutes_36]
          simp (disch := omega) only [e2, g3, ↓reduceIte, ↓qM_e, ↓q_rem, q_mod, q_modN, q_lit, q_nI, q_lt, q_bd, q_ix, q_dz, q_iflt, q_ifnlt, q_ifeq, q_ifne, q_ifM, q_ifMM, q_ifMlt, q_ifltM, nI_add, pk_mul, q_sub, q_div, q_cl, q_st_s, q_st_i, q_st_c, Nat.add_zero, Nat.zero_add]
      · obtain ⟨r, h1, k1, hr, rfl, rfl, R1⟩ := hI
        refine ⟨some (nI r, h1), some (nI r, k1), fun rec => ?_, fun rec => ?_, nI r, h1, k1, rfl, rfl, R1⟩
        · simp only [f_X10_minutes_35]
          rw [q_ifF (nI_nlt (Nat.le_refl t) (by omega))]
        · simp only [f_X11_minutes_36]
          rw [q_ifF (nI_nlt (Nat.le_refl t) (by omega))]
end Qrelmn
