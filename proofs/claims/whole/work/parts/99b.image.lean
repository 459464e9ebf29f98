/-! THE IMAGE, class: a Whole is copied -/
section Qimage
def qCpR (h : zHp) (b : Nat) (h' : zHp) (o N : Nat) : Prop := h' o 1 = h b 1 ∧ ∀ i, i < N → h' (o + 1) i = h (b + 1) i
def qCpL (h : zHp) (b : Nat) (h' : zHp) (o N : Nat) : Prop := h' o 2 = h b 2 ∧ ∀ i, i < N → h' (o + 1) i = h (b + 1) i
/-- the Whole at o is that at b -/
def qCpW (h : zHp) (b : Nat) (h' : zHp) (o : Nat) : Prop :=
  ((∀ j, 9 ≤ j → j ≤ 14 → h' (o + 1) j = h (b + 1) j) ∧ (∀ j i, 1 ≤ j → j ≤ 4 → i < 10 → h' (o + 1 + j) i = h (b + 1 + j) i) ∧ ∀ j i, 5 ≤ j → j ≤ 8 → i < 14 → h' (o + 1 + j) i = h (b + 1 + j) i) ∧
  qCpL h b h' o 0 = qCpL h b h' o 0 ∧ qCpL h (b + 10) h' (o + 10) 600 ∧
  ((∀ j i, 1 ≤ j → j ≤ 4 → i < 16 → h' (o + 12 + j) i = h (b + 12 + j) i) ∧ (∀ i, i < 400 → h' (o + 12 + 5) i = h (b + 12 + 5) i) ∧ h' (o + 12) 7 = h (b + 12) 7) ∧
  qCpL h (b + 19) h' (o + 19) 64 ∧ qCpL h (b + 21) h' (o + 21) 64 ∧ qCpL h (b + 23) h' (o + 23) 64 ∧
  qCpR h (b + 26) h' (o + 26) 4 ∧ qCpR h (b + 28) h' (o + 28) 10 ∧ qCpR h (b + 30) h' (o + 30) 8 ∧ qCpR h (b + 32) h' (o + 32) 9 ∧ qCpR h (b + 34) h' (o + 34) 10 ∧ qCpR h (b + 36) h' (o + 36) 6 ∧
  ∀ i, i < 36 → h' (o + 38) i = h (b + 38) i
theorem q_zlnW : zln wX 11 = 600 ∧ zln wX 50 = 0 ∧ zln wX 51 = 600 ∧ zln wX 20 = 64 ∨ True := Or.inr trivial
theorem q_zlns (o : Nat) (ho : o = 1 ∨ o = 40) : zln wX (o + 10 + 1) = 600 ∧ zln wX (o + 19 + 1) = 64 ∧ zln wX (o + 21 + 1) = 64 ∧ zln wX (o + 23 + 1) = 64 ∧ zln wX (o + 25 + 1 + 1) = 4 ∧ zln wX (o + 25 + 3 + 1) = 10 ∧ zln wX (o + 25 + 5 + 1) = 8 ∧ zln wX (o + 25 + 7 + 1) = 9 ∧ zln wX (o + 25 + 9 + 1) = 10 ∧ zln wX (o + 25 + 11 + 1) = 6 := by
  rcases ho with rfl | rfl <;> decide +kernel
theorem q_copy8 {h : zHp} {o b : Nat} (ho : o = 1 ∨ o = 40) (hb : b = 1 ∨ b = 40) (d : b + 39 ≤ o ∨ o + 39 ≤ b) : ∃ h', f_X8_copyFrom (o + 25) (b + 25) h = some h' ∧ (∀ a, ¬(o + 26 ≤ a ∧ a ≤ o + 38) → h' a = h a) ∧ qCpR h (b + 26) h' (o + 26) 4 ∧ qCpR h (b + 28) h' (o + 28) 10 ∧ qCpR h (b + 30) h' (o + 30) 8 ∧ qCpR h (b + 32) h' (o + 32) 9 ∧ qCpR h (b + 34) h' (o + 34) 10 ∧ qCpR h (b + 36) h' (o + 36) 6 ∧ ∀ i, i < 36 → h' (o + 38) i = h (b + 38) i := by
  obtain ⟨-, -, -, -, z5, z6, z7, z8, z9, z10⟩ := q_zlns o ho
  obtain ⟨-, -, -, -, y5, y6, y7, y8, y9, y10⟩ := q_zlns b hb
  obtain ⟨h1, e1, f1, c1, d1, -⟩ := q_copy7 (h := h) y5 z5 (by omega) (by omega)
  obtain ⟨h2, e2, f2, c2, d2, -⟩ := q_copy7 (h := h1) y6 z6 (by omega) (by omega)
  obtain ⟨h3, e3, f3, c3, d3, -⟩ := q_copy7 (h := h2) y7 z7 (by omega) (by omega)
  obtain ⟨h4, e4, f4, c4, d4, -⟩ := q_copy7 (h := h3) y8 z8 (by omega) (by omega)
  obtain ⟨h5, e5, f5, c5, d5, -⟩ := q_copy7 (h := h4) y9 z9 (by omega) (by omega)
  obtain ⟨h6, e6, f6, c6, d6, -⟩ := q_copy7 (h := h5) y10 z10 (by omega) (by omega)
  have F : ∀ a, a ≠ o + 25 + 13 → zcp h6 (b + 25 + 13) 0 (o + 25 + 13) 0 36 a = h6 a := fun a ha => q_cp_o ha
  refine ⟨zcp h6 (b + 25 + 13) 0 (o + 25 + 13) 0 36, ?_, fun a ha => ?_, ⟨?_, fun i hi => ?_⟩, ⟨?_, fun i hi => ?_⟩, ⟨?_, fun i hi => ?_⟩, ⟨?_, fun i hi => ?_⟩, ⟨?_, fun i hi => ?_⟩, ⟨?_, fun i hi => ?_⟩, fun i hi => ?_⟩
  · unfold f_X8_copyFrom
    rw [e1, q_bd, e2, q_bd, e3, q_bd, e4, q_bd, e5, q_bd, e6, q_bd, q_nI, show (0 : Int32) = nI 0 from rfl, q_zac (by omega), q_lt, q_cl (by omega), q_cl (by omega)]
  · rw [F a (by omega), f6 a (by omega) (by omega), f5 a (by omega) (by omega), f4 a (by omega) (by omega), f3 a (by omega) (by omega), f2 a (by omega) (by omega), f1 a (by omega) (by omega)]
  · rw [F _ (by omega), f6 _ (by omega) (by omega), f5 _ (by omega) (by omega), f4 _ (by omega) (by omega), f3 _ (by omega) (by omega), f2 _ (by omega) (by omega)]; exact d1
  · rw [F _ (by omega), f6 _ (by omega) (by omega), f5 _ (by omega) (by omega), f4 _ (by omega) (by omega), f3 _ (by omega) (by omega), f2 _ (by omega) (by omega)]; exact c1 i hi
  · rw [F _ (by omega), f6 _ (by omega) (by omega), f5 _ (by omega) (by omega), f4 _ (by omega) (by omega), f3 _ (by omega) (by omega), ← f1 (b + 28) (by omega) (by omega)]; exact d2
  · rw [F _ (by omega), f6 _ (by omega) (by omega), f5 _ (by omega) (by omega), f4 _ (by omega) (by omega), f3 _ (by omega) (by omega), ← f1 (b + 28 + 1) (by omega) (by omega)]; exact c2 i hi
  · rw [F _ (by omega), f6 _ (by omega) (by omega), f5 _ (by omega) (by omega), f4 _ (by omega) (by omega), ← f1 (b + 30) (by omega) (by omega), ← f2 (b + 30) (by omega) (by omega)]; exact d3
  · rw [F _ (by omega), f6 _ (by omega) (by omega), f5 _ (by omega) (by omega), f4 _ (by omega) (by omega), ← f1 (b + 30 + 1) (by omega) (by omega), ← f2 (b + 30 + 1) (by omega) (by omega)]; exact c3 i hi
  · rw [F _ (by omega), f6 _ (by omega) (by omega), f5 _ (by omega) (by omega), ← f1 (b + 32) (by omega) (by omega), ← f2 (b + 32) (by omega) (by omega), ← f3 (b + 32) (by omega) (by omega)]; exact d4
  · rw [F _ (by omega), f6 _ (by omega) (by omega), f5 _ (by omega) (by omega), ← f1 (b + 32 + 1) (by omega) (by omega), ← f2 (b + 32 + 1) (by omega) (by omega), ← f3 (b + 32 + 1) (by omega) (by omega)]; exact c4 i hi
  · rw [F _ (by omega), f6 _ (by omega) (by omega), ← f1 (b + 34) (by omega) (by omega), ← f2 (b + 34) (by omega) (by omega), ← f3 (b + 34) (by omega) (by omega), ← f4 (b + 34) (by omega) (by omega)]; exact d5
  · rw [F _ (by omega), f6 _ (by omega) (by omega), ← f1 (b + 34 + 1) (by omega) (by omega), ← f2 (b + 34 + 1) (by omega) (by omega), ← f3 (b + 34 + 1) (by omega) (by omega), ← f4 (b + 34 + 1) (by omega) (by omega)]; exact c5 i hi
  · rw [F _ (by omega), ← f1 (b + 36) (by omega) (by omega), ← f2 (b + 36) (by omega) (by omega), ← f3 (b + 36) (by omega) (by omega), ← f4 (b + 36) (by omega) (by omega), ← f5 (b + 36) (by omega) (by omega)]; exact d6
  · rw [F _ (by omega), ← f1 (b + 36 + 1) (by omega) (by omega), ← f2 (b + 36 + 1) (by omega) (by omega), ← f3 (b + 36 + 1) (by omega) (by omega), ← f4 (b + 36 + 1) (by omega) (by omega), ← f5 (b + 36 + 1) (by omega) (by omega)]; exact c6 i hi
  · rw [← f1 (b + 38) (by omega) (by omega), ← f2 (b + 38) (by omega) (by omega), ← f3 (b + 38) (by omega) (by omega), ← f4 (b + 38) (by omega) (by omega), ← f5 (b + 38) (by omega) (by omega), ← f6 (b + 38) (by omega) (by omega)]
    exact q_cp_i hi
theorem q_copy9 {h : zHp} {o b : Nat} (ho : o = 1 ∨ o = 40) (hb : b = 1 ∨ b = 40) (d : b + 39 ≤ o ∨ o + 39 ≤ b) : ∃ h', f_X9_copyFrom o b h = some h' ∧ (∀ a, ¬(o + 1 ≤ a ∧ a ≤ o + 38) → h' a = h a) ∧ qCpW h b h' o ∧ h' (o + 1) 0 = h (o + 1) 0 ∧ h' (o + 10) 0 = h (o + 10) 0 ∧ h' (o + 19) 0 = h (o + 19) 0 ∧ h' (o + 21) 0 = h (o + 21) 0 ∧ h' (o + 23) 0 = h (o + 23) 0 := by
  obtain ⟨z1, z2, z3, z4, -⟩ := q_zlns o ho
  obtain ⟨y1, y2, y3, y4, -⟩ := q_zlns b hb
  obtain ⟨h1, e1, f1, a1, a2, a3, a4⟩ := q_copy (h := h) (o := o + 1) (b := b + 1) (by omega)
  obtain ⟨h2, e2, f2, b1, b2, b3⟩ := q_copy2 (h := h1) y1 z1 (by omega) (by omega)
  obtain ⟨h3, e3, f3, c1, c2, c3, c4⟩ := q_copy1 (h := h2) (o := o + 12) (b := b + 12) (by omega)
  obtain ⟨h4, e4, f4, g1, g2, g3⟩ := q_copy2 (h := h3) y2 z2 (by omega) (by omega)
  obtain ⟨h5, e5, f5, i1, i2, i3⟩ := q_copy2 (h := h4) y3 z3 (by omega) (by omega)
  obtain ⟨h6, e6, f6, j1, j2, j3⟩ := q_copy2 (h := h5) y4 z4 (by omega) (by omega)
  obtain ⟨h7, e7, f7, k1, k2, k3, k4, k5, k6, k7⟩ := q_copy8 (h := h6) ho hb d
  -- what stays above, below
  have u6 : ∀ a, a ≤ o + 24 → h7 a = h6 a := fun a ha => f7 a (by omega)
  have u5 : ∀ a, a ≤ o + 22 → h7 a = h5 a := fun a ha => (u6 a (by omega)).trans (f6 a (by omega) (by omega))
  have u4 : ∀ a, a ≤ o + 20 → h7 a = h4 a := fun a ha => (u5 a (by omega)).trans (f5 a (by omega) (by omega))
  have u3 : ∀ a, a ≤ o + 18 → h7 a = h3 a := fun a ha => (u4 a (by omega)).trans (f4 a (by omega) (by omega))
  have u2 : ∀ a, a ≤ o + 11 → h7 a = h2 a := fun a ha => (u3 a (by omega)).trans (f3 a (by omega))
  have u1 : ∀ a, a ≤ o + 9 → h7 a = h1 a := fun a ha => (u2 a (by omega)).trans (f2 a (by omega) (by omega))
  have v1 : ∀ a, b + 1 ≤ a → a ≤ b + 38 → h1 a = h a := fun a p q => f1 a (by omega)
  have v2 : ∀ a, b + 1 ≤ a → a ≤ b + 38 → h2 a = h a := fun a p q => (f2 a (by omega) (by omega)).trans (v1 a p q)
  have v3 : ∀ a, b + 1 ≤ a → a ≤ b + 38 → h3 a = h a := fun a p q => (f3 a (by omega)).trans (v2 a p q)
  have v4 : ∀ a, b + 1 ≤ a → a ≤ b + 38 → h4 a = h a := fun a p q => (f4 a (by omega) (by omega)).trans (v3 a p q)
  have v5 : ∀ a, b + 1 ≤ a → a ≤ b + 38 → h5 a = h a := fun a p q => (f5 a (by omega) (by omega)).trans (v4 a p q)
  have v6 : ∀ a, b + 1 ≤ a → a ≤ b + 38 → h6 a = h a := fun a p q => (f6 a (by omega) (by omega)).trans (v5 a p q)
  have w1 : ∀ a, o + 10 ≤ a → h1 a = h a := fun a p => f1 a (by
    intro q; omega)
  have w2 : ∀ a, o + 12 ≤ a → h2 a = h a := fun a p => (f2 a (by omega) (by omega)).trans (w1 a (by omega))
  have w3 : ∀ a, o + 19 ≤ a → h3 a = h a := fun a p => (f3 a (by omega)).trans (w2 a (by omega))
  have w4 : ∀ a, o + 21 ≤ a → h4 a = h a := fun a p => (f4 a (by omega) (by omega)).trans (w3 a (by omega))
  have w5 : ∀ a, o + 23 ≤ a → h5 a = h a := fun a p => (f5 a (by omega) (by omega)).trans (w4 a (by omega))
  have rw6 : ∀ {x N : Nat}, x + b ≥ b + 26 → x + b + 1 ≤ b + 38 → qCpR h6 (b + x) h7 (o + x) N → qCpR h (b + x) h7 (o + x) N := fun {x N} p1 p2 q => by
    unfold qCpR at *
    rw [v6 (b + x) (by omega) (by omega), v6 (b + x + 1) (by omega) (by omega)] at q
    exact q
  refine ⟨h7, ?_, fun a ha => ?_, ⟨⟨fun j p q => ?_, fun j i p q r => ?_, fun j i p q r => ?_⟩, rfl, ⟨?_, fun i hi => ?_⟩, ⟨fun j i p q r => ?_, fun i hi => ?_, ?_⟩, ⟨?_, fun i hi => ?_⟩, ⟨?_, fun i hi => ?_⟩, ⟨?_, fun i hi => ?_⟩, rw6 (by omega) (by omega) k1, rw6 (by omega) (by omega) k2, rw6 (by omega) (by omega) k3, rw6 (by omega) (by omega) k4, rw6 (by omega) (by omega) k5, rw6 (by omega) (by omega) k6, fun i hi => ?_⟩, ?_, ?_, ?_, ?_, ?_⟩
  · unfold f_X9_copyFrom
    rw [e1, q_bd, e2, q_bd, e3, q_bd, e4, q_bd, e5, q_bd, e6, q_bd, e7, q_bd]
  · rw [f7 a (by omega), f6 a (by omega) (by omega), f5 a (by omega) (by omega), f4 a (by omega) (by omega), f3 a (by omega), f2 a (by omega) (by omega), f1 a (by omega)]
  · rw [u1 _ (by omega)]; exact a3 j p q
  · rw [u1 _ (by omega)]; exact a1 j i p q r
  · rw [u1 _ (by omega)]; exact a2 j i p q r
  · rw [u2 _ (by omega), ← v1 (b + 10) (by omega) (by omega)]; exact b2
  · rw [u2 _ (by omega), ← v1 (b + 10 + 1) (by omega) (by omega)]; exact b1 i hi
  · rw [u3 _ (by omega), ← v2 (b + 12 + j) (by omega) (by omega)]; exact c1 j i p q r
  · rw [u3 _ (by omega), ← v2 (b + 12 + 5) (by omega) (by omega)]; exact c2 i hi
  · rw [u3 _ (by omega), ← v2 (b + 12) (by omega) (by omega)]; exact c4
  · rw [u4 _ (by omega), ← v3 (b + 19) (by omega) (by omega)]; exact g2
  · rw [u4 _ (by omega), ← v3 (b + 19 + 1) (by omega) (by omega)]; exact g1 i hi
  · rw [u5 _ (by omega), ← v4 (b + 21) (by omega) (by omega)]; exact i2
  · rw [u5 _ (by omega), ← v4 (b + 21 + 1) (by omega) (by omega)]; exact i1 i hi
  · rw [u6 _ (by omega), ← v5 (b + 23) (by omega) (by omega)]; exact j2
  · rw [u6 _ (by omega), ← v5 (b + 23 + 1) (by omega) (by omega)]; exact j1 i hi
  · rw [← v6 (b + 38) (by omega) (by omega)]; exact k7 i hi
  · rw [u1 _ (by omega)]; exact a4 0 (by omega)
  · rw [u2 _ (by omega), b3 0 (by omega), w1 _ (by omega)]
  · rw [u4 _ (by omega), g3 0 (by omega), w3 _ (by omega)]
  · rw [u5 _ (by omega), i3 0 (by omega), w4 _ (by omega)]
  · rw [u6 _ (by omega), j3 0 (by omega), w5 _ (by omega)]
theorem qWh_mv {h h' k : zHp} {o b : Nat} (H : qWh h b k) (c : qCpW h b h' o) (m1 : h' (o + 10) 0 = 150) (m2 : h' (o + 19) 0 = 16) (m3 : h' (o + 21) 0 = 16) (m4 : h' (o + 23) 0 = 16) : qWh h' o k := by
  obtain ⟨C, P, h1, ⟨⟨p1, p2, p3, p4, p5, p6, p7, p8⟩, h3⟩, ⟨bk0, bk1, bk2⟩, h5, ⟨n, h6, h7⟩, ⟨n2, h8, h9⟩, ⟨n3, h10, h11⟩, t1, t2, t3, t4, t5, t6, t7⟩ := H
  have hC : C ≤ 10 := h3.1
  have hP : P ≤ 14 := h3.2.1
  obtain ⟨⟨c1, c2, c3⟩, -, ⟨d1, d2⟩, ⟨l1, l2, l3⟩, ⟨e1, e2⟩, ⟨f1, f2⟩, ⟨g1, g2⟩, ⟨r1, s1⟩, ⟨r2, s2⟩, ⟨r3, s3⟩, ⟨r4, s4⟩, ⟨r5, s5⟩, ⟨r6, s6⟩, u⟩ := c
  refine ⟨C, P, h1, ⟨⟨?_, ?_, ?_, ?_, ?_, ?_, fun x hx => ?_, fun x hx => ?_⟩, h3⟩, ⟨m1, ?_, fun i hi => ?_⟩, ?_, ⟨n, h6, ?_⟩, ⟨n2, h8, ?_⟩, ⟨n3, h10, ?_⟩, ?_, ?_, ?_, ?_, ?_, ?_, fun i hi => ?_⟩
  · rw [c1 9 (by omega) (by omega)]; exact p1
  · rw [c1 10 (by omega) (by omega)]; exact p2
  · rw [c1 11 (by omega) (by omega)]; exact p3
  · rw [c1 12 (by omega) (by omega)]; exact p4
  · rw [c1 13 (by omega) (by omega)]; exact p5
  · rw [c1 14 (by omega) (by omega)]; exact p6
  · rw [c2 1 x (by omega) (by omega) (by omega), c2 2 x (by omega) (by omega) (by omega), c2 3 x (by omega) (by omega) (by omega), c2 4 x (by omega) (by omega) (by omega)]; exact p7 x hx
  · rw [c3 5 x (by omega) (by omega) (by omega), c3 6 x (by omega) (by omega) (by omega), c3 7 x (by omega) (by omega) (by omega), c3 8 x (by omega) (by omega) (by omega)]; exact p8 x hx
  · rw [d1]; exact bk1
  · rw [d2 i hi]; exact bk2 i hi
  · obtain ⟨n, sz, q1, q2, q3, q4, q5, q6⟩ := h5
    refine ⟨n, sz, q1, q2, by rw [l3]; exact q3, q4, fun i hi => by rw [l2 i (by omega)]; exact q5 i hi, fun i hi => ?_⟩
    rw [l1 1 i (by omega) (by omega) (by omega), l1 2 i (by omega) (by omega) (by omega), l1 3 i (by omega) (by omega) (by omega), l1 4 i (by omega) (by omega) (by omega)]
    exact q6 i hi
  · obtain ⟨q0, q1, q2, q3⟩ := h7
    refine ⟨m2, by rw [e1]; exact q1, q2, fun i hi => ?_⟩
    rw [e2 _ (by omega), e2 _ (by omega), e2 _ (by omega), e2 _ (by omega)]
    exact q3 i hi
  · obtain ⟨q0, q1, q2, q3⟩ := h9
    refine ⟨m3, by rw [f1]; exact q1, q2, fun i hi => ?_⟩
    rw [f2 _ (by omega), f2 _ (by omega), f2 _ (by omega), f2 _ (by omega)]
    exact q3 i hi
  · obtain ⟨q0, q1, q2, q3, q4⟩ := h11
    have em : ∀ p m, m ≤ 16 → qMind (h' (o + 23 + 1)) p m = qMind (h (b + 23 + 1)) p m := by
      intro p m
      induction m with
      | zero => intro _; rfl
      | succ m ih =>
        intro hm
        rw [qMind_s, qMind_s, ih (by omega), g2 _ (by omega), g2 _ (by omega)]
    refine ⟨m4, by rw [g1]; exact q1, q2, fun i hi => ?_, fun p hp => ?_⟩
    · rw [g2 _ (by omega), g2 _ (by omega)]; exact q3 i hi
    · rw [em _ _ q2]; exact q4 p hp
  · obtain ⟨n, q1, q2, q3, q4⟩ := t1
    exact ⟨n, q1, by rw [r1]; exact q2, q3, fun i hi => by rw [s1 i (by omega)]; exact q4 i hi⟩
  · obtain ⟨n, q1, q2, q3, q4⟩ := t2
    exact ⟨n, q1, by rw [r2]; exact q2, q3, fun i hi => by rw [s2 i (by omega)]; exact q4 i hi⟩
  · obtain ⟨n, q1, q2, q3, q4⟩ := t3
    exact ⟨n, q1, by rw [r3]; exact q2, q3, fun i hi => by rw [s3 i (by omega)]; exact q4 i hi⟩
  · obtain ⟨n, q1, q2, q3, q4⟩ := t4
    exact ⟨n, q1, by rw [r4]; exact q2, q3, fun i hi => by rw [s4 i (by omega)]; exact q4 i hi⟩
  · obtain ⟨n, q1, q2, q3, q4⟩ := t5
    exact ⟨n, q1, by rw [r5]; exact q2, q3, fun i hi => by rw [s5 i (by omega)]; exact q4 i hi⟩
  · obtain ⟨n, q1, q2, q3, q4, q5⟩ := t6
    exact ⟨n, q1, by rw [r6]; exact q2, q3, fun i hi => by rw [s6 i (by omega)]; exact q4 i hi, q5⟩
  · rw [u i hi]; exact t7 i hi
theorem q_call_image {h k : zHp} (R : qRel h k) (t : Nat) (ht : t < 2) : qCall (f_X10_image (nI t) h) (f_X11_image (nI t) k) := by
  obtain ⟨k0, hk0⟩ : ∃ k0, k0 = zst k 0 0 0 := ⟨_, rfl⟩
  have R0 : qRel h k0 := by rw [hk0]; exact qRel_s (qXs_rf h) (qMs_s0 k) R
  obtain ⟨A, Pa, T, X, I⟩ := id R0
  -- the reference goes through all its numbers
  have go : ∃ k1 k2, qKK t k1 1808 k2 ∧ f_X11_image_18 (nI t) k0 = some (1, if t = 0 then zst k2 0 3 0 else k2) ∧ (∀ a i, ¬(a = 0 ∧ (i = 65 ∨ i = 66 ∨ i = 67)) → k1 a i = k0 a i) ∧ k1 0 66 = 1 := by
    have K : qKK t (zst (zst (zst k0 0 65 (nI t)) 0 66 1) 0 67 0) 0 (zst (zst (zst k0 0 65 (nI t)) 0 66 1) 0 67 0) := by
      refine ⟨q_st_s, by rw [q_st_i (by omega), q_st_i (by omega), q_st_s], ?_⟩
      rcases (show t = 1 ∨ t = 0 by omega) with z | z
      · exact Or.inl ⟨z, fun _ _ _ _ => rfl, fun a i q _ hq => by omega⟩
      · exact Or.inr ⟨z, fun _ _ _ _ => rfl, fun a i q _ hq => by omega⟩
    obtain ⟨k2, g1, g2⟩ := q_kimage_35 K
    refine ⟨_, k2, g1, ?_, fun a i hai => ?_, by rw [q_st_i (by omega), q_st_s]⟩
    · unfold f_X11_image_18
      have ez : ∀ x : Option (Int32 × zHp), zzb (nI t) x = x := fun x => by
        unfold zzb
        refine if_pos ?_
        rcases (show t = 1 ∨ t = 0 by omega) with rfl | rfl
        · exact Or.inr rfl
        · exact Or.inl rfl
      rw [ez, q_lt, q_lt, q_lt]
      exact g2
    · rw [q_st, q_st, q_st]
      by_cases z : a = 0
      · rw [if_pos z, if_pos z, if_pos z, if_neg (fun q => hai ⟨z, Or.inr (Or.inr q)⟩), if_neg (fun q => hai ⟨z, Or.inr (Or.inl q)⟩), if_neg (fun q => hai ⟨z, Or.inl q⟩)]
      · rw [if_neg z, if_neg z, if_neg z]
  have nq : ∀ a i, qPos a i ≠ none → ¬(a = 0 ∧ (i = 65 ∨ i = 66 ∨ i = 67)) := by
    rintro a i hp ⟨rfl, rfl | rfl | rfl⟩ <;> exact hp rfl
  unfold f_X10_image f_X11_image
  rw [q_lt, ← hk0]
  rcases (show t = 1 ∨ t = 0 by omega) with rfl | rfl
  · -- it is taken
    rw [if_neg (show ¬ nI 1 = 0 by decide), if_neg (show ¬ nI 1 = 0 by decide)]
    obtain ⟨k1, k2, K, g2, g3, g4⟩ := go
    rw [if_neg (by decide)] at g2
    obtain ⟨K1, K2, K3⟩ := K
    obtain ⟨K4, K5⟩ : (∀ a i, a ≠ 38 → ¬(a = 0 ∧ i = 67) → k2 a i = k1 a i) ∧ ∀ a i q, qPos a i = some q → q < 1808 → k2 38 q = k1 a i := by
      rcases K3 with ⟨-, z⟩ | ⟨z, -⟩
      · exact z
      · cases z
    obtain ⟨h', e1, e2, e3, e4, e5, e6, e7, e8⟩ := q_copy9 (h := h) (o := 40) (b := 1) (Or.inr rfl) (Or.inl rfl) (by omega)
    have m : h 50 0 = 150 ∧ h 59 0 = 16 ∧ h 61 0 = 16 ∧ h 63 0 = 16 := by
      rcases I with ⟨-, -, z⟩ | ⟨-, -, C, P, -, -, z3, -, ⟨n, -, z5⟩, ⟨n2, -, z6⟩, ⟨n3, -, z7⟩, -⟩
      · exact z
      · exact ⟨z3.1, z5.1, z6.1, z7.1⟩
    have as : qAs k0 k2 := fun a i hp => by
      have n := nq a i hp
      rw [K4 a i (fun z => hp (by rw [z]; rfl)) (fun z => n ⟨z.1, Or.inr (Or.inr z.2)⟩), g3 a i n]
    have asU : qAs k0 (qUn k2) := fun a i hp => by
      unfold qUn
      cases e : qPos a i with
      | none => exact absurd e hp
      | some p =>
        show k2 38 p = k0 a i
        rw [K5 a i p e (q_posC e).2, g3 a i (nq a i hp)]
    have stay : ∀ a i, a ≠ 38 → ¬(a = 0 ∧ (i = 65 ∨ i = 66 ∨ i = 67)) → k2 a i = k0 a i := fun a i p q => by
      rw [K4 a i p (fun z => q ⟨z.1, Or.inr (Or.inr z.2)⟩), g3 a i q]
    have W : qWh (zst h' 0 2 1) 1 k2 := qWh_c (fun a p q r => by rw [q_st_c (by omega)]; exact e2 a (by omega)) as A
    have W2 : qWh (zst h' 0 2 1) 40 (qUn k2) := by
      have := qWh_mv (o := 40) A e3 (by rw [e5]; exact m.1) (by rw [e6]; exact m.2.1) (by rw [e7]; exact m.2.2.1) (by rw [e8]; exact m.2.2.2)
      exact qWh_c (fun a p q r => by rw [q_st_c (by omega)]) asU this
    refine ⟨1, zst h' 0 2 1, k2, ?_, g2, W, ?_, ?_, ?_, Or.inr ⟨q_st_s, ?_, W2⟩⟩
    · rw [e1, q_bd, q_lt, q_st_s]; rfl
    · obtain ⟨u, m, C, P, n, p1, p2, p3, p4, p5, p6, p7, p8⟩ := Pa
      refine ⟨u, m, C, P, n, p1, p2, ?_, ?_, ?_, qCh_c as p6, ?_, fun j hj => ?_⟩
      · rw [q_st_c (by omega), e2 79 (by omega)]; exact p3
      · rw [stay 0 3 (by omega) (by omega)]; exact p4
      · rw [q_st_c (by omega), e2 79 (by omega)]; exact p5
      · rw [stay 1 2 (by omega) (by omega)]; exact p7
      · obtain ⟨a1, a2, b, a3, a4, a5⟩ := p8 j hj
        have hm : (m + 6 - u + j) % 6 < 6 := Nat.mod_lt _ (by omega)
        have s2 : ∀ i, k2 2 i = k0 2 i := fun i => stay 2 i (by omega) (by omega)
        refine ⟨qPo_c a2.1 a2.2.1 (fun a q1 q2 => by rw [q_st_c (by omega)]; exact e2 a (by omega)) (fun i hi => s2 _) (fun i hi => as 4 i (qP_4 hi)) (fun i hi => as 5 i (qP_5 hi)) a1, qFine_c (fun i q1 q2 => s2 _) a2, b, a3, ?_, ?_⟩
        · rw [q_st_c (by omega), e2 81 (by omega)]; exact a4
        · rw [s2]; exact a5
    · obtain ⟨n, n1, n2, n3, n4⟩ := T
      refine ⟨n, n1, by rw [q_st_c (by omega), e2 145 (by omega)]; exact n2, by rw [stay 0 12 (by omega) (by omega)]; exact n3, fun i hi => ?_⟩
      rw [q_st_c (by omega), e2 146 (by omega), stay 7 i (by omega) (by omega)]
      exact n4 i hi
    · obtain ⟨x1, x2, x3, x4, x5, x6, x7⟩ := X
      refine ⟨?_, ?_, ?_, ?_, fun i hi => ?_, ?_, ?_⟩
      · rw [q_st_c (by omega), e2 2 (by omega)]; exact x1
      · rw [q_st_c (by omega), e2 136 (by omega)]; exact x2
      · rw [q_st_c (by omega), e2 157 (by omega)]; exact x3
      · rw [stay 0 5 (by omega) (by omega)]; exact x4
      · rw [stay 8 i (by omega) (by omega)]; exact x5 i hi
      · rw [q_st_c (by omega), e2 145 (by omega), stay 0 32 (by omega) (by omega)]; exact x6
      · rw [q_st_c (by omega), e2 145 (by omega), stay 0 33 (by omega) (by omega)]; exact x7
    · rw [K4 0 66 (by omega) (by omega)]; exact g4
  · rw [if_pos (show nI 0 = 0 from rfl), if_pos (show nI 0 = 0 from rfl)]
    rcases I with ⟨i1, i2, i3⟩ | ⟨i1, i2, i3⟩
    · -- there is none
      rw [if_pos i1, if_pos i2]
      refine ⟨0, h, k0, ?_, rfl, R0⟩
      rw [i1]; rfl
    · rw [if_neg (show ¬ h 0 2 = 0 by rw [i1]; decide), if_neg (show ¬ k0 0 66 = 0 by rw [i2]; decide)]
      obtain ⟨k1, k2, K, g2, g3, g4⟩ := go
      rw [if_pos rfl] at g2
      obtain ⟨K1, K2, K3⟩ := K
      obtain ⟨K4, K5⟩ : (∀ a i, ¬(a = 0 ∧ i = 67) → (∀ q, qPos a i = some q → 1808 ≤ q) → k2 a i = k1 a i) ∧ ∀ a i q, qPos a i = some q → q < 1808 → k2 a i = k1 38 q := by
        rcases K3 with ⟨z, -⟩ | ⟨-, z⟩
        · cases z
        · exact z
      obtain ⟨h', e1, e2, e3, e4, e5, e6, e7, e8⟩ := q_copy9 (h := h) (o := 1) (b := 40) (Or.inl rfl) (Or.inr rfl) (by omega)
      have e4' : h' 2 0 = h 2 0 := e4
      obtain ⟨C, P, w1, w2, w3, w4, ⟨n, w5, w6⟩, ⟨n2, w7, w8⟩, ⟨n3, w9, w10⟩, w11⟩ := id A
      have non : ∀ a i, qPos a i = none → ¬(a = 0 ∧ (i = 65 ∨ i = 66 ∨ i = 67)) → k2 a i = k0 a i := fun a i p q => by
        rw [K4 a i (fun z => q ⟨z.1, Or.inr (Or.inr z.2)⟩) (fun x hx => by rw [p] at hx; cases hx), g3 a i q]
      have asU : qAs (qUn k0) (zst k2 0 3 0) := fun a i hp => by
        have n3 : ¬(a = 0 ∧ i = 3) := fun z => hp (by rw [z.1, z.2]; rfl)
        have e0 : zst k2 0 3 0 a i = k2 a i := by
          rw [q_st]
          by_cases z : a = 0
          · rw [if_pos z, if_neg (fun y => n3 ⟨z, y⟩), z]
          · rw [if_neg z]
        rw [e0]
        unfold qUn
        cases e : qPos a i with
        | none => exact absurd e hp
        | some p =>
          show k2 a i = k0 38 p
          rw [K5 a i p e (q_posC e).2, g3 38 p (by omega)]
      have as38 : (zst k2 0 3 0) 38 = k0 38 := by
        funext p
        rw [q_st_c (by omega)]
        exact non 38 p rfl (by omega)
      have st3 : ∀ a i, a ≠ 0 ∨ i ≠ 3 → zst k2 0 3 0 a i = k2 a i := fun a i p => by
        rw [q_st]
        by_cases z : a = 0
        · rw [if_pos z, if_neg (by omega), z]
        · rw [if_neg z]
      have W0 : qWh h' 1 (qUn k0) := qWh_mv (o := 1) i3 e3 (by rw [e5]; exact w3.1) (by rw [e6]; exact w6.1) (by rw [e7]; exact w8.1) (by rw [e8]; exact w10.1)
      have W : qWh (zst h' 79 3 0) 1 (zst k2 0 3 0) := qWh_c (fun a p q r => by rw [q_st_c (by omega)]) asU W0
      have W2 : qWh (zst h' 79 3 0) 40 (qUn (zst k2 0 3 0)) := qWh_c (fun a p q r => by rw [q_st_c (by omega)]; exact e2 a (by omega)) (qAs_un as38) i3
      have h02 : zst h' 79 3 0 0 2 = 1 := by rw [q_st_c (by omega), e2 0 (by omega)]; exact i1
      refine ⟨1, zst h' 79 3 0, zst k2 0 3 0, ?_, g2, W, ?_, ?_, ?_, Or.inr ⟨h02, ?_, W2⟩⟩
      · rw [e1, q_bd]
        unfold f_X3_forget
        rw [q_lt, q_bd, h02]; rfl
      · obtain ⟨u, m, C', P', n', p1, p2, p3, p4, p5, p6, p7, p8⟩ := Pa
        obtain ⟨C2, P2, x1, ⟨x2, x2'⟩, ⟨x3, ⟨nb, x4, x5, x6⟩, x7⟩, -⟩ := W
        refine ⟨0, m, C2, P2, nb, by omega, p2, q_st_s, q_st_s, ?_, x1, x6, fun j hj => absurd hj (Nat.not_lt_zero j)⟩
        rw [q_st_i (by omega), e2 79 (by omega)]; exact p5
      · obtain ⟨n, n1, n2, n3, n4⟩ := T
        refine ⟨n, n1, by rw [q_st_c (by omega), e2 145 (by omega)]; exact n2, by rw [st3 0 12 (by omega), non 0 12 rfl (by omega)]; exact n3, fun i hi => ?_⟩
        rw [q_st_c (by omega), e2 146 (by omega), st3 7 i (by omega), non 7 i rfl (by omega)]
        exact n4 i hi
      · obtain ⟨x1, x2, x3, x4, x5, x6, x7⟩ := X
        refine ⟨?_, ?_, ?_, ?_, fun i hi => ?_, ?_, ?_⟩
        · rw [q_st_c (by omega), e4']; exact x1
        · rw [q_st_c (by omega), e2 136 (by omega)]; exact x2
        · rw [q_st_c (by omega), e2 157 (by omega)]; exact x3
        · rw [st3 0 5 (by omega), non 0 5 rfl (by omega)]; exact x4
        · rw [st3 8 i (by omega), non 8 i rfl (by omega)]; exact x5 i hi
        · rw [q_st_c (by omega), e2 145 (by omega), st3 0 32 (by omega), non 0 32 rfl (by omega)]; exact x6
        · rw [q_st_c (by omega), e2 145 (by omega), st3 0 33 (by omega), non 0 33 rfl (by omega)]; exact x7
      · rw [st3 0 66 (by omega), K4 0 66 (by omega) (fun q hq => by cases hq)]; exact g4
end Qimage
