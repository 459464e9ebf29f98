/-! ON THE PORCH: what one does, in both -/
section Qporch
variable {β : zHp × zHp}
def qMn (β : zHp × zHp) (o C P : Nat) (h k : zHp) : Prop := qCtx h k o C P ∧ qBook h 1 k ∧ ((o = 2 ∧ h 2 0 = 0 ∧ k 0 5 = 0) ∨ (o = 136 ∧ h 136 0 = 1 ∧ k 0 5 = 1 ∧ h 11 = β.1 11 ∧ h 12 = β.1 12 ∧ k 6 = β.2 6))
def qXm (o : Nat) (h h' : zHp) : Prop := ∀ a, ¬(o ≤ a ∧ a ≤ o + 8) → a ≠ 11 → a ≠ 12 → a ≠ 160 → a ≠ 19 → h' a = h a
def qMm (k k' : zHp) : Prop := ∀ a, a ≠ 1 → a ≠ 6 → a ≠ 20 → a ≠ 21 → k' a = k a
/-- both do it, and all is as it should be -/
def qDo (β : zHp × zHp) (o C P : Nat) (h k : zHp) (x y : Option zHp) : Prop := ∃ h' k', x = some h' ∧ y = some k' ∧ qMn β o C P h' k' ∧ qXm o h h' ∧ qMm k k' ∧ k' 1 0 = k 1 0
def qDoI (β : zHp × zHp) (o C P : Nat) (h k : zHp) (x y : Option (Int32 × zHp)) (v w : Int32) : Prop := ∃ h' k', x = some (v, h') ∧ y = some (w, k') ∧ qMn β o C P h' k' ∧ qXm o h h' ∧ qMm k k' ∧ k' 1 0 = k 1 0
theorem qXm_tr {o : Nat} {h h' h'' : zHp} (e : qXm o h h') (e' : qXm o h' h'') : qXm o h h'' := fun a b c d f g => (e' a b c d f g).trans (e a b c d f g)
theorem qMm_tr {k k' k'' : zHp} (e : qMm k k') (e' : qMm k' k'') : qMm k k'' := fun a b c d f => (e' a b c d f).trans (e a b c d f)
theorem qMn_o {o C P : Nat} {h k : zHp} (M : qMn β o C P h k) : o = 2 ∨ o = 136 := by
  rcases M.2.2 with ⟨q, -, -⟩ | ⟨q, -, -⟩
  · exact Or.inl q
  · exact Or.inr q
theorem qMn_of {o C P : Nat} {h k h' k' : zHp} (M : qMn β o C P h k) (e : ∀ a, ¬(o ≤ a ∧ a ≤ o + 8) → a ≠ 160 → a ≠ 19 → h' a = h a) (f : ∀ a, a ≠ 1 → a ≠ 20 → a ≠ 21 → k' a = k a) (f2 : k' 1 2 = k 1 2) (e0 : h' o 0 = h o 0) (p : qPo h' o (k' 1) (k 4) (k 5) C P) (q : qFine (k' 1) C P) : qMn β o C P h' k' := by
  have ho := qMn_o M
  obtain ⟨⟨⟨x1, x2⟩, xP, xF, xL, n, xK⟩, xB, xO⟩ := M
  have hP := xF.2.1
  refine ⟨⟨⟨by rw [f 0 (by omega) (by omega) (by omega)]; exact x1, by rw [f 0 (by omega) (by omega) (by omega)]; exact x2⟩, ?_, q, ?_, n, ?_⟩, ?_, ?_⟩
  · rw [f 4 (by omega) (by omega) (by omega), f 5 (by omega) (by omega) (by omega)]; exact p
  · have l1 := qLaw_c (h' := h') (fun a q1 q2 => e a (by omega) (by omega) (by omega)) (qAs_rf k) xL
    obtain ⟨n, sz, y⟩ := l1
    refine ⟨n, sz, ?_⟩
    rw [f 9 (by omega) (by omega) (by omega), f 10 (by omega) (by omega) (by omega), f 11 (by omega) (by omega) (by omega), f 12 (by omega) (by omega) (by omega), f 13 (by omega) (by omega) (by omega), f 14 (by omega) (by omega) (by omega), f 15 (by omega) (by omega) (by omega)]
    exact y
  · refine qKin_c hP (e _ (by omega) (by omega) (by omega)) (e _ (by omega) (by omega) (by omega)) (fun i hi => ?_) xK
    rw [f 19 (by omega) (by omega) (by omega)]
  · obtain ⟨b0, ⟨b, b1, b2, b3⟩, b4⟩ := xB
    exact ⟨by rw [e _ (by omega) (by omega) (by omega)]; exact b0, ⟨b, b1, by rw [e _ (by omega) (by omega) (by omega)]; exact b2, by rw [f2]; exact b3⟩, fun i hi => by rw [e _ (by omega) (by omega) (by omega), f 6 (by omega) (by omega) (by omega)]; exact b4 i hi⟩
  · rw [f 0 (by omega) (by omega) (by omega)]
    rcases xO with ⟨rfl, y⟩ | ⟨rfl, y⟩
    · exact Or.inl ⟨rfl, by rw [e0]; exact y.1, y.2⟩
    · exact Or.inr ⟨rfl, by rw [e0]; exact y.1, y.2.1, by rw [e 11 (by omega) (by omega) (by omega)]; exact y.2.2.1, by rw [e 12 (by omega) (by omega) (by omega)]; exact y.2.2.2.1, by rw [f 6 (by omega) (by omega) (by omega)]; exact y.2.2.2.2⟩
-- a chair's three numbers change
theorem qPo_upC {h h' : zHp} {o C P c : Nat} {row row' run dear : Nat → Int32} (hC : C ≤ 10) (hP : P ≤ 14) (hc : c < C) (e0 : ∀ a, o ≤ a → a ≤ o + 8 → a ≠ o + 2 → a ≠ o + 3 → a ≠ o + 4 → h' a = h a) (hx : ∀ d, d ≠ c → h' (o + 2) d = h (o + 2) d ∧ h' (o + 3) d = h (o + 3) d ∧ h' (o + 4) d = h (o + 4) d) (rx : ∀ i, i < 77 → i ≠ 2 → i ≠ 5 + c → i ≠ 15 + c → i ≠ 25 + c → row' i = row i) (n2 : h' (o + 2) c = row' (5 + c)) (n3 : h' (o + 3) c = row' (15 + c) - 1) (n4 : h' (o + 4) c = row' (25 + c) - 1) (H : qPo h o row run dear C P) : qPo h' o row' run dear C P := by
  obtain ⟨p1, p2, p3, p4, p5, p6, p7, p8⟩ := H
  have eo : h' o = h o := e0 o (by omega) (by omega) (by omega) (by omega) (by omega)
  refine ⟨by rw [eo]; exact p1, by rw [eo]; exact p2, by rw [eo, rx 3 (by omega) (by omega) (by omega) (by omega) (by omega)]; exact p3, by rw [eo, rx 4 (by omega) (by omega) (by omega) (by omega) (by omega)]; exact p4, by rw [eo, rx 0 (by omega) (by omega) (by omega) (by omega) (by omega)]; exact p5, by rw [eo, rx 1 (by omega) (by omega) (by omega) (by omega) (by omega)]; exact p6, fun d hd => ?_, fun p hp => ?_⟩
  · by_cases z : d = c
    · subst z
      refine ⟨?_, n2, n3, n4⟩
      rw [e0 (o + 1) (by omega) (by omega) (by omega) (by omega) (by omega)]
      exact (p7 d hd).1
    · obtain ⟨x2, x3, x4⟩ := hx d z
      rw [x2, x3, x4, e0 (o + 1) (by omega) (by omega) (by omega) (by omega) (by omega), rx (5 + d) (by omega) (by omega) (by omega) (by omega) (by omega), rx (15 + d) (by omega) (by omega) (by omega) (by omega) (by omega), rx (25 + d) (by omega) (by omega) (by omega) (by omega) (by omega)]
      exact p7 d hd
  · rw [e0 (o + 5) (by omega) (by omega) (by omega) (by omega) (by omega), e0 (o + 6) (by omega) (by omega) (by omega) (by omega) (by omega), e0 (o + 7) (by omega) (by omega) (by omega) (by omega) (by omega), e0 (o + 8) (by omega) (by omega) (by omega) (by omega) (by omega), rx (35 + p) (by omega) (by omega) (by omega) (by omega) (by omega), rx (49 + p) (by omega) (by omega) (by omega) (by omega) (by omega), rx (63 + p) (by omega) (by omega) (by omega) (by omega) (by omega)]
    exact p8 p hp
-- a person's three numbers change
theorem qPo_upP {h h' : zHp} {o C P p : Nat} {row row' run dear : Nat → Int32} (hC : C ≤ 10) (hP : P ≤ 14) (hp : p < P) (e0 : ∀ a, o ≤ a → a ≤ o + 5 → h' a = h a) (hx : ∀ d, d ≠ p → h' (o + 6) d = h (o + 6) d ∧ h' (o + 7) d = h (o + 7) d ∧ h' (o + 8) d = h (o + 8) d) (rx : ∀ i, i < 77 → i ≠ 2 → i ≠ 35 + p → i ≠ 49 + p → i ≠ 63 + p → row' i = row i) (n2 : h' (o + 6) p = row' (35 + p)) (n3 : h' (o + 7) p = row' (49 + p)) (n4 : h' (o + 8) p = row' (63 + p)) (H : qPo h o row run dear C P) : qPo h' o row' run dear C P := by
  obtain ⟨p1, p2, p3, p4, p5, p6, p7, p8⟩ := H
  have eo : h' o = h o := e0 o (by omega) (by omega)
  refine ⟨by rw [eo]; exact p1, by rw [eo]; exact p2, by rw [eo, rx 3 (by omega) (by omega) (by omega) (by omega) (by omega)]; exact p3, by rw [eo, rx 4 (by omega) (by omega) (by omega) (by omega) (by omega)]; exact p4, by rw [eo, rx 0 (by omega) (by omega) (by omega) (by omega) (by omega)]; exact p5, by rw [eo, rx 1 (by omega) (by omega) (by omega) (by omega) (by omega)]; exact p6, fun d hd => ?_, fun q hq => ?_⟩
  · rw [e0 (o + 1) (by omega) (by omega), e0 (o + 2) (by omega) (by omega), e0 (o + 3) (by omega) (by omega), e0 (o + 4) (by omega) (by omega), rx (5 + d) (by omega) (by omega) (by omega) (by omega) (by omega), rx (15 + d) (by omega) (by omega) (by omega) (by omega) (by omega), rx (25 + d) (by omega) (by omega) (by omega) (by omega) (by omega)]
    exact p7 d hd
  · by_cases z : q = p
    · subst z
      refine ⟨?_, n2, n3, n4⟩
      rw [e0 (o + 5) (by omega) (by omega)]
      exact (p8 q hq).1
    · obtain ⟨x2, x3, x4⟩ := hx q z
      rw [x2, x3, x4, e0 (o + 5) (by omega) (by omega), rx (35 + q) (by omega) (by omega) (by omega) (by omega) (by omega), rx (49 + q) (by omega) (by omega) (by omega) (by omega) (by omega), rx (63 + q) (by omega) (by omega) (by omega) (by omega) (by omega)]
      exact p8 q hq
theorem q_m1 : nI 0 - 1 = qM := by decide
theorem q_m1s (a : Nat) : nI (a + 1) - 1 = nI a := nI_pred a
theorem q_m1eq {t : Nat} (ht : t < 2147483648) : nI t - 1 = qM ↔ t = 0 := by
  cases t with
  | zero => exact ⟨fun _ => rfl, fun _ => q_m1⟩
  | succ t =>
    rw [q_m1s]
    exact ⟨fun q => absurd q (qM_ne (by omega)), fun q => by omega⟩
/-- a chair's numbers -/
theorem q_chair {h k : zHp} {o C P c : Nat} (X : qCtx h k o C P) (hc : c < C) : ∃ s f t, s ≤ 99 ∧ f ≤ P ∧ t ≤ P ∧ k 1 (5 + c) = nI s ∧ k 1 (15 + c) = nI f ∧ k 1 (25 + c) = nI t ∧ h (o + 2) c = nI s ∧ h (o + 3) c = nI f - 1 ∧ h (o + 4) c = nI t - 1 ∧ (f = 0 ↔ s = 0) ∧ (0 < t → s = 0) ∧ h (o + 1) c = k 4 c := by
  obtain ⟨-, xP, xF, -⟩ := X
  obtain ⟨s, f, t, a1, a2, a3, a4, a5, a6, a7, a8⟩ := xF.2.2.1 c hc
  obtain ⟨b1, b2, b3, b4⟩ := xP.2.2.2.2.2.2.1 c hc
  exact ⟨s, f, t, a1, a2, a3, a4, a5, a6, by rw [b2, a4], by rw [b3, a5], by rw [b4, a6], a7, a8, b1⟩
theorem qPo_c2 {h h' : zHp} {o : Nat} {row row' run dear : Nat → Int32} {C P : Nat} (hC : C ≤ 10) (hP : P ≤ 14) (e : ∀ a, o ≤ a → a ≤ o + 8 → h' a = h a) (f : ∀ i, i ≠ 2 → row' i = row i) (H : qPo h o row run dear C P) : qPo h' o row' run dear C P := by
  unfold qPo at *
  obtain ⟨a1, a2, a3, a4, a5, a6, a7, a8⟩ := H
  rw [e o (by omega) (by omega), f 3 (by omega), f 4 (by omega), f 0 (by omega), f 1 (by omega)]
  refine ⟨a1, a2, a3, a4, a5, a6, fun c hc => ?_, fun p hp => ?_⟩
  · rw [e (o + 1) (by omega) (by omega), e (o + 2) (by omega) (by omega), e (o + 3) (by omega) (by omega), e (o + 4) (by omega) (by omega), f _ (by omega), f _ (by omega), f _ (by omega)]
    exact a7 c hc
  · rw [e (o + 5) (by omega) (by omega), e (o + 6) (by omega) (by omega), e (o + 7) (by omega) (by omega), e (o + 8) (by omega) (by omega), f _ (by omega), f _ (by omega), f _ (by omega)]
    exact a8 p hp
-- a line of the book
theorem q_note {h k : zHp} {o C P w : Nat} (M : qMn β o C P h k) (a b : Int32) (hw : w < 10) : ∃ h' k', f_X0_note o (nI w) a b h = some h' ∧ f_X11_notes (nI w) a b k = some k' ∧ qMn β o C P h' k' ∧ (∀ c, c ≠ 11 → c ≠ 12 → h' c = h c) ∧ (∀ c, c ≠ 1 → c ≠ 6 → k' c = k c) ∧ ∀ i, i ≠ 2 → k' 1 i = k 1 i := by
  have ho := qMn_o M
  obtain ⟨xC, xB, xO⟩ := id M
  have hC := xC.2.2.1.1
  have hP := xC.2.2.1.2.1
  rcases xO with ⟨rfl, y1, y2⟩ | ⟨rfl, y1, y2, -⟩
  · obtain ⟨b0, ⟨n, b1, b2, b3⟩, b4⟩ := xB
    have hz : zln wX 12 = 600 := by decide +kernel
    have b0' : h 11 0 = nI 150 := b0
    have b2' : h 11 2 = nI n := b2
    have m13 : h 2 13 = k 1 0 := xC.2.1.2.2.2.2.1
    rcases Nat.lt_or_ge n 150 with hn | hn
    · refine ⟨zst (zst (zst (zst (zst h 12 (4 * n) (k 1 0)) 12 (4 * n + 1) (nI w)) 12 (4 * n + 2) a) 12 (4 * n + 3) b) 11 2 (nI (n + 1)), zst (zst (zst (zst (zst k 6 (4 * n) (k 1 0)) 6 (4 * n + 1) (nI w)) 6 (4 * n + 2) a) 6 (4 * n + 3) b) 1 2 (nI (n + 1)), ?_, ?_, ?_, fun c c1 c2 => by simp (disch := omega) only [q_st_c], fun c c1 c2 => by simp (disch := omega) only [q_st_c], fun i hi => by simp (disch := omega) only [q_st_c, q_st_i]⟩
      · have e1 : n * 4 = 4 * n := by omega
        unfold f_X0_note f_X2_add
        rw [b2', b0', hz]
        simp (disch := omega) only [y1, e1, m13, b2', ↓reduceIte, ↓qM_e, ↓q_rem, q_mod, q_modN, q_lit, q_nI, q_lt, q_bd, q_ix, q_dz, q_iflt, q_ifnlt, q_ifeq, q_ifne, q_ifM, q_ifMM, q_ifMlt, q_ifltM, nI_add, pk_mul, q_sub, q_div, q_cl, q_st_s, q_st_i, q_st_c, Nat.add_zero, Nat.zero_add]
      · unfold f_X11_notes
        simp (disch := omega) only [y2, b3, ↓reduceIte, ↓qM_e, ↓q_rem, q_mod, q_modN, q_lit, q_nI, q_lt, q_bd, q_ix, q_dz, q_iflt, q_ifnlt, q_ifeq, q_ifne, q_ifM, q_ifMM, q_ifMlt, q_ifltM, nI_add, pk_mul, q_sub, q_div, q_cl, q_st_s, q_st_i, q_st_c, Nat.add_zero, Nat.zero_add]
      · refine ⟨⟨⟨by simp (disch := omega) only [q_st_c]; exact xC.1.1, by simp (disch := omega) only [q_st_c]; exact xC.1.2⟩, ?_, ?_, ?_, ?_⟩, ⟨?_, ⟨n + 1, by omega, q_st_s, q_st_s⟩, fun i hi => ?_⟩, Or.inl ⟨rfl, by simp (disch := omega) only [q_st_c]; exact y1, by simp (disch := omega) only [q_st_c]; exact y2⟩⟩
        · rw [show zst (zst (zst (zst (zst k 6 (4 * n) (k 1 0)) 6 (4 * n + 1) (nI w)) 6 (4 * n + 2) a) 6 (4 * n + 3) b) 1 2 (nI (n + 1)) 4 = k 4 by simp (disch := omega) only [q_st_c], show zst (zst (zst (zst (zst k 6 (4 * n) (k 1 0)) 6 (4 * n + 1) (nI w)) 6 (4 * n + 2) a) 6 (4 * n + 3) b) 1 2 (nI (n + 1)) 5 = k 5 by simp (disch := omega) only [q_st_c]]
          exact qPo_c2 hC hP (fun a q1 q2 => by simp (disch := omega) only [q_st_c]) (fun i hi => by simp (disch := omega) only [q_st_c, q_st_i]) xC.2.1
        · refine qFine_c (fun i q1 q2 => ?_) xC.2.2.1
          rw [q_st_i (by omega), q_st_c (by omega), q_st_c (by omega), q_st_c (by omega), q_st_c (by omega)]
        · have l1 := qLaw_c (h' := zst (zst (zst (zst (zst h 12 (4 * n) (k 1 0)) 12 (4 * n + 1) (nI w)) 12 (4 * n + 2) a) 12 (4 * n + 3) b) 11 2 (nI (n + 1))) (fun a q1 q2 => by simp (disch := omega) only [q_st_c]) (qAs_rf k) xC.2.2.2.1
          obtain ⟨nn, sz, y⟩ := l1
          refine ⟨nn, sz, ?_⟩
          simp (disch := omega) only [q_st_c] at y ⊢
          exact y
        · obtain ⟨nn, xK⟩ := xC.2.2.2.2
          exact ⟨nn, qKin_c hP (by simp (disch := omega) only [q_st_c]) (by simp (disch := omega) only [q_st_c]) (fun i hi => by simp (disch := omega) only [q_st_c]) xK⟩
        · rw [q_st_i (by omega)]
          simp (disch := omega) only [q_st_c]
          exact b0
        · rw [show (1 : Nat) + 11 = 12 from rfl, q_st_c (show (12 : Nat) ≠ 11 by omega), q_st_c (show (6 : Nat) ≠ 1 by omega)]
          by_cases z3 : i = 4 * n + 3
          · rw [z3, q_st_s, q_st_s]
          · by_cases z2 : i = 4 * n + 2
            · rw [z2, q_st_i (by omega), q_st_s, q_st_i (by omega), q_st_s]
            · by_cases z1 : i = 4 * n + 1
              · rw [z1, q_st_i (by omega), q_st_i (by omega), q_st_s, q_st_i (by omega), q_st_i (by omega), q_st_s]
              · by_cases z0 : i = 4 * n
                · rw [z0, q_st_i (by omega), q_st_i (by omega), q_st_i (by omega), q_st_s, q_st_i (by omega), q_st_i (by omega), q_st_i (by omega), q_st_s]
                · rw [q_st_i z3, q_st_i z2, q_st_i z1, q_st_i z0, q_st_i z3, q_st_i z2, q_st_i z1, q_st_i z0]
                  exact b4 i hi
    · have hn4 : n = 150 := by omega
      subst hn4
      refine ⟨h, k, ?_, ?_, M, fun _ _ _ => rfl, fun _ _ _ => rfl, fun _ _ => rfl⟩
      · unfold f_X0_note f_X2_add
        rw [b2', b0', hz]
        simp (disch := omega) only [y1, ↓reduceIte, ↓qM_e, ↓q_rem, q_mod, q_modN, q_lit, q_nI, q_lt, q_bd, q_ix, q_dz, q_iflt, q_ifnlt, q_ifeq, q_ifne, q_ifM, q_ifMM, q_ifMlt, q_ifltM, nI_add, pk_mul, q_sub, q_div, q_cl, q_st_s, q_st_i, q_st_c, Nat.add_zero, Nat.zero_add]
      · unfold f_X11_notes
        simp (disch := omega) only [y2, b3, ↓reduceIte, ↓qM_e, ↓q_rem, q_mod, q_modN, q_lit, q_nI, q_lt, q_bd, q_ix, q_dz, q_iflt, q_ifnlt, q_ifeq, q_ifne, q_ifM, q_ifMM, q_ifMlt, q_ifltM, nI_add, pk_mul, q_sub, q_div, q_cl, q_st_s, q_st_i, q_st_c, Nat.add_zero, Nat.zero_add]
  · refine ⟨h, k, ?_, ?_, M, fun _ _ _ => rfl, fun _ _ _ => rfl, fun _ _ => rfl⟩
    · unfold f_X0_note
      rw [if_neg (by rw [y1]; decide)]
    · unfold f_X11_notes
      rw [if_neg (by rw [y2]; decide)]
end Qporch
