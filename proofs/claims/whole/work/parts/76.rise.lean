/-! ON THE PORCH: rising -/
section Qrise
variable {β : zHp × zHp}
theorem qMn_lo {o C P : Nat} {h k h' k' : zHp} (M : qMn β o C P h k) (e : ∀ a, a ≠ o → a ≠ 160 → a ≠ 19 → h' a = h a) (f : ∀ a, a ≠ 1 → a ≠ 20 → a ≠ 21 → k' a = k a) (f2 : ∀ i, 5 ≤ i → k' 1 i = k 1 i) (f3 : k' 1 2 = k 1 2) (e0 : h' o 0 = h o 0) (e9 : h' o 9 = h o 9) (e10 : h' o 10 = h o 10) (e11 : h' o 11 = k' 1 3) (e12 : h' o 12 = k' 1 4) (e13 : h' o 13 = k' 1 0) (e14 : h' o 14 = k' 1 1) : qMn β o C P h' k' := by
  have ho := qMn_o M
  obtain ⟨p1, p2, p3, p4, p5, p6, p7, p8⟩ := M.1.2.1
  refine qMn_of M (fun a q1 q2 q3 => e a (by omega) q2 q3) f f3 e0 ⟨by rw [e9]; exact p1, by rw [e10]; exact p2, e11, e12, e13, e14, fun c hc => ?_, fun p hp => ?_⟩ (qFine_c (fun i q1 q2 => f2 i q1) M.1.2.2.1)
  · rw [e (o + 1) (by omega) (by omega) (by omega), e (o + 2) (by omega) (by omega) (by omega), e (o + 3) (by omega) (by omega) (by omega), e (o + 4) (by omega) (by omega) (by omega), f2 _ (by omega), f2 _ (by omega), f2 _ (by omega)]
    exact p7 c hc
  · rw [e (o + 5) (by omega) (by omega) (by omega), e (o + 6) (by omega) (by omega) (by omega), e (o + 7) (by omega) (by omega) (by omega), e (o + 8) (by omega) (by omega) (by omega), f2 _ (by omega), f2 _ (by omega), f2 _ (by omega)]
    exact p8 p hp
theorem qMn_same {o C P : Nat} {h k h' k' : zHp} (M : qMn β o C P h k) (e : ∀ a, a ≠ 160 → a ≠ 19 → h' a = h a) (f : ∀ a, a ≠ 20 → a ≠ 21 → k' a = k a) : qMn β o C P h' k' := by
  have ho := qMn_o M
  obtain ⟨p1, p2, p3, p4, p5, p6, -, -⟩ := M.1.2.1
  have eo : h' o = h o := e o (by omega) (by omega)
  have f1 : k' 1 = k 1 := f 1 (by omega) (by omega)
  exact qMn_lo M (fun a _ q2 q3 => e a q2 q3) (fun a _ q2 q3 => f a q2 q3) (fun i _ => by rw [f1]) (by rw [f1]) (by rw [eo]) (by rw [eo]) (by rw [eo]) (by rw [eo, f1]; exact p3) (by rw [eo, f1]; exact p4) (by rw [eo, f1]; exact p5) (by rw [eo, f1]; exact p6)
theorem qRw_row {row row' : Nat → Int32} {C P : Nat} {S F T W : Nat → Nat} {c : Nat} {v f : Nat} (hC : C ≤ 10) (hc : c < C) (R : qRw row C P S F T W) (ki : ∀ i, 5 ≤ i → i ≠ 5 + c → i ≠ 15 + c → row' i = row i) (k5 : row' (5 + c) = nI v) (k15 : row' (15 + c) = nI f) : qRw row' C P (fun d => if d = c then v else S d) (fun d => if d = c then f else F d) T W := by
  refine ⟨fun d hd => ?_, fun p hp => ?_⟩
  · obtain ⟨r1, r2, r3⟩ := R.1 d hd
    dsimp only
    by_cases z : d = c
    · rw [if_pos z, if_pos z, z, ki (25 + c) (by omega) (by omega) (by omega)]
      exact ⟨k5, k15, by rw [← z]; exact r3⟩
    · rw [if_neg z, if_neg z, ki (5 + d) (by omega) (by omega) (by omega), ki (15 + d) (by omega) (by omega) (by omega), ki (25 + d) (by omega) (by omega) (by omega)]
      exact ⟨r1, r2, r3⟩
  · rw [ki _ (by omega) (by omega) (by omega)]
    exact R.2 p hp
theorem qMn_rock {o C P c v f : Nat} {h k h' k' : zHp} (M : qMn β o C P h k) (hc : c < C) (hv : v ≤ 99) (hf : f ≤ P) (hvf : 0 < v → 0 < f) (ht : k 1 (25 + c) = nI 0) (hX : h' = zst (zst h (o + 2) c (nI v)) (o + 3) c (if 0 < v then nI f - 1 else -1)) (kx : ∀ a, a ≠ 1 → k' a = k a) (ki : ∀ i, i ≠ 5 + c → i ≠ 15 + c → k' 1 i = k 1 i) (k5 : k' 1 (5 + c) = nI v) (k15 : k' 1 (15 + c) = if v = 0 then nI 0 else nI f) : qMn β o C P h' k' := by
  subst hX
  have ho := qMn_o M
  obtain ⟨S, F, T, W, R, N⟩ := qFine_N M.1.2.2.1
  obtain ⟨hC, hP, N3, N4, N5⟩ := id N
  obtain ⟨r1, r2, r3⟩ := R.1 c hc
  obtain ⟨b1, b2, b3, b4, b5⟩ := N3 c hc
  have et : T c = 0 := (nI_eq (by omega) (by omega)).mp (r3.symm.trans ht)
  obtain ⟨g, hg, hg2⟩ : ∃ g, (g = if v = 0 then 0 else f) ∧ k' 1 (15 + c) = nI g := by
    refine ⟨if v = 0 then 0 else f, rfl, ?_⟩
    rw [k15]; split <;> rfl
  refine qMn_of M (fun a q1 q2 q3 => by rw [q_st_c (by omega), q_st_c (by omega)]) (fun a q1 q2 q3 => kx a q1) (ki 2 (by omega) (by omega)) (by rw [q_st_c (by omega), q_st_c (by omega)]) ?_ ?_
  · refine qPo_upC (c := c) (row := k 1) (h := h) hC hP hc (fun a q1 q2 q3 q4 q5 => by rw [q_st_c q4, q_st_c q3]) (fun d hd => ⟨by rw [q_st_c (by omega), q_st_i hd], by rw [q_st_i hd, q_st_c (by omega)], by rw [q_st_c (by omega), q_st_c (by omega)]⟩) (fun i i1 i2 i3 i4 i5 => ki i i3 i4) ?_ ?_ ?_ M.1.2.1
    · rw [q_st_c (by omega), q_st_s, k5]
    · rw [q_st_s, hg2, hg]
      by_cases z : v = 0
      · rw [if_pos z, if_neg (by omega)]; rfl
      · rw [if_neg z, if_pos (by omega)]
    · rw [q_st_c (by omega), q_st_c (by omega), (M.1.2.1.2.2.2.2.2.2.1 c hc).2.2.2, ki _ (by omega) (by omega)]
  · refine qFine_of (qRw_row hC hc R (fun i _ q1 q2 => ki i q1 q2) k5 hg2) ⟨hC, hP, fun d hd => ?_, N4, N5⟩
    dsimp only
    obtain ⟨x1, x2, x3, x4, x5⟩ := N3 d hd
    by_cases z : d = c
    · rw [if_pos z, if_pos z, z, et]
      subst hg
      refine ⟨hv, ?_, by omega, ?_, by omega⟩
      · split <;> omega
      · by_cases y : v = 0
        · rw [if_pos y]; omega
        · rw [if_neg y]; omega
    · rw [if_neg z, if_neg z]; exact ⟨x1, x2, x3, x4, x5⟩
theorem qWho_p {P p : Nat} (hp : p < P) : qWho P p = nI p := by unfold qWho; rw [if_pos hp]
theorem q_askMn {o C P c p w : Nat} {h k : zHp} (M : qMn β o C P h k) (hc : c < C) (hp : p < P) (hw : w < 3) : ∃ r h' k5 k', f_X0_ask o (nI w) (nI c) (nI p) h = some (nI r, h') ∧ f_X11_asks (nI c) (nI p) k = some k5 ∧ f_X11_lawTells (nI w) (qUnt k5 w) (qMost w) k5 = some (nI r, k') ∧ qMn β o C P h' k' ∧ (∀ a, a ≠ 160 → a ≠ 19 → h' a = h a) ∧ (∀ a, a ≠ 20 → a ≠ 21 → k' a = k a) ∧ r ≤ 1000 ∧ (w = 0 → r ≤ 99) := by
  obtain ⟨r, h', k5, k', a1, a2, a3, a4, a5, a6, a7⟩ := q_ask (p := p) (qMn_o M) M.1 hc hw
  rw [qWho_p hp] at a1 a2
  exact ⟨r, h', k5, k', a1, a2, a3, qMn_same M a4 a5, a4, a5, a6, a7⟩
theorem q_swingsOf {o C P c p : Nat} {h k : zHp} (M : qMn β o C P h k) (hc : c < C) (hp : p < P) : ∃ r h' k', f_X0_ask o (nI 0) (nI c) (nI p) h = some (nI r, h') ∧ f_X11_swingsOf (nI c) (nI p) k = some (nI r, k') ∧ qMn β o C P h' k' ∧ (∀ a, a ≠ 160 → a ≠ 19 → h' a = h a) ∧ (∀ a, a ≠ 20 → a ≠ 21 → k' a = k a) ∧ r ≤ 99 := by
  obtain ⟨r, h', k5, k', a1, a2, a3, a4, a5, a6, a7, a8⟩ := q_askMn M hc hp (w := 0) (by omega)
  refine ⟨r, h', k', a1, ?_, a4, a5, a6, a8 rfl⟩
  have a3' : f_X11_lawTells (nI 0) (nI 10 * k5 20 2 + nI 5 * k5 20 3) (nI 99) k5 = some (nI r, k') := a3
  unfold f_X11_swingsOf
  simp (disch := omega) only [a2, a3', ↓reduceIte, ↓qM_e, ↓q_rem, q_mod, q_modN, q_lit, q_nI, q_lt, q_bd, q_ix, q_dz, q_iflt, q_ifnlt, q_ifeq, q_ifne, q_ifM, q_ifMM, q_ifMlt, q_ifltM, nI_add, pk_mul, q_sub, q_div, q_cl, q_st_s, q_st_i, q_st_c, Nat.add_zero, Nat.zero_add]
theorem q_whom {o C P c f : Nat} {k : zHp} (hc : c < 10) (e : k 1 (15 + c) = nI (f + 1)) : f_X11_forWhom (nI c) k = some (nI f, k) := by
  unfold f_X11_forWhom
  have e1 : nI (f + 1) - nI 1 = nI f := nI_pred f
  simp (disch := omega) only [e, e1, ↓reduceIte, ↓qM_e, ↓q_rem, q_mod, q_modN, q_lit, q_nI, q_lt, q_bd, q_ix, q_dz, q_iflt, q_ifnlt, q_ifeq, q_ifne, q_ifM, q_ifMM, q_ifMlt, q_ifltM, nI_add, pk_mul, q_sub, q_div, q_cl, q_st_s, q_st_i, q_st_c, Nat.add_zero, Nat.zero_add]
theorem q_fadesOf {o C P c p : Nat} {h k : zHp} (M : qMn β o C P h k) (hc : c < C) (hp : p < P) (e : k 1 (15 + c) = nI (p + 1)) : ∃ r h' k', f_X0_ask o (nI 1) (nI c) (nI p) h = some (nI r, h') ∧ f_X11_fadesOf (nI c) k = some (nI r, k') ∧ qMn β o C P h' k' ∧ (∀ a, a ≠ 160 → a ≠ 19 → h' a = h a) ∧ (∀ a, a ≠ 20 → a ≠ 21 → k' a = k a) ∧ r ≤ 1000 := by
  obtain ⟨r, h', k5, k', a1, a2, a3, a4, a5, a6, a7, a8⟩ := q_askMn M hc hp (w := 1) (by omega)
  refine ⟨r, h', k', a1, ?_, a4, a5, a6, a7⟩
  have a3' : f_X11_lawTells (nI 1) (nI 10 - k5 20 0 - k5 20 6) (nI 20) k5 = some (nI r, k') := a3
  have hC := M.1.2.2.1.1
  have w := q_whom (o := o) (C := C) (P := P) (k := k) (c := c) (f := p) (by omega) e
  unfold f_X11_fadesOf
  simp (disch := omega) only [w, a2, a3', ↓reduceIte, ↓qM_e, ↓q_rem, q_mod, q_modN, q_lit, q_nI, q_lt, q_bd, q_ix, q_dz, q_iflt, q_ifnlt, q_ifeq, q_ifne, q_ifM, q_ifMM, q_ifMlt, q_ifltM, nI_add, pk_mul, q_sub, q_div, q_cl, q_st_s, q_st_i, q_st_c, Nat.add_zero, Nat.zero_add]
theorem q_jumpsAt {o C P c p : Nat} {h k : zHp} (M : qMn β o C P h k) (hc : c < C) (hp : p < P) (e : k 1 (15 + c) = nI (p + 1)) : ∃ r h' k', f_X0_ask o (nI 2) (nI c) (nI p) h = some (nI r, h') ∧ f_X11_jumpsAt (nI c) k = some (nI r, k') ∧ qMn β o C P h' k' ∧ (∀ a, a ≠ 160 → a ≠ 19 → h' a = h a) ∧ (∀ a, a ≠ 20 → a ≠ 21 → k' a = k a) ∧ r ≤ 1000 := by
  obtain ⟨r, h', k5, k', a1, a2, a3, a4, a5, a6, a7, a8⟩ := q_askMn M hc hp (w := 2) (by omega)
  refine ⟨r, h', k', a1, ?_, a4, a5, a6, a7⟩
  have a3' : f_X11_lawTells (nI 2) (nI 900 - nI 5 * k5 20 1) (nI 1000) k5 = some (nI r, k') := a3
  have hC := M.1.2.2.1.1
  have w := q_whom (o := o) (C := C) (P := P) (k := k) (c := c) (f := p) (by omega) e
  unfold f_X11_jumpsAt
  simp (disch := omega) only [w, a2, a3', ↓reduceIte, ↓qM_e, ↓q_rem, q_mod, q_modN, q_lit, q_nI, q_lt, q_bd, q_ix, q_dz, q_iflt, q_ifnlt, q_ifeq, q_ifne, q_ifM, q_ifMM, q_ifMlt, q_ifltM, nI_add, pk_mul, q_sub, q_div, q_cl, q_st_s, q_st_i, q_st_c, Nat.add_zero, Nat.zero_add]
theorem q_m1p {t p : Nat} (ht : t < 2147483648) (hp : p < 2147483647) : nI t - 1 = nI p ↔ t = p + 1 := by
  cases t with
  | zero => exact ⟨fun q => absurd (q.symm.trans q_m1) (qM_ne (by omega)), fun q => by omega⟩
  | succ t =>
    rw [q_m1s]
    exact ⟨fun q => by have := (nI_eq (by omega) (by omega)).mp q; omega, fun q => by rw [show t = p by omega]⟩
theorem q_chairOfX {h : zHp} {o C c p : Nat} {T : Nat → Nat} (hC : C ≤ 10) (h9 : h o 9 = nI C) (hc : c < C) (ht : ∀ d, d < C → h (o + 4) d = nI (T d) - 1) (bt : ∀ d, d < C → T d ≤ 14) (e : T c = p + 1) (ne : ∀ d, d < c → T d ≠ p + 1) (hp : p < 14) : f_X4_chairOf o (nI p) h = some (nI c, h) := by
  unfold f_X4_chairOf f_X4_chairOf_2_lp
  refine q_for (S := fun i => (nI p, nI i, h)) c (fun i hi rec => ?_) (fun rec => ?_) zN (by rw [q_zN]; omega)
  · have i1 := q_isCh hC h9 (show i < C by omega)
    have b := bt i (by omega)
    simp only [f_X4_chairOf_2]
    simp (disch := omega) only [h9, i1, q_ifF (show ¬ h (o + 4) i = nI p by rw [ht i (by omega)]; exact fun q => ne i hi ((q_m1p (by omega) (by omega)).mp q)), ↓reduceIte, ↓qM_e, ↓q_rem, q_mod, q_modN, q_lit, q_nI, q_lt, q_bd, q_ix, q_dz, q_iflt, q_ifnlt, q_ifeq, q_ifne, q_ifM, q_ifMM, q_ifMlt, q_ifltM, nI_add, pk_mul, q_sub, q_div, q_cl, q_st_s, q_st_i, q_st_c, Nat.add_zero, Nat.zero_add]
  · have i1 := q_isCh hC h9 hc
    simp only [f_X4_chairOf_2]
    simp (disch := omega) only [h9, i1, q_ifT (show h (o + 4) c = nI p by rw [ht c hc, e]; exact nI_pred p), ↓reduceIte, ↓qM_e, ↓q_rem, q_mod, q_modN, q_lit, q_nI, q_lt, q_bd, q_ix, q_dz, q_iflt, q_ifnlt, q_ifeq, q_ifne, q_ifM, q_ifMM, q_ifMlt, q_ifltM, nI_add, pk_mul, q_sub, q_div, q_cl, q_st_s, q_st_i, q_st_c, Nat.add_zero, Nat.zero_add]
theorem q_chairOfM {k : zHp} {C c p : Nat} {T : Nat → Nat} (hC : C ≤ 10) (h9 : k 0 6 = nI C) (hc : c < C) (ht : ∀ d, d < C → k 1 (25 + d) = nI (T d)) (bt : ∀ d, d < C → T d ≤ 14) (e : T c = p + 1) (ne : ∀ d, d < c → T d ≠ p + 1) (hp : p < 14) : f_X11_chairOf (nI p) k = some (nI c, k) := by
  unfold f_X11_chairOf f_X11_chairOf_2_lp
  refine q_for (S := fun i => (nI p, nI i, k)) c (fun i hi rec => ?_) (fun rec => ?_) zN (by rw [q_zN]; omega)
  · have b := bt i (by omega)
    simp only [f_X11_chairOf_2, f_X11_takenBy]
    simp (disch := omega) only [h9, q_ifF (show ¬ k 1 (25 + i) - nI 1 = nI p by rw [ht i (by omega)]; exact fun q => ne i hi ((q_m1p (by omega) (by omega)).mp q)), ↓reduceIte, ↓qM_e, ↓q_rem, q_mod, q_modN, q_lit, q_nI, q_lt, q_bd, q_ix, q_dz, q_iflt, q_ifnlt, q_ifeq, q_ifne, q_ifM, q_ifMM, q_ifMlt, q_ifltM, nI_add, pk_mul, q_sub, q_div, q_cl, q_st_s, q_st_i, q_st_c, Nat.add_zero, Nat.zero_add]
  · simp only [f_X11_chairOf_2, f_X11_takenBy]
    simp (disch := omega) only [h9, q_ifT (show k 1 (25 + c) - nI 1 = nI p by rw [ht c hc, e]; exact nI_pred p), ↓reduceIte, ↓qM_e, ↓q_rem, q_mod, q_modN, q_lit, q_nI, q_lt, q_bd, q_ix, q_dz, q_iflt, q_ifnlt, q_ifeq, q_ifne, q_ifM, q_ifMM, q_ifMlt, q_ifltM, nI_add, pk_mul, q_sub, q_div, q_cl, q_st_s, q_st_i, q_st_c, Nat.add_zero, Nat.zero_add]
theorem q_getUpN {o C P p : Nat} {h k : zHp} (M : qMn β o C P h k) (hp : p < P) (hw : k 1 (35 + p) ≠ 2) : f_X0_getUp o (nI p) h = some h := by
  obtain ⟨S, F, T, W, R, N⟩ := qFine_N M.1.2.2.1
  obtain ⟨hC, hP, N3, N4, N5⟩ := id N
  have w2 := (N5 p hp).1
  have w := R.2 p hp
  have e6 : h (o + 6) p = nI (W p) := by rw [(qCtx_p M.1 hp).1, w]
  have iX := q_isX (w := 2) hP M.1.2.1.2.1 hp e6 (by omega) (by omega)
  have wn : W p ≠ 2 := fun q => hw (by rw [w, q]; rfl)
  rw [if_neg wn] at iX
  have ic : f_X4_isChair o qM h = some (nI 0, h) := by
    unfold f_X4_isChair
    rw [if_pos (show qM < 0 by decide)]; rfl
  simp only [f_X0_getUp, f_X0_getUp_18]
  simp (disch := omega) only [iX, ic, ↓reduceIte, ↓qM_e, ↓q_rem, q_mod, q_modN, q_lit, q_nI, q_lt, q_bd, q_ix, q_dz, q_iflt, q_ifnlt, q_ifeq, q_ifne, q_ifM, q_ifMM, q_ifMlt, q_ifltM, nI_add, pk_mul, q_sub, q_div, q_cl, q_st_s, q_st_i, q_st_c, Nat.add_zero, Nat.zero_add]
theorem q_rises {o C P p : Nat} {h k : zHp} (M : qMn β o C P h k) (hp : p < P) (hw : k 1 (35 + p) = 2) : ∃ h' k', f_X0_getUp o (nI p) h = some h' ∧ f_X11_rises (nI p) k = some k' ∧ qMn β o C P h' k' ∧ qXm o h h' ∧ qMm k k' ∧ k' 1 0 = k 1 0 ∧ k' 1 (35 + p) = nI 1 := by
  have ho := qMn_o M
  obtain ⟨S, F, T, W, R, N⟩ := qFine_N M.1.2.2.1
  obtain ⟨hC, hP, N3, N4, N5⟩ := id N
  have wp : W p = 2 := (nI_eq (by have := (N5 p hp).1; omega) (by omega)).mp ((R.2 p hp).symm.trans hw)
  obtain ⟨c, hc, tc⟩ := (N5 p hp).2 wp
  have un := (N4 c p hc hp tc).2
  have bt : ∀ d, d < C → T d ≤ 14 := fun d hd => by have := (N3 d hd).2.2.1; omega
  have e6 : h (o + 6) p = nI 2 := by rw [(qCtx_p M.1 hp).1, hw]; rfl
  have iX := q_isX (w := 2) hP M.1.2.1.2.1 hp e6 (by omega) (by omega)
  rw [if_pos rfl] at iX
  have cX := q_chairOfX (T := T) hC M.1.2.1.1 hc (fun d hd => by rw [(M.1.2.1.2.2.2.2.2.2.1 d hd).2.2.2, (R.1 d hd).2.2]) bt tc (fun d hd q => by have := un d (by omega) q; omega) (by omega)
  have cM := q_chairOfM (T := T) hC M.1.1.1 hc (fun d hd => (R.1 d hd).2.2) bt tc (fun d hd q => by have := un d (by omega) q; omega) (by omega)
  have ich := q_isCh hC M.1.2.1.1 hc
  have M1 : qMn β o C P (zst (zst h (o + 6) p (nI 1)) (o + 4) c qM) (zst (zst k 1 (35 + p) (nI 1)) 1 (25 + c) (nI 0)) := by
    refine qMn_of M (fun a q1 q2 q3 => by rw [q_st_c (by omega), q_st_c (by omega)]) (fun a q1 q2 q3 => by rw [q_st_c q1, q_st_c q1]) (by rw [q_st_i (by omega), q_st_i (by omega)]) (by rw [q_st_c (by omega), q_st_c (by omega)]) ?_ ?_
    · refine qPo_upC (c := c) (row := (zst k 1 (35 + p) (nI 1)) 1) (h := zst h (o + 6) p (nI 1)) hC hP hc (fun a q1 q2 q3 q4 q5 => by rw [q_st_c q5]) (fun d hd => ⟨by rw [q_st_c (by omega)], by rw [q_st_c (by omega)], by rw [q_st_i hd]⟩) (fun i i1 i2 i3 i4 i5 => by rw [q_st_i i5]) ?_ ?_ ?_ ?_
      · rw [q_st_c (by omega), q_st_c (by omega), q_st_i (by omega), q_st_i (by omega)]; exact (M.1.2.1.2.2.2.2.2.2.1 c hc).2.1
      · rw [q_st_c (by omega), q_st_c (by omega), q_st_i (by omega), q_st_i (by omega)]; exact (M.1.2.1.2.2.2.2.2.2.1 c hc).2.2.1
      · rw [q_st_s, q_st_s]; rfl
      · refine qPo_upP (p := p) (row := k 1) (h := h) hC hP hp (fun a q1 q2 => by rw [q_st_c (by omega)]) (fun d hd => ⟨by rw [q_st_i hd], by rw [q_st_c (by omega)], by rw [q_st_c (by omega)]⟩) (fun i i1 i2 i3 i4 i5 => by rw [q_st_i i3]) ?_ ?_ ?_ M.1.2.1
        · rw [q_st_s, q_st_s]
        · rw [q_st_c (by omega), q_st_i (by omega)]; exact (qCtx_p M.1 hp).2.1
        · rw [q_st_c (by omega), q_st_i (by omega)]; exact (qCtx_p M.1 hp).2.2.1
    · refine qFine_of (S := S) (F := F) (T := fun d => if d = c then 0 else T d) (W := fun q => if q = p then 1 else W q) ⟨fun d hd => ⟨?_, ?_, ?_⟩, fun q hq => ?_⟩ ⟨hC, hP, fun d hd => ?_, fun d q hd hq e => ?_, fun q hq => ?_⟩
      · rw [q_st_i (by omega), q_st_i (by omega)]; exact (R.1 d hd).1
      · rw [q_st_i (by omega), q_st_i (by omega)]; exact (R.1 d hd).2.1
      · dsimp only
        by_cases y : d = c
        · rw [if_pos y, y, q_st_s]
        · rw [if_neg y, q_st_i (by omega), q_st_i (by omega)]; exact (R.1 d hd).2.2
      · dsimp only
        rw [q_st_i (by omega)]
        by_cases y : q = p
        · rw [if_pos y, y, q_st_s]
        · rw [if_neg y, q_st_i (by omega)]; exact R.2 q hq
      · obtain ⟨x1, x2, x3, x4, x5⟩ := N3 d hd
        dsimp only
        by_cases y : d = c
        · rw [if_pos y]; exact ⟨x1, x2, by omega, x4, by omega⟩
        · rw [if_neg y]; exact ⟨x1, x2, x3, x4, x5⟩
      · dsimp only at e ⊢
        by_cases y : d = c
        · rw [if_pos y] at e; omega
        · rw [if_neg y] at e
          obtain ⟨w1, w2⟩ := N4 d q hd hq e
          have hqp : q ≠ p := fun z => y (un d hd (by rw [← z]; exact e))
          rw [if_neg hqp]
          refine ⟨w1, fun d' hd' e' => ?_⟩
          by_cases y' : d' = c
          · rw [if_pos y'] at e'; omega
          · rw [if_neg y'] at e'; exact w2 d' hd' e'
      · dsimp only
        by_cases y : q = p
        · rw [if_pos y]; exact ⟨by omega, by omega⟩
        · rw [if_neg y]
          refine ⟨(N5 q hq).1, fun e => ?_⟩
          obtain ⟨d, d1, d2⟩ := (N5 q hq).2 e
          refine ⟨d, d1, ?_⟩
          rw [if_neg (fun z => by rw [z, tc] at d2; omega)]; exact d2
  obtain ⟨r, h3, k3, s1, s2, M3, s4, s5, s6⟩ := q_swingsOf M1 hc hp
  obtain ⟨k4, hk4⟩ : ∃ k4, k4 = (if r = 0 then zst (zst (zst k3 1 (15 + c) (nI (p + 1))) 1 (5 + c) (nI r)) 1 (15 + c) (nI 0) else zst (zst k3 1 (15 + c) (nI (p + 1))) 1 (5 + c) (nI r)) := ⟨_, rfl⟩
  have k4x : ∀ a, a ≠ 1 → k4 a = k3 a := by
    intro a ha
    rw [hk4]
    split <;> simp (disch := omega) only [q_st_c]
  have k4i : ∀ i, i ≠ 5 + c → i ≠ 15 + c → k4 1 i = k3 1 i := by
    intro i i1 i2
    rw [hk4]
    split <;> simp (disch := omega) only [q_st_i]
  have k4a : k4 1 (5 + c) = nI r := by
    rw [hk4]
    split <;> simp (disch := omega) only [q_st_s, q_st_i]
  have k4b : k4 1 (15 + c) = if r = 0 then nI 0 else nI (p + 1) := by
    rw [hk4]
    split <;> simp (disch := omega) only [q_st_s, q_st_i]
  have k31 : k3 1 = (zst (zst k 1 (35 + p) (nI 1)) 1 (25 + c) (nI 0)) 1 := s5 1 (by omega) (by omega)
  have M4 := qMn_rock (v := r) (f := p + 1) (k' := k4) M3 hc s6 (by omega) (by omega) (by rw [k31, q_st_s]) rfl k4x k4i k4a k4b
  obtain ⟨h5, k5, n1, n2, n3, n4, n5, n6⟩ := q_note (w := 2) M4 (nI p) (nI r) (by omega)
  have sM := q_swM (k := zst k3 1 (15 + c) (nI (p + 1))) (c := c) (v := r) (by omega) (by omega)
  have sM' : f_X11_swings (nI c) (nI r) (zst k3 1 (15 + c) (nI (p + 1))) = some k4 := by rw [sM, hk4]; rfl
  have sX := q_rockX (h := h3) (o := o) (c := c) (v := r) (a := nI p) (by omega) (by omega)
  have pe : nI (p + 1) - 1 = nI p := nI_pred p
  rw [pe] at n1
  have n1' : f_X0_note o (nI 2) (nI p) (nI r) (zst (zst h3 (o + 2) c (nI r)) (o + 3) c (if 0 < r then nI p else -1)) = some h5 := n1
  refine ⟨h5, k5, ?_, ?_, n3, fun a a1 a2 a3 a4 a5 => ?_, fun a a1 a2 a3 a4 => ?_, ?_, ?_⟩
  · simp only [f_X0_getUp, f_X0_getUp_18]
    rw [show (2 : Int32) = nI 2 from rfl, iX, q_bd]
    dsimp only
    rw [if_neg (show ¬ nI 1 = 0 by decide), cX, q_bd]
    dsimp only
    rw [ich, q_bd]
    dsimp only
    rw [if_neg (show ¬ nI 1 = 0 by decide), q_ix (by omega) (by omega), q_lt, q_ix (by omega) (by omega), q_lt, q_cl (by omega), q_cl (by omega)]
    have s1' : f_X0_ask o 0 (nI c) (nI p) (zst (zst h (o + 6) p 1) (o + 4) c (-1)) = some (nI r, h3) := s1
    rw [s1', q_bd]
    dsimp only
    rw [sX, q_bd, n1', q_bd]
  · unfold f_X11_rises
    simp (disch := omega) only [cM, s2, sM', n2, ↓reduceIte, ↓qM_e, ↓q_rem, q_mod, q_modN, q_lit, q_nI, q_lt, q_bd, q_ix, q_dz, q_iflt, q_ifnlt, q_ifeq, q_ifne, q_ifM, q_ifMM, q_ifMlt, q_ifltM, nI_add, pk_mul, q_sub, q_div, q_cl, q_st_s, q_st_i, q_st_c, Nat.add_zero, Nat.zero_add]
  · rw [n4 a a2 a3, q_st_c (by omega), q_st_c (by omega), s4 a a4 a5, q_st_c (by omega), q_st_c (by omega)]
  · rw [n5 a a1 a2, k4x a a1, s5 a a3 a4, q_st_c a1, q_st_c a1]
  · rw [n6 0 (by omega), k4i 0 (by omega) (by omega), k31, q_st_i (by omega), q_st_i (by omega)]
  · rw [n6 _ (by omega), k4i _ (by omega) (by omega), k31, q_st_i (by omega), q_st_s]
end Qrise
