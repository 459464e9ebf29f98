/-! ON THE PORCH: the cat, hush, fading -/
section Qfade
variable {β : zHp × zHp}
theorem qDo_tr {o C P : Nat} {h k h1 k1 : zHp} {x y : Option zHp} (e : qXm o h h1) (f : qMm k k1) (g : k1 1 0 = k 1 0) (D : qDo β o C P h1 k1 x y) : qDo β o C P h k x y := by
  obtain ⟨h', k', n1, n2, n3, n4, n5, n6⟩ := D
  exact ⟨h', k', n1, n2, n3, qXm_tr e n4, qMm_tr f n5, n6.trans g⟩
theorem qXm_160 {o : Nat} {h h' : zHp} (e : ∀ a, a ≠ 160 → a ≠ 19 → h' a = h a) : qXm o h h' := fun a _ _ _ a4 a5 => e a a4 a5
theorem qMm_20 {k k' : zHp} (e : ∀ a, a ≠ 20 → a ≠ 21 → k' a = k a) : qMm k k' := fun a _ _ a3 a4 => e a a3 a4
/-- what rocks, for whom -/
theorem q_rocking {h k : zHp} {o C P c s : Nat} (X : qCtx h k o C P) (hc : c < C) (hs : 0 < s) (hs2 : s < 1000) (e : k 1 (5 + c) = nI s) : ∃ p, p < P ∧ k 1 (15 + c) = nI (p + 1) ∧ h (o + 3) c = nI p ∧ h (o + 2) c = nI s ∧ k 1 (25 + c) = nI 0 ∧ s ≤ 99 := by
  obtain ⟨s', f, t, a1, a2, a3, a4, a5, a6, a7, a8, a9, a10, a11, a12⟩ := q_chair X hc
  have es : s' = s := (nI_eq (by omega) (by omega)).mp (a4.symm.trans e)
  subst es
  refine ⟨f - 1, by omega, by rw [a5]; congr 1; omega, ?_, a7, by rw [a6]; congr 1; omega, a1⟩
  rw [a8, show f = f - 1 + 1 by omega, q_m1s]; rfl
theorem q_let {o C P c s : Nat} {h k : zHp} (M : qMn β o C P h k) (hc : c < C) (hs : 0 < s) (hs2 : s < 1000) (e : k 1 (5 + c) = nI s) : qDo β o C P h k (f_X0_letCat o (nI c) h) (f_X11_catAt (nI c) k) := by
  have ho := qMn_o M
  have hC := M.1.2.2.1.1
  obtain ⟨p, hp, e15, x3, x2, e25, s99⟩ := q_rocking M.1 hc hs hs2 e
  obtain ⟨r, h1, k1, s1, s2, M1, s4, s5, s6⟩ := q_jumpsAt M hc hp e15
  obtain ⟨b, h2, k2, b1, b2, M2, b4, b5, b6, b7, b8, b9⟩ := q_happens M1 s6
  have rX := q_rocksX hC M.1.2.1.1 hc x2 (by omega)
  rw [if_pos hs] at rX
  refine qDo_tr (qXm_tr (qXm_160 s4) b4) (qMm_tr (qMm_20 s5) b5) (by rw [b6, s5 1 (by omega) (by omega)]) ?_
  have k21 : ∀ i, 5 ≤ i → k2 1 i = k 1 i := fun i hi => by rw [b7 i hi, s5 1 (by omega) (by omega)]
  have x22 : h2 (o + 2) c = nI s := by rw [b8 _ (by omega), s4 _ (by omega) (by omega)]; exact x2
  have head : f_X0_letCat o (nI c) h = f_X0_letCat_65 o (nI c) (nI b) h2 := by
    rw [← b9 (nI c)]
    unfold f_X0_letCat
    rw [rX, q_bd]
    dsimp only
    rw [if_neg (show ¬ nI 1 = 0 by decide), q_ix (by omega) (by omega), q_cl (by omega), x3, show (2 : Int32) = nI 2 from rfl, s1, q_bd]
  rw [head]
  rcases (show b = 0 ∨ b = 1 by omega) with rfl | rfl
  · refine ⟨h2, k2, if_pos rfl, ?_, M2, fun _ _ _ _ _ _ => rfl, fun _ _ _ _ _ => rfl, rfl⟩
    unfold f_X11_catAt
    simp (disch := omega) only [s2, b2, ↓reduceIte, ↓qM_e, ↓q_rem, q_mod, q_modN, q_lit, q_nI, q_lt, q_bd, q_ix, q_dz, q_iflt, q_ifnlt, q_ifeq, q_ifne, q_ifM, q_ifMM, q_ifMlt, q_ifltM, nI_add, pk_mul, q_sub, q_div, q_cl, q_st_s, q_st_i, q_st_c, Nat.add_zero, Nat.zero_add]
  · obtain ⟨h3, k3, n1, n2, n3, n4, n5, n6⟩ := q_note (w := 5) M2 (nI c) (nI s) (by omega)
    obtain ⟨v, hv⟩ : ∃ v : Int32, v = k3 1 4 + 1 := ⟨_, rfl⟩
    have o12 : h3 o 12 = k3 1 4 := n3.1.2.1.2.2.2.1
    obtain ⟨q1, q2, q3, q4, q5, q6, -, -⟩ := n3.1.2.1
    have M4 : qMn β o C P (zst h3 o 12 v) (zst k3 1 4 v) := qMn_lo n3 (fun a q1 _ _ => q_st_c q1) (fun a q1 _ _ => q_st_c q1) (fun i hi => q_st_i (by omega)) (q_st_i (by omega)) (q_st_i (by omega)) (q_st_i (by omega)) (q_st_i (by omega)) (by rw [q_st_i (by omega), q_st_i (by omega)]; exact q3) (by rw [q_st_s, q_st_s]) (by rw [q_st_i (by omega), q_st_i (by omega)]; exact q5) (by rw [q_st_i (by omega), q_st_i (by omega)]; exact q6)
    have k31 : ∀ i, 5 ≤ i → k3 1 i = k 1 i := fun i hi => by rw [n6 i (by omega)]; exact k21 i hi
    have M5 : qMn β o C P (zst (zst (zst h3 o 12 v) (o + 2) c (nI 0)) (o + 3) c qM) (zst (zst (zst k3 1 (5 + c) (nI 0)) 1 (15 + c) (nI 0)) 1 4 v) := qMn_rock (v := 0) (f := 0) M4 hc (by omega) (by omega) (by omega) (by rw [q_st_i (by omega), k31 _ (by omega)]; exact e25) rfl (fun a ha => by simp (disch := omega) only [q_st_c]) (fun i i1 i2 => by
        by_cases z : i = 4
        · rw [z, q_st_s, q_st_s]
        · rw [q_st_i z, q_st_i i2, q_st_i i1, q_st_i z]) (by simp (disch := omega) only [q_st_s, q_st_i]) (by simp (disch := omega) only [q_st_s, q_st_i]; rfl)
    refine ⟨_, _, ?_, ?_, M5, fun a a1 a2 a3 a4 a5 => ?_, fun a a1 a2 a3 a4 => ?_, ?_⟩
    · have sX := q_rockX (h := zst h3 o 12 v) (o := o) (c := c) (v := 0) (a := -1) (by omega) (by omega)
      have o12' : h3 o 12 + nI 1 = v := by rw [o12, hv]; rfl
      have sX' : f_X4_rock o (nI c) (nI 0) qM (zst h3 o 12 v) = some (zst (zst (zst h3 o 12 v) (o + 2) c (nI 0)) (o + 3) c qM) := sX
      unfold f_X0_letCat_65
      simp (disch := omega) only [x22, n1, o12', sX', ↓reduceIte, ↓qM_e, ↓q_rem, q_mod, q_modN, q_lit, q_nI, q_lt, q_bd, q_ix, q_dz, q_iflt, q_ifnlt, q_ifeq, q_ifne, q_ifM, q_ifMM, q_ifMlt, q_ifltM, nI_add, pk_mul, q_sub, q_div, q_cl, q_st_s, q_st_i, q_st_c, Nat.add_zero, Nat.zero_add]
    · have sM := q_swM (k := k3) (c := c) (v := 0) (by omega) (by omega)
      rw [if_pos rfl] at sM
      have sM' : f_X11_swings (nI c) (nI 0) k3 = some (zst (zst k3 1 (5 + c) (nI 0)) 1 (15 + c) (nI 0)) := sM
      have hv' : k3 1 4 + nI 1 = v := hv.symm
      have e2 : k2 1 (5 + c) = nI s := by rw [k21 _ (by omega)]; exact e
      unfold f_X11_catAt
      simp (disch := omega) only [s2, b2, e2, n2, sM', hv', ↓reduceIte, ↓qM_e, ↓q_rem, q_mod, q_modN, q_lit, q_nI, q_lt, q_bd, q_ix, q_dz, q_iflt, q_ifnlt, q_ifeq, q_ifne, q_ifM, q_ifMM, q_ifMlt, q_ifltM, nI_add, pk_mul, q_sub, q_div, q_cl, q_st_s, q_st_i, q_st_c, Nat.add_zero, Nat.zero_add]
    · rw [q_st_c (by omega), q_st_c (by omega), q_st_c (by omega), n4 a a2 a3]
    · rw [q_st_c a1, q_st_c a1, q_st_c a1, n5 a a1 a2]
    · rw [q_st_i (by omega), q_st_i (by omega), q_st_i (by omega), n6 0 (by omega)]
theorem q_letN {o C P c : Nat} {h k : zHp} (M : qMn β o C P h k) (hc : c < C) (e : k 1 (5 + c) = nI 0) : f_X0_letCat o (nI c) h = some h := by
  obtain ⟨s, f, t, a1, a2, a3, a4, a5, a6, a7, -⟩ := q_chair M.1 hc
  have es : s = 0 := (nI_eq (by omega) (by omega)).mp (a4.symm.trans e)
  subst es
  have rX := q_rocksX M.1.2.2.1.1 M.1.2.1.1 hc a7 (by omega)
  rw [if_neg (by omega)] at rX
  unfold f_X0_letCat
  rw [rX, q_bd]
  exact if_pos rfl
/-- a chair fades -/
theorem q_fade1 {o C P c s : Nat} {h k : zHp} (M : qMn β o C P h k) (hc : c < C) (hs : 0 < s) (hs2 : s < 1000) (e : k 1 (5 + c) = nI s) : qDo β o C P h k (f_X0_fade o (nI c) h) (f_X11_rocks (nI c) k) := by
  have ho := qMn_o M
  have hC := M.1.2.2.1.1
  have hP := M.1.2.2.1.2.1
  obtain ⟨p, hp, e15, x3, x2, e25, s99⟩ := q_rocking M.1 hc hs hs2 e
  have rX := q_rocksX hC M.1.2.1.1 hc x2 (by omega)
  rw [if_pos hs] at rX
  have pX := q_isPe hP M.1.2.1.2.1 hp
  obtain ⟨m, hm⟩ : ∃ m : Int32, m = k 1 (49 + p) + 1 := ⟨_, rfl⟩
  have hm7 : h (o + 7) p + nI 1 = m := by rw [(qCtx_p M.1 hp).2.1, hm]; rfl
  have hmM : k 1 (49 + p) + nI 1 = m := hm.symm
  have M1 : qMn β o C P (zst h (o + 7) p m) (zst k 1 (49 + p) m) := by
    refine qMn_of M (fun a q1 q2 q3 => by rw [q_st_c (by omega)]) (fun a q1 q2 q3 => by rw [q_st_c q1]) (by rw [q_st_i (by omega)]) (by rw [q_st_c (by omega)]) ?_ ?_
    · refine qPo_upP (p := p) (row := k 1) (h := h) hC hP hp (fun a q1 q2 => by rw [q_st_c (by omega)]) (fun d hd => ⟨by rw [q_st_c (by omega)], by rw [q_st_i hd], by rw [q_st_c (by omega)]⟩) (fun i i1 i2 i3 i4 i5 => by rw [q_st_i i4]) ?_ ?_ ?_ M.1.2.1
      · rw [q_st_c (by omega), q_st_i (by omega)]; exact (qCtx_p M.1 hp).1
      · rw [q_st_s, q_st_s]
      · rw [q_st_c (by omega), q_st_i (by omega)]; exact (qCtx_p M.1 hp).2.2.1
    · obtain ⟨S, F, T, W, R, N⟩ := qFine_N M.1.2.2.1
      refine qFine_of (S := S) (F := F) (T := T) (W := W) ⟨fun d hd => ?_, fun q hq => ?_⟩ N
      · rw [q_st_i (by omega), q_st_i (by omega), q_st_i (by omega)]; exact R.1 d hd
      · rw [q_st_i (by omega)]; exact R.2 q hq
  have e15' : (zst k 1 (49 + p) m) 1 (15 + c) = nI (p + 1) := by rw [q_st_i (by omega)]; exact e15
  obtain ⟨r, h2, k2, s1, s2, M2, s4, s5, s6⟩ := q_fadesOf M1 hc hp e15'
  have k21 : k2 1 = (zst k 1 (49 + p) m) 1 := s5 1 (by omega) (by omega)
  have x22 : h2 (o + 2) c = nI s := by rw [s4 _ (by omega) (by omega), q_st_c (by omega)]; exact x2
  obtain ⟨d1, d2⟩ := q_down (s := s) (r := r) (by omega) s6 k2
  have d1' : (if nI 0 < nI s - nI r then nI s - nI r else nI 0) = nI (s - r) := d1
  have d2' : f_X11_greater (nI 0) (nI s - nI r) k2 = some (nI (s - r), k2) := d2
  obtain ⟨k4, hk4⟩ : ∃ k4, k4 = (if s - r = 0 then zst (zst k2 1 (5 + c) (nI (s - r))) 1 (15 + c) (nI 0) else zst k2 1 (5 + c) (nI (s - r))) := ⟨_, rfl⟩
  have k4x : ∀ a, a ≠ 1 → k4 a = k2 a := by
    intro a ha
    rw [hk4]
    split <;> simp (disch := omega) only [q_st_c]
  have k4i : ∀ i, i ≠ 5 + c → i ≠ 15 + c → k4 1 i = k2 1 i := by
    intro i i1 i2
    rw [hk4]
    split <;> simp (disch := omega) only [q_st_i]
  have k4a : k4 1 (5 + c) = nI (s - r) := by
    rw [hk4]
    split <;> simp (disch := omega) only [q_st_s, q_st_i]
  have k4b : k4 1 (15 + c) = if s - r = 0 then nI 0 else nI (p + 1) := by
    rw [hk4]
    split
    · rw [q_st_s]
    · rw [q_st_i (by omega), k21]; exact e15'
  have M4 := qMn_rock (v := s - r) (f := p + 1) (k' := k4) M2 hc (by omega) (by omega) (by omega) (by rw [k21, q_st_i (by omega)]; exact e25) rfl k4x k4i k4a k4b
  rw [show nI (p + 1) - 1 = nI p from nI_pred p] at M4
  refine ⟨_, k4, ?_, ?_, M4, fun a a1 a2 a3 a4 a5 => ?_, fun a a1 a2 a3 a4 => ?_, ?_⟩
  · have sX := q_rockX (h := h2) (o := o) (c := c) (v := s - r) (a := nI p) (by omega) (by omega)
    simp only [f_X0_fade, f_X0_fade_34]
    rw [rX, q_bd]
    dsimp only
    rw [if_neg (show ¬ nI 1 = 0 by decide), q_ix (by omega) (by omega), q_lt, q_cl (by omega), x3, pX, q_bd]
    dsimp only
    rw [if_neg (show ¬ nI 1 = 0 by decide), q_ix (by omega) (by omega), q_ix (by omega) (by omega), q_lt, q_cl (by omega), show h (o + 7) p + 1 = m from hm7]
    have s1' : f_X0_ask o 1 (nI c) (nI p) (zst h (o + 7) p m) = some (nI r, h2) := s1
    rw [s1', q_bd]
    dsimp only
    have d3 : (if (0 : Int32) < h2 (o + 2) c - nI r then h2 (o + 2) c - nI r else 0) = nI (s - r) := by simp only [x22]; exact d1
    rw [q_ix (by omega) (by omega), d3, sX]; rfl
  · have w1 := q_whom (o := o) (C := C) (P := P) (k := k) (c := c) (f := p) (by omega) e15
    have e' : (zst k 1 (49 + p) m) 1 (5 + c) = nI s := by rw [q_st_i (by omega)]; exact e
    have sM := q_swM (k := k2) (c := c) (v := s - r) (by omega) (by omega)
    have sM' : f_X11_swings (nI c) (nI (s - r)) k2 = some k4 := by rw [sM, hk4]; rfl
    unfold f_X11_rocks
    simp (disch := omega) only [w1, hmM, e', e, s2, d2', sM', ↓reduceIte, ↓qM_e, ↓q_rem, q_mod, q_modN, q_lit, q_nI, q_lt, q_bd, q_ix, q_dz, q_iflt, q_ifnlt, q_ifeq, q_ifne, q_ifM, q_ifMM, q_ifMlt, q_ifltM, nI_add, pk_mul, q_sub, q_div, q_cl, q_st_s, q_st_i, q_st_c, Nat.add_zero, Nat.zero_add]
  · rw [q_st_c (by omega), q_st_c (by omega), s4 a a4 a5, q_st_c (by omega)]
  · rw [k4x a a1, s5 a a3 a4, q_st_c a1]
  · rw [k4i 0 (by omega) (by omega), k21, q_st_i (by omega)]
theorem q_fadeN {o C P c : Nat} {h k : zHp} (M : qMn β o C P h k) (hc : c < C) (e : k 1 (5 + c) = nI 0) : f_X0_fade o (nI c) h = some h := by
  obtain ⟨s, f, t, a1, a2, a3, a4, a5, a6, a7, -⟩ := q_chair M.1 hc
  have es : s = 0 := (nI_eq (by omega) (by omega)).mp (a4.symm.trans e)
  subst es
  have rX := q_rocksX M.1.2.2.1.1 M.1.2.1.1 hc a7 (by omega)
  rw [if_neg (by omega)] at rX
  unfold f_X0_fade
  rw [rX, q_bd]
  exact if_pos rfl
end Qfade
