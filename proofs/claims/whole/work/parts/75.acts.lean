/-! ON THE PORCH: sitting, rising .. -/
section Qacts
variable {β : zHp × zHp}
def qRw (row : Nat → Int32) (C P : Nat) (S F T W : Nat → Nat) : Prop := (∀ c, c < C → row (5 + c) = nI (S c) ∧ row (15 + c) = nI (F c) ∧ row (25 + c) = nI (T c)) ∧ ∀ p, p < P → row (35 + p) = nI (W p)
def qFN (S F T W : Nat → Nat) (C P : Nat) : Prop := C ≤ 10 ∧ P ≤ 14 ∧ (∀ c, c < C → S c ≤ 99 ∧ F c ≤ P ∧ T c ≤ P ∧ (F c = 0 ↔ S c = 0) ∧ (0 < T c → S c = 0)) ∧ (∀ c p, c < C → p < P → T c = p + 1 → W p = 2 ∧ ∀ d, d < C → T d = p + 1 → d = c) ∧ ∀ p, p < P → W p ≤ 2 ∧ (W p = 2 → ∃ c, c < C ∧ T c = p + 1)
theorem qFine_N {row : Nat → Int32} {C P : Nat} (H : qFine row C P) : ∃ S F T W, qRw row C P S F T W ∧ qFN S F T W C P := by
  obtain ⟨h1, h2, h3, h4, h5⟩ := H
  have w : ∀ p, p < P → ∃ v, v ≤ 2 ∧ row (35 + p) = nI v := by
    intro p hp
    rcases (h5 p hp).1 with q | q | q
    · exact ⟨0, by omega, q⟩
    · exact ⟨1, by omega, q⟩
    · exact ⟨2, by omega, q⟩
  obtain ⟨W, hW⟩ := q_ch1 w
  have s : ∀ c, c < C → ∃ s f, ∃ t, s ≤ 99 ∧ f ≤ P ∧ t ≤ P ∧ row (5 + c) = nI s ∧ row (15 + c) = nI f ∧ row (25 + c) = nI t ∧ (f = 0 ↔ s = 0) ∧ (0 < t → s = 0) := h3
  obtain ⟨S, F, hSF⟩ := q_ch2 s
  obtain ⟨T, hT⟩ := q_ch1 hSF
  refine ⟨S, F, T, W, ⟨fun c hc => ?_, fun p hp => (hW p hp).2⟩, h1, h2, fun c hc => ?_, fun c p hc hp e => ?_, fun p hp => ⟨(hW p hp).1, fun e => ?_⟩⟩
  · obtain ⟨a1, a2, a3, a4, a5, a6, a7, a8⟩ := hT c hc
    exact ⟨a4, a5, a6⟩
  · obtain ⟨a1, a2, a3, a4, a5, a6, a7, a8⟩ := hT c hc
    exact ⟨a1, a2, a3, a7, a8⟩
  · obtain ⟨a1, a2, a3, a4, a5, a6, a7, a8⟩ := hT c hc
    obtain ⟨b1, b2⟩ := h4 c p hc hp (by rw [a6, e])
    refine ⟨(nI_eq (by have := (hW p hp).1; omega) (by omega)).mp ((hW p hp).2.symm.trans b1), fun d hd ed => b2 d hd ?_⟩
    obtain ⟨c1, c2, c3, c4, c5, c6, c7, c8⟩ := hT d hd
    rw [c6, ed]
  · obtain ⟨c, c1, c2⟩ := (h5 p hp).2 (by rw [(hW p hp).2, e]; rfl)
    obtain ⟨a1, a2, a3, a4, a5, a6, a7, a8⟩ := hT c c1
    exact ⟨c, c1, (nI_eq (by omega) (by omega)).mp (a6.symm.trans c2)⟩
theorem qFine_of {row : Nat → Int32} {C P : Nat} {S F T W : Nat → Nat} (R : qRw row C P S F T W) (H : qFN S F T W C P) : qFine row C P := by
  obtain ⟨r1, r2⟩ := R
  obtain ⟨h1, h2, h3, h4, h5⟩ := H
  refine ⟨h1, h2, fun c hc => ?_, fun c p hc hp e => ?_, fun p hp => ⟨?_, fun e => ?_⟩⟩
  · obtain ⟨a1, a2, a3⟩ := r1 c hc
    obtain ⟨b1, b2, b3, b4, b5⟩ := h3 c hc
    exact ⟨S c, F c, T c, b1, b2, b3, a1, a2, a3, b4, b5⟩
  · obtain ⟨a1, a2, a3⟩ := r1 c hc
    obtain ⟨b1, b2, b3, b4, b5⟩ := h3 c hc
    obtain ⟨d1, d2⟩ := h4 c p hc hp ((nI_eq (by omega) (by omega)).mp (a3.symm.trans e))
    refine ⟨by rw [r2 p hp, d1]; rfl, fun d hd ed => d2 d hd ?_⟩
    obtain ⟨g1, g2, g3⟩ := r1 d hd
    obtain ⟨q1, q2, q3, q4, q5⟩ := h3 d hd
    exact (nI_eq (by omega) (by omega)).mp (g3.symm.trans ed)
  · have := (h5 p hp).1
    rw [r2 p hp]
    rcases (show W p = 0 ∨ W p = 1 ∨ W p = 2 by omega) with q | q | q
    · rw [q]; exact Or.inl rfl
    · rw [q]; exact Or.inr (Or.inl rfl)
    · rw [q]; exact Or.inr (Or.inr rfl)
  · have w2 : W p = 2 := by
      have := (h5 p hp).1
      exact (nI_eq (by omega) (by omega)).mp ((r2 p hp).symm.trans e)
    obtain ⟨c, c1, c2⟩ := (h5 p hp).2 w2
    exact ⟨c, c1, by rw [(r1 c c1).2.2, c2]⟩
-- reads
theorem q_isFreeX {h : zHp} {o C c s t : Nat} (hC : C ≤ 10) (h9 : h o 9 = nI C) (hc : c < C) (e2 : h (o + 2) c = nI s) (e4 : h (o + 4) c = nI t - 1) (hs : s < 1000) (ht : t < 1000) : f_X4_isFree o (nI c) h = some (if s = 0 ∧ t = 0 then nI 1 else nI 0, h) := by
  have e4' : h (o + 4) c = nI t - nI 1 := e4
  have i := q_isCh hC h9 hc
  unfold f_X4_isFree
  by_cases zs : s = 0
  · subst zs
    by_cases zt : t = 0
    · subst zt
      rw [if_pos ⟨rfl, rfl⟩]
      simp (disch := omega) only [i, e2, q_ifT (show h (o + 4) c = qM by rw [e4]; rfl), ↓reduceIte, ↓qM_e, ↓q_rem, q_mod, q_modN, q_lit, q_nI, q_lt, q_bd, q_ix, q_dz, q_iflt, q_ifnlt, q_ifeq, q_ifne, q_ifM, q_ifMM, q_ifMlt, q_ifltM, nI_add, pk_mul, q_sub, q_div, q_cl, q_st_s, q_st_i, q_st_c, Nat.add_zero, Nat.zero_add]
    · rw [if_neg (fun q => zt q.2)]
      simp (disch := omega) only [i, e2, q_ifF (show ¬ h (o + 4) c = qM by rw [e4]; exact fun q => zt ((q_m1eq (by omega)).mp q)), ↓reduceIte, ↓qM_e, ↓q_rem, q_mod, q_modN, q_lit, q_nI, q_lt, q_bd, q_ix, q_dz, q_iflt, q_ifnlt, q_ifeq, q_ifne, q_ifM, q_ifMM, q_ifMlt, q_ifltM, nI_add, pk_mul, q_sub, q_div, q_cl, q_st_s, q_st_i, q_st_c, Nat.add_zero, Nat.zero_add]
  · rw [if_neg (fun q => zs q.1)]
    simp (disch := omega) only [i, e2, ↓reduceIte, ↓qM_e, ↓q_rem, q_mod, q_modN, q_lit, q_nI, q_lt, q_bd, q_ix, q_dz, q_iflt, q_ifnlt, q_ifeq, q_ifne, q_ifM, q_ifMM, q_ifMlt, q_ifltM, nI_add, pk_mul, q_sub, q_div, q_cl, q_st_s, q_st_i, q_st_c, Nat.add_zero, Nat.zero_add]
theorem q_isFreeM {k : zHp} {c s t : Nat} (hc : c < 10) (e2 : k 1 (5 + c) = nI s) (e4 : k 1 (25 + c) = nI t) (hs : s < 1000) (ht : t < 1000) : f_X11_isFree (nI c) k = some (if s = 0 ∧ t = 0 then nI 1 else nI 0, k) := by
  unfold f_X11_isFree f_X11_doesRock f_X11_takenBy
  by_cases zs : s = 0
  · subst zs
    by_cases zt : t = 0
    · subst zt
      rw [if_pos (show (0 : Nat) = 0 ∧ (0 : Nat) = 0 from ⟨rfl, rfl⟩)]
      simp (disch := omega) only [e2, e4, q_ifT (show nI 0 - nI 1 = qM from q_m1), ↓reduceIte, ↓qM_e, ↓q_rem, q_mod, q_modN, q_lit, q_nI, q_lt, q_bd, q_ix, q_dz, q_iflt, q_ifnlt, q_ifeq, q_ifne, q_ifM, q_ifMM, q_ifMlt, q_ifltM, nI_add, pk_mul, q_sub, q_div, q_cl, q_st_s, q_st_i, q_st_c, Nat.add_zero, Nat.zero_add]
    · rw [if_neg (show ¬ ((0 : Nat) = 0 ∧ t = 0) from fun q => zt q.2)]
      simp (disch := omega) only [e2, e4, q_ifF (show ¬ nI t - nI 1 = qM from fun q => zt ((q_m1eq (by omega)).mp q)), ↓reduceIte, ↓qM_e, ↓q_rem, q_mod, q_modN, q_lit, q_nI, q_lt, q_bd, q_ix, q_dz, q_iflt, q_ifnlt, q_ifeq, q_ifne, q_ifM, q_ifMM, q_ifMlt, q_ifltM, nI_add, pk_mul, q_sub, q_div, q_cl, q_st_s, q_st_i, q_st_c, Nat.add_zero, Nat.zero_add]
  · rw [if_neg (show ¬ (s = 0 ∧ t = 0) from fun q => zs q.1)]
    simp (disch := omega) only [e2, ↓reduceIte, ↓qM_e, ↓q_rem, q_mod, q_modN, q_lit, q_nI, q_lt, q_bd, q_ix, q_dz, q_iflt, q_ifnlt, q_ifeq, q_ifne, q_ifM, q_ifMM, q_ifMlt, q_ifltM, nI_add, pk_mul, q_sub, q_div, q_cl, q_st_s, q_st_i, q_st_c, Nat.add_zero, Nat.zero_add]
theorem q_isX {h : zHp} {o P p w v : Nat} (hP : P ≤ 14) (h10 : h o 10 = nI P) (hp : p < P) (e : h (o + 6) p = nI v) (hv : v < 1000) (hw : w < 1000) : f_X4_is o (nI p) (nI w) h = some (if v = w then nI 1 else nI 0, h) := by
  have i := q_isPe hP h10 hp
  unfold f_X4_is
  by_cases z : v = w
  · rw [if_pos z]
    simp (disch := omega) only [i, e, ↓reduceIte, ↓qM_e, ↓q_rem, q_mod, q_modN, q_lit, q_nI, q_lt, q_bd, q_ix, q_dz, q_iflt, q_ifnlt, q_ifeq, q_ifne, q_ifM, q_ifMM, q_ifMlt, q_ifltM, nI_add, pk_mul, q_sub, q_div, q_cl, q_st_s, q_st_i, q_st_c, Nat.add_zero, Nat.zero_add]
  · rw [if_neg z]
    simp (disch := omega) only [i, e, ↓reduceIte, ↓qM_e, ↓q_rem, q_mod, q_modN, q_lit, q_nI, q_lt, q_bd, q_ix, q_dz, q_iflt, q_ifnlt, q_ifeq, q_ifne, q_ifM, q_ifMM, q_ifMlt, q_ifltM, nI_add, pk_mul, q_sub, q_div, q_cl, q_st_s, q_st_i, q_st_c, Nat.add_zero, Nat.zero_add]
theorem q_rocksX {h : zHp} {o C c s : Nat} (hC : C ≤ 10) (h9 : h o 9 = nI C) (hc : c < C) (e2 : h (o + 2) c = nI s) (hs : s < 1000) : f_X4_rocks o (nI c) h = some (if 0 < s then nI 1 else nI 0, h) := by
  have i := q_isCh hC h9 hc
  unfold f_X4_rocks
  by_cases z : 0 < s
  · rw [if_pos z]
    simp (disch := omega) only [i, e2, ↓reduceIte, ↓qM_e, ↓q_rem, q_mod, q_modN, q_lit, q_nI, q_lt, q_bd, q_ix, q_dz, q_iflt, q_ifnlt, q_ifeq, q_ifne, q_ifM, q_ifMM, q_ifMlt, q_ifltM, nI_add, pk_mul, q_sub, q_div, q_cl, q_st_s, q_st_i, q_st_c, Nat.add_zero, Nat.zero_add]
  · rw [if_neg z]
    simp (disch := omega) only [i, e2, ↓reduceIte, ↓qM_e, ↓q_rem, q_mod, q_modN, q_lit, q_nI, q_lt, q_bd, q_ix, q_dz, q_iflt, q_ifnlt, q_ifeq, q_ifne, q_ifM, q_ifMM, q_ifMlt, q_ifltM, nI_add, pk_mul, q_sub, q_div, q_cl, q_st_s, q_st_i, q_st_c, Nat.add_zero, Nat.zero_add]
theorem q_rocksM {k : zHp} {c s : Nat} (hc : c < 10) (e2 : k 1 (5 + c) = nI s) (hs : s < 1000) : f_X11_doesRock (nI c) k = some (if 0 < s then nI 1 else nI 0, k) := by
  unfold f_X11_doesRock
  by_cases z : 0 < s
  · rw [if_pos z]
    simp (disch := omega) only [e2, ↓reduceIte, ↓qM_e, ↓q_rem, q_mod, q_modN, q_lit, q_nI, q_lt, q_bd, q_ix, q_dz, q_iflt, q_ifnlt, q_ifeq, q_ifne, q_ifM, q_ifMM, q_ifMlt, q_ifltM, nI_add, pk_mul, q_sub, q_div, q_cl, q_st_s, q_st_i, q_st_c, Nat.add_zero, Nat.zero_add]
  · rw [if_neg z]
    simp (disch := omega) only [e2, ↓reduceIte, ↓qM_e, ↓q_rem, q_mod, q_modN, q_lit, q_nI, q_lt, q_bd, q_ix, q_dz, q_iflt, q_ifnlt, q_ifeq, q_ifne, q_ifM, q_ifMM, q_ifMlt, q_ifltM, nI_add, pk_mul, q_sub, q_div, q_cl, q_st_s, q_st_i, q_st_c, Nat.add_zero, Nat.zero_add]
/-- far it rocks, for p (f: his number and 1; 0: nobody) -/
theorem q_rockX {h : zHp} {o c v : Nat} {a : Int32} (hc : c < 10) (hv : v < 10000) : f_X4_rock o (nI c) (nI v) a h = some (zst (zst h (o + 2) c (nI v)) (o + 3) c (if 0 < v then a else -1)) := by
  unfold f_X4_rock
  by_cases z : 0 < v
  · rw [if_pos z]
    simp (disch := omega) only [↓reduceIte, ↓qM_e, ↓q_rem, q_mod, q_modN, q_lit, q_nI, q_lt, q_bd, q_ix, q_dz, q_iflt, q_ifnlt, q_ifeq, q_ifne, q_ifM, q_ifMM, q_ifMlt, q_ifltM, nI_add, pk_mul, q_sub, q_div, q_cl, q_st_s, q_st_i, q_st_c, Nat.add_zero, Nat.zero_add]
  · rw [if_neg z]
    simp (disch := omega) only [↓reduceIte, ↓qM_e, ↓q_rem, q_mod, q_modN, q_lit, q_nI, q_lt, q_bd, q_ix, q_dz, q_iflt, q_ifnlt, q_ifeq, q_ifne, q_ifM, q_ifMM, q_ifMlt, q_ifltM, nI_add, pk_mul, q_sub, q_div, q_cl, q_st_s, q_st_i, q_st_c, Nat.add_zero, Nat.zero_add]
theorem q_swM {k : zHp} {c v : Nat} (hc : c < 10) (hv : v < 10000) : f_X11_swings (nI c) (nI v) k = some (if v = 0 then zst (zst k 1 (5 + c) (nI v)) 1 (15 + c) 0 else zst k 1 (5 + c) (nI v)) := by
  unfold f_X11_swings
  by_cases z : v = 0
  · rw [if_pos z]
    simp (disch := omega) only [↓reduceIte, ↓qM_e, ↓q_rem, q_mod, q_modN, q_lit, q_nI, q_lt, q_bd, q_ix, q_dz, q_iflt, q_ifnlt, q_ifeq, q_ifne, q_ifM, q_ifMM, q_ifMlt, q_ifltM, nI_add, pk_mul, q_sub, q_div, q_cl, q_st_s, q_st_i, q_st_c, Nat.add_zero, Nat.zero_add]
  · rw [if_neg z]
    simp (disch := omega) only [↓reduceIte, ↓qM_e, ↓q_rem, q_mod, q_modN, q_lit, q_nI, q_lt, q_bd, q_ix, q_dz, q_iflt, q_ifnlt, q_ifeq, q_ifne, q_ifM, q_ifMM, q_ifMlt, q_ifltM, nI_add, pk_mul, q_sub, q_div, q_cl, q_st_s, q_st_i, q_st_c, Nat.add_zero, Nat.zero_add]
theorem qCtx_p {h k : zHp} {o C P p : Nat} (X : qCtx h k o C P) (hp : p < P) : h (o + 6) p = k 1 (35 + p) ∧ h (o + 7) p = k 1 (49 + p) ∧ h (o + 8) p = k 1 (63 + p) ∧ h (o + 5) p = k 5 p := by
  obtain ⟨a, b, c, d⟩ := X.2.1.2.2.2.2.2.2.2 p hp
  exact ⟨b, c, d, a⟩
theorem qDo_n {o C P w : Nat} {h k h1 k1 : zHp} (M1 : qMn β o C P h1 k1) (e : qXm o h h1) (f : qMm k k1) (f0 : k1 1 0 = k 1 0) (a b : Int32) (hw : w < 10) : qDo β o C P h k (f_X0_note o (nI w) a b h1) (f_X11_notes (nI w) a b k1) := by
  obtain ⟨h', k', n1, n2, n3, n4, n5, n6⟩ := q_note M1 a b hw
  exact ⟨h', k', n1, n2, n3, fun c c1 c2 c3 c4 c5 => by rw [n4 c c2 c3]; exact e c c1 c2 c3 c4 c5, fun c c1 c2 c3 c4 => by rw [n5 c c1 c2]; exact f c c1 c2 c3 c4, by rw [n6 0 (by omega)]; exact f0⟩
theorem q_sits {h k : zHp} {o C P p c : Nat} (M : qMn β o C P h k) (hp : p < P) (hc : c < C) (hw : k 1 (35 + p) = 1) : (∃ h' k', f_X0_sitDown o (nI p) (nI c) h = some (nI 1, h') ∧ f_X11_sits (nI p) (nI c) k = some (nI 1, k') ∧ qMn β o C P h' k' ∧ qXm o h h' ∧ qMm k k' ∧ k' 1 0 = k 1 0) ∨ (f_X4_isFree o (nI c) h = some (nI 0, h) ∧ f_X11_isFree (nI c) k = some (nI 0, k) ∧ ∃ h' k', f_X0_sitDown o (nI p) (nI c) h = some (nI 0, h) ∧ f_X0_note o (nI 1) (nI p) (nI c) h = some h' ∧ f_X11_sits (nI p) (nI c) k = some (nI 0, k') ∧ qMn β o C P h' k' ∧ qXm o h h' ∧ qMm k k' ∧ k' 1 0 = k 1 0) := by
  have ho := qMn_o M
  have X := M.1
  obtain ⟨S, F, T, W, R, N⟩ := qFine_N X.2.2.1
  obtain ⟨hC, hP, N3, N4, N5⟩ := id N
  obtain ⟨r1, r2, r3⟩ := R.1 c hc
  obtain ⟨b1, b2, b3, b4, b5⟩ := N3 c hc
  obtain ⟨s, f, t, a1, a2, a3, a4, a5, a6, a7, a8, a9, a10, a11, a12⟩ := q_chair X hc
  have es : s = S c := (nI_eq (by omega) (by omega)).mp (a4.symm.trans r1)
  have et : t = T c := (nI_eq (by omega) (by omega)).mp (a6.symm.trans r3)
  obtain ⟨p6, p7, p8, p5⟩ := qCtx_p X hp
  have wp : W p = 1 := (nI_eq (by have := (N5 p hp).1; omega) (by omega)).mp ((R.2 p hp).symm.trans hw)
  have e6 : h (o + 6) p = nI 1 := by rw [p6, hw]; rfl
  have iX := q_isX (w := 1) hP X.2.1.2.1 hp e6 (by omega) (by omega)
  rw [if_pos rfl] at iX
  have fX := q_isFreeX hC X.2.1.1 hc a7 a9 (by omega) (by omega)
  have fM := q_isFreeM (k := k) (c := c) (by omega) a4 a6 (by omega) (by omega)
  by_cases z : s = 0 ∧ t = 0
  · rw [if_pos z] at fX fM
    refine Or.inl ?_
    have hs0 : S c = 0 := by omega
    have ht0 : T c = 0 := by omega
    have hf0 : F c = 0 := b4.mpr hs0
    have p8' : h (o + 8) p = k 1 (63 + p) := p8
    have M1 : qMn β o C P (zst (zst (zst h (o + 4) c (nI p)) (o + 6) p 2) (o + 8) p (k 1 (63 + p) + 1)) (zst (zst (zst k 1 (25 + c) (nI (p + 1))) 1 (35 + p) 2) 1 (63 + p) (k 1 (63 + p) + 1)) := by
      refine qMn_of M (fun a q1 q2 q3 => by rw [q_st_c (by omega), q_st_c (by omega), q_st_c (by omega)]) (fun a q1 q2 q3 => by rw [q_st_c q1, q_st_c q1, q_st_c q1]) (by rw [q_st_i (by omega), q_st_i (by omega), q_st_i (by omega)]) (by rw [q_st_c (by omega), q_st_c (by omega), q_st_c (by omega)]) ?_ ?_
      · refine qPo_upP (p := p) (row := (zst k 1 (25 + c) (nI (p + 1))) 1) (h := zst h (o + 4) c (nI p)) hC hP hp (fun a q1 q2 => by rw [q_st_c (by omega), q_st_c (by omega)]) (fun d hd => ⟨by rw [q_st_c (by omega), q_st_i hd], by rw [q_st_c (by omega), q_st_c (by omega)], by rw [q_st_i hd, q_st_c (by omega)]⟩) (fun i i1 i2 i3 i4 i5 => by rw [q_st_i i5, q_st_i i3]) ?_ ?_ ?_ ?_
        · rw [q_st_c (by omega), q_st_s, q_st_i (by omega), q_st_s]
        · rw [q_st_c (by omega), q_st_c (by omega), q_st_c (by omega), q_st_i (by omega), q_st_i (by omega), q_st_i (by omega)]; exact p7
        · rw [q_st_s, q_st_s]
        · refine qPo_upC (c := c) (row := k 1) (h := h) hC hP hc (fun a q1 q2 q3 q4 q5 => by rw [q_st_c q5]) (fun d hd => ⟨by rw [q_st_c (by omega)], by rw [q_st_c (by omega)], by rw [q_st_i hd]⟩) (fun i i1 i2 i3 i4 i5 => by rw [q_st_i i5]) ?_ ?_ ?_ X.2.1
          · rw [q_st_c (by omega), q_st_i (by omega), a7, a4]
          · rw [q_st_c (by omega), q_st_i (by omega), a8, a5]
          · rw [q_st_s, q_st_s, q_m1s]
      · refine qFine_of (S := S) (F := F) (T := fun d => if d = c then p + 1 else T d) (W := fun q => if q = p then 2 else W q) ⟨fun d hd => ⟨?_, ?_, ?_⟩, fun q hq => ?_⟩ ⟨hC, hP, fun d hd => ?_, fun d q hd hq e => ?_, fun q hq => ?_⟩
        · rw [q_st_i (by omega), q_st_i (by omega), q_st_i (by omega)]; exact (R.1 d hd).1
        · rw [q_st_i (by omega), q_st_i (by omega), q_st_i (by omega)]; exact (R.1 d hd).2.1
        · rw [q_st_i (by omega), q_st_i (by omega)]
          dsimp only
          by_cases y : d = c
          · rw [if_pos y, y, q_st_s]
          · rw [if_neg y, q_st_i (by omega)]; exact (R.1 d hd).2.2
        · dsimp only
          rw [q_st_i (by omega)]
          by_cases y : q = p
          · rw [if_pos y, y, q_st_s]; rfl
          · rw [if_neg y, q_st_i (by omega), q_st_i (by omega)]; exact R.2 q hq
        · obtain ⟨x1, x2, x3, x4, x5⟩ := N3 d hd
          dsimp only
          by_cases y : d = c
          · rw [if_pos y]; exact ⟨x1, x2, by omega, x4, fun _ => by rw [y]; exact hs0⟩
          · rw [if_neg y]; exact ⟨x1, x2, x3, x4, x5⟩
        · dsimp only at e ⊢
          by_cases y : d = c
          · rw [if_pos y] at e
            have hqp : q = p := by omega
            rw [if_pos hqp]
            refine ⟨rfl, fun d' hd' e' => ?_⟩
            by_cases y' : d' = c
            · rw [y, y']
            · rw [if_neg y'] at e'
              have := (N4 d' q hd' hq e').1
              rw [hqp, wp] at this; omega
          · rw [if_neg y] at e
            obtain ⟨w1, w2⟩ := N4 d q hd hq e
            have hqp : q ≠ p := fun y => by rw [y, wp] at w1; omega
            rw [if_neg hqp]
            refine ⟨w1, fun d' hd' e' => ?_⟩
            by_cases y' : d' = c
            · rw [if_pos y'] at e'; omega
            · rw [if_neg y'] at e'; exact w2 d' hd' e'
        · dsimp only
          by_cases y : q = p
          · rw [if_pos y]
            exact ⟨Nat.le_refl 2, fun _ => ⟨c, hc, by rw [if_pos rfl, y]⟩⟩
          · rw [if_neg y]
            refine ⟨(N5 q hq).1, fun e => ?_⟩
            obtain ⟨d, d1, d2⟩ := (N5 q hq).2 e
            refine ⟨d, d1, ?_⟩
            rw [if_neg (fun y => by rw [y] at d2; omega)]; exact d2
    obtain ⟨h', k', n1, n2, n3, n4, n5, n6⟩ := qDo_n (h := h) (k := k) (w := 0) M1 (fun a q1 q2 q3 q4 q5 => by rw [q_st_c (by omega), q_st_c (by omega), q_st_c (by omega)]) (fun a q1 q2 q3 q4 => by rw [q_st_c q1, q_st_c q1, q_st_c q1]) (by rw [q_st_i (by omega), q_st_i (by omega), q_st_i (by omega)]) (nI p) (nI c) (by omega)
    refine ⟨h', k', ?_, ?_, n3, n4, n5, n6⟩
    · unfold f_X0_sitDown
      have n1' : f_X0_note o (nI 0) (nI p) (nI c) (zst (zst (zst h (o + 4) c (nI p)) (o + 6) p (nI 2)) (o + 8) p (k 1 (63 + p) + nI 1)) = some h' := n1
      simp (disch := omega) only [iX, fX, p8', n1', ↓reduceIte, ↓qM_e, ↓q_rem, q_mod, q_modN, q_lit, q_nI, q_lt, q_bd, q_ix, q_dz, q_iflt, q_ifnlt, q_ifeq, q_ifne, q_ifM, q_ifMM, q_ifMlt, q_ifltM, nI_add, pk_mul, q_sub, q_div, q_cl, q_st_s, q_st_i, q_st_c, Nat.add_zero, Nat.zero_add]
    · unfold f_X11_sits
      have n2' : f_X11_notes (nI 0) (nI p) (nI c) (zst (zst (zst k 1 (25 + c) (nI (p + 1))) 1 (35 + p) (nI 2)) 1 (63 + p) (k 1 (63 + p) + nI 1)) = some k' := n2
      simp (disch := omega) only [fM, n2', ↓reduceIte, ↓qM_e, ↓q_rem, q_mod, q_modN, q_lit, q_nI, q_lt, q_bd, q_ix, q_dz, q_iflt, q_ifnlt, q_ifeq, q_ifne, q_ifM, q_ifMM, q_ifMlt, q_ifltM, nI_add, pk_mul, q_sub, q_div, q_cl, q_st_s, q_st_i, q_st_c, Nat.add_zero, Nat.zero_add]
  · rw [if_neg z] at fX fM
    refine Or.inr ⟨fX, fM, ?_⟩
    obtain ⟨h', k', n1, n2, n3, n4, n5, n6⟩ := qDo_n (h := h) (k := k) (w := 1) M (fun a q1 q2 q3 q4 q5 => rfl) (fun a q1 q2 q3 q4 => rfl) rfl (nI p) (nI c) (by omega)
    refine ⟨h', k', ?_, n1, ?_, n3, n4, n5, n6⟩
    · unfold f_X0_sitDown
      simp (disch := omega) only [iX, fX, ↓reduceIte, ↓qM_e, ↓q_rem, q_mod, q_modN, q_lit, q_nI, q_lt, q_bd, q_ix, q_dz, q_iflt, q_ifnlt, q_ifeq, q_ifne, q_ifM, q_ifMM, q_ifMlt, q_ifltM, nI_add, pk_mul, q_sub, q_div, q_cl, q_st_s, q_st_i, q_st_c, Nat.add_zero, Nat.zero_add]
    · unfold f_X11_sits
      simp (disch := omega) only [fM, n2, ↓reduceIte, ↓qM_e, ↓q_rem, q_mod, q_modN, q_lit, q_nI, q_lt, q_bd, q_ix, q_dz, q_iflt, q_ifnlt, q_ifeq, q_ifne, q_ifM, q_ifMM, q_ifMlt, q_ifltM, nI_add, pk_mul, q_sub, q_div, q_cl, q_st_s, q_st_i, q_st_c, Nat.add_zero, Nat.zero_add]
end Qacts
