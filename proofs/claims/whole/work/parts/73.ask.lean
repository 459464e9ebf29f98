/-! THE LAW IS ASKED of a chair and a person -/
section Qask2
/-- what a law may ask: of chair c, of person p (none: P or more) -/
def qV (k : zHp) (C P c p : Nat) : Nat → Int32 := fun j =>
  if j = 0 then k 4 c else if j = 1 then k 1 (5 + c)
  else if j = 2 then (if p < P then k 5 p else 0)
  else if j = 3 then (if p < P then nI (qPop 14 ((k 19 p).toNatClampNeg &&& qSet (fun i => decide (k 1 (35 + i) ≠ 0)) P)) else 0)
  else if j = 4 then (if p < P then k 1 (49 + p) else 0)
  else if j = 5 then (if p < P then k 1 (63 + p) else 0)
  else if j = 6 then k 1 3 else if j = 7 then nI (qCnt (fun i => decide (k 1 (35 + i) ≠ 0)) P) else k 1 0
/-- a person or none -/
def qWho (P p : Nat) : Int32 := if p < P then nI p else -1
/-- what is needed of both heaps to ask: a porch at o -/
def qCtx (h k : zHp) (o C P : Nat) : Prop := qCh k C P ∧ qPo h o (k 1) (k 4) (k 5) C P ∧ qFine (k 1) C P ∧ qLaw h 13 k ∧ ∃ n, qKin h 24 n (k 19) P
theorem q_kinN {h k : zHp} {n P p : Nat} (hP : P ≤ 14) (K : qKin h 24 n (k 19) P) (hp : p < P) : ∃ m, m < 2 ^ P ∧ k 19 p = nI m ∧ f_X2_minders 24 (nI p) h = some (nI m, h) := by
  obtain ⟨k0, k1, k2, k3, k4⟩ := K
  obtain ⟨a, b, H⟩ := q_ch2 k3
  have e := qMind_N (f := h 25) (a := a) (b := b) (p := p) (P := P) (by omega) hP n (fun i hi => H i hi)
  refine ⟨qMN a b p n, qMN_lt n (fun i hi => (H i hi).1), by rw [k4 p (by omega)]; exact e, ?_⟩
  rw [q_mindX (P := P) k0 k1 (by decide +kernel) k2 (by omega) hP k3]
  exact congrArg (fun x => some (x, h)) e
theorem q_asksM {h k : zHp} {o C P c p : Nat} (X : qCtx h k o C P) (hc : c < C) : ∃ k5, f_X11_asks (nI c) (qWho P p) k = some k5 ∧ (∀ a, a ≠ 20 → k5 a = k a) ∧ ∀ j, j < 9 → k5 20 j = qV k C P c p j := by
  obtain ⟨⟨x1, x2⟩, xP, xF, xL, n, xK⟩ := X
  have hC : C ≤ 10 := xF.1
  have hP : P ≤ 14 := xF.2.1
  have h2P : 2 ^ P ≤ 2 ^ 14 := Nat.pow_le_pow_right (by omega) hP
  have hset := qSet_lt (fun i => decide (k 1 (35 + i) ≠ 0)) P
  have hones := q_onesOf (x := qSet (fun i => decide (k 1 (35 + i) ≠ 0)) P) (by omega)
  rw [qSet_pop _ hP] at hones
  obtain ⟨S, hS⟩ : ∃ S, S = qSet (fun i => decide (k 1 (35 + i) ≠ 0)) P := ⟨_, rfl⟩
  obtain ⟨N, hN⟩ : ∃ N, N = qCnt (fun i => decide (k 1 (35 + i) ≠ 0)) P := ⟨_, rfl⟩
  rw [← hS] at hset
  rw [← hS, ← hN] at hones
  have here : ∀ k' : zHp, k' 1 = k 1 → k' 0 = k 0 → f_X11_hereSet k' = some (nI (S), k') := by
    intro k' e1 e0
    have := q_hereM (k := k') hP (by rw [e0]; exact x2)
    rw [e1, ← hS] at this
    exact this
  have tail : ∀ k' : zHp, (∀ a, a ≠ 20 → k' a = k a) → ∀ s : Int32, ∃ k5, f_X11_asks_124 s (nI 5) k' = some k5 ∧ (∀ a, a ≠ 20 → k5 a = k a) ∧ k5 20 5 = s ∧ k5 20 6 = k 1 3 ∧ k5 20 7 = nI (N) ∧ k5 20 8 = k 1 0 ∧ ∀ j, j < 5 → k5 20 j = k' 20 j := by
    intro k' K s
    refine ⟨zst (zst (zst (zst k' 20 5 s) 20 6 (k 1 3)) 20 7 (nI (N))) 20 8 (k 1 0), ?_, fun a ha => ?_, ?_, ?_, ?_, ?_, fun j hj => ?_⟩
    · have e1 : k' 1 = k 1 := K 1 (by omega)
      have hh := here (zst (zst k' 20 5 s) 20 6 (k 1 3)) (by rw [q_st_c (by omega), q_st_c (by omega)]; exact e1) (by rw [q_st_c (by omega), q_st_c (by omega)]; exact K 0 (by omega))
      simp only [f_X11_asks_124]
      simp (disch := omega) only [e1, hh, hones, ↓reduceIte, ↓qM_e, ↓q_rem, q_mod, q_modN, q_lit, q_nI, q_lt, q_bd, q_ix, q_dz, q_iflt, q_ifnlt, q_ifeq, q_ifne, q_ifM, q_ifMM, q_ifMlt, q_ifltM, nI_add, pk_mul, q_sub, q_div, q_cl, q_st_s, q_st_i, q_st_c, Nat.add_zero, Nat.zero_add]
    · simp (disch := omega) only [q_st_c]; exact K a ha
    · simp (disch := omega) only [q_st_s, q_st_i]
    · simp (disch := omega) only [q_st_s, q_st_i]
    · simp (disch := omega) only [q_st_s, q_st_i]
    · simp (disch := omega) only [q_st_s, q_st_i]
    · simp (disch := omega) only [q_st_i]
  by_cases hp : p < P
  · have hw : qWho P p = nI p := by unfold qWho; rw [if_pos hp]
    obtain ⟨m, m1, m2, m3⟩ := q_kinN hP xK hp
    have hand : (m &&& S) ≤ m := Nat.and_le_left
    have hones2 := q_onesOf (x := m &&& S) (by omega)
    rw [hw]
    obtain ⟨k5, t1, t2, t3, t4, t5, t6, t7⟩ := tail (zst (zst (zst (zst (zst k 20 0 (k 4 c)) 20 1 (k 1 (5 + c))) 20 2 (k 5 p)) 20 3 (nI (qPop 14 (m &&& S)))) 20 4 (k 1 (49 + p))) (fun a ha => by simp (disch := omega) only [q_st_c]) (k 1 (63 + p))
    refine ⟨k5, ?_, t2, fun j hj => ?_⟩
    · have hh := here (zst (zst (zst k 20 0 (k 4 c)) 20 1 (k 1 (5 + c))) 20 2 (k 5 p)) (by simp (disch := omega) only [q_st_c]) (by simp (disch := omega) only [q_st_c])
      have hne : ∀ a : Nat, a < 20 → ¬ nI a = qM := fun a ha => qM_ne (by omega)
      simp only [f_X11_asks, f_X11_asks_46, f_X11_asks_76, f_X11_asks_100]
      simp (disch := omega) only [hh, m2, fa_and, hones2, t1, ↓reduceIte, ↓qM_e, ↓q_rem, q_mod, q_modN, q_lit, q_nI, q_lt, q_bd, q_ix, q_dz, q_iflt, q_ifnlt, q_ifeq, q_ifne, q_ifM, q_ifMM, q_ifMlt, q_ifltM, nI_add, pk_mul, q_sub, q_div, q_cl, q_st_s, q_st_i, q_st_c, Nat.add_zero, Nat.zero_add]
    · subst hS
      subst hN
      unfold qV
      rw [if_pos hp, if_pos hp, if_pos hp, if_pos hp, m2, nI_clamp (by omega)]
      rcases (show j = 0 ∨ j = 1 ∨ j = 2 ∨ j = 3 ∨ j = 4 ∨ j = 5 ∨ j = 6 ∨ j = 7 ∨ j = 8 by omega) with rfl | rfl | rfl | rfl | rfl | rfl | rfl | rfl | rfl
      · rw [t7 _ (by omega)]; simp (disch := omega) only [q_st_s, q_st_i]; rfl
      · rw [t7 _ (by omega)]; simp (disch := omega) only [q_st_s, q_st_i]; rfl
      · rw [t7 _ (by omega)]; simp (disch := omega) only [q_st_s, q_st_i]; rfl
      · rw [t7 _ (by omega)]; simp (disch := omega) only [q_st_s, q_st_i]; rfl
      · rw [t7 _ (by omega)]; simp (disch := omega) only [q_st_s, q_st_i]; rfl
      · exact t3
      · exact t4
      · exact t5
      · exact t6
  · have hw : qWho P p = qM := by unfold qWho; rw [if_neg hp]; rfl
    rw [hw]
    obtain ⟨k5, t1, t2, t3, t4, t5, t6, t7⟩ := tail (zst (zst (zst (zst (zst k 20 0 (k 4 c)) 20 1 (k 1 (5 + c))) 20 2 (nI 0)) 20 3 (nI 0)) 20 4 (nI 0)) (fun a ha => by simp (disch := omega) only [q_st_c]) (nI 0)
    refine ⟨k5, ?_, t2, fun j hj => ?_⟩
    · simp only [f_X11_asks, f_X11_asks_46, f_X11_asks_76, f_X11_asks_100]
      simp (disch := omega) only [t1, ↓reduceIte, ↓qM_e, ↓q_rem, q_mod, q_modN, q_lit, q_nI, q_lt, q_bd, q_ix, q_dz, q_iflt, q_ifnlt, q_ifeq, q_ifne, q_ifM, q_ifMM, q_ifMlt, q_ifltM, nI_add, pk_mul, q_sub, q_div, q_cl, q_st_s, q_st_i, q_st_c, Nat.add_zero, Nat.zero_add]
    · subst hS
      subst hN
      unfold qV
      rw [if_neg hp, if_neg hp, if_neg hp, if_neg hp]
      rcases (show j = 0 ∨ j = 1 ∨ j = 2 ∨ j = 3 ∨ j = 4 ∨ j = 5 ∨ j = 6 ∨ j = 7 ∨ j = 8 by omega) with rfl | rfl | rfl | rfl | rfl | rfl | rfl | rfl | rfl
      · rw [t7 _ (by omega)]; simp (disch := omega) only [q_st_s, q_st_i]; rfl
      · rw [t7 _ (by omega)]; simp (disch := omega) only [q_st_s, q_st_i]; rfl
      · rw [t7 _ (by omega)]; simp (disch := omega) only [q_st_s, q_st_i]; rfl
      · rw [t7 _ (by omega)]; simp (disch := omega) only [q_st_s, q_st_i]; rfl
      · rw [t7 _ (by omega)]; simp (disch := omega) only [q_st_s, q_st_i]; rfl
      · exact t3
      · exact t4
      · exact t5
      · exact t6
theorem q_isCh {h : zHp} {o C c : Nat} (hC : C ≤ 10) (h9 : h o 9 = nI C) (hc : c < C) : f_X4_isChair o (nI c) h = some (nI 1, h) := by
  unfold f_X4_isChair
  simp (disch := omega) only [h9, ↓reduceIte, ↓qM_e, ↓q_rem, q_mod, q_modN, q_lit, q_nI, q_lt, q_bd, q_ix, q_dz, q_iflt, q_ifnlt, q_ifeq, q_ifne, q_ifM, q_ifMM, q_ifMlt, q_ifltM, nI_add, pk_mul, q_sub, q_div, q_cl, q_st_s, q_st_i, q_st_c, Nat.add_zero, Nat.zero_add]
theorem q_isPe {h : zHp} {o P p : Nat} (hP : P ≤ 14) (h10 : h o 10 = nI P) (hp : p < P) : f_X4_isPerson o (nI p) h = some (nI 1, h) := by
  unfold f_X4_isPerson
  simp (disch := omega) only [h10, ↓reduceIte, ↓qM_e, ↓q_rem, q_mod, q_modN, q_lit, q_nI, q_lt, q_bd, q_ix, q_dz, q_iflt, q_ifnlt, q_ifeq, q_ifne, q_ifM, q_ifMM, q_ifMlt, q_ifltM, nI_add, pk_mul, q_sub, q_div, q_cl, q_st_s, q_st_i, q_st_c, Nat.add_zero, Nat.zero_add]
theorem q_isPeM {h : zHp} {o : Nat} : f_X4_isPerson o qM h = some (nI 0, h) := by
  unfold f_X4_isPerson
  rw [if_pos (show qM < 0 by decide)]; rfl
theorem q_a126 {o w p : Nat} (hp : p < 14) (A s : Int32) (h : zHp) : f_X0_ask_126 o (nI w) (nI p) (nI 1) A s (nI 4) h = f_X0_ask_148 o (nI w) A (zst h 160 4 s (o + 8) p) (nI 5) (zst h 160 4 s) := by
  simp only [f_X0_ask_126]
  simp (disch := omega) only [↓reduceIte, ↓qM_e, ↓q_rem, q_mod, q_modN, q_lit, q_nI, q_lt, q_bd, q_ix, q_dz, q_iflt, q_ifnlt, q_ifeq, q_ifne, q_ifM, q_ifMM, q_ifMlt, q_ifltM, nI_add, pk_mul, q_sub, q_div, q_cl, q_st_s, q_st_i, q_st_c, Nat.add_zero, Nat.zero_add]
theorem q_a126n {o w : Nat} (q A s : Int32) (h : zHp) : f_X0_ask_126 o (nI w) q (nI 0) A s (nI 4) h = f_X0_ask_148 o (nI w) A (nI 0) (nI 5) (zst h 160 4 s) := by
  simp only [f_X0_ask_126]
  simp (disch := omega) only [↓reduceIte, ↓qM_e, ↓q_rem, q_mod, q_modN, q_lit, q_nI, q_lt, q_bd, q_ix, q_dz, q_iflt, q_ifnlt, q_ifeq, q_ifne, q_ifM, q_ifMM, q_ifMlt, q_ifltM, nI_add, pk_mul, q_sub, q_div, q_cl, q_st_s, q_st_i, q_st_c, Nat.add_zero, Nat.zero_add]
theorem q_a104 {o w p : Nat} (hp : p < 14) (A s : Int32) (h : zHp) : f_X0_ask_104 o (nI w) (nI p) (nI 1) A s (nI 3) h = f_X0_ask_126 o (nI w) (nI p) (nI 1) A (zst h 160 3 s (o + 7) p) (nI 4) (zst h 160 3 s) := by
  simp only [f_X0_ask_104]
  simp (disch := omega) only [↓reduceIte, ↓qM_e, ↓q_rem, q_mod, q_modN, q_lit, q_nI, q_lt, q_bd, q_ix, q_dz, q_iflt, q_ifnlt, q_ifeq, q_ifne, q_ifM, q_ifMM, q_ifMlt, q_ifltM, nI_add, pk_mul, q_sub, q_div, q_cl, q_st_s, q_st_i, q_st_c, Nat.add_zero, Nat.zero_add]
theorem q_a104n {o w : Nat} (q A s : Int32) (h : zHp) : f_X0_ask_104 o (nI w) q (nI 0) A s (nI 3) h = f_X0_ask_126 o (nI w) q (nI 0) A (nI 0) (nI 4) (zst h 160 3 s) := by
  simp only [f_X0_ask_104]
  simp (disch := omega) only [↓reduceIte, ↓qM_e, ↓q_rem, q_mod, q_modN, q_lit, q_nI, q_lt, q_bd, q_ix, q_dz, q_iflt, q_ifnlt, q_ifeq, q_ifne, q_ifM, q_ifMM, q_ifMlt, q_ifltM, nI_add, pk_mul, q_sub, q_div, q_cl, q_st_s, q_st_i, q_st_c, Nat.add_zero, Nat.zero_add]
theorem q_a69 {o w p m B : Nat} (A s : Int32) (h : zHp) (h1 : f_X2_minders 24 (nI p) (zst h 160 2 s) = some (nI m, zst h 160 2 s)) (h2 : f_J6_bitCount_0f7a4 (nI m &&& (A ^^^ qM)) (zst h 160 2 s) = some (nI B, zst h 160 2 s)) : f_X0_ask_69 o (nI w) (nI p) (nI 1) A s (nI 2) h = f_X0_ask_104 o (nI w) (nI p) (nI 1) A (nI B) (nI 3) (zst h 160 2 s) := by
  simp only [f_X0_ask_69]
  simp (disch := omega) only [h1, h2, ↓reduceIte, ↓qM_e, ↓q_rem, q_mod, q_modN, q_lit, q_nI, q_lt, q_bd, q_ix, q_dz, q_iflt, q_ifnlt, q_ifeq, q_ifne, q_ifM, q_ifMM, q_ifMlt, q_ifltM, nI_add, pk_mul, q_sub, q_div, q_cl, q_st_s, q_st_i, q_st_c, Nat.add_zero, Nat.zero_add]
theorem q_a69n {o w : Nat} (q A s : Int32) (h : zHp) : f_X0_ask_69 o (nI w) q (nI 0) A s (nI 2) h = f_X0_ask_104 o (nI w) q (nI 0) A (nI 0) (nI 3) (zst h 160 2 s) := by
  simp only [f_X0_ask_69]
  simp (disch := omega) only [↓reduceIte, ↓qM_e, ↓q_rem, q_mod, q_modN, q_lit, q_nI, q_lt, q_bd, q_ix, q_dz, q_iflt, q_ifnlt, q_ifeq, q_ifne, q_ifM, q_ifMM, q_ifMlt, q_ifltM, nI_add, pk_mul, q_sub, q_div, q_cl, q_st_s, q_st_i, q_st_c, Nat.add_zero, Nat.zero_add]
theorem q_askX {h k : zHp} {o C P c p w : Nat} (ho : o ≠ 160 ∧ o + 1 ≠ 160 ∧ o + 2 ≠ 160 ∧ o + 5 ≠ 160 ∧ o + 6 ≠ 160 ∧ o + 7 ≠ 160 ∧ o + 8 ≠ 160) (X : qCtx h k o C P) (hc : c < C) (w : Nat) : ∃ h5, f_X0_ask o (nI w) (nI c) (qWho P p) h = (f_X1_tell 13 (nI w) h5).bind (fun x => some (x.1, x.2)) ∧ (∀ a, a ≠ 160 → h5 a = h a) ∧ ∀ j, j < 9 → h5 160 j = qV k C P c p j := by
  obtain ⟨⟨x1, x2⟩, xP, xF, xL, n, xK⟩ := X
  have hC : C ≤ 10 := xF.1
  have hP : P ≤ 14 := xF.2.1
  obtain ⟨p1, p2, p3, p4, p5, p6, p7, p8⟩ := xP
  obtain ⟨c1, c2, c3, c4⟩ := p7 c hc
  have h2P : 2 ^ P ≤ 2 ^ 14 := Nat.pow_le_pow_right (by omega) hP
  have hch := q_isCh hC p1 hc
  have eset : qSet (fun i => decide (h (o + 6) i = 0)) P = qSet (fun i => !(fun i => decide (k 1 (35 + i) ≠ 0)) i) P := by
    refine qSet_congr P (fun i hi => ?_)
    rw [(p8 i hi).2.1]
    simp
  have haw := q_awayX (h := h) (o := o) hP p2
  rw [eset] at haw
  have hset := qSet_lt (fun i => !(fun i => decide (k 1 (35 + i) ≠ 0)) i) P
  have hbc := q_bitCount (x := qSet (fun i => !(fun i => decide (k 1 (35 + i) ≠ 0)) i) P) (by omega)
  rw [qSet_pop _ hP] at hbc
  have hcnt := qCnt_not (fun i => decide (k 1 (35 + i) ≠ 0)) P
  generalize hA : qSet (fun i => !(fun i => decide (k 1 (35 + i) ≠ 0)) i) P = A at *
  generalize hB : qCnt (fun i => !(fun i => decide (k 1 (35 + i) ≠ 0)) i) P = B at *
  obtain ⟨S, hS⟩ : ∃ S, S = qSet (fun i => decide (k 1 (35 + i) ≠ 0)) P := ⟨_, rfl⟩
  obtain ⟨N, hN⟩ : ∃ N, N = qCnt (fun i => decide (k 1 (35 + i) ≠ 0)) P := ⟨_, rfl⟩
  rw [← hN] at hcnt
  have hsub : nI P - nI B = nI N := by
    rw [pk_sub (by omega)]
    congr 1
    omega
  have tail : ∀ h' : zHp, (∀ a, a ≠ 160 → h' a = h a) → ∀ s : Int32, ∃ h5, f_X0_ask_148 o (nI w) (nI A) s (nI 5) h' = (f_X1_tell 13 (nI w) h5).bind (fun x => some (x.1, x.2)) ∧ (∀ a, a ≠ 160 → h5 a = h a) ∧ h5 160 5 = s ∧ h5 160 6 = k 1 3 ∧ h5 160 7 = nI (N) ∧ h5 160 8 = k 1 0 ∧ ∀ j, j < 5 → h5 160 j = h' 160 j := by
    intro h' H s
    have e : h' o = h o := H o ho.1
    refine ⟨zst (zst (zst (zst h' 160 5 s) 160 6 (k 1 3)) 160 7 (nI (N))) 160 8 (k 1 0), ?_, fun a ha => ?_, ?_, ?_, ?_, ?_, fun j hj => ?_⟩
    · simp only [f_X0_ask_148]
      simp (disch := omega) only [e, p2, p3, p5, hbc, hsub, ↓reduceIte, ↓qM_e, ↓q_rem, q_mod, q_modN, q_lit, q_nI, q_lt, q_bd, q_ix, q_dz, q_iflt, q_ifnlt, q_ifeq, q_ifne, q_ifM, q_ifMM, q_ifMlt, q_ifltM, nI_add, pk_mul, q_sub, q_div, q_cl, q_st_s, q_st_i, q_st_c, Nat.add_zero, Nat.zero_add]
    · simp (disch := omega) only [q_st_c]; exact H a ha
    · simp (disch := omega) only [q_st_s, q_st_i]
    · simp (disch := omega) only [q_st_s, q_st_i]
    · simp (disch := omega) only [q_st_s, q_st_i]
    · simp (disch := omega) only [q_st_s, q_st_i]
    · simp (disch := omega) only [q_st_i]
  by_cases hp : p < P
  · have hw : qWho P p = nI p := by unfold qWho; rw [if_pos hp]
    obtain ⟨d1, d2, d3, d4⟩ := p8 p hp
    obtain ⟨m, m1, m2, m3⟩ := q_kinN hP xK hp
    have hpe := q_isPe hP p2 hp
    have hmin : ∀ h' : zHp, (∀ a, a ≠ 160 → h' a = h a) → f_X2_minders 24 (nI p) h' = some (nI m, h') := by
      intro h' H
      have xK' : qKin h' 24 n (k 19) P := qKin_c hP (H _ (by omega)) (H _ (by omega)) (fun _ _ => rfl) xK
      obtain ⟨m', a1, a2, a3⟩ := q_kinN hP xK' hp
      have : m' = m := (nI_eq (by omega) (by omega)).mp (a2.symm.trans m2)
      rw [this] at a3; exact a3
    have hmin' := q_minus (m := m) (a := A) (n := P) m1 (by omega) (fun i => decide (k 1 (35 + i) ≠ 0)) (by omega) hA.symm
    rw [← hS] at hmin'
    have hminM : nI m &&& (nI A ^^^ qM) = nI (m &&& S) := hmin'
    have hand : (m &&& S) ≤ m := Nat.and_le_left
    have hbc2 := q_bitCount (x := m &&& S) (by omega)
    rw [hw]
    obtain ⟨h5, t1, t2, t3, t4, t5, t6, t7⟩ := tail (zst (zst (zst (zst (zst h 160 0 (k 4 c)) 160 1 (k 1 (5 + c))) 160 2 (k 5 p)) 160 3 (nI (qPop 14 (m &&& S)))) 160 4 (k 1 (49 + p))) (fun a ha => by simp (disch := omega) only [q_st_c]) (k 1 (63 + p))
    refine ⟨h5, ?_, t2, fun j hj => ?_⟩
    · rw [← t1]
      have hm2 := hmin (zst (zst (zst h 160 0 (k 4 c)) 160 1 (k 1 (5 + c))) 160 2 (k 5 p)) (fun a ha => by simp (disch := omega) only [q_st_c])
      have hb2 : f_J6_bitCount_0f7a4 (nI m &&& (nI A ^^^ qM)) (zst (zst (zst h 160 0 (k 4 c)) 160 1 (k 1 (5 + c))) 160 2 (k 5 p)) = some (nI (qPop 14 (m &&& S)), zst (zst (zst h 160 0 (k 4 c)) 160 1 (k 1 (5 + c))) 160 2 (k 5 p)) := by rw [hminM]; exact hbc2 _
      have e69 := q_a69 (o := o) (w := w) (p := p) (nI A) (k 5 p) (zst (zst h 160 0 (k 4 c)) 160 1 (k 1 (5 + c))) hm2 hb2
      simp only [f_X0_ask]
      simp (disch := omega) only [hch, hpe, haw, c1, c2, d1, e69, q_a104, q_a126, d3, d4, ↓reduceIte, ↓qM_e, ↓q_rem, q_mod, q_modN, q_lit, q_nI, q_lt, q_bd, q_ix, q_dz, q_iflt, q_ifnlt, q_ifeq, q_ifne, q_ifM, q_ifMM, q_ifMlt, q_ifltM, nI_add, pk_mul, q_sub, q_div, q_cl, q_st_s, q_st_i, q_st_c, Nat.add_zero, Nat.zero_add]
    · subst hS
      subst hN
      unfold qV
      rw [if_pos hp, if_pos hp, if_pos hp, if_pos hp, m2, nI_clamp (by omega)]
      rcases (show j = 0 ∨ j = 1 ∨ j = 2 ∨ j = 3 ∨ j = 4 ∨ j = 5 ∨ j = 6 ∨ j = 7 ∨ j = 8 by omega) with rfl | rfl | rfl | rfl | rfl | rfl | rfl | rfl | rfl
      · rw [t7 _ (by omega)]; simp (disch := omega) only [q_st_s, q_st_i]; rfl
      · rw [t7 _ (by omega)]; simp (disch := omega) only [q_st_s, q_st_i]; rfl
      · rw [t7 _ (by omega)]; simp (disch := omega) only [q_st_s, q_st_i]; rfl
      · rw [t7 _ (by omega)]; simp (disch := omega) only [q_st_s, q_st_i]; rfl
      · rw [t7 _ (by omega)]; simp (disch := omega) only [q_st_s, q_st_i]; rfl
      · exact t3
      · exact t4
      · exact t5
      · exact t6
  · have hw : qWho P p = qM := by unfold qWho; rw [if_neg hp]; rfl
    have hpe := q_isPeM (h := h) (o := o)
    rw [hw]
    obtain ⟨h5, t1, t2, t3, t4, t5, t6, t7⟩ := tail (zst (zst (zst (zst (zst h 160 0 (k 4 c)) 160 1 (k 1 (5 + c))) 160 2 (nI 0)) 160 3 (nI 0)) 160 4 (nI 0)) (fun a ha => by simp (disch := omega) only [q_st_c]) (nI 0)
    refine ⟨h5, ?_, t2, fun j hj => ?_⟩
    · rw [← t1]
      simp only [f_X0_ask]
      simp (disch := omega) only [hch, hpe, haw, c1, c2, q_a69n, q_a104n, q_a126n, ↓reduceIte, ↓qM_e, ↓q_rem, q_mod, q_modN, q_lit, q_nI, q_lt, q_bd, q_ix, q_dz, q_iflt, q_ifnlt, q_ifeq, q_ifne, q_ifM, q_ifMM, q_ifMlt, q_ifltM, nI_add, pk_mul, q_sub, q_div, q_cl, q_st_s, q_st_i, q_st_c, Nat.add_zero, Nat.zero_add]
    · subst hS
      subst hN
      unfold qV
      rw [if_neg hp, if_neg hp, if_neg hp, if_neg hp]
      rcases (show j = 0 ∨ j = 1 ∨ j = 2 ∨ j = 3 ∨ j = 4 ∨ j = 5 ∨ j = 6 ∨ j = 7 ∨ j = 8 by omega) with rfl | rfl | rfl | rfl | rfl | rfl | rfl | rfl | rfl
      · rw [t7 _ (by omega)]; simp (disch := omega) only [q_st_s, q_st_i]; rfl
      · rw [t7 _ (by omega)]; simp (disch := omega) only [q_st_s, q_st_i]; rfl
      · rw [t7 _ (by omega)]; simp (disch := omega) only [q_st_s, q_st_i]; rfl
      · rw [t7 _ (by omega)]; simp (disch := omega) only [q_st_s, q_st_i]; rfl
      · rw [t7 _ (by omega)]; simp (disch := omega) only [q_st_s, q_st_i]; rfl
      · exact t3
      · exact t4
      · exact t5
      · exact t6
/-- both ask the same and are told the same -/
theorem q_ask {h k : zHp} {o C P c p w : Nat} (ho : o = 2 ∨ o = 136) (X : qCtx h k o C P) (hc : c < C) (hw : w < 3) : ∃ r h' k5 k', f_X0_ask o (nI w) (nI c) (qWho P p) h = some (nI r, h') ∧ f_X11_asks (nI c) (qWho P p) k = some k5 ∧ f_X11_lawTells (nI w) (qUnt k5 w) (qMost w) k5 = some (nI r, k') ∧ (∀ a, a ≠ 160 → a ≠ 19 → h' a = h a) ∧ (∀ a, a ≠ 20 → a ≠ 21 → k' a = k a) ∧ r ≤ 1000 ∧ (w = 0 → r ≤ 99) := by
  obtain ⟨h5, a1, a2, a3⟩ := q_askX (p := p) (w := w) (by omega) X hc w
  obtain ⟨k5, b1, b2, b3⟩ := q_asksM (p := p) X hc
  have L : qLaw h5 13 k5 := by
    have := X.2.2.2.1
    have l1 := qLaw_c (h' := h5) (fun a q r => a2 a (by omega)) (qAs_rf k) this
    obtain ⟨n, sz, y⟩ := l1
    refine ⟨n, sz, ?_⟩
    rw [b2 9 (by omega), b2 10 (by omega), b2 11 (by omega), b2 12 (by omega), b2 13 (by omega), b2 14 (by omega), b2 15 (by omega)]
    exact y
  obtain ⟨r, h', k', c1, c2, c3, c4, j, j1, j2, j3⟩ := q_tell hw L (fun j hj => by rw [a3 j hj, b3 j hj])
  subst j2
  exact ⟨j, h', k5, k', by rw [a1, c1]; rfl, b1, c2, fun a q1 q2 => by rw [c3 a q2]; exact a2 a q1, fun a q1 q2 => by rw [c4 a q2]; exact b2 a q1, j1, j3⟩
end Qask2
