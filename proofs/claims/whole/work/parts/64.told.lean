/-! WHAT IS TOLD FOR THOUGHT -/
section Qtold
def qToldP (a i : Nat) : Bool := a == 22 || a == 23 || a == 24 || a == 25 || a == 27 || a == 28 || a == 29 || a == 32 || a == 35 || a == 36 || (a == 0 && (i == 42 || i == 45 || i == 49 || i == 56 || i == 60 || i == 62))
def qMt (k k' : zHp) : Prop := ∀ a i, qPers a i = true → qToldP a i = false → k' a i = k a i
def qXt (h h' : zHp) : Prop := ∀ a, (a < 27 ∨ 39 < a) → h' a = h a
theorem qMt_0 (k : zHp) : qMt k (zst k 0 0 0) := fun a i p _ => qMs_s0 k a i p
theorem qMt_st {k k' : zHp} {a i : Nat} {v : Int32} (h : qMt k k') (hp : qToldP a i = true) : qMt k (zst k' a i v) := by
  intro b j hj hq
  rw [q_st]
  by_cases e : b = a
  · rw [if_pos e]
    by_cases e2 : j = i
    · rw [e, e2, hp] at hq; cases hq
    · rw [if_neg e2]; exact h b j hj hq
  · rw [if_neg e]; exact h b j hj hq
theorem qXt_rf (h : zHp) : qXt h h := fun _ _ => rfl
theorem qXt_st {h h' : zHp} {a i : Nat} {v : Int32} (e : qXt h h') (h1 : 27 ≤ a) (h2 : a ≤ 39) : qXt h (zst h' a i v) := by
  intro b hb
  rw [q_st_c (by omega)]; exact e b hb
theorem qRel_told {h h' k k' : zHp} (e : qXt h h') (f : qMt k k') (g : qTold h' 1 k') (R : qRel h k) : qRel h' k' := by
  obtain ⟨⟨C, P, h1, ⟨h2, h3⟩, h4, h5, ⟨n, h6, h7⟩, ⟨n2, h8, h9⟩, ⟨n3, h10, h11⟩, h12⟩, ⟨u, m, C', P', nn, p1, p2, p3, p4, p5, p6, p7, p8⟩, ⟨t, t1, t2, t3, t4⟩, ⟨x1, x2, x3, x4, x5, x6, x7⟩, hI⟩ := R
  have hC : C ≤ 10 := h3.1
  have hP : P ≤ 14 := h3.2.1
  have fs : ∀ a i, qPers a i = true → qToldP a i = false → k' a i = k a i := f
  have f38 : k' 38 = k 38 := funext fun i => f 38 i (by unfold qPers; simp) (by unfold qToldP; simp)
  have f2 : ∀ i, k' 2 i = k 2 i := fun i => f 2 i (by unfold qPers; simp) (by unfold qToldP; simp)
  have fp : ∀ a i, qPos a i ≠ none → qToldP a i = false → k' a i = k a i := by
    intro a i hp hq
    refine f a i ?_ hq
    unfold qPers
    cases z : qPos a i with
    | none => exact absurd z hp
    | some p => simp
  have fr : ∀ a i, a = 1 ∨ a = 4 ∨ a = 5 ∨ a = 6 ∨ a = 9 ∨ a = 10 ∨ a = 11 ∨ a = 12 ∨ a = 13 ∨ a = 14 ∨ a = 15 ∨ a = 17 ∨ a = 18 ∨ a = 19 → qToldP a i = false := by
    intro a i ha
    rcases ha with rfl | rfl | rfl | rfl | rfl | rfl | rfl | rfl | rfl | rfl | rfl | rfl | rfl | rfl <;> rfl
  have qa : qAs k (fun a i => if qToldP a i = true then k a i else k' a i) := by
    intro a i hp
    by_cases z : qToldP a i = true
    · simp only [z, if_true]
    · simp only [z]
      exact fp a i hp (by simpa using z)
  have law : qLaw h' (1 + 12) k' := by
    have := qLaw_c (h' := h') (fun a q r => e a (by omega)) qa h5
    obtain ⟨n, sz, y1, y2, y3, y4, y5, y6⟩ := this
    have c : ∀ a i, a = 1 ∨ a = 4 ∨ a = 5 ∨ a = 6 ∨ a = 9 ∨ a = 10 ∨ a = 11 ∨ a = 12 ∨ a = 13 ∨ a = 14 ∨ a = 15 ∨ a = 17 ∨ a = 18 ∨ a = 19 → (fun a i => if qToldP a i = true then k a i else k' a i) a i = k' a i := by
      intro a i ha
      simp only [fr a i ha]; rfl
    have c9 : (fun a i => if qToldP a i = true then k a i else k' a i) 9 = k' 9 := funext fun i => c 9 i (by omega)
    have c10 : (fun a i => if qToldP a i = true then k a i else k' a i) 10 = k' 10 := funext fun i => c 10 i (by omega)
    have c11 : (fun a i => if qToldP a i = true then k a i else k' a i) 11 = k' 11 := funext fun i => c 11 i (by omega)
    have c12 : (fun a i => if qToldP a i = true then k a i else k' a i) 12 = k' 12 := funext fun i => c 12 i (by omega)
    have c13 : (fun a i => if qToldP a i = true then k a i else k' a i) 13 = k' 13 := funext fun i => c 13 i (by omega)
    have c14 : (fun a i => if qToldP a i = true then k a i else k' a i) 14 = k' 14 := funext fun i => c 14 i (by omega)
    have c15 : (fun a i => if qToldP a i = true then k a i else k' a i) 15 = k' 15 := funext fun i => c 15 i (by omega)
    refine ⟨n, sz, y1, y2, y3, by rw [← c9]; exact y4, fun i hi => by rw [← c14, ← c15]; exact y5 i hi, fun i hi => ?_⟩
    rw [← c10, ← c11, ← c12, ← c13, ← c14, ← c15]
    exact y6 i hi
  have ch : qCh k' C P := ⟨by rw [fp 0 6 (qP_s (by decide)) rfl]; exact h1.1, by rw [fp 0 7 (qP_s (by decide)) rfl]; exact h1.2⟩
  refine ⟨⟨C, P, ch, ⟨qPo_c hC hP (fun a q r => e a (by omega)) (fun i hi => fp 1 i (qP_1 hi) rfl) (fun i hi => fp 4 i (qP_4 hi) rfl) (fun i hi => fp 5 i (qP_5 hi) rfl) h2, qFine_c (fun i q r => fp 1 i (qP_1 (by omega)) rfl) h3⟩, ?_, law, ⟨n, by rw [fp 0 34 (qP_s (by decide)) rfl]; exact h6, qCalls_c (e _ (by omega)) (e _ (by omega)) (fun i hi => fp 17 i (qP_17 hi) rfl) h7⟩, ⟨n2, by rw [fp 0 36 (qP_s (by decide)) rfl]; exact h8, qHouse_c (e _ (by omega)) (e _ (by omega)) (fun i hi => fp 18 i (qP_18 hi) rfl) h9⟩, ⟨n3, by rw [fp 0 38 (qP_s (by decide)) rfl]; exact h10, qKin_c hP (e _ (by omega)) (e _ (by omega)) (fun i hi => fp 19 i (qP_19 hi) rfl) h11⟩, g⟩, ⟨u, m, C', P', nn, p1, p2, ?_, ?_, ?_, ?_, ?_, fun j hj => ?_⟩, ⟨t, t1, ?_, ?_, fun i hi => ?_⟩, ⟨?_, ?_, ?_, ?_, ?_, ?_, ?_⟩, ?_⟩
  · obtain ⟨b0, ⟨b, b1, b2, b3⟩, b4⟩ := h4
    exact ⟨by rw [e _ (by omega)]; exact b0, ⟨b, b1, by rw [e _ (by omega)]; exact b2, by rw [fp 1 2 (qP_1 (by omega)) rfl]; exact b3⟩, fun i hi => by rw [e _ (by omega), fp 6 i (qP_6 hi) rfl]; exact b4 i hi⟩
  · rw [e 79 (by omega)]; exact p3
  · rw [fs 0 3 (by decide) rfl]; exact p4
  · rw [e 79 (by omega)]; exact p5
  · exact ⟨by rw [fp 0 6 (qP_s (by decide)) rfl]; exact p6.1, by rw [fp 0 7 (qP_s (by decide)) rfl]; exact p6.2⟩
  · rw [fs 1 2 (by decide) rfl]; exact p7
  · obtain ⟨g1, g2, b, g3, g4, g5⟩ := p8 j hj
    refine ⟨qPo_c g2.1 g2.2.1 (fun a q1 q2 => e a (by omega)) (fun i hi => f2 _) (fun i hi => fp 4 i (qP_4 hi) rfl) (fun i hi => fp 5 i (qP_5 hi) rfl) g1, qFine_c (fun i q1 q2 => f2 _) g2, b, g3, ?_, ?_⟩
    · rw [e 81 (by omega)]; exact g4
    · rw [f2]; exact g5
  · rw [e 145 (by omega)]; exact t2
  · rw [fs 0 12 (by decide) rfl]; exact t3
  · obtain ⟨b, b1, b2, b3⟩ := t4 i hi
    refine ⟨b, b1, ?_, ?_⟩
    · rw [e 146 (by omega)]; exact b2
    · rw [fs 7 i (by unfold qPers; simp) rfl]; exact b3
  · rw [e 2 (by omega)]; exact x1
  · rw [e 136 (by omega)]; exact x2
  · rw [e 157 (by omega)]; exact x3
  · rw [fs 0 5 (by decide) rfl]; exact x4
  · intro i hi
    rw [fs 8 i (by unfold qPers; simp) rfl]; exact x5 i hi
  · rw [e 145 (by omega), fs 0 32 (by decide) rfl]; exact x6
  · rw [e 145 (by omega), fs 0 33 (by decide) rfl]; exact x7
  · rw [e 0 (by omega), fs 0 66 (by decide) rfl, e 50 (by omega), e 59 (by omega), e 61 (by omega), e 63 (by omega)]
    rcases hI with q | ⟨q1, q2, q3⟩
    · exact Or.inl q
    · exact Or.inr ⟨q1, q2, qWh_c (fun a z1 z2 z3 => e a (by omega)) (qAs_un f38) q3⟩
theorem qTicks_d {h h' k k' : zHp} {o : Nat} (e1 : h' o = h o) (e2 : h' (o + 1) = h (o + 1)) (f1 : k' 0 42 = k 0 42) (f2 : k' 22 = k 22) (f3 : k' 23 = k 23) (H : qTicks h o k) : qTicks h' o k' := by unfold qTicks at *; rw [e1, e2, f1, f2, f3]; exact H
theorem qWont_d {h h' k k' : zHp} {o : Nat} (e1 : h' o = h o) (e2 : h' (o + 1) = h (o + 1)) (f1 : k' 0 45 = k 0 45) (f2 : k' 24 = k 24) (f3 : k' 25 = k 25) (H : qWont h o k) : qWont h' o k' := by unfold qWont at *; rw [e1, e2, f1, f2, f3]; exact H
theorem qPts_d {h h' k k' : zHp} {o : Nat} (e1 : h' o = h o) (e2 : h' (o + 1) = h (o + 1)) (f1 : k' 0 49 = k 0 49) (f2 : k' 27 = k 27) (f3 : k' 28 = k 28) (H : qPts h o k) : qPts h' o k' := by unfold qPts at *; rw [e1, e2, f1, f2, f3]; exact H
theorem qCoins_d {h h' k k' : zHp} {o : Nat} (e1 : h' o = h o) (e2 : h' (o + 1) = h (o + 1)) (f1 : k' 0 62 = k 0 62) (f2 : k' 36 = k 36) (H : qCoins h o k) : qCoins h' o k' := by unfold qCoins at *; rw [e1, e2, f1, f2]; exact H
theorem qFull_d {h h' k k' : zHp} {o : Nat} (e1 : h' o = h o) (f1 : k' 29 = k 29) (H : qFull h o k) : qFull h' o k' := by unfold qFull at *; rw [e1, f1]; exact H
theorem qRel_T {h k : zHp} (R : qRel h k) : qTold h 1 k := by
  obtain ⟨C, P, -, -, -, -, -, -, -, H⟩ := R.1
  exact H
/-- one more at the end of a Row -/
theorem q_addX {h : zHp} {o c N : Nat} {v : Int32} (hc : h o 1 = nI c) (hN : zln wX (o + 1) = N) (hb : N < 1000) (hcN : c < N) : f_X7_add o v h = some (nI (c + 1), zst (zst h (o + 1) c v) o 1 (nI (c + 1))) := by
  unfold f_X7_add
  rw [hc, hN]
  have e1 : zst h (o + 1) c v o 1 = nI c := by rw [q_st_c (by omega)]; exact hc
  simp (disch := omega) only [e1, ↓reduceIte, ↓qM_e, ↓q_rem, q_mod, q_modN, q_lit, q_nI, q_lt, q_bd, q_ix, q_dz, q_iflt, q_ifnlt, q_ifeq, q_ifne, q_ifM, q_ifMM, q_ifMlt, q_ifltM, nI_add, pk_mul, q_sub, q_div, q_cl, q_st_s, q_st_i, q_st_c, Nat.add_zero, Nat.zero_add]
theorem q_fullX {h : zHp} {o N : Nat} {v : Int32} (hc : h o 1 = nI N) (hN : zln wX (o + 1) = N) (hb : N < 1000) : f_X7_add o v h = some (-1, h) := by
  unfold f_X7_add
  rw [hc, hN]
  simp (disch := omega) only [↓reduceIte, ↓qM_e, ↓q_rem, q_mod, q_modN, q_lit, q_nI, q_lt, q_bd, q_ix, q_dz, q_iflt, q_ifnlt, q_ifeq, q_ifne, q_ifM, q_ifMM, q_ifMlt, q_ifltM, nI_add, pk_mul, q_sub, q_div, q_cl, q_st_s, q_st_i, q_st_c, Nat.add_zero, Nat.zero_add]
theorem q_addUX {h : zHp} {o c N : Nat} {v : Int32} (hc : h o 1 = nI c) (hN : zln wX (o + 1) = N) (hb : N < 1000) (hcN : c ≤ N) : (∃ i, i < c ∧ h (o + 1) i = v) ∧ f_X7_addUnlike o v h = some (-1, h) ∨ (¬ ∃ i, i < c ∧ h (o + 1) i = v) ∧ f_X7_addUnlike o v h = f_X7_add o v h := by
  obtain ⟨e, e1, e2, e3⟩ := q_least (fun i => h (o + 1) i = v) c
  have go : f_X7_addUnlike o v h = if e < c then some (-1, h) else f_X7_add o v h := by
    unfold f_X7_addUnlike f_X7_addUnlike_2_lp
    refine q_for (S := fun i => (v, nI i, h)) e (fun i hi rec => ?_) (fun rec => ?_) zN (by rw [q_zN]; omega)
    · have := e2 i hi
      simp only [f_X7_addUnlike_2]
      rw [hc, hN]
      simp (disch := omega) only [q_ifF this, ↓reduceIte, ↓qM_e, ↓q_rem, q_mod, q_modN, q_lit, q_nI, q_lt, q_bd, q_ix, q_dz, q_iflt, q_ifnlt, q_ifeq, q_ifne, q_ifM, q_ifMM, q_ifMlt, q_ifltM, nI_add, pk_mul, q_sub, q_div, q_cl, q_st_s, q_st_i, q_st_c, Nat.add_zero, Nat.zero_add]
    · rcases Nat.lt_or_ge e c with z | z
      · rw [if_pos z]
        have := e3 z
        simp only [f_X7_addUnlike_2]
        rw [hc, hN]
        simp (disch := omega) only [q_ifT this, ↓reduceIte, ↓qM_e, ↓q_rem, q_mod, q_modN, q_lit, q_nI, q_lt, q_bd, q_ix, q_dz, q_iflt, q_ifnlt, q_ifeq, q_ifne, q_ifM, q_ifMM, q_ifMlt, q_ifltM, nI_add, pk_mul, q_sub, q_div, q_cl, q_st_s, q_st_i, q_st_c, Nat.add_zero, Nat.zero_add]
      · rw [if_neg (by omega)]
        simp only [f_X7_addUnlike_2]
        rw [hc, q_ifF (nI_nlt z (by omega))]
        cases f_X7_add o v h <;> rfl
  rcases Nat.lt_or_ge e c with z | z
  · rw [if_pos z] at go
    exact Or.inl ⟨⟨e, z, e3 z⟩, go⟩
  · rw [if_neg (by omega)] at go
    refine Or.inr ⟨fun q => ?_, go⟩
    obtain ⟨i, i1, i2⟩ := q
    exact e2 i (by omega) i2
theorem q_clearX (o : Nat) (h : zHp) : f_X7_clear o h = some (0, zst h o 1 0) := rfl
theorem q_ask_c {h k : zHp} (R : qRel h k) (v : Int32) {x y : Option (Int32 × zHp)} (e1 : x = some (v, h)) (e2 : y = some (v, zst k 0 0 0)) : qCall x y :=
  qAsk.call R ⟨v, h, zst k 0 0 0, e1, e2, qXs_rf h, qMs_s0 k⟩
theorem q_call_tick {h k : zHp} (R : qRel h k) (r m : Int32) : qCall (f_X10_tick r m h) (f_X11_tick r m k) := by
  obtain ⟨t1, t2, t3, t4, t5, t6, t7⟩ := qRel_T R
  by_cases c1 : m = -1
  · refine ⟨0, zst h 27 1 0, zst (zst k 0 0 0) 0 42 0, ?_, ?_, qRel_told (qXt_st (qXt_rf h) (by omega) (by omega)) (qMt_st (qMt_0 k) rfl) ⟨⟨0, by omega, q_st_s, q_st_s, fun i hi => absurd hi (Nat.not_lt_zero i)⟩, qWont_d (by simp (disch := omega) only [q_st_c, q_st_i]) (by simp (disch := omega) only [q_st_c, q_st_i]) (by simp (disch := omega) only [q_st_c, q_st_i]) (by simp (disch := omega) only [q_st_c, q_st_i]) (by simp (disch := omega) only [q_st_c, q_st_i]) t2, qPts_d (by simp (disch := omega) only [q_st_c, q_st_i]) (by simp (disch := omega) only [q_st_c, q_st_i]) (by simp (disch := omega) only [q_st_c, q_st_i]) (by simp (disch := omega) only [q_st_c, q_st_i]) (by simp (disch := omega) only [q_st_c, q_st_i]) t3, qRowN_c (by simp (disch := omega) only [q_st_c, q_st_i]) (by simp (disch := omega) only [q_st_c, q_st_i]) (by simp (disch := omega) only [q_st_c, q_st_i]) (fun i hi => by simp (disch := omega) only [q_st_c, q_st_i]) t4, qRowN_c (by simp (disch := omega) only [q_st_c, q_st_i]) (by simp (disch := omega) only [q_st_c, q_st_i]) (by simp (disch := omega) only [q_st_c, q_st_i]) (fun i hi => by simp (disch := omega) only [q_st_c, q_st_i]) t5, qCoins_d (by simp (disch := omega) only [q_st_c, q_st_i]) (by simp (disch := omega) only [q_st_c, q_st_i]) (by simp (disch := omega) only [q_st_c, q_st_i]) (by simp (disch := omega) only [q_st_c, q_st_i]) t6, qFull_d (by simp (disch := omega) only [q_st_c, q_st_i]) (by simp (disch := omega) only [q_st_c, q_st_i]) t7⟩ R⟩
    · unfold f_X10_tick
      rw [if_pos c1, q_clearX, q_bd]
    · unfold f_X11_tick
      rw [q_lt, if_pos c1, q_lt]
  unfold f_X10_tick f_X11_tick
  rw [if_neg c1, q_lt, if_neg c1]
  obtain ⟨n, n1, n2, n3, n4⟩ := t1
  have hz : zln wX (27 + 1) = 4 := by decide +kernel
  rcases q_rng 1 12 m (by omega) with o | ⟨m, hm0, hm, rfl⟩
  · exact q_ask_c R (-1) (by simp (disch := omega) only [q_out2 o, ↓reduceIte, ↓qM_e, ↓q_rem, q_mod, q_modN, q_lit, q_nI, q_lt, q_bd, q_ix, q_dz, q_iflt, q_ifnlt, q_ifeq, q_ifne, q_ifM, q_ifMM, q_ifMlt, q_ifltM, nI_add, pk_mul, q_sub, q_div, q_cl, q_st_s, q_st_i, q_st_c, Nat.add_zero, Nat.zero_add]) (by simp (disch := omega) only [q_inO o, ↓reduceIte, ↓qM_e, ↓q_rem, q_mod, q_modN, q_lit, q_nI, q_lt, q_bd, q_ix, q_dz, q_iflt, q_ifnlt, q_ifeq, q_ifne, q_ifM, q_ifMM, q_ifMlt, q_ifltM, nI_add, pk_mul, q_sub, q_div, q_cl, q_st_s, q_st_i, q_st_c, Nat.add_zero, Nat.zero_add])
  have i1 := q_inI (h := zst k 0 0 (nI 0)) hm0 hm (by omega)
  rcases q_rng 0 (m - 1) r (by omega) with o | ⟨r, -, hr, rfl⟩
  · exact q_ask_c R (-1) (by simp (disch := omega) only [q_wiO o, ↓reduceIte, ↓qM_e, ↓q_rem, q_mod, q_modN, q_lit, q_nI, q_lt, q_bd, q_ix, q_dz, q_iflt, q_ifnlt, q_ifeq, q_ifne, q_ifM, q_ifMM, q_ifMlt, q_ifltM, nI_add, pk_mul, q_sub, q_div, q_cl, q_st_s, q_st_i, q_st_c, Nat.add_zero, Nat.zero_add]) (by simp (disch := omega) only [i1, q_inO o, ↓reduceIte, ↓qM_e, ↓q_rem, q_mod, q_modN, q_lit, q_nI, q_lt, q_bd, q_ix, q_dz, q_iflt, q_ifnlt, q_ifeq, q_ifne, q_ifM, q_ifMM, q_ifMlt, q_ifltM, nI_add, pk_mul, q_sub, q_div, q_cl, q_st_s, q_st_i, q_st_c, Nat.add_zero, Nat.zero_add])
  have i2 := q_inI (h := zst k 0 0 (nI 0)) (lo := 0) (by omega) hr (by omega)
  have i3 := q_wiI (h := h) hr (by omega)
  have hp : f_X8_pair (nI m) (nI r) h = some (nI (m * 32 + r), h) := by
    unfold f_X8_pair
    simp (disch := omega) only [↓reduceIte, ↓qM_e, ↓q_rem, q_mod, q_modN, q_lit, q_nI, q_lt, q_bd, q_ix, q_dz, q_iflt, q_ifnlt, q_ifeq, q_ifne, q_ifM, q_ifMM, q_ifMlt, q_ifltM, nI_add, pk_mul, q_sub, q_div, q_cl, q_st_s, q_st_i, q_st_c, Nat.add_zero, Nat.zero_add]
  have k42 : zst k 0 0 (nI 0) 0 42 = nI n := by rw [q_st_i (by omega)]; exact n3
  rcases Nat.lt_or_ge n 4 with hn | hn
  · have ha := q_addX (v := nI (m * 32 + r)) n2 hz (by omega) hn
    refine ⟨nI (n + 1), zst (zst h 28 n (nI (m * 32 + r))) 27 1 (nI (n + 1)), zst (zst (zst (zst k 0 0 0) 22 n (nI r)) 23 n (nI m)) 0 42 (nI (n + 1)), ?_, ?_, qRel_told (qXt_st (qXt_st (qXt_rf h) (by omega) (by omega)) (by omega) (by omega)) (qMt_st (qMt_st (qMt_st (qMt_0 k) rfl) rfl) rfl) ⟨⟨n + 1, by omega, q_st_s, q_st_s, fun i hi => ?_⟩, qWont_d (by simp (disch := omega) only [q_st_c, q_st_i]) (by simp (disch := omega) only [q_st_c, q_st_i]) (by simp (disch := omega) only [q_st_c, q_st_i]) (by simp (disch := omega) only [q_st_c, q_st_i]) (by simp (disch := omega) only [q_st_c, q_st_i]) t2, qPts_d (by simp (disch := omega) only [q_st_c, q_st_i]) (by simp (disch := omega) only [q_st_c, q_st_i]) (by simp (disch := omega) only [q_st_c, q_st_i]) (by simp (disch := omega) only [q_st_c, q_st_i]) (by simp (disch := omega) only [q_st_c, q_st_i]) t3, qRowN_c (by simp (disch := omega) only [q_st_c, q_st_i]) (by simp (disch := omega) only [q_st_c, q_st_i]) (by simp (disch := omega) only [q_st_c, q_st_i]) (fun i hi => by simp (disch := omega) only [q_st_c, q_st_i]) t4, qRowN_c (by simp (disch := omega) only [q_st_c, q_st_i]) (by simp (disch := omega) only [q_st_c, q_st_i]) (by simp (disch := omega) only [q_st_c, q_st_i]) (fun i hi => by simp (disch := omega) only [q_st_c, q_st_i]) t5, qCoins_d (by simp (disch := omega) only [q_st_c, q_st_i]) (by simp (disch := omega) only [q_st_c, q_st_i]) (by simp (disch := omega) only [q_st_c, q_st_i]) (by simp (disch := omega) only [q_st_c, q_st_i]) t6, qFull_d (by simp (disch := omega) only [q_st_c, q_st_i]) (by simp (disch := omega) only [q_st_c, q_st_i]) t7⟩ R⟩
    · simp (disch := omega) only [i3, hp, ha, ↓reduceIte, ↓qM_e, ↓q_rem, q_mod, q_modN, q_lit, q_nI, q_lt, q_bd, q_ix, q_dz, q_iflt, q_ifnlt, q_ifeq, q_ifne, q_ifM, q_ifMM, q_ifMlt, q_ifltM, nI_add, pk_mul, q_sub, q_div, q_cl, q_st_s, q_st_i, q_st_c, Nat.add_zero, Nat.zero_add]
    · have e1 : ∀ (a b : Int32), zst (zst k 0 0 (nI 0)) 22 n a 0 42 = nI n := fun a b => by rw [q_st_c (by omega)]; exact k42
      simp (disch := omega) only [i1, i2, k42, n3, ↓reduceIte, ↓qM_e, ↓q_rem, q_mod, q_modN, q_lit, q_nI, q_lt, q_bd, q_ix, q_dz, q_iflt, q_ifnlt, q_ifeq, q_ifne, q_ifM, q_ifMM, q_ifMlt, q_ifltM, nI_add, pk_mul, q_sub, q_div, q_cl, q_st_s, q_st_i, q_st_c, Nat.add_zero, Nat.zero_add]
    · by_cases z : i = n
      · subst z
        refine ⟨m, r, hm0, hm, by omega, ?_, ?_, ?_⟩
        · rw [q_st_c (by omega), q_st_s]
        · rw [q_st_c (by omega), q_st_c (by omega), q_st_s]
        · rw [q_st_c (by omega), q_st_s]
      · obtain ⟨a, b, b1, b2, b3, b4, b5, b6⟩ := n4 i (by omega)
        refine ⟨a, b, b1, b2, b3, ?_, ?_, ?_⟩
        · rw [q_st_c (by omega), q_st_i z]; exact b4
        · rw [q_st_c (by omega), q_st_c (by omega), q_st_i z, q_st_c (by omega)]; exact b5
        · rw [q_st_c (by omega), q_st_i z, q_st_c (by omega), q_st_c (by omega)]; exact b6
  · have hn4 : n = 4 := by omega
    subst hn4
    have ha := q_fullX (v := nI (m * 32 + r)) n2 hz (by omega)
    exact q_ask_c R (-1) (by simp (disch := omega) only [i3, hp, ha, ↓reduceIte, ↓qM_e, ↓q_rem, q_mod, q_modN, q_lit, q_nI, q_lt, q_bd, q_ix, q_dz, q_iflt, q_ifnlt, q_ifeq, q_ifne, q_ifM, q_ifMM, q_ifMlt, q_ifltM, nI_add, pk_mul, q_sub, q_div, q_cl, q_st_s, q_st_i, q_st_c, Nat.add_zero, Nat.zero_add]) (by simp (disch := omega) only [i1, i2, k42, n3, ↓reduceIte, ↓qM_e, ↓q_rem, q_mod, q_modN, q_lit, q_nI, q_lt, q_bd, q_ix, q_dz, q_iflt, q_ifnlt, q_ifeq, q_ifne, q_ifM, q_ifMM, q_ifMlt, q_ifltM, nI_add, pk_mul, q_sub, q_div, q_cl, q_st_s, q_st_i, q_st_c, Nat.add_zero, Nat.zero_add])
theorem q_call_apart {h k : zHp} (R : qRel h k) (a b : Int32) : qCall (f_X10_apart a b h) (f_X11_apart a b k) := by
  obtain ⟨t1, t2, t3, t4, t5, t6, t7⟩ := qRel_T R
  by_cases c1 : a = -1
  · refine ⟨0, zst h 29 1 0, zst (zst k 0 0 0) 0 45 0, ?_, ?_, qRel_told (qXt_st (qXt_rf h) (by omega) (by omega)) (qMt_st (qMt_0 k) rfl) ⟨qTicks_d (by simp (disch := omega) only [q_st_c, q_st_i]) (by simp (disch := omega) only [q_st_c, q_st_i]) (by simp (disch := omega) only [q_st_c, q_st_i]) (by simp (disch := omega) only [q_st_c, q_st_i]) (by simp (disch := omega) only [q_st_c, q_st_i]) t1, ⟨0, by omega, q_st_s, q_st_s, fun i hi => absurd hi (Nat.not_lt_zero i)⟩, qPts_d (by simp (disch := omega) only [q_st_c, q_st_i]) (by simp (disch := omega) only [q_st_c, q_st_i]) (by simp (disch := omega) only [q_st_c, q_st_i]) (by simp (disch := omega) only [q_st_c, q_st_i]) (by simp (disch := omega) only [q_st_c, q_st_i]) t3, qRowN_c (by simp (disch := omega) only [q_st_c, q_st_i]) (by simp (disch := omega) only [q_st_c, q_st_i]) (by simp (disch := omega) only [q_st_c, q_st_i]) (fun i hi => by simp (disch := omega) only [q_st_c, q_st_i]) t4, qRowN_c (by simp (disch := omega) only [q_st_c, q_st_i]) (by simp (disch := omega) only [q_st_c, q_st_i]) (by simp (disch := omega) only [q_st_c, q_st_i]) (fun i hi => by simp (disch := omega) only [q_st_c, q_st_i]) t5, qCoins_d (by simp (disch := omega) only [q_st_c, q_st_i]) (by simp (disch := omega) only [q_st_c, q_st_i]) (by simp (disch := omega) only [q_st_c, q_st_i]) (by simp (disch := omega) only [q_st_c, q_st_i]) t6, qFull_d (by simp (disch := omega) only [q_st_c, q_st_i]) (by simp (disch := omega) only [q_st_c, q_st_i]) t7⟩ R⟩
    · unfold f_X10_apart
      rw [if_pos c1, q_clearX, q_bd]
    · unfold f_X11_apart
      rw [q_lt, if_pos c1, q_lt]
  unfold f_X10_apart f_X11_apart
  rw [if_neg c1, q_lt, if_neg c1]
  obtain ⟨n, n1, n2, n3, n4⟩ := t2
  have hz : zln wX (29 + 1) = 10 := by decide +kernel
  rcases q_rng 0 6 a (by omega) with o | ⟨a, -, hm, rfl⟩
  · exact q_ask_c R (-1) (by simp (disch := omega) only [q_wiO o, ↓reduceIte, ↓qM_e, ↓q_rem, q_mod, q_modN, q_lit, q_nI, q_lt, q_bd, q_ix, q_dz, q_iflt, q_ifnlt, q_ifeq, q_ifne, q_ifM, q_ifMM, q_ifMlt, q_ifltM, nI_add, pk_mul, q_sub, q_div, q_cl, q_st_s, q_st_i, q_st_c, Nat.add_zero, Nat.zero_add]) (by simp (disch := omega) only [q_inO o, ↓reduceIte, ↓qM_e, ↓q_rem, q_mod, q_modN, q_lit, q_nI, q_lt, q_bd, q_ix, q_dz, q_iflt, q_ifnlt, q_ifeq, q_ifne, q_ifM, q_ifMM, q_ifMlt, q_ifltM, nI_add, pk_mul, q_sub, q_div, q_cl, q_st_s, q_st_i, q_st_c, Nat.add_zero, Nat.zero_add])
  have i1 := q_inI (h := zst k 0 0 (nI 0)) (lo := 0) (by omega) hm (by omega)
  have i4 := q_wiI (h := h) hm (by omega)
  rcases q_rng 0 6 b (by omega) with o | ⟨b, -, hr, rfl⟩
  · exact q_ask_c R (-1) (by simp (disch := omega) only [i4, q_wiO o, ↓reduceIte, ↓qM_e, ↓q_rem, q_mod, q_modN, q_lit, q_nI, q_lt, q_bd, q_ix, q_dz, q_iflt, q_ifnlt, q_ifeq, q_ifne, q_ifM, q_ifMM, q_ifMlt, q_ifltM, nI_add, pk_mul, q_sub, q_div, q_cl, q_st_s, q_st_i, q_st_c, Nat.add_zero, Nat.zero_add]) (by simp (disch := omega) only [i1, q_inO o, ↓reduceIte, ↓qM_e, ↓q_rem, q_mod, q_modN, q_lit, q_nI, q_lt, q_bd, q_ix, q_dz, q_iflt, q_ifnlt, q_ifeq, q_ifne, q_ifM, q_ifMM, q_ifMlt, q_ifltM, nI_add, pk_mul, q_sub, q_div, q_cl, q_st_s, q_st_i, q_st_c, Nat.add_zero, Nat.zero_add])
  have i2 := q_inI (h := zst k 0 0 (nI 0)) (lo := 0) (by omega) hr (by omega)
  have i3 := q_wiI (h := h) hr (by omega)
  have k42 : zst k 0 0 (nI 0) 0 45 = nI n := by rw [q_st_i (by omega)]; exact n3
  by_cases hab : a = b
  · exact q_ask_c R (-1) (by simp (disch := omega) only [i4, i3, hab, ↓reduceIte, ↓qM_e, ↓q_rem, q_mod, q_modN, q_lit, q_nI, q_lt, q_bd, q_ix, q_dz, q_iflt, q_ifnlt, q_ifeq, q_ifne, q_ifM, q_ifMM, q_ifMlt, q_ifltM, nI_add, pk_mul, q_sub, q_div, q_cl, q_st_s, q_st_i, q_st_c, Nat.add_zero, Nat.zero_add]) (by simp (disch := omega) only [i1, i2, hab, ↓reduceIte, ↓qM_e, ↓q_rem, q_mod, q_modN, q_lit, q_nI, q_lt, q_bd, q_ix, q_dz, q_iflt, q_ifnlt, q_ifeq, q_ifne, q_ifM, q_ifMM, q_ifMlt, q_ifltM, nI_add, pk_mul, q_sub, q_div, q_cl, q_st_s, q_st_i, q_st_c, Nat.add_zero, Nat.zero_add])
  have hp : f_X8_pair (nI a) (nI b) h = some (nI (a * 32 + b), h) := by
    unfold f_X8_pair
    simp (disch := omega) only [↓reduceIte, ↓qM_e, ↓q_rem, q_mod, q_modN, q_lit, q_nI, q_lt, q_bd, q_ix, q_dz, q_iflt, q_ifnlt, q_ifeq, q_ifne, q_ifM, q_ifMM, q_ifMlt, q_ifltM, nI_add, pk_mul, q_sub, q_div, q_cl, q_st_s, q_st_i, q_st_c, Nat.add_zero, Nat.zero_add]
  rcases Nat.lt_or_ge n 10 with hn | hn
  · have ha := q_addX (v := nI (a * 32 + b)) n2 hz (by omega) hn
    refine ⟨nI (n + 1), zst (zst h 30 n (nI (a * 32 + b))) 29 1 (nI (n + 1)), zst (zst (zst (zst k 0 0 0) 24 n (nI a)) 25 n (nI b)) 0 45 (nI (n + 1)), ?_, ?_, qRel_told (qXt_st (qXt_st (qXt_rf h) (by omega) (by omega)) (by omega) (by omega)) (qMt_st (qMt_st (qMt_st (qMt_0 k) rfl) rfl) rfl) ⟨qTicks_d (by simp (disch := omega) only [q_st_c, q_st_i]) (by simp (disch := omega) only [q_st_c, q_st_i]) (by simp (disch := omega) only [q_st_c, q_st_i]) (by simp (disch := omega) only [q_st_c, q_st_i]) (by simp (disch := omega) only [q_st_c, q_st_i]) t1, ⟨n + 1, by omega, q_st_s, q_st_s, fun i hi => ?_⟩, qPts_d (by simp (disch := omega) only [q_st_c, q_st_i]) (by simp (disch := omega) only [q_st_c, q_st_i]) (by simp (disch := omega) only [q_st_c, q_st_i]) (by simp (disch := omega) only [q_st_c, q_st_i]) (by simp (disch := omega) only [q_st_c, q_st_i]) t3, qRowN_c (by simp (disch := omega) only [q_st_c, q_st_i]) (by simp (disch := omega) only [q_st_c, q_st_i]) (by simp (disch := omega) only [q_st_c, q_st_i]) (fun i hi => by simp (disch := omega) only [q_st_c, q_st_i]) t4, qRowN_c (by simp (disch := omega) only [q_st_c, q_st_i]) (by simp (disch := omega) only [q_st_c, q_st_i]) (by simp (disch := omega) only [q_st_c, q_st_i]) (fun i hi => by simp (disch := omega) only [q_st_c, q_st_i]) t5, qCoins_d (by simp (disch := omega) only [q_st_c, q_st_i]) (by simp (disch := omega) only [q_st_c, q_st_i]) (by simp (disch := omega) only [q_st_c, q_st_i]) (by simp (disch := omega) only [q_st_c, q_st_i]) t6, qFull_d (by simp (disch := omega) only [q_st_c, q_st_i]) (by simp (disch := omega) only [q_st_c, q_st_i]) t7⟩ R⟩
    · simp (disch := omega) only [i4, i3, hp, ha, ↓reduceIte, ↓qM_e, ↓q_rem, q_mod, q_modN, q_lit, q_nI, q_lt, q_bd, q_ix, q_dz, q_iflt, q_ifnlt, q_ifeq, q_ifne, q_ifM, q_ifMM, q_ifMlt, q_ifltM, nI_add, pk_mul, q_sub, q_div, q_cl, q_st_s, q_st_i, q_st_c, Nat.add_zero, Nat.zero_add]
    · simp (disch := omega) only [i1, i2, k42, n3, ↓reduceIte, ↓qM_e, ↓q_rem, q_mod, q_modN, q_lit, q_nI, q_lt, q_bd, q_ix, q_dz, q_iflt, q_ifnlt, q_ifeq, q_ifne, q_ifM, q_ifMM, q_ifMlt, q_ifltM, nI_add, pk_mul, q_sub, q_div, q_cl, q_st_s, q_st_i, q_st_c, Nat.add_zero, Nat.zero_add]
    · by_cases z : i = n
      · subst z
        refine ⟨a, b, by omega, by omega, hab, ?_, ?_, ?_⟩
        · rw [q_st_c (by omega), q_st_s]
        · rw [q_st_c (by omega), q_st_c (by omega), q_st_s]
        · rw [q_st_c (by omega), q_st_s]
      · obtain ⟨x, y, b1, b2, b3, b4, b5, b6⟩ := n4 i (by omega)
        refine ⟨x, y, b1, b2, b3, ?_, ?_, ?_⟩
        · rw [q_st_c (by omega), q_st_i z]; exact b4
        · rw [q_st_c (by omega), q_st_c (by omega), q_st_i z, q_st_c (by omega)]; exact b5
        · rw [q_st_c (by omega), q_st_i z, q_st_c (by omega), q_st_c (by omega)]; exact b6
  · have hn4 : n = 10 := by omega
    subst hn4
    have ha := q_fullX (v := nI (a * 32 + b)) n2 hz (by omega)
    exact q_ask_c R (-1) (by simp (disch := omega) only [i4, i3, hp, ha, ↓reduceIte, ↓qM_e, ↓q_rem, q_mod, q_modN, q_lit, q_nI, q_lt, q_bd, q_ix, q_dz, q_iflt, q_ifnlt, q_ifeq, q_ifne, q_ifM, q_ifMM, q_ifMlt, q_ifltM, nI_add, pk_mul, q_sub, q_div, q_cl, q_st_s, q_st_i, q_st_c, Nat.add_zero, Nat.zero_add]) (by simp (disch := omega) only [i1, i2, k42, n3, ↓reduceIte, ↓qM_e, ↓q_rem, q_mod, q_modN, q_lit, q_nI, q_lt, q_bd, q_ix, q_dz, q_iflt, q_ifnlt, q_ifeq, q_ifne, q_ifM, q_ifMM, q_ifMlt, q_ifltM, nI_add, pk_mul, q_sub, q_div, q_cl, q_st_s, q_st_i, q_st_c, Nat.add_zero, Nat.zero_add])
theorem q_call_weight {h k : zHp} (R : qRel h k) (v : Int32) : qCall (f_X10_weight v h) (f_X11_weight v k) := by
  obtain ⟨t1, t2, t3, t4, t5, t6, t7⟩ := qRel_T R
  by_cases c1 : v = -1
  · refine ⟨0, zst h 33 1 0, zst (zst k 0 0 0) 0 56 0, ?_, ?_, qRel_told (qXt_st (qXt_rf h) (by omega) (by omega)) (qMt_st (qMt_0 k) rfl) ⟨qTicks_d (by simp (disch := omega) only [q_st_c, q_st_i]) (by simp (disch := omega) only [q_st_c, q_st_i]) (by simp (disch := omega) only [q_st_c, q_st_i]) (by simp (disch := omega) only [q_st_c, q_st_i]) (by simp (disch := omega) only [q_st_c, q_st_i]) t1, qWont_d (by simp (disch := omega) only [q_st_c, q_st_i]) (by simp (disch := omega) only [q_st_c, q_st_i]) (by simp (disch := omega) only [q_st_c, q_st_i]) (by simp (disch := omega) only [q_st_c, q_st_i]) (by simp (disch := omega) only [q_st_c, q_st_i]) t2, qPts_d (by simp (disch := omega) only [q_st_c, q_st_i]) (by simp (disch := omega) only [q_st_c, q_st_i]) (by simp (disch := omega) only [q_st_c, q_st_i]) (by simp (disch := omega) only [q_st_c, q_st_i]) (by simp (disch := omega) only [q_st_c, q_st_i]) t3, ⟨0, by omega, q_st_s, q_st_s, fun i hi => absurd hi (Nat.not_lt_zero i)⟩, qRowN_c (by simp (disch := omega) only [q_st_c, q_st_i]) (by simp (disch := omega) only [q_st_c, q_st_i]) (by simp (disch := omega) only [q_st_c, q_st_i]) (fun i hi => by simp (disch := omega) only [q_st_c, q_st_i]) t5, qCoins_d (by simp (disch := omega) only [q_st_c, q_st_i]) (by simp (disch := omega) only [q_st_c, q_st_i]) (by simp (disch := omega) only [q_st_c, q_st_i]) (by simp (disch := omega) only [q_st_c, q_st_i]) t6, qFull_d (by simp (disch := omega) only [q_st_c, q_st_i]) (by simp (disch := omega) only [q_st_c, q_st_i]) t7⟩ R⟩
    · unfold f_X10_weight
      rw [if_pos c1, q_clearX, q_bd]
    · unfold f_X11_weight
      rw [q_lt, if_pos c1, q_lt]
  unfold f_X10_weight f_X11_weight
  rw [if_neg c1, q_lt, if_neg c1]
  obtain ⟨n, n1, n2, n3, n4⟩ := t4
  have hz : zln wX (33 + 1) = 9 := by decide +kernel
  rcases q_rng 1 99 v (by omega) with o | ⟨v, hm0, hm, rfl⟩
  · exact q_ask_c R (-1) (by simp (disch := omega) only [q_out2 o, ↓reduceIte, ↓qM_e, ↓q_rem, q_mod, q_modN, q_lit, q_nI, q_lt, q_bd, q_ix, q_dz, q_iflt, q_ifnlt, q_ifeq, q_ifne, q_ifM, q_ifMM, q_ifMlt, q_ifltM, nI_add, pk_mul, q_sub, q_div, q_cl, q_st_s, q_st_i, q_st_c, Nat.add_zero, Nat.zero_add]) (by simp (disch := omega) only [q_inO o, ↓reduceIte, ↓qM_e, ↓q_rem, q_mod, q_modN, q_lit, q_nI, q_lt, q_bd, q_ix, q_dz, q_iflt, q_ifnlt, q_ifeq, q_ifne, q_ifM, q_ifMM, q_ifMlt, q_ifltM, nI_add, pk_mul, q_sub, q_div, q_cl, q_st_s, q_st_i, q_st_c, Nat.add_zero, Nat.zero_add])
  have i1 := q_inI (h := zst k 0 0 (nI 0)) hm0 hm (by omega)
  have k42 : zst k 0 0 (nI 0) 0 56 = nI n := by rw [q_st_i (by omega)]; exact n3
  rcases Nat.lt_or_ge n 9 with hn | hn
  · have ha := q_addX (v := nI v) n2 hz (by omega) hn
    refine ⟨nI (n + 1), zst (zst h 34 n (nI v)) 33 1 (nI (n + 1)), zst (zst (zst k 0 0 0) 32 n (nI v)) 0 56 (nI (n + 1)), ?_, ?_, qRel_told (qXt_st (qXt_st (qXt_rf h) (by omega) (by omega)) (by omega) (by omega)) (qMt_st (qMt_st (qMt_0 k) rfl) rfl) ⟨qTicks_d (by simp (disch := omega) only [q_st_c, q_st_i]) (by simp (disch := omega) only [q_st_c, q_st_i]) (by simp (disch := omega) only [q_st_c, q_st_i]) (by simp (disch := omega) only [q_st_c, q_st_i]) (by simp (disch := omega) only [q_st_c, q_st_i]) t1, qWont_d (by simp (disch := omega) only [q_st_c, q_st_i]) (by simp (disch := omega) only [q_st_c, q_st_i]) (by simp (disch := omega) only [q_st_c, q_st_i]) (by simp (disch := omega) only [q_st_c, q_st_i]) (by simp (disch := omega) only [q_st_c, q_st_i]) t2, qPts_d (by simp (disch := omega) only [q_st_c, q_st_i]) (by simp (disch := omega) only [q_st_c, q_st_i]) (by simp (disch := omega) only [q_st_c, q_st_i]) (by simp (disch := omega) only [q_st_c, q_st_i]) (by simp (disch := omega) only [q_st_c, q_st_i]) t3, ⟨n + 1, by omega, q_st_s, q_st_s, fun i hi => ?_⟩, qRowN_c (by simp (disch := omega) only [q_st_c, q_st_i]) (by simp (disch := omega) only [q_st_c, q_st_i]) (by simp (disch := omega) only [q_st_c, q_st_i]) (fun i hi => by simp (disch := omega) only [q_st_c, q_st_i]) t5, qCoins_d (by simp (disch := omega) only [q_st_c, q_st_i]) (by simp (disch := omega) only [q_st_c, q_st_i]) (by simp (disch := omega) only [q_st_c, q_st_i]) (by simp (disch := omega) only [q_st_c, q_st_i]) t6, qFull_d (by simp (disch := omega) only [q_st_c, q_st_i]) (by simp (disch := omega) only [q_st_c, q_st_i]) t7⟩ R⟩
    · simp (disch := omega) only [ha, ↓reduceIte, ↓qM_e, ↓q_rem, q_mod, q_modN, q_lit, q_nI, q_lt, q_bd, q_ix, q_dz, q_iflt, q_ifnlt, q_ifeq, q_ifne, q_ifM, q_ifMM, q_ifMlt, q_ifltM, nI_add, pk_mul, q_sub, q_div, q_cl, q_st_s, q_st_i, q_st_c, Nat.add_zero, Nat.zero_add]
    · simp (disch := omega) only [i1, k42, n3, ↓reduceIte, ↓qM_e, ↓q_rem, q_mod, q_modN, q_lit, q_nI, q_lt, q_bd, q_ix, q_dz, q_iflt, q_ifnlt, q_ifeq, q_ifne, q_ifM, q_ifMM, q_ifMlt, q_ifltM, nI_add, pk_mul, q_sub, q_div, q_cl, q_st_s, q_st_i, q_st_c, Nat.add_zero, Nat.zero_add]
    · by_cases z : i = n
      · subst z
        refine ⟨v, hm0, hm, ?_, ?_⟩
        · rw [q_st_c (by omega), q_st_s]
        · rw [q_st_c (by omega), q_st_s]
      · obtain ⟨x, b1, b2, b4, b5⟩ := n4 i (by omega)
        refine ⟨x, b1, b2, ?_, ?_⟩
        · rw [q_st_c (by omega), q_st_i z]; exact b4
        · rw [q_st_c (by omega), q_st_i z, q_st_c (by omega)]; exact b5
  · have hn4 : n = 9 := by omega
    subst hn4
    have ha := q_fullX (v := nI v) n2 hz (by omega)
    exact q_ask_c R (-1) (by simp (disch := omega) only [ha, ↓reduceIte, ↓qM_e, ↓q_rem, q_mod, q_modN, q_lit, q_nI, q_lt, q_bd, q_ix, q_dz, q_iflt, q_ifnlt, q_ifeq, q_ifne, q_ifM, q_ifMM, q_ifMlt, q_ifltM, nI_add, pk_mul, q_sub, q_div, q_cl, q_st_s, q_st_i, q_st_c, Nat.add_zero, Nat.zero_add]) (by simp (disch := omega) only [i1, k42, n3, ↓reduceIte, ↓qM_e, ↓q_rem, q_mod, q_modN, q_lit, q_nI, q_lt, q_bd, q_ix, q_dz, q_iflt, q_ifnlt, q_ifeq, q_ifne, q_ifM, q_ifMM, q_ifMlt, q_ifltM, nI_add, pk_mul, q_sub, q_div, q_cl, q_st_s, q_st_i, q_st_c, Nat.add_zero, Nat.zero_add])
/-- the reference's looking for a number -/
theorem q_isStep {k : zHp} {n : Nat} (hn : n ≤ 10) (hc : k 0 60 = nI n) (v : Int32) : (∃ i, i < n ∧ k 35 i = v) ∧ f_X11_isStep v k = some (nI 1, k) ∨ (¬ ∃ i, i < n ∧ k 35 i = v) ∧ f_X11_isStep v k = some (nI 0, k) := by
  obtain ⟨e, e1, e2, e3⟩ := q_least (fun i => k 35 i = v) n
  have go : f_X11_isStep v k = if e < n then some (nI 1, k) else some (nI 0, k) := by
    unfold f_X11_isStep f_X11_isStep_2_lp
    refine q_for (S := fun i => (v, nI i, k)) e (fun i hi rec => ?_) (fun rec => ?_) zN (by rw [q_zN]; omega)
    · have := e2 i hi
      simp only [f_X11_isStep_2]
      simp (disch := omega) only [f_X11_isStep_2, hc, q_ifF this, ↓reduceIte, ↓qM_e, ↓q_rem, q_mod, q_modN, q_lit, q_nI, q_lt, q_bd, q_ix, q_dz, q_iflt, q_ifnlt, q_ifeq, q_ifne, q_ifM, q_ifMM, q_ifMlt, q_ifltM, nI_add, pk_mul, q_sub, q_div, q_cl, q_st_s, q_st_i, q_st_c, Nat.add_zero, Nat.zero_add]
    · rcases Nat.lt_or_ge e n with z | z
      · have := e3 z
        rw [if_pos z]
        simp only [f_X11_isStep_2]
        simp (disch := omega) only [f_X11_isStep_2, hc, q_ifT this, ↓reduceIte, ↓qM_e, ↓q_rem, q_mod, q_modN, q_lit, q_nI, q_lt, q_bd, q_ix, q_dz, q_iflt, q_ifnlt, q_ifeq, q_ifne, q_ifM, q_ifMM, q_ifMlt, q_ifltM, nI_add, pk_mul, q_sub, q_div, q_cl, q_st_s, q_st_i, q_st_c, Nat.add_zero, Nat.zero_add]
      · rw [if_neg (by omega)]
        simp only [f_X11_isStep_2]
        simp (disch := omega) only [f_X11_isStep_2, hc, ↓reduceIte, ↓qM_e, ↓q_rem, q_mod, q_modN, q_lit, q_nI, q_lt, q_bd, q_ix, q_dz, q_iflt, q_ifnlt, q_ifeq, q_ifne, q_ifM, q_ifMM, q_ifMlt, q_ifltM, nI_add, pk_mul, q_sub, q_div, q_cl, q_st_s, q_st_i, q_st_c, Nat.add_zero, Nat.zero_add]
  rcases Nat.lt_or_ge e n with z | z
  · rw [if_pos z] at go
    exact Or.inl ⟨⟨e, z, e3 z⟩, go⟩
  · rw [if_neg (by omega)] at go
    refine Or.inr ⟨fun q => ?_, go⟩
    obtain ⟨i, i1, i2⟩ := q
    exact e2 i (by omega) i2
theorem q_isCoin {k : zHp} {n : Nat} (hn : n ≤ 6) (hc : k 0 62 = nI n) (v : Int32) : (∃ i, i < n ∧ k 36 i = v) ∧ f_X11_isCoin v k = some (nI 1, k) ∨ (¬ ∃ i, i < n ∧ k 36 i = v) ∧ f_X11_isCoin v k = some (nI 0, k) := by
  obtain ⟨e, e1, e2, e3⟩ := q_least (fun i => k 36 i = v) n
  have go : f_X11_isCoin v k = if e < n then some (nI 1, k) else some (nI 0, k) := by
    unfold f_X11_isCoin f_X11_isCoin_2_lp
    refine q_for (S := fun i => (v, nI i, k)) e (fun i hi rec => ?_) (fun rec => ?_) zN (by rw [q_zN]; omega)
    · have := e2 i hi
      simp only [f_X11_isCoin_2]
      simp (disch := omega) only [f_X11_isCoin_2, hc, q_ifF this, ↓reduceIte, ↓qM_e, ↓q_rem, q_mod, q_modN, q_lit, q_nI, q_lt, q_bd, q_ix, q_dz, q_iflt, q_ifnlt, q_ifeq, q_ifne, q_ifM, q_ifMM, q_ifMlt, q_ifltM, nI_add, pk_mul, q_sub, q_div, q_cl, q_st_s, q_st_i, q_st_c, Nat.add_zero, Nat.zero_add]
    · rcases Nat.lt_or_ge e n with z | z
      · have := e3 z
        rw [if_pos z]
        simp only [f_X11_isCoin_2]
        simp (disch := omega) only [f_X11_isCoin_2, hc, q_ifT this, ↓reduceIte, ↓qM_e, ↓q_rem, q_mod, q_modN, q_lit, q_nI, q_lt, q_bd, q_ix, q_dz, q_iflt, q_ifnlt, q_ifeq, q_ifne, q_ifM, q_ifMM, q_ifMlt, q_ifltM, nI_add, pk_mul, q_sub, q_div, q_cl, q_st_s, q_st_i, q_st_c, Nat.add_zero, Nat.zero_add]
      · rw [if_neg (by omega)]
        simp only [f_X11_isCoin_2]
        simp (disch := omega) only [f_X11_isCoin_2, hc, ↓reduceIte, ↓qM_e, ↓q_rem, q_mod, q_modN, q_lit, q_nI, q_lt, q_bd, q_ix, q_dz, q_iflt, q_ifnlt, q_ifeq, q_ifne, q_ifM, q_ifMM, q_ifMlt, q_ifltM, nI_add, pk_mul, q_sub, q_div, q_cl, q_st_s, q_st_i, q_st_c, Nat.add_zero, Nat.zero_add]
  rcases Nat.lt_or_ge e n with z | z
  · rw [if_pos z] at go
    exact Or.inl ⟨⟨e, z, e3 z⟩, go⟩
  · rw [if_neg (by omega)] at go
    refine Or.inr ⟨fun q => ?_, go⟩
    obtain ⟨i, i1, i2⟩ := q
    exact e2 i (by omega) i2
theorem q_call_step {h k : zHp} (R : qRel h k) (v : Int32) : qCall (f_X10_step v h) (f_X11_step v k) := by
  obtain ⟨t1, t2, t3, t4, t5, t6, t7⟩ := qRel_T R
  by_cases c1 : v = -1
  · refine ⟨0, zst h 35 1 0, zst (zst k 0 0 0) 0 60 0, ?_, ?_, qRel_told (qXt_st (qXt_rf h) (by omega) (by omega)) (qMt_st (qMt_0 k) rfl) ⟨qTicks_d (by simp (disch := omega) only [q_st_c, q_st_i]) (by simp (disch := omega) only [q_st_c, q_st_i]) (by simp (disch := omega) only [q_st_c, q_st_i]) (by simp (disch := omega) only [q_st_c, q_st_i]) (by simp (disch := omega) only [q_st_c, q_st_i]) t1, qWont_d (by simp (disch := omega) only [q_st_c, q_st_i]) (by simp (disch := omega) only [q_st_c, q_st_i]) (by simp (disch := omega) only [q_st_c, q_st_i]) (by simp (disch := omega) only [q_st_c, q_st_i]) (by simp (disch := omega) only [q_st_c, q_st_i]) t2, qPts_d (by simp (disch := omega) only [q_st_c, q_st_i]) (by simp (disch := omega) only [q_st_c, q_st_i]) (by simp (disch := omega) only [q_st_c, q_st_i]) (by simp (disch := omega) only [q_st_c, q_st_i]) (by simp (disch := omega) only [q_st_c, q_st_i]) t3, qRowN_c (by simp (disch := omega) only [q_st_c, q_st_i]) (by simp (disch := omega) only [q_st_c, q_st_i]) (by simp (disch := omega) only [q_st_c, q_st_i]) (fun i hi => by simp (disch := omega) only [q_st_c, q_st_i]) t4, ⟨0, by omega, q_st_s, q_st_s, fun i hi => absurd hi (Nat.not_lt_zero i)⟩, qCoins_d (by simp (disch := omega) only [q_st_c, q_st_i]) (by simp (disch := omega) only [q_st_c, q_st_i]) (by simp (disch := omega) only [q_st_c, q_st_i]) (by simp (disch := omega) only [q_st_c, q_st_i]) t6, qFull_d (by simp (disch := omega) only [q_st_c, q_st_i]) (by simp (disch := omega) only [q_st_c, q_st_i]) t7⟩ R⟩
    · unfold f_X10_step
      rw [if_pos c1, q_clearX, q_bd]
    · unfold f_X11_step
      rw [q_lt, if_pos c1, q_lt]
  unfold f_X10_step f_X11_step
  rw [if_neg c1, q_lt, if_neg c1]
  obtain ⟨n, n1, n2, n3, n4⟩ := t5
  have hz : zln wX (35 + 1) = 10 := by decide +kernel
  rcases q_rng 0 60 v (by omega) with o | ⟨v, -, hm, rfl⟩
  · exact q_ask_c R (-1) (by simp (disch := omega) only [q_wiO o, ↓reduceIte, ↓qM_e, ↓q_rem, q_mod, q_modN, q_lit, q_nI, q_lt, q_bd, q_ix, q_dz, q_iflt, q_ifnlt, q_ifeq, q_ifne, q_ifM, q_ifMM, q_ifMlt, q_ifltM, nI_add, pk_mul, q_sub, q_div, q_cl, q_st_s, q_st_i, q_st_c, Nat.add_zero, Nat.zero_add]) (by simp (disch := omega) only [q_inO o, ↓reduceIte, ↓qM_e, ↓q_rem, q_mod, q_modN, q_lit, q_nI, q_lt, q_bd, q_ix, q_dz, q_iflt, q_ifnlt, q_ifeq, q_ifne, q_ifM, q_ifMM, q_ifMlt, q_ifltM, nI_add, pk_mul, q_sub, q_div, q_cl, q_st_s, q_st_i, q_st_c, Nat.add_zero, Nat.zero_add])
  have i1 := q_inI (h := zst k 0 0 (nI 0)) (lo := 0) (by omega) hm (by omega)
  have i4 := q_wiI (h := h) hm (by omega)
  have k42 : zst k 0 0 (nI 0) 0 60 = nI n := by rw [q_st_i (by omega)]; exact n3
  have same : (∃ i, i < n ∧ h 36 i = nI v) ↔ ∃ i, i < n ∧ zst k 0 0 (nI 0) 35 i = nI v := by
    constructor <;> rintro ⟨i, i1, i2⟩
    · obtain ⟨x, -, -, b4, b5⟩ := n4 i i1
      refine ⟨i, i1, ?_⟩
      rw [q_st_c (by omega), b5, ← b4]; exact i2
    · obtain ⟨x, -, -, b4, b5⟩ := n4 i i1
      refine ⟨i, i1, ?_⟩
      rw [q_st_c (by omega), b5] at i2
      have b4' : h 36 i = nI x := b4
      rw [b4']; exact i2
  rcases q_addUX (v := nI v) n2 hz (by omega) n1 with ⟨s1, s2⟩ | ⟨s1, s2⟩
  · rcases q_isStep n1 k42 (nI v) with ⟨r1, r2⟩ | ⟨r1, r2⟩
    · refine q_ask_c R (-1) (by simp (disch := omega) only [i4, s2, ↓reduceIte, ↓qM_e, ↓q_rem, q_mod, q_modN, q_lit, q_nI, q_lt, q_bd, q_ix, q_dz, q_iflt, q_ifnlt, q_ifeq, q_ifne, q_ifM, q_ifMM, q_ifMlt, q_ifltM, nI_add, pk_mul, q_sub, q_div, q_cl, q_st_s, q_st_i, q_st_c, Nat.add_zero, Nat.zero_add]) ?_
      rcases Nat.lt_or_ge n 10 with hn | hn
      · simp (disch := omega) only [i1, n3, r2, ↓reduceIte, ↓qM_e, ↓q_rem, q_mod, q_modN, q_lit, q_nI, q_lt, q_bd, q_ix, q_dz, q_iflt, q_ifnlt, q_ifeq, q_ifne, q_ifM, q_ifMM, q_ifMlt, q_ifltM, nI_add, pk_mul, q_sub, q_div, q_cl, q_st_s, q_st_i, q_st_c, Nat.add_zero, Nat.zero_add]
      · have hn4 : n = 10 := by omega
        subst hn4
        simp (disch := omega) only [i1, n3, ↓reduceIte, ↓qM_e, ↓q_rem, q_mod, q_modN, q_lit, q_nI, q_lt, q_bd, q_ix, q_dz, q_iflt, q_ifnlt, q_ifeq, q_ifne, q_ifM, q_ifMM, q_ifMlt, q_ifltM, nI_add, pk_mul, q_sub, q_div, q_cl, q_st_s, q_st_i, q_st_c, Nat.add_zero, Nat.zero_add]
    · exact absurd (same.mp s1) r1
  · rcases q_isStep n1 k42 (nI v) with ⟨r1, r2⟩ | ⟨r1, r2⟩
    · exact absurd (same.mpr r1) s1
    · rcases Nat.lt_or_ge n 10 with hn | hn
      · have ha := q_addX (v := nI v) n2 hz (by omega) hn
        refine ⟨nI (n + 1), zst (zst h 36 n (nI v)) 35 1 (nI (n + 1)), zst (zst (zst k 0 0 0) 35 n (nI v)) 0 60 (nI (n + 1)), ?_, ?_, qRel_told (qXt_st (qXt_st (qXt_rf h) (by omega) (by omega)) (by omega) (by omega)) (qMt_st (qMt_st (qMt_0 k) rfl) rfl) ⟨qTicks_d (by simp (disch := omega) only [q_st_c, q_st_i]) (by simp (disch := omega) only [q_st_c, q_st_i]) (by simp (disch := omega) only [q_st_c, q_st_i]) (by simp (disch := omega) only [q_st_c, q_st_i]) (by simp (disch := omega) only [q_st_c, q_st_i]) t1, qWont_d (by simp (disch := omega) only [q_st_c, q_st_i]) (by simp (disch := omega) only [q_st_c, q_st_i]) (by simp (disch := omega) only [q_st_c, q_st_i]) (by simp (disch := omega) only [q_st_c, q_st_i]) (by simp (disch := omega) only [q_st_c, q_st_i]) t2, qPts_d (by simp (disch := omega) only [q_st_c, q_st_i]) (by simp (disch := omega) only [q_st_c, q_st_i]) (by simp (disch := omega) only [q_st_c, q_st_i]) (by simp (disch := omega) only [q_st_c, q_st_i]) (by simp (disch := omega) only [q_st_c, q_st_i]) t3, qRowN_c (by simp (disch := omega) only [q_st_c, q_st_i]) (by simp (disch := omega) only [q_st_c, q_st_i]) (by simp (disch := omega) only [q_st_c, q_st_i]) (fun i hi => by simp (disch := omega) only [q_st_c, q_st_i]) t4, ⟨n + 1, by omega, q_st_s, q_st_s, fun i hi => ?_⟩, qCoins_d (by simp (disch := omega) only [q_st_c, q_st_i]) (by simp (disch := omega) only [q_st_c, q_st_i]) (by simp (disch := omega) only [q_st_c, q_st_i]) (by simp (disch := omega) only [q_st_c, q_st_i]) t6, qFull_d (by simp (disch := omega) only [q_st_c, q_st_i]) (by simp (disch := omega) only [q_st_c, q_st_i]) t7⟩ R⟩
        · simp (disch := omega) only [i4, s2, ha, ↓reduceIte, ↓qM_e, ↓q_rem, q_mod, q_modN, q_lit, q_nI, q_lt, q_bd, q_ix, q_dz, q_iflt, q_ifnlt, q_ifeq, q_ifne, q_ifM, q_ifMM, q_ifMlt, q_ifltM, nI_add, pk_mul, q_sub, q_div, q_cl, q_st_s, q_st_i, q_st_c, Nat.add_zero, Nat.zero_add]
        · simp (disch := omega) only [i1, r2, n3, ↓reduceIte, ↓qM_e, ↓q_rem, q_mod, q_modN, q_lit, q_nI, q_lt, q_bd, q_ix, q_dz, q_iflt, q_ifnlt, q_ifeq, q_ifne, q_ifM, q_ifMM, q_ifMlt, q_ifltM, nI_add, pk_mul, q_sub, q_div, q_cl, q_st_s, q_st_i, q_st_c, Nat.add_zero, Nat.zero_add]
        · by_cases z : i = n
          · subst z
            refine ⟨v, Nat.zero_le _, hm, ?_, ?_⟩
            · rw [q_st_c (by omega), q_st_s]
            · rw [q_st_c (by omega), q_st_s]
          · obtain ⟨x, b1, b2, b4, b5⟩ := n4 i (by omega)
            refine ⟨x, b1, b2, ?_, ?_⟩
            · rw [q_st_c (by omega), q_st_i z]; exact b4
            · rw [q_st_c (by omega), q_st_i z, q_st_c (by omega)]; exact b5
      · have hn4 : n = 10 := by omega
        subst hn4
        have ha := q_fullX (v := nI v) n2 hz (by omega)
        exact q_ask_c R (-1) (by simp (disch := omega) only [i4, s2, ha, ↓reduceIte, ↓qM_e, ↓q_rem, q_mod, q_modN, q_lit, q_nI, q_lt, q_bd, q_ix, q_dz, q_iflt, q_ifnlt, q_ifeq, q_ifne, q_ifM, q_ifMM, q_ifMlt, q_ifltM, nI_add, pk_mul, q_sub, q_div, q_cl, q_st_s, q_st_i, q_st_c, Nat.add_zero, Nat.zero_add]) (by simp (disch := omega) only [i1, n3, ↓reduceIte, ↓qM_e, ↓q_rem, q_mod, q_modN, q_lit, q_nI, q_lt, q_bd, q_ix, q_dz, q_iflt, q_ifnlt, q_ifeq, q_ifne, q_ifM, q_ifMM, q_ifMlt, q_ifltM, nI_add, pk_mul, q_sub, q_div, q_cl, q_st_s, q_st_i, q_st_c, Nat.add_zero, Nat.zero_add])
theorem q_call_coin {h k : zHp} (R : qRel h k) (v : Int32) : qCall (f_X10_coin v h) (f_X11_coin v k) := by
  obtain ⟨t1, t2, t3, t4, t5, t6, t7⟩ := qRel_T R
  by_cases c1 : v = -1
  · refine ⟨0, zst h 37 1 0, zst (zst k 0 0 0) 0 62 0, ?_, ?_, qRel_told (qXt_st (qXt_rf h) (by omega) (by omega)) (qMt_st (qMt_0 k) rfl) ⟨qTicks_d (by simp (disch := omega) only [q_st_c, q_st_i]) (by simp (disch := omega) only [q_st_c, q_st_i]) (by simp (disch := omega) only [q_st_c, q_st_i]) (by simp (disch := omega) only [q_st_c, q_st_i]) (by simp (disch := omega) only [q_st_c, q_st_i]) t1, qWont_d (by simp (disch := omega) only [q_st_c, q_st_i]) (by simp (disch := omega) only [q_st_c, q_st_i]) (by simp (disch := omega) only [q_st_c, q_st_i]) (by simp (disch := omega) only [q_st_c, q_st_i]) (by simp (disch := omega) only [q_st_c, q_st_i]) t2, qPts_d (by simp (disch := omega) only [q_st_c, q_st_i]) (by simp (disch := omega) only [q_st_c, q_st_i]) (by simp (disch := omega) only [q_st_c, q_st_i]) (by simp (disch := omega) only [q_st_c, q_st_i]) (by simp (disch := omega) only [q_st_c, q_st_i]) t3, qRowN_c (by simp (disch := omega) only [q_st_c, q_st_i]) (by simp (disch := omega) only [q_st_c, q_st_i]) (by simp (disch := omega) only [q_st_c, q_st_i]) (fun i hi => by simp (disch := omega) only [q_st_c, q_st_i]) t4, qRowN_c (by simp (disch := omega) only [q_st_c, q_st_i]) (by simp (disch := omega) only [q_st_c, q_st_i]) (by simp (disch := omega) only [q_st_c, q_st_i]) (fun i hi => by simp (disch := omega) only [q_st_c, q_st_i]) t5, ⟨0, by omega, q_st_s, q_st_s, fun i hi => absurd hi (Nat.not_lt_zero i), fun i j hi => absurd hi (Nat.not_lt_zero i)⟩, qFull_d (by simp (disch := omega) only [q_st_c, q_st_i]) (by simp (disch := omega) only [q_st_c, q_st_i]) t7⟩ R⟩
    · unfold f_X10_coin
      rw [if_pos c1, q_clearX, q_bd]
    · unfold f_X11_coin
      rw [q_lt, if_pos c1, q_lt]
  unfold f_X10_coin f_X11_coin
  rw [if_neg c1, q_lt, if_neg c1]
  obtain ⟨n, n1, n2, n3, n4, n5⟩ := t6
  have hz : zln wX (37 + 1) = 6 := by decide +kernel
  rcases q_rng 0 40 v (by omega) with o | ⟨v, -, hm, rfl⟩
  · exact q_ask_c R (-1) (by simp (disch := omega) only [q_wiO o, ↓reduceIte, ↓qM_e, ↓q_rem, q_mod, q_modN, q_lit, q_nI, q_lt, q_bd, q_ix, q_dz, q_iflt, q_ifnlt, q_ifeq, q_ifne, q_ifM, q_ifMM, q_ifMlt, q_ifltM, nI_add, pk_mul, q_sub, q_div, q_cl, q_st_s, q_st_i, q_st_c, Nat.add_zero, Nat.zero_add]) (by simp (disch := omega) only [q_inO o, ↓reduceIte, ↓qM_e, ↓q_rem, q_mod, q_modN, q_lit, q_nI, q_lt, q_bd, q_ix, q_dz, q_iflt, q_ifnlt, q_ifeq, q_ifne, q_ifM, q_ifMM, q_ifMlt, q_ifltM, nI_add, pk_mul, q_sub, q_div, q_cl, q_st_s, q_st_i, q_st_c, Nat.add_zero, Nat.zero_add])
  have i1 := q_inI (h := zst k 0 0 (nI 0)) (lo := 0) (by omega) hm (by omega)
  have i4 := q_wiI (h := h) hm (by omega)
  have k42 : zst k 0 0 (nI 0) 0 62 = nI n := by rw [q_st_i (by omega)]; exact n3
  have same : (∃ i, i < n ∧ h 38 i = nI v) ↔ ∃ i, i < n ∧ zst k 0 0 (nI 0) 36 i = nI v := by
    constructor <;> rintro ⟨i, i1, i2⟩
    · obtain ⟨x, -, b4, b5⟩ := n4 i i1
      refine ⟨i, i1, ?_⟩
      rw [q_st_c (by omega), b5, ← b4]; exact i2
    · obtain ⟨x, -, b4, b5⟩ := n4 i i1
      refine ⟨i, i1, ?_⟩
      rw [q_st_c (by omega), b5] at i2
      have b4' : h 38 i = nI x := b4
      rw [b4']; exact i2
  rcases q_addUX (v := nI v) n2 hz (by omega) n1 with ⟨s1, s2⟩ | ⟨s1, s2⟩
  · rcases q_isCoin n1 k42 (nI v) with ⟨r1, r2⟩ | ⟨r1, r2⟩
    · refine q_ask_c R (-1) (by simp (disch := omega) only [i4, s2, ↓reduceIte, ↓qM_e, ↓q_rem, q_mod, q_modN, q_lit, q_nI, q_lt, q_bd, q_ix, q_dz, q_iflt, q_ifnlt, q_ifeq, q_ifne, q_ifM, q_ifMM, q_ifMlt, q_ifltM, nI_add, pk_mul, q_sub, q_div, q_cl, q_st_s, q_st_i, q_st_c, Nat.add_zero, Nat.zero_add]) ?_
      rcases Nat.lt_or_ge n 6 with hn | hn
      · simp (disch := omega) only [i1, n3, r2, ↓reduceIte, ↓qM_e, ↓q_rem, q_mod, q_modN, q_lit, q_nI, q_lt, q_bd, q_ix, q_dz, q_iflt, q_ifnlt, q_ifeq, q_ifne, q_ifM, q_ifMM, q_ifMlt, q_ifltM, nI_add, pk_mul, q_sub, q_div, q_cl, q_st_s, q_st_i, q_st_c, Nat.add_zero, Nat.zero_add]
      · have hn4 : n = 6 := by omega
        subst hn4
        simp (disch := omega) only [i1, n3, ↓reduceIte, ↓qM_e, ↓q_rem, q_mod, q_modN, q_lit, q_nI, q_lt, q_bd, q_ix, q_dz, q_iflt, q_ifnlt, q_ifeq, q_ifne, q_ifM, q_ifMM, q_ifMlt, q_ifltM, nI_add, pk_mul, q_sub, q_div, q_cl, q_st_s, q_st_i, q_st_c, Nat.add_zero, Nat.zero_add]
    · exact absurd (same.mp s1) r1
  · rcases q_isCoin n1 k42 (nI v) with ⟨r1, r2⟩ | ⟨r1, r2⟩
    · exact absurd (same.mpr r1) s1
    · rcases Nat.lt_or_ge n 6 with hn | hn
      · have ha := q_addX (v := nI v) n2 hz (by omega) hn
        have new : ∀ i, i < n → k 36 i ≠ nI v := by
          intro i hi z
          refine r1 ⟨i, hi, ?_⟩
          rw [q_st_c (by omega)]; exact z
        refine ⟨nI (n + 1), zst (zst h 38 n (nI v)) 37 1 (nI (n + 1)), zst (zst (zst k 0 0 0) 36 n (nI v)) 0 62 (nI (n + 1)), ?_, ?_, qRel_told (qXt_st (qXt_st (qXt_rf h) (by omega) (by omega)) (by omega) (by omega)) (qMt_st (qMt_st (qMt_0 k) rfl) rfl) ⟨qTicks_d (by simp (disch := omega) only [q_st_c, q_st_i]) (by simp (disch := omega) only [q_st_c, q_st_i]) (by simp (disch := omega) only [q_st_c, q_st_i]) (by simp (disch := omega) only [q_st_c, q_st_i]) (by simp (disch := omega) only [q_st_c, q_st_i]) t1, qWont_d (by simp (disch := omega) only [q_st_c, q_st_i]) (by simp (disch := omega) only [q_st_c, q_st_i]) (by simp (disch := omega) only [q_st_c, q_st_i]) (by simp (disch := omega) only [q_st_c, q_st_i]) (by simp (disch := omega) only [q_st_c, q_st_i]) t2, qPts_d (by simp (disch := omega) only [q_st_c, q_st_i]) (by simp (disch := omega) only [q_st_c, q_st_i]) (by simp (disch := omega) only [q_st_c, q_st_i]) (by simp (disch := omega) only [q_st_c, q_st_i]) (by simp (disch := omega) only [q_st_c, q_st_i]) t3, qRowN_c (by simp (disch := omega) only [q_st_c, q_st_i]) (by simp (disch := omega) only [q_st_c, q_st_i]) (by simp (disch := omega) only [q_st_c, q_st_i]) (fun i hi => by simp (disch := omega) only [q_st_c, q_st_i]) t4, qRowN_c (by simp (disch := omega) only [q_st_c, q_st_i]) (by simp (disch := omega) only [q_st_c, q_st_i]) (by simp (disch := omega) only [q_st_c, q_st_i]) (fun i hi => by simp (disch := omega) only [q_st_c, q_st_i]) t5, ⟨n + 1, by omega, q_st_s, q_st_s, fun i hi => ?_, fun i j hi hj => ?_⟩, qFull_d (by simp (disch := omega) only [q_st_c, q_st_i]) (by simp (disch := omega) only [q_st_c, q_st_i]) t7⟩ R⟩
        · simp (disch := omega) only [i4, s2, ha, ↓reduceIte, ↓qM_e, ↓q_rem, q_mod, q_modN, q_lit, q_nI, q_lt, q_bd, q_ix, q_dz, q_iflt, q_ifnlt, q_ifeq, q_ifne, q_ifM, q_ifMM, q_ifMlt, q_ifltM, nI_add, pk_mul, q_sub, q_div, q_cl, q_st_s, q_st_i, q_st_c, Nat.add_zero, Nat.zero_add]
        · simp (disch := omega) only [i1, r2, n3, ↓reduceIte, ↓qM_e, ↓q_rem, q_mod, q_modN, q_lit, q_nI, q_lt, q_bd, q_ix, q_dz, q_iflt, q_ifnlt, q_ifeq, q_ifne, q_ifM, q_ifMM, q_ifMlt, q_ifltM, nI_add, pk_mul, q_sub, q_div, q_cl, q_st_s, q_st_i, q_st_c, Nat.add_zero, Nat.zero_add]
        · by_cases z : i = n
          · subst z
            refine ⟨v, hm, ?_, ?_⟩
            · rw [q_st_c (by omega), q_st_s]
            · rw [q_st_c (by omega), q_st_s]
          · obtain ⟨x, b1, b4, b5⟩ := n4 i (by omega)
            refine ⟨x, b1, ?_, ?_⟩
            · rw [q_st_c (by omega), q_st_i z]; exact b4
            · rw [q_st_c (by omega), q_st_i z, q_st_c (by omega)]; exact b5
        · rw [q_st_c (by omega)]
          by_cases zi : i = n
          · by_cases zj : j = n
            · intro _; omega
            · rw [zi, q_st_s, q_st_i zj, q_st_c (by omega)]
              intro z; exact absurd z.symm (new j (by omega))
          · by_cases zj : j = n
            · rw [zj, q_st_s, q_st_i zi, q_st_c (by omega)]
              intro z; exact absurd z (new i (by omega))
            · rw [q_st_i zi, q_st_i zj, q_st_c (by omega)]
              exact n5 i j (by omega) (by omega)
      · have hn4 : n = 6 := by omega
        subst hn4
        have ha := q_fullX (v := nI v) n2 hz (by omega)
        exact q_ask_c R (-1) (by simp (disch := omega) only [i4, s2, ha, ↓reduceIte, ↓qM_e, ↓q_rem, q_mod, q_modN, q_lit, q_nI, q_lt, q_bd, q_ix, q_dz, q_iflt, q_ifnlt, q_ifeq, q_ifne, q_ifM, q_ifMM, q_ifMlt, q_ifltM, nI_add, pk_mul, q_sub, q_div, q_cl, q_st_s, q_st_i, q_st_c, Nat.add_zero, Nat.zero_add]) (by simp (disch := omega) only [i1, n3, ↓reduceIte, ↓qM_e, ↓q_rem, q_mod, q_modN, q_lit, q_nI, q_lt, q_bd, q_ix, q_dz, q_iflt, q_ifnlt, q_ifeq, q_ifne, q_ifM, q_ifMM, q_ifMlt, q_ifltM, nI_add, pk_mul, q_sub, q_div, q_cl, q_st_s, q_st_i, q_st_c, Nat.add_zero, Nat.zero_add])
theorem q_call_point {h k : zHp} (R : qRel h k) (x y : Int32) : qCall (f_X10_point x y h) (f_X11_point x y k) := by
  obtain ⟨t1, t2, t3, t4, t5, t6, t7⟩ := qRel_T R
  by_cases c1 : x = -1
  · refine ⟨0, zst h 31 1 0, zst (zst k 0 0 0) 0 49 0, ?_, ?_, qRel_told (qXt_st (qXt_rf h) (by omega) (by omega)) (qMt_st (qMt_0 k) rfl) ⟨qTicks_d (by simp (disch := omega) only [q_st_c, q_st_i]) (by simp (disch := omega) only [q_st_c, q_st_i]) (by simp (disch := omega) only [q_st_c, q_st_i]) (by simp (disch := omega) only [q_st_c, q_st_i]) (by simp (disch := omega) only [q_st_c, q_st_i]) t1, qWont_d (by simp (disch := omega) only [q_st_c, q_st_i]) (by simp (disch := omega) only [q_st_c, q_st_i]) (by simp (disch := omega) only [q_st_c, q_st_i]) (by simp (disch := omega) only [q_st_c, q_st_i]) (by simp (disch := omega) only [q_st_c, q_st_i]) t2, ⟨0, by omega, q_st_s, q_st_s, fun i hi => absurd hi (Nat.not_lt_zero i)⟩, qRowN_c (by simp (disch := omega) only [q_st_c, q_st_i]) (by simp (disch := omega) only [q_st_c, q_st_i]) (by simp (disch := omega) only [q_st_c, q_st_i]) (fun i hi => by simp (disch := omega) only [q_st_c, q_st_i]) t4, qRowN_c (by simp (disch := omega) only [q_st_c, q_st_i]) (by simp (disch := omega) only [q_st_c, q_st_i]) (by simp (disch := omega) only [q_st_c, q_st_i]) (fun i hi => by simp (disch := omega) only [q_st_c, q_st_i]) t5, qCoins_d (by simp (disch := omega) only [q_st_c, q_st_i]) (by simp (disch := omega) only [q_st_c, q_st_i]) (by simp (disch := omega) only [q_st_c, q_st_i]) (by simp (disch := omega) only [q_st_c, q_st_i]) t6, qFull_d (by simp (disch := omega) only [q_st_c, q_st_i]) (by simp (disch := omega) only [q_st_c, q_st_i]) t7⟩ R⟩
    · unfold f_X10_point
      rw [if_pos c1, q_clearX, q_bd]
    · unfold f_X11_point
      rw [q_lt, if_pos c1, q_lt]
  unfold f_X10_point f_X11_point
  rw [if_neg c1, q_lt, if_neg c1]
  obtain ⟨n, n1, n2, n3, n4⟩ := t3
  have hz : zln wX (31 + 1) = 8 := by decide +kernel
  rcases q_rng 0 20 x (by omega) with o | ⟨x, -, hx, rfl⟩
  · exact q_ask_c R (-1) (by simp (disch := omega) only [q_wiO o, ↓reduceIte, ↓qM_e, ↓q_rem, q_mod, q_modN, q_lit, q_nI, q_lt, q_bd, q_ix, q_dz, q_iflt, q_ifnlt, q_ifeq, q_ifne, q_ifM, q_ifMM, q_ifMlt, q_ifltM, nI_add, pk_mul, q_sub, q_div, q_cl, q_st_s, q_st_i, q_st_c, Nat.add_zero, Nat.zero_add]) (by simp (disch := omega) only [q_inO o, ↓reduceIte, ↓qM_e, ↓q_rem, q_mod, q_modN, q_lit, q_nI, q_lt, q_bd, q_ix, q_dz, q_iflt, q_ifnlt, q_ifeq, q_ifne, q_ifM, q_ifMM, q_ifMlt, q_ifltM, nI_add, pk_mul, q_sub, q_div, q_cl, q_st_s, q_st_i, q_st_c, Nat.add_zero, Nat.zero_add])
  have i1 := q_inI (h := zst k 0 0 (nI 0)) (lo := 0) (by omega) hx (by omega)
  have i4 := q_wiI (h := h) hx (by omega)
  rcases q_rng 0 20 y (by omega) with o | ⟨y, -, hy, rfl⟩
  · exact q_ask_c R (-1) (by simp (disch := omega) only [i4, q_wiO o, ↓reduceIte, ↓qM_e, ↓q_rem, q_mod, q_modN, q_lit, q_nI, q_lt, q_bd, q_ix, q_dz, q_iflt, q_ifnlt, q_ifeq, q_ifne, q_ifM, q_ifMM, q_ifMlt, q_ifltM, nI_add, pk_mul, q_sub, q_div, q_cl, q_st_s, q_st_i, q_st_c, Nat.add_zero, Nat.zero_add]) (by simp (disch := omega) only [i1, q_inO o, ↓reduceIte, ↓qM_e, ↓q_rem, q_mod, q_modN, q_lit, q_nI, q_lt, q_bd, q_ix, q_dz, q_iflt, q_ifnlt, q_ifeq, q_ifne, q_ifM, q_ifMM, q_ifMlt, q_ifltM, nI_add, pk_mul, q_sub, q_div, q_cl, q_st_s, q_st_i, q_st_c, Nat.add_zero, Nat.zero_add])
  have i2 := q_inI (h := zst k 0 0 (nI 0)) (lo := 0) (by omega) hy (by omega)
  have i3 := q_wiI (h := h) hy (by omega)
  have k42 : zst k 0 0 (nI 0) 0 49 = nI n := by rw [q_st_i (by omega)]; exact n3
  have hp : f_X8_pair (nI x) (nI y) h = some (nI (x * 32 + y), h) := by
    unfold f_X8_pair
    simp (disch := omega) only [↓reduceIte, ↓qM_e, ↓q_rem, q_mod, q_modN, q_lit, q_nI, q_lt, q_bd, q_ix, q_dz, q_iflt, q_ifnlt, q_ifeq, q_ifne, q_ifM, q_ifMM, q_ifMlt, q_ifltM, nI_add, pk_mul, q_sub, q_div, q_cl, q_st_s, q_st_i, q_st_c, Nat.add_zero, Nat.zero_add]
  -- the reference's loop
  obtain ⟨e, e1, e2, e3⟩ := q_least (fun i => k 27 i = nI x ∧ k 28 i = nI y) n
  have lp : f_X11_point_52_lp zN (nI x, nI y, nI 0, zst k 0 0 (nI 0)) = if e < n then some (-1, zst k 0 0 (nI 0)) else f_X11_point_52 (fun _ => none) (nI x) (nI y) (nI n) (zst k 0 0 (nI 0)) := by
    unfold f_X11_point_52_lp
    refine q_for (S := fun i => (nI x, nI y, nI i, zst k 0 0 (nI 0))) e (fun i hi rec => ?_) (fun rec => ?_) zN (by rw [q_zN]; omega)
    · have := e2 i hi
      obtain ⟨a, b, b1, b2, b4, b5, b6⟩ := n4 i (by omega)
      by_cases z : k 27 i = nI x
      · have z2 : ¬ k 28 i = nI y := fun q => this ⟨z, q⟩
        simp only [f_X11_point_52]
        simp (disch := omega) only [f_X11_point_52, n3, q_ifT z, q_ifF z2, ↓reduceIte, ↓qM_e, ↓q_rem, q_mod, q_modN, q_lit, q_nI, q_lt, q_bd, q_ix, q_dz, q_iflt, q_ifnlt, q_ifeq, q_ifne, q_ifM, q_ifMM, q_ifMlt, q_ifltM, nI_add, pk_mul, q_sub, q_div, q_cl, q_st_s, q_st_i, q_st_c, Nat.add_zero, Nat.zero_add]
      · simp only [f_X11_point_52]
        simp (disch := omega) only [f_X11_point_52, n3, q_ifF z, ↓reduceIte, ↓qM_e, ↓q_rem, q_mod, q_modN, q_lit, q_nI, q_lt, q_bd, q_ix, q_dz, q_iflt, q_ifnlt, q_ifeq, q_ifne, q_ifM, q_ifMM, q_ifMlt, q_ifltM, nI_add, pk_mul, q_sub, q_div, q_cl, q_st_s, q_st_i, q_st_c, Nat.add_zero, Nat.zero_add]
    · rcases Nat.lt_or_ge e n with z | z
      · obtain ⟨z1, z2⟩ := e3 z
        rw [if_pos z]
        simp only [f_X11_point_52]
        simp (disch := omega) only [f_X11_point_52, n3, q_ifT z1, q_ifT z2, ↓reduceIte, ↓qM_e, ↓q_rem, q_mod, q_modN, q_lit, q_nI, q_lt, q_bd, q_ix, q_dz, q_iflt, q_ifnlt, q_ifeq, q_ifne, q_ifM, q_ifMM, q_ifMlt, q_ifltM, nI_add, pk_mul, q_sub, q_div, q_cl, q_st_s, q_st_i, q_st_c, Nat.add_zero, Nat.zero_add]
      · have : e = n := by omega
        subst this
        rw [if_neg (by omega)]
        simp only [f_X11_point_52]
        simp (disch := omega) only [f_X11_point_52, n3, ↓reduceIte, ↓qM_e, ↓q_rem, q_mod, q_modN, q_lit, q_nI, q_lt, q_bd, q_ix, q_dz, q_iflt, q_ifnlt, q_ifeq, q_ifne, q_ifM, q_ifMM, q_ifMlt, q_ifltM, nI_add, pk_mul, q_sub, q_div, q_cl, q_st_s, q_st_i, q_st_c, Nat.add_zero, Nat.zero_add]
  have same : (∃ i, i < n ∧ h 32 i = nI (x * 32 + y)) ↔ e < n := by
    constructor
    · rintro ⟨i, i1, i2⟩
      obtain ⟨a, b, b1, b2, b4, b5, b6⟩ := n4 i i1
      have b4' : h 32 i = nI (a * 32 + b) := b4
      rw [b4'] at i2
      have := (nI_eq (by omega) (by omega)).mp i2
      have ha : a = x := by omega
      have hb : b = y := by omega
      rcases Nat.lt_or_ge e n with z | z
      · exact z
      · exact absurd ⟨by rw [b5, ha], by rw [b6, hb]⟩ (e2 i (by omega))
    · intro z
      obtain ⟨z1, z2⟩ := e3 z
      obtain ⟨a, b, b1, b2, b4, b5, b6⟩ := n4 e z
      refine ⟨e, z, ?_⟩
      have ha : a = x := (nI_eq (by omega) (by omega)).mp (b5.symm.trans z1)
      have hb : b = y := (nI_eq (by omega) (by omega)).mp (b6.symm.trans z2)
      have b4' : h 32 e = nI (a * 32 + b) := b4
      rw [b4', ha, hb]
  rcases q_addUX (v := nI (x * 32 + y)) n2 hz (by omega) n1 with ⟨s1, s2⟩ | ⟨s1, s2⟩
  · refine q_ask_c R (-1) (by simp (disch := omega) only [i4, i3, hp, s2, ↓reduceIte, ↓qM_e, ↓q_rem, q_mod, q_modN, q_lit, q_nI, q_lt, q_bd, q_ix, q_dz, q_iflt, q_ifnlt, q_ifeq, q_ifne, q_ifM, q_ifMM, q_ifMlt, q_ifltM, nI_add, pk_mul, q_sub, q_div, q_cl, q_st_s, q_st_i, q_st_c, Nat.add_zero, Nat.zero_add]) ?_
    rcases Nat.lt_or_ge n 8 with hn | hn
    · rw [if_pos (same.mp s1)] at lp
      simp (disch := omega) only [i1, i2, n3, lp, ↓reduceIte, ↓qM_e, ↓q_rem, q_mod, q_modN, q_lit, q_nI, q_lt, q_bd, q_ix, q_dz, q_iflt, q_ifnlt, q_ifeq, q_ifne, q_ifM, q_ifMM, q_ifMlt, q_ifltM, nI_add, pk_mul, q_sub, q_div, q_cl, q_st_s, q_st_i, q_st_c, Nat.add_zero, Nat.zero_add]
    · have hn4 : n = 8 := by omega
      subst hn4
      simp (disch := omega) only [i1, i2, n3, ↓reduceIte, ↓qM_e, ↓q_rem, q_mod, q_modN, q_lit, q_nI, q_lt, q_bd, q_ix, q_dz, q_iflt, q_ifnlt, q_ifeq, q_ifne, q_ifM, q_ifMM, q_ifMlt, q_ifltM, nI_add, pk_mul, q_sub, q_div, q_cl, q_st_s, q_st_i, q_st_c, Nat.add_zero, Nat.zero_add]
  · rcases Nat.lt_or_ge n 8 with hn | hn
    · have ha := q_addX (v := nI (x * 32 + y)) n2 hz (by omega) hn
      have he : ¬ e < n := fun q => s1 (same.mpr q)
      rw [if_neg he] at lp
      refine ⟨nI (n + 1), zst (zst h 32 n (nI (x * 32 + y))) 31 1 (nI (n + 1)), zst (zst (zst (zst k 0 0 0) 27 n (nI x)) 28 n (nI y)) 0 49 (nI (n + 1)), ?_, ?_, qRel_told (qXt_st (qXt_st (qXt_rf h) (by omega) (by omega)) (by omega) (by omega)) (qMt_st (qMt_st (qMt_st (qMt_0 k) rfl) rfl) rfl) ⟨qTicks_d (by simp (disch := omega) only [q_st_c, q_st_i]) (by simp (disch := omega) only [q_st_c, q_st_i]) (by simp (disch := omega) only [q_st_c, q_st_i]) (by simp (disch := omega) only [q_st_c, q_st_i]) (by simp (disch := omega) only [q_st_c, q_st_i]) t1, qWont_d (by simp (disch := omega) only [q_st_c, q_st_i]) (by simp (disch := omega) only [q_st_c, q_st_i]) (by simp (disch := omega) only [q_st_c, q_st_i]) (by simp (disch := omega) only [q_st_c, q_st_i]) (by simp (disch := omega) only [q_st_c, q_st_i]) t2, ⟨n + 1, by omega, q_st_s, q_st_s, fun i hi => ?_⟩, qRowN_c (by simp (disch := omega) only [q_st_c, q_st_i]) (by simp (disch := omega) only [q_st_c, q_st_i]) (by simp (disch := omega) only [q_st_c, q_st_i]) (fun i hi => by simp (disch := omega) only [q_st_c, q_st_i]) t4, qRowN_c (by simp (disch := omega) only [q_st_c, q_st_i]) (by simp (disch := omega) only [q_st_c, q_st_i]) (by simp (disch := omega) only [q_st_c, q_st_i]) (fun i hi => by simp (disch := omega) only [q_st_c, q_st_i]) t5, qCoins_d (by simp (disch := omega) only [q_st_c, q_st_i]) (by simp (disch := omega) only [q_st_c, q_st_i]) (by simp (disch := omega) only [q_st_c, q_st_i]) (by simp (disch := omega) only [q_st_c, q_st_i]) t6, qFull_d (by simp (disch := omega) only [q_st_c, q_st_i]) (by simp (disch := omega) only [q_st_c, q_st_i]) t7⟩ R⟩
      · simp (disch := omega) only [i4, i3, hp, s2, ha, ↓reduceIte, ↓qM_e, ↓q_rem, q_mod, q_modN, q_lit, q_nI, q_lt, q_bd, q_ix, q_dz, q_iflt, q_ifnlt, q_ifeq, q_ifne, q_ifM, q_ifMM, q_ifMlt, q_ifltM, nI_add, pk_mul, q_sub, q_div, q_cl, q_st_s, q_st_i, q_st_c, Nat.add_zero, Nat.zero_add]
      · simp (disch := omega) only [i1, i2, n3, lp, f_X11_point_52, ↓reduceIte, ↓qM_e, ↓q_rem, q_mod, q_modN, q_lit, q_nI, q_lt, q_bd, q_ix, q_dz, q_iflt, q_ifnlt, q_ifeq, q_ifne, q_ifM, q_ifMM, q_ifMlt, q_ifltM, nI_add, pk_mul, q_sub, q_div, q_cl, q_st_s, q_st_i, q_st_c, Nat.add_zero, Nat.zero_add]
      · by_cases z : i = n
        · subst z
          refine ⟨x, y, hx, hy, ?_, ?_, ?_⟩
          · rw [q_st_c (by omega), q_st_s]
          · rw [q_st_c (by omega), q_st_c (by omega), q_st_s]
          · rw [q_st_c (by omega), q_st_s]
        · obtain ⟨a, b, b1, b2, b4, b5, b6⟩ := n4 i (by omega)
          refine ⟨a, b, b1, b2, ?_, ?_, ?_⟩
          · rw [q_st_c (by omega), q_st_i z]; exact b4
          · rw [q_st_c (by omega), q_st_c (by omega), q_st_i z, q_st_c (by omega)]; exact b5
          · rw [q_st_c (by omega), q_st_i z, q_st_c (by omega), q_st_c (by omega)]; exact b6
    · have hn4 : n = 8 := by omega
      subst hn4
      have ha := q_fullX (v := nI (x * 32 + y)) n2 hz (by omega)
      exact q_ask_c R (-1) (by simp (disch := omega) only [i4, i3, hp, s2, ha, ↓reduceIte, ↓qM_e, ↓q_rem, q_mod, q_modN, q_lit, q_nI, q_lt, q_bd, q_ix, q_dz, q_iflt, q_ifnlt, q_ifeq, q_ifne, q_ifM, q_ifMM, q_ifMlt, q_ifltM, nI_add, pk_mul, q_sub, q_div, q_cl, q_st_s, q_st_i, q_st_c, Nat.add_zero, Nat.zero_add]) (by simp (disch := omega) only [i1, i2, n3, ↓reduceIte, ↓qM_e, ↓q_rem, q_mod, q_modN, q_lit, q_nI, q_lt, q_bd, q_ix, q_dz, q_iflt, q_ifnlt, q_ifeq, q_ifne, q_ifM, q_ifMM, q_ifMlt, q_ifltM, nI_add, pk_mul, q_sub, q_div, q_cl, q_st_s, q_st_i, q_st_c, Nat.add_zero, Nat.zero_add])
theorem q_call_full {h k : zHp} (R : qRel h k) (x y b : Int32) : qCall (f_X10_full x y b h) (f_X11_full x y b k) := by
  obtain ⟨t1, t2, t3, t4, t5, t6, t7⟩ := qRel_T R
  unfold f_X10_full f_X11_full
  rcases q_rng 0 5 x (by omega) with o | ⟨x, -, hx, rfl⟩
  · exact q_ask_c R 0 (by simp (disch := omega) only [q_wiO o, ↓reduceIte, ↓qM_e, ↓q_rem, q_mod, q_modN, q_lit, q_nI, q_lt, q_bd, q_ix, q_dz, q_iflt, q_ifnlt, q_ifeq, q_ifne, q_ifM, q_ifMM, q_ifMlt, q_ifltM, nI_add, pk_mul, q_sub, q_div, q_cl, q_st_s, q_st_i, q_st_c, Nat.add_zero, Nat.zero_add]) (by simp (disch := omega) only [q_inO o, ↓reduceIte, ↓qM_e, ↓q_rem, q_mod, q_modN, q_lit, q_nI, q_lt, q_bd, q_ix, q_dz, q_iflt, q_ifnlt, q_ifeq, q_ifne, q_ifM, q_ifMM, q_ifMlt, q_ifltM, nI_add, pk_mul, q_sub, q_div, q_cl, q_st_s, q_st_i, q_st_c, Nat.add_zero, Nat.zero_add])
  have i1 := q_inI (h := zst k 0 0 (nI 0)) (lo := 0) (by omega) hx (by omega)
  have i4 := q_wiI (h := h) hx (by omega)
  rcases q_rng 0 5 y (by omega) with o | ⟨y, -, hy, rfl⟩
  · exact q_ask_c R 0 (by simp (disch := omega) only [i4, q_wiO o, ↓reduceIte, ↓qM_e, ↓q_rem, q_mod, q_modN, q_lit, q_nI, q_lt, q_bd, q_ix, q_dz, q_iflt, q_ifnlt, q_ifeq, q_ifne, q_ifM, q_ifMM, q_ifMlt, q_ifltM, nI_add, pk_mul, q_sub, q_div, q_cl, q_st_s, q_st_i, q_st_c, Nat.add_zero, Nat.zero_add]) (by simp (disch := omega) only [i1, q_inO o, ↓reduceIte, ↓qM_e, ↓q_rem, q_mod, q_modN, q_lit, q_nI, q_lt, q_bd, q_ix, q_dz, q_iflt, q_ifnlt, q_ifeq, q_ifne, q_ifM, q_ifMM, q_ifMlt, q_ifltM, nI_add, pk_mul, q_sub, q_div, q_cl, q_st_s, q_st_i, q_st_c, Nat.add_zero, Nat.zero_add])
  have i2 := q_inI (h := zst k 0 0 (nI 0)) (lo := 0) (by omega) hy (by omega)
  have i3 := q_wiI (h := h) hy (by omega)
  have hxy : y * 6 + x = 6 * y + x := by omega
  have fin : ∀ v : Int32, (v = 0 ∨ v = 1) → qRel (zst h 39 (6 * y + x) v) (zst (zst k 0 0 0) 29 (6 * y + x) v) := by
    intro v hv
    refine qRel_told (qXt_st (qXt_rf h) (by omega) (by omega)) (qMt_st (qMt_0 k) rfl) ⟨qTicks_d (by simp (disch := omega) only [q_st_c, q_st_i]) (by simp (disch := omega) only [q_st_c, q_st_i]) (by simp (disch := omega) only [q_st_c, q_st_i]) (by simp (disch := omega) only [q_st_c, q_st_i]) (by simp (disch := omega) only [q_st_c, q_st_i]) t1, qWont_d (by simp (disch := omega) only [q_st_c, q_st_i]) (by simp (disch := omega) only [q_st_c, q_st_i]) (by simp (disch := omega) only [q_st_c, q_st_i]) (by simp (disch := omega) only [q_st_c, q_st_i]) (by simp (disch := omega) only [q_st_c, q_st_i]) t2, qPts_d (by simp (disch := omega) only [q_st_c, q_st_i]) (by simp (disch := omega) only [q_st_c, q_st_i]) (by simp (disch := omega) only [q_st_c, q_st_i]) (by simp (disch := omega) only [q_st_c, q_st_i]) (by simp (disch := omega) only [q_st_c, q_st_i]) t3, qRowN_c (by simp (disch := omega) only [q_st_c, q_st_i]) (by simp (disch := omega) only [q_st_c, q_st_i]) (by simp (disch := omega) only [q_st_c, q_st_i]) (fun i hi => by simp (disch := omega) only [q_st_c, q_st_i]) t4, qRowN_c (by simp (disch := omega) only [q_st_c, q_st_i]) (by simp (disch := omega) only [q_st_c, q_st_i]) (by simp (disch := omega) only [q_st_c, q_st_i]) (fun i hi => by simp (disch := omega) only [q_st_c, q_st_i]) t5, qCoins_d (by simp (disch := omega) only [q_st_c, q_st_i]) (by simp (disch := omega) only [q_st_c, q_st_i]) (by simp (disch := omega) only [q_st_c, q_st_i]) (by simp (disch := omega) only [q_st_c, q_st_i]) t6, fun i hi => ?_⟩ R
    by_cases z : i = 6 * y + x
    · subst z
      rw [q_st_s, q_st_s]
      exact ⟨rfl, hv⟩
    · rw [q_st_i z, q_st_i z, q_st_c (by omega)]
      exact t7 i hi
  by_cases c : b = 0
  · refine ⟨1, _, _, ?_, ?_, fin 0 (Or.inl rfl)⟩
    · simp (disch := omega) only [i4, i3, hxy, q_ifT (show b = nI 0 from c), ↓reduceIte, ↓qM_e, ↓q_rem, q_mod, q_modN, q_lit, q_nI, q_lt, q_bd, q_ix, q_dz, q_iflt, q_ifnlt, q_ifeq, q_ifne, q_ifM, q_ifMM, q_ifMlt, q_ifltM, nI_add, pk_mul, q_sub, q_div, q_cl, q_st_s, q_st_i, q_st_c, Nat.add_zero, Nat.zero_add]
    · simp (disch := omega) only [i1, i2, q_ifT (show b = nI 0 from c), ↓reduceIte, ↓qM_e, ↓q_rem, q_mod, q_modN, q_lit, q_nI, q_lt, q_bd, q_ix, q_dz, q_iflt, q_ifnlt, q_ifeq, q_ifne, q_ifM, q_ifMM, q_ifMlt, q_ifltM, nI_add, pk_mul, q_sub, q_div, q_cl, q_st_s, q_st_i, q_st_c, Nat.add_zero, Nat.zero_add]
  · refine ⟨1, _, _, ?_, ?_, fin 1 (Or.inr rfl)⟩
    · simp (disch := omega) only [i4, i3, hxy, q_ifF (show ¬ b = nI 0 from c), ↓reduceIte, ↓qM_e, ↓q_rem, q_mod, q_modN, q_lit, q_nI, q_lt, q_bd, q_ix, q_dz, q_iflt, q_ifnlt, q_ifeq, q_ifne, q_ifM, q_ifMM, q_ifMlt, q_ifltM, nI_add, pk_mul, q_sub, q_div, q_cl, q_st_s, q_st_i, q_st_c, Nat.add_zero, Nat.zero_add]
    · simp (disch := omega) only [i1, i2, q_ifF (show ¬ b = nI 0 from c), ↓reduceIte, ↓qM_e, ↓q_rem, q_mod, q_modN, q_lit, q_nI, q_lt, q_bd, q_ix, q_dz, q_iflt, q_ifnlt, q_ifeq, q_ifne, q_ifM, q_ifMM, q_ifMlt, q_ifltM, nI_add, pk_mul, q_sub, q_div, q_cl, q_st_s, q_st_i, q_st_c, Nat.add_zero, Nat.zero_add]
end Qtold
