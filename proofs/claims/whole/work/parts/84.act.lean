/-! SITTING, RISING, THE CAT, STILLING: one is asked -/
section Qact
variable {β : zHp × zHp}
theorem q_pers {h k : zHp} {o C P : Nat} (X : qCtx h k o C P) (x : Int32) : (∃ p, p < P ∧ x = nI p) ∨ (f_X4_isPerson o x h = some (nI 0, h) ∧ f_X11_isPerson x k = some (nI 0, k)) := by
  have hP := X.2.2.1.2.1
  have g : h o 10 = nI P := X.2.1.2.1
  have g' : k 0 7 = nI P := X.1.2
  unfold f_X4_isPerson f_X11_isPerson
  by_cases c : x < 0
  · rw [if_pos c, if_pos c]; exact Or.inr ⟨rfl, rfl⟩
  · obtain ⟨j, hj, rfl⟩ := nI_of c
    rw [if_neg c, if_neg c, g, g']
    rcases Nat.lt_or_ge j P with z | z
    · exact Or.inl ⟨j, z, rfl⟩
    · rw [if_neg (nI_nlt z hj), if_neg (nI_nlt z hj)]; exact Or.inr ⟨rfl, rfl⟩
theorem q_chrs {h k : zHp} {o C P : Nat} (X : qCtx h k o C P) (x : Int32) : (∃ c, c < C ∧ x = nI c) ∨ (f_X4_isChair o x h = some (nI 0, h) ∧ f_X11_isChair x k = some (nI 0, k)) := by
  have hC := X.2.2.1.1
  have g : h o 9 = nI C := X.2.1.1
  have g' : k 0 6 = nI C := X.1.1
  unfold f_X4_isChair f_X11_isChair
  by_cases c : x < 0
  · rw [if_pos c, if_pos c]; exact Or.inr ⟨rfl, rfl⟩
  · obtain ⟨j, hj, rfl⟩ := nI_of c
    rw [if_neg c, if_neg c, g, g']
    rcases Nat.lt_or_ge j C with z | z
    · exact Or.inl ⟨j, z, rfl⟩
    · rw [if_neg (nI_nlt z hj), if_neg (nI_nlt z hj)]; exact Or.inr ⟨rfl, rfl⟩
theorem q_isPM {k : zHp} {P p : Nat} (g : k 0 7 = nI P) (hP : P ≤ 14) (hp : p < P) : f_X11_isPerson (nI p) k = some (nI 1, k) := by
  unfold f_X11_isPerson
  simp (disch := omega) only [g, ↓reduceIte, ↓qM_e, ↓q_rem, q_mod, q_modN, q_lit, q_nI, q_lt, q_bd, q_ix, q_dz, q_iflt, q_ifnlt, q_ifeq, q_ifne, q_ifM, q_ifMM, q_ifMlt, q_ifltM, nI_add, pk_mul, q_sub, q_div, q_cl, q_st_s, q_st_i, q_st_c, Nat.add_zero, Nat.zero_add]
theorem q_isCM {k : zHp} {C c : Nat} (g : k 0 6 = nI C) (hC : C ≤ 10) (hc : c < C) : f_X11_isChair (nI c) k = some (nI 1, k) := by
  unfold f_X11_isChair
  simp (disch := omega) only [g, ↓reduceIte, ↓qM_e, ↓q_rem, q_mod, q_modN, q_lit, q_nI, q_lt, q_bd, q_ix, q_dz, q_iflt, q_ifnlt, q_ifeq, q_ifne, q_ifM, q_ifMM, q_ifMlt, q_ifltM, nI_add, pk_mul, q_sub, q_div, q_cl, q_st_s, q_st_i, q_st_c, Nat.add_zero, Nat.zero_add]
def qMay (k : zHp) (C P : Nat) (a b c : Int32) : Prop :=
  (a = nI 0 ∧ ∃ p d, p < P ∧ d < C ∧ b = nI p ∧ c = nI d ∧ k 1 (35 + p) = nI 1 ∧ k 1 (5 + d) = nI 0 ∧ k 1 (25 + d) = nI 0) ∨
  (a = nI 1 ∧ ∃ p, p < P ∧ b = nI p ∧ k 1 (35 + p) = nI 2) ∨
  ((a = nI 2 ∨ a = nI 3) ∧ ∃ d s, d < C ∧ b = nI d ∧ 0 < s ∧ s < 1000 ∧ k 1 (5 + d) = nI s)
theorem q_may {h k : zHp} {C P : Nat} (M : qMn β 2 C P h k) (a b c : Int32) : (f_X10_mayBeDone a b c h = some (nI 0, h) ∧ f_X11_canAct a b c k = some (nI 0, k)) ∨ (f_X10_mayBeDone a b c h = some (nI 1, h) ∧ f_X11_canAct a b c k = some (nI 1, k) ∧ qMay k C P a b c) := by
  have X := M.1
  have hC := X.2.2.1.1
  have hP := X.2.2.1.2.1
  have g10 : h 2 10 = nI P := X.2.1.2.1
  have g9 : h 2 9 = nI C := X.2.1.1
  have g7 : k 0 7 = nI P := X.1.2
  have g6 : k 0 6 = nI C := X.1.1
  have W : ∀ p, p < P → ∃ w, w ≤ 2 ∧ k 1 (35 + p) = nI w := by
    intro p hp
    rcases (X.2.2.1.2.2.2.2 p hp).1 with q | q | q
    · exact ⟨0, by omega, q⟩
    · exact ⟨1, by omega, q⟩
    · exact ⟨2, by omega, q⟩
  have rock : ∀ a, a = nI 2 ∨ a = nI 3 → (f_X4_rocks 2 b h = some (nI 0, h) ∧ f_X11_canAct_89 b k = some (nI 0, k)) ∨ (f_X4_rocks 2 b h = some (nI 1, h) ∧ f_X11_canAct_89 b k = some (nI 1, k) ∧ qMay k C P a b c) := by
    intro a ha
    rcases q_chrs X b with ⟨d, hd, rfl⟩ | ⟨n1, n2⟩
    · obtain ⟨s, f, t, a1, a2, a3, a4, a5, a6, a7, -⟩ := q_chair X hd
      have rX := q_rocksX hC g9 hd a7 (by omega)
      have rM := q_rocksM (k := k) (c := d) (by omega) a4 (by omega)
      have iM := q_isCM g6 hC hd
      unfold f_X11_canAct_89
      rcases Nat.eq_zero_or_pos s with z | z
      · rw [if_neg (by omega)] at rX rM
        rw [rX]
        refine Or.inl ⟨rfl, ?_⟩
        simp (disch := omega) only [iM, rM, ↓reduceIte, ↓qM_e, ↓q_rem, q_mod, q_modN, q_lit, q_nI, q_lt, q_bd, q_ix, q_dz, q_iflt, q_ifnlt, q_ifeq, q_ifne, q_ifM, q_ifMM, q_ifMlt, q_ifltM, nI_add, pk_mul, q_sub, q_div, q_cl, q_st_s, q_st_i, q_st_c, Nat.add_zero, Nat.zero_add]
      · rw [if_pos z] at rX rM
        rw [rX]
        refine Or.inr ⟨rfl, ?_, Or.inr (Or.inr ⟨ha, d, s, hd, rfl, z, by omega, a4⟩)⟩
        simp (disch := omega) only [iM, rM, ↓reduceIte, ↓qM_e, ↓q_rem, q_mod, q_modN, q_lit, q_nI, q_lt, q_bd, q_ix, q_dz, q_iflt, q_ifnlt, q_ifeq, q_ifne, q_ifM, q_ifMM, q_ifMlt, q_ifltM, nI_add, pk_mul, q_sub, q_div, q_cl, q_st_s, q_st_i, q_st_c, Nat.add_zero, Nat.zero_add]
    · refine Or.inl ⟨?_, ?_⟩
      · unfold f_X4_rocks
        rw [n1, q_bd]; exact if_pos rfl
      · unfold f_X11_canAct_89
        rw [n2, q_bd]; exact if_pos rfl
  unfold f_X10_mayBeDone f_X11_canAct
  by_cases e0 : a = 0
  · rw [if_pos e0, if_pos e0]
    rcases q_pers X b with ⟨p, hp, rfl⟩ | ⟨n1, n2⟩
    · obtain ⟨w, hw, ew⟩ := W p hp
      have iX := q_isW M hp ew (by omega) 1 (by omega)
      have iM := q_isPM g7 hP hp
      by_cases z : w = 1
      · subst z
        rw [if_pos rfl] at iX
        rcases q_chrs X c with ⟨d, hd, rfl⟩ | ⟨n1, n2⟩
        · obtain ⟨s, f, t, a1, a2, a3, a4, a5, a6, a7, a8, a9, -⟩ := q_chair X hd
          have fX := q_isFreeX hC g9 hd a7 a9 (by omega) (by omega)
          have fM := q_isFreeM (k := k) (c := d) (by omega) a4 a6 (by omega) (by omega)
          have cM := q_isCM g6 hC hd
          by_cases y : s = 0 ∧ t = 0
          · rw [if_pos y] at fX fM
            refine Or.inr ⟨?_, ?_, Or.inl ⟨e0, p, d, hp, hd, rfl, rfl, ew, by rw [a4, y.1], by rw [a6, y.2]⟩⟩
            · simp (disch := omega) only [iX, fX, ↓reduceIte, ↓qM_e, ↓q_rem, q_mod, q_modN, q_lit, q_nI, q_lt, q_bd, q_ix, q_dz, q_iflt, q_ifnlt, q_ifeq, q_ifne, q_ifM, q_ifMM, q_ifMlt, q_ifltM, nI_add, pk_mul, q_sub, q_div, q_cl, q_st_s, q_st_i, q_st_c, Nat.add_zero, Nat.zero_add]
            · simp (disch := omega) only [iM, ew, cM, fM, ↓reduceIte, ↓qM_e, ↓q_rem, q_mod, q_modN, q_lit, q_nI, q_lt, q_bd, q_ix, q_dz, q_iflt, q_ifnlt, q_ifeq, q_ifne, q_ifM, q_ifMM, q_ifMlt, q_ifltM, nI_add, pk_mul, q_sub, q_div, q_cl, q_st_s, q_st_i, q_st_c, Nat.add_zero, Nat.zero_add]
          · rw [if_neg y] at fX fM
            refine Or.inl ⟨?_, ?_⟩
            · simp (disch := omega) only [iX, fX, ↓reduceIte, ↓qM_e, ↓q_rem, q_mod, q_modN, q_lit, q_nI, q_lt, q_bd, q_ix, q_dz, q_iflt, q_ifnlt, q_ifeq, q_ifne, q_ifM, q_ifMM, q_ifMlt, q_ifltM, nI_add, pk_mul, q_sub, q_div, q_cl, q_st_s, q_st_i, q_st_c, Nat.add_zero, Nat.zero_add]
            · simp (disch := omega) only [iM, ew, cM, fM, ↓reduceIte, ↓qM_e, ↓q_rem, q_mod, q_modN, q_lit, q_nI, q_lt, q_bd, q_ix, q_dz, q_iflt, q_ifnlt, q_ifeq, q_ifne, q_ifM, q_ifMM, q_ifMlt, q_ifltM, nI_add, pk_mul, q_sub, q_div, q_cl, q_st_s, q_st_i, q_st_c, Nat.add_zero, Nat.zero_add]
        · have fX : f_X4_isFree 2 c h = some (nI 0, h) := by
            unfold f_X4_isFree
            rw [n1, q_bd]; exact if_pos rfl
          refine Or.inl ⟨?_, ?_⟩
          · simp (disch := omega) only [iX, fX, ↓reduceIte, ↓qM_e, ↓q_rem, q_mod, q_modN, q_lit, q_nI, q_lt, q_bd, q_ix, q_dz, q_iflt, q_ifnlt, q_ifeq, q_ifne, q_ifM, q_ifMM, q_ifMlt, q_ifltM, nI_add, pk_mul, q_sub, q_div, q_cl, q_st_s, q_st_i, q_st_c, Nat.add_zero, Nat.zero_add]
          · simp (disch := omega) only [iM, ew, n2, ↓reduceIte, ↓qM_e, ↓q_rem, q_mod, q_modN, q_lit, q_nI, q_lt, q_bd, q_ix, q_dz, q_iflt, q_ifnlt, q_ifeq, q_ifne, q_ifM, q_ifMM, q_ifMlt, q_ifltM, nI_add, pk_mul, q_sub, q_div, q_cl, q_st_s, q_st_i, q_st_c, Nat.add_zero, Nat.zero_add]
      · rw [if_neg z] at iX
        refine Or.inl ⟨?_, ?_⟩
        · simp (disch := omega) only [iX, ↓reduceIte, ↓qM_e, ↓q_rem, q_mod, q_modN, q_lit, q_nI, q_lt, q_bd, q_ix, q_dz, q_iflt, q_ifnlt, q_ifeq, q_ifne, q_ifM, q_ifMM, q_ifMlt, q_ifltM, nI_add, pk_mul, q_sub, q_div, q_cl, q_st_s, q_st_i, q_st_c, Nat.add_zero, Nat.zero_add]
        · simp (disch := omega) only [iM, ew, ↓reduceIte, ↓qM_e, ↓q_rem, q_mod, q_modN, q_lit, q_nI, q_lt, q_bd, q_ix, q_dz, q_iflt, q_ifnlt, q_ifeq, q_ifne, q_ifM, q_ifMM, q_ifMlt, q_ifltM, nI_add, pk_mul, q_sub, q_div, q_cl, q_st_s, q_st_i, q_st_c, Nat.add_zero, Nat.zero_add]
    · have iX : f_X4_is 2 b (nI 1) h = some (nI 0, h) := by
        unfold f_X4_is
        rw [n1, q_bd]; exact if_pos rfl
      refine Or.inl ⟨?_, ?_⟩
      · simp (disch := omega) only [iX, ↓reduceIte, ↓qM_e, ↓q_rem, q_mod, q_modN, q_lit, q_nI, q_lt, q_bd, q_ix, q_dz, q_iflt, q_ifnlt, q_ifeq, q_ifne, q_ifM, q_ifMM, q_ifMlt, q_ifltM, nI_add, pk_mul, q_sub, q_div, q_cl, q_st_s, q_st_i, q_st_c, Nat.add_zero, Nat.zero_add]
      · simp (disch := omega) only [n2, ↓reduceIte, ↓qM_e, ↓q_rem, q_mod, q_modN, q_lit, q_nI, q_lt, q_bd, q_ix, q_dz, q_iflt, q_ifnlt, q_ifeq, q_ifne, q_ifM, q_ifMM, q_ifMlt, q_ifltM, nI_add, pk_mul, q_sub, q_div, q_cl, q_st_s, q_st_i, q_st_c, Nat.add_zero, Nat.zero_add]
  rw [if_neg e0, if_neg e0]
  by_cases e1 : a = 1
  · rw [if_pos e1, if_pos e1]
    rcases q_pers X b with ⟨p, hp, rfl⟩ | ⟨n1, n2⟩
    · obtain ⟨w, hw, ew⟩ := W p hp
      have iX := q_isW M hp ew (by omega) 2 (by omega)
      have iM := q_isPM g7 hP hp
      by_cases z : w = 2
      · subst z
        rw [if_pos rfl] at iX
        refine Or.inr ⟨?_, ?_, Or.inr (Or.inl ⟨e1, p, hp, rfl, ew⟩)⟩
        · simp (disch := omega) only [iX, q_zzb, ↓reduceIte, ↓qM_e, ↓q_rem, q_mod, q_modN, q_lit, q_nI, q_lt, q_bd, q_ix, q_dz, q_iflt, q_ifnlt, q_ifeq, q_ifne, q_ifM, q_ifMM, q_ifMlt, q_ifltM, nI_add, pk_mul, q_sub, q_div, q_cl, q_st_s, q_st_i, q_st_c, Nat.add_zero, Nat.zero_add]
        · simp (disch := omega) only [iM, ew, ↓reduceIte, ↓qM_e, ↓q_rem, q_mod, q_modN, q_lit, q_nI, q_lt, q_bd, q_ix, q_dz, q_iflt, q_ifnlt, q_ifeq, q_ifne, q_ifM, q_ifMM, q_ifMlt, q_ifltM, nI_add, pk_mul, q_sub, q_div, q_cl, q_st_s, q_st_i, q_st_c, Nat.add_zero, Nat.zero_add]
      · rw [if_neg z] at iX
        refine Or.inl ⟨?_, ?_⟩
        · simp (disch := omega) only [iX, q_zzb, ↓reduceIte, ↓qM_e, ↓q_rem, q_mod, q_modN, q_lit, q_nI, q_lt, q_bd, q_ix, q_dz, q_iflt, q_ifnlt, q_ifeq, q_ifne, q_ifM, q_ifMM, q_ifMlt, q_ifltM, nI_add, pk_mul, q_sub, q_div, q_cl, q_st_s, q_st_i, q_st_c, Nat.add_zero, Nat.zero_add]
        · simp (disch := omega) only [iM, ew, ↓reduceIte, ↓qM_e, ↓q_rem, q_mod, q_modN, q_lit, q_nI, q_lt, q_bd, q_ix, q_dz, q_iflt, q_ifnlt, q_ifeq, q_ifne, q_ifM, q_ifMM, q_ifMlt, q_ifltM, nI_add, pk_mul, q_sub, q_div, q_cl, q_st_s, q_st_i, q_st_c, Nat.add_zero, Nat.zero_add]
    · have iX : f_X4_is 2 b (nI 2) h = some (nI 0, h) := by
        unfold f_X4_is
        rw [n1, q_bd]; exact if_pos rfl
      refine Or.inl ⟨?_, ?_⟩
      · simp (disch := omega) only [iX, q_zzb, ↓reduceIte, ↓qM_e, ↓q_rem, q_mod, q_modN, q_lit, q_nI, q_lt, q_bd, q_ix, q_dz, q_iflt, q_ifnlt, q_ifeq, q_ifne, q_ifM, q_ifMM, q_ifMlt, q_ifltM, nI_add, pk_mul, q_sub, q_div, q_cl, q_st_s, q_st_i, q_st_c, Nat.add_zero, Nat.zero_add]
      · simp (disch := omega) only [n2, ↓reduceIte, ↓qM_e, ↓q_rem, q_mod, q_modN, q_lit, q_nI, q_lt, q_bd, q_ix, q_dz, q_iflt, q_ifnlt, q_ifeq, q_ifne, q_ifM, q_ifMM, q_ifMlt, q_ifltM, nI_add, pk_mul, q_sub, q_div, q_cl, q_st_s, q_st_i, q_st_c, Nat.add_zero, Nat.zero_add]
  rw [if_neg e1, if_neg e1]
  by_cases e2 : a = 2
  · rw [if_pos e2, if_pos e2]
    rcases rock a (Or.inl e2) with ⟨n1, n2⟩ | ⟨n1, n2, n3⟩
    · exact Or.inl ⟨by rw [n1, q_bd]; exact q_zzb (by omega), n2⟩
    · exact Or.inr ⟨by rw [n1, q_bd]; exact q_zzb (by omega), n2, n3⟩
  rw [if_neg e2, if_neg e2]
  by_cases e3 : a = 3
  · rw [if_pos e3, if_pos e3]
    rcases rock a (Or.inr e3) with ⟨n1, n2⟩ | ⟨n1, n2, n3⟩
    · exact Or.inl ⟨by rw [n1, q_bd]; exact q_zzb (by omega), n2⟩
    · exact Or.inr ⟨by rw [n1, q_bd]; exact q_zzb (by omega), n2, n3⟩
  rw [if_neg e3, if_neg e3]
  exact Or.inl ⟨rfl, rfl⟩
theorem q_call_act {h k : zHp} (R : qRel h k) (a b c : Int32) : qCall (f_X10_act a b c h) (f_X11_act a b c k) := by
  have R0 : qRel h (zst k 0 0 0) := qRel_s (qXs_rf h) (qMs_s0 k) R
  obtain ⟨C, P, n, m, h1, k1, x1, x2, M, M1, -, -, -, -, kr, fin⟩ := q_kept (β := (h, h)) R0
  have hC := M1.1.2.2.1.1
  unfold f_X10_act f_X11_act
  rcases q_may M a b c with ⟨n1, n2⟩ | ⟨n1, n2, n3⟩
  · refine ⟨nI 0, h, zst k 0 0 0, ?_, ?_, R0⟩
    · rw [n1, q_bd]; exact if_pos rfl
    · rw [q_lt, n2, q_bd]; exact if_pos rfl
  rw [n1, q_bd, q_lt, n2, q_bd]
  dsimp only
  rw [if_neg (show ¬ nI 1 = 0 by decide), if_neg (show ¬ nI 1 = 0 by decide), x1, q_bd, x2, q_bd]
  have ends : ∀ (x y : Option (Int32 × zHp)) (h' k' : zHp), x = some (nI 1, h') → y = some (nI 1, k') → qMn (h, h) 2 C P h' k' → qXm 2 h1 h' → qMm k1 k' → qCall x y := fun x y h' k' hx hy m e f => ⟨nI 1, h', k', hx, hy, fin h' k' m e f⟩
  rcases n3 with ⟨rfl, p, d, hp, hd, rfl, rfl, g1, g2, g3⟩ | ⟨rfl, p, hp, rfl, g1⟩ | ⟨ha, d, s, hd, rfl, s1, s2, g1⟩
  · rcases q_sits M1 hp hd (by rw [kr]; exact g1) with ⟨h', k', y1, y2, y3, y4, y5, y6⟩ | ⟨-, y2, -⟩
    · refine ends _ _ h' k' ?_ ?_ y3 y4 y5
      · rw [if_pos (show nI 0 = 0 from rfl), y1, q_bd]; rfl
      · rw [if_pos (show nI 0 = 0 from rfl), y2, q_bd]
        simp only [f_X11_act_32, f_X11_act_42, f_X11_act_52]
        simp (disch := omega) only [↓reduceIte, ↓qM_e, ↓q_rem, q_mod, q_modN, q_lit, q_nI, q_lt, q_bd, q_ix, q_dz, q_iflt, q_ifnlt, q_ifeq, q_ifne, q_ifM, q_ifMM, q_ifMlt, q_ifltM, nI_add, pk_mul, q_sub, q_div, q_cl, q_st_s, q_st_i, q_st_c, Nat.add_zero, Nat.zero_add]
    · have fM := q_isFreeM (k := k1) (c := d) (s := 0) (t := 0) (by omega) (by rw [kr]; exact g2) (by rw [kr]; exact g3) (by omega) (by omega)
      rw [if_pos (show (0 : Nat) = 0 ∧ (0 : Nat) = 0 from ⟨rfl, rfl⟩), y2] at fM
      injection fM with q
      have q1 := congrArg Prod.fst q
      exact absurd ((nI_eq (a := 0) (b := 1) (by omega) (by omega)).mp q1) (by omega)
  · obtain ⟨h', k', y1, y2, y3, y4, y5, y6, -⟩ := q_rises M1 hp (by rw [kr]; exact g1)
    refine ends _ _ h' k' ?_ ?_ y3 y4 y5
    · simp (disch := omega) only [y1, ↓reduceIte, ↓qM_e, ↓q_rem, q_mod, q_modN, q_lit, q_nI, q_lt, q_bd, q_ix, q_dz, q_iflt, q_ifnlt, q_ifeq, q_ifne, q_ifM, q_ifMM, q_ifMlt, q_ifltM, nI_add, pk_mul, q_sub, q_div, q_cl, q_st_s, q_st_i, q_st_c, Nat.add_zero, Nat.zero_add]
    · simp only [f_X11_act_32, f_X11_act_42, f_X11_act_52]
      simp (disch := omega) only [y2, ↓reduceIte, ↓qM_e, ↓q_rem, q_mod, q_modN, q_lit, q_nI, q_lt, q_bd, q_ix, q_dz, q_iflt, q_ifnlt, q_ifeq, q_ifne, q_ifM, q_ifMM, q_ifMlt, q_ifltM, nI_add, pk_mul, q_sub, q_div, q_cl, q_st_s, q_st_i, q_st_c, Nat.add_zero, Nat.zero_add]
  · have g1' : k1 1 (5 + d) = nI s := by rw [kr]; exact g1
    rcases ha with rfl | rfl
    · obtain ⟨h', k', y1, y2, y3, y4, y5, y6⟩ := q_let M1 hd s1 s2 g1'
      refine ends _ _ h' k' ?_ ?_ y3 y4 y5
      · simp (disch := omega) only [y1, ↓reduceIte, ↓qM_e, ↓q_rem, q_mod, q_modN, q_lit, q_nI, q_lt, q_bd, q_ix, q_dz, q_iflt, q_ifnlt, q_ifeq, q_ifne, q_ifM, q_ifMM, q_ifMlt, q_ifltM, nI_add, pk_mul, q_sub, q_div, q_cl, q_st_s, q_st_i, q_st_c, Nat.add_zero, Nat.zero_add]
      · simp only [f_X11_act_32, f_X11_act_42, f_X11_act_52]
        simp (disch := omega) only [y2, ↓reduceIte, ↓qM_e, ↓q_rem, q_mod, q_modN, q_lit, q_nI, q_lt, q_bd, q_ix, q_dz, q_iflt, q_ifnlt, q_ifeq, q_ifne, q_ifM, q_ifMM, q_ifMlt, q_ifltM, nI_add, pk_mul, q_sub, q_div, q_cl, q_st_s, q_st_i, q_st_c, Nat.add_zero, Nat.zero_add]
    · obtain ⟨p, hp, e15, z3, z2, e25, s99⟩ := q_rocking M1.1 hd s1 s2 g1'
      have M4 : qMn (h, h) 2 C P (zst (zst h1 4 d (nI 0)) 5 d qM) (zst (zst k1 1 (5 + d) (nI 0)) 1 (15 + d) (nI 0)) := qMn_rock (v := 0) (f := 0) M1 hd (by omega) (by omega) (by omega) e25 rfl (fun a ha => by rw [q_st_c ha, q_st_c ha]) (fun i i1 i2 => by rw [q_st_i i2, q_st_i i1]) (by rw [q_st_i (by omega), q_st_s]) (by rw [q_st_s]; rfl)
      have sX := q_rockX (h := h1) (o := 2) (c := d) (v := 0) (a := qM) (by omega) (by omega)
      have sX' : f_X4_rock 2 (nI d) (nI 0) qM h1 = some (zst (zst h1 4 d (nI 0)) 5 d qM) := sX
      have sM := q_swM (k := k1) (c := d) (v := 0) (by omega) (by omega)
      rw [if_pos rfl] at sM
      have sM' : f_X11_swings (nI d) (nI 0) k1 = some (zst (zst k1 1 (5 + d) (nI 0)) 1 (15 + d) (nI 0)) := sM
      refine ends _ _ _ _ ?_ ?_ M4 (fun a a1 a2 a3 a4 a5 => by rw [q_st_c (by omega), q_st_c (by omega)]) (fun a a1 a2 a3 a4 => by rw [q_st_c a1, q_st_c a1])
      · simp (disch := omega) only [sX', ↓reduceIte, ↓qM_e, ↓q_rem, q_mod, q_modN, q_lit, q_nI, q_lt, q_bd, q_ix, q_dz, q_iflt, q_ifnlt, q_ifeq, q_ifne, q_ifM, q_ifMM, q_ifMlt, q_ifltM, nI_add, pk_mul, q_sub, q_div, q_cl, q_st_s, q_st_i, q_st_c, Nat.add_zero, Nat.zero_add]
      · simp only [f_X11_act_32, f_X11_act_42, f_X11_act_52]
        simp (disch := omega) only [sM', ↓reduceIte, ↓qM_e, ↓q_rem, q_mod, q_modN, q_lit, q_nI, q_lt, q_bd, q_ix, q_dz, q_iflt, q_ifnlt, q_ifeq, q_ifne, q_ifM, q_ifMM, q_ifMlt, q_ifltM, nI_add, pk_mul, q_sub, q_div, q_cl, q_st_s, q_st_i, q_st_c, Nat.add_zero, Nat.zero_add]
end Qact
