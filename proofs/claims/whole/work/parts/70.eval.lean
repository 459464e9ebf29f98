/-! THE LAW'S CODES: both stacks -/
section Qeval
theorem qTy_num {o v : Nat → Int32} {i n : Nat} {st r : List Bool} (ho : o i = 0 ∨ o i = 1) (h : qTy o v i (n + 1) st = some r) : st.length < 26 ∧ qTy o v (i + 1) n (false :: st) = some r := by
  unfold qTy at h
  rw [if_pos ho] at h
  by_cases z : st.length < 26
  · rw [if_pos z] at h; exact ⟨z, h⟩
  · rw [if_neg z] at h; cases h
theorem qTy_not {o v : Nat → Int32} {i n : Nat} {st r : List Bool} (ho : o i = 9) (h : qTy o v i (n + 1) st = some r) : ∃ s, st = true :: s ∧ qTy o v (i + 1) n (true :: s) = some r := by
  unfold qTy at h
  rw [if_neg (by rw [ho]; decide), if_pos ho] at h
  match st, h with
  | true :: s, h => exact ⟨s, rfl, h⟩
theorem qTy_ao {o v : Nat → Int32} {i n : Nat} {st r : List Bool} (ho : o i = 10 ∨ o i = 11) (h : qTy o v i (n + 1) st = some r) : ∃ s, st = true :: true :: s ∧ qTy o v (i + 1) n (true :: s) = some r := by
  unfold qTy at h
  rw [if_neg (by rcases ho with q | q <;> rw [q] <;> decide), if_neg (by rcases ho with q | q <;> rw [q] <;> decide), if_pos ho] at h
  match st, h with
  | true :: true :: s, h => exact ⟨s, rfl, h⟩
theorem qTy_cmp {o v : Nat → Int32} {i n : Nat} {st r : List Bool} (ho : o i = 6 ∨ o i = 7 ∨ o i = 8) (h : qTy o v i (n + 1) st = some r) : ∃ x y s, st = x :: y :: s ∧ qTy o v (i + 1) n (true :: s) = some r := by
  unfold qTy at h
  rw [if_neg (by rcases ho with q | q | q <;> rw [q] <;> decide), if_neg (by rcases ho with q | q | q <;> rw [q] <;> decide), if_neg (by rcases ho with q | q | q <;> rw [q] <;> decide), if_pos ho] at h
  match st, h with
  | x :: y :: s, h => exact ⟨x, y, s, rfl, h⟩
theorem qTy_div {o v : Nat → Int32} {i n : Nat} {st r : List Bool} (ho : o i = 5) (h : qTy o v i (n + 1) st = some r) : ∃ x y s, st = x :: y :: s ∧ (0 < i ∧ o (i - 1) = 0 ∧ v (i - 1) ≠ 0) ∧ qTy o v (i + 1) n (false :: s) = some r := by
  unfold qTy at h
  rw [if_neg (by rw [ho]; decide), if_neg (by rw [ho]; decide), if_neg (by rw [ho]; decide), if_neg (by rw [ho]; decide), if_pos ho] at h
  match st, h with
  | x :: y :: s, h =>
    by_cases z : 0 < i ∧ o (i - 1) = 0 ∧ v (i - 1) ≠ 0
    · simp only [] at h
      rw [if_pos z] at h; exact ⟨x, y, s, rfl, z, h⟩
    · simp only [] at h
      rw [if_neg z] at h; cases h
theorem qTy_ar {o v : Nat → Int32} {i n : Nat} {st r : List Bool} (ho : o i = 2 ∨ o i = 3 ∨ o i = 4) (h : qTy o v i (n + 1) st = some r) : ∃ x y s, st = x :: y :: s ∧ qTy o v (i + 1) n (false :: s) = some r := by
  unfold qTy at h
  rw [if_neg (by rcases ho with q | q | q <;> rw [q] <;> decide), if_neg (by rcases ho with q | q | q <;> rw [q] <;> decide), if_neg (by rcases ho with q | q | q <;> rw [q] <;> decide), if_neg (by rcases ho with q | q | q <;> rw [q] <;> decide), if_neg (by rcases ho with q | q | q <;> rw [q] <;> decide)] at h
  match st, h with
  | x :: y :: s, h => exact ⟨x, y, s, rfl, h⟩
def qBit (x : Int32) : Prop := x = 0 ∨ x = 1
theorem q_two {x y : Nat} (hxy : (x, y) ∈ [(25, 2), (26, 3), (27, 4), (28, 5), (31, 6), (32, 7), (33, 8), (14, 10), (13, 11)]) (a b : Int32) (h k : zHp) (h5 : y = 5 → b ≠ 0) (hb : y = 10 ∨ y = 11 → qBit a ∧ qBit b) : ∃ r, f_X1_joined (nI x) a b h = some (r, h) ∧ f_X11_twoOf (nI y) a b k = some (r, k) ∧ (y ∈ [6, 7, 8, 10, 11] → qBit r) := by
  simp only [List.mem_cons, Prod.mk.injEq, List.not_mem_nil, or_false] at hxy
  rcases hxy with ⟨rfl, rfl⟩ | ⟨rfl, rfl⟩ | ⟨rfl, rfl⟩ | ⟨rfl, rfl⟩ | ⟨rfl, rfl⟩ | ⟨rfl, rfl⟩ | ⟨rfl, rfl⟩ | ⟨rfl, rfl⟩ | ⟨rfl, rfl⟩
  · exact ⟨a + b, by (simp only [f_X1_joined]; simp (disch := omega) only [f_X1_joined, ↓reduceIte, ↓qM_e, ↓q_rem, q_mod, q_modN, q_lit, q_nI, q_lt, q_bd, q_ix, q_dz, q_iflt, q_ifnlt, q_ifeq, q_ifne, q_ifM, q_ifMM, q_ifMlt, q_ifltM, nI_add, pk_mul, q_sub, q_div, q_cl, q_st_s, q_st_i, q_st_c, Nat.add_zero, Nat.zero_add]), by (simp only [f_X11_twoOf]; simp (disch := omega) only [f_X11_twoOf, ↓reduceIte, ↓qM_e, ↓q_rem, q_mod, q_modN, q_lit, q_nI, q_lt, q_bd, q_ix, q_dz, q_iflt, q_ifnlt, q_ifeq, q_ifne, q_ifM, q_ifMM, q_ifMlt, q_ifltM, nI_add, pk_mul, q_sub, q_div, q_cl, q_st_s, q_st_i, q_st_c, Nat.add_zero, Nat.zero_add]), fun q => absurd q (by decide)⟩
  · exact ⟨a - b, by (simp only [f_X1_joined]; simp (disch := omega) only [f_X1_joined, ↓reduceIte, ↓qM_e, ↓q_rem, q_mod, q_modN, q_lit, q_nI, q_lt, q_bd, q_ix, q_dz, q_iflt, q_ifnlt, q_ifeq, q_ifne, q_ifM, q_ifMM, q_ifMlt, q_ifltM, nI_add, pk_mul, q_sub, q_div, q_cl, q_st_s, q_st_i, q_st_c, Nat.add_zero, Nat.zero_add]), by (simp only [f_X11_twoOf]; simp (disch := omega) only [f_X11_twoOf, ↓reduceIte, ↓qM_e, ↓q_rem, q_mod, q_modN, q_lit, q_nI, q_lt, q_bd, q_ix, q_dz, q_iflt, q_ifnlt, q_ifeq, q_ifne, q_ifM, q_ifMM, q_ifMlt, q_ifltM, nI_add, pk_mul, q_sub, q_div, q_cl, q_st_s, q_st_i, q_st_c, Nat.add_zero, Nat.zero_add]), fun q => absurd q (by decide)⟩
  · exact ⟨a * b, by (simp only [f_X1_joined]; simp (disch := omega) only [f_X1_joined, ↓reduceIte, ↓qM_e, ↓q_rem, q_mod, q_modN, q_lit, q_nI, q_lt, q_bd, q_ix, q_dz, q_iflt, q_ifnlt, q_ifeq, q_ifne, q_ifM, q_ifMM, q_ifMlt, q_ifltM, nI_add, pk_mul, q_sub, q_div, q_cl, q_st_s, q_st_i, q_st_c, Nat.add_zero, Nat.zero_add]), by (simp only [f_X11_twoOf]; simp (disch := omega) only [f_X11_twoOf, ↓reduceIte, ↓qM_e, ↓q_rem, q_mod, q_modN, q_lit, q_nI, q_lt, q_bd, q_ix, q_dz, q_iflt, q_ifnlt, q_ifeq, q_ifne, q_ifM, q_ifMM, q_ifMlt, q_ifltM, nI_add, pk_mul, q_sub, q_div, q_cl, q_st_s, q_st_i, q_st_c, Nat.add_zero, Nat.zero_add]), fun q => absurd q (by decide)⟩
  · have hb0 : ¬ b = nI 0 := h5 rfl
    have hz : ∀ t : Option (Int32 × zHp), zdz b t = t := fun t => by unfold zdz; exact if_neg hb0
    exact ⟨a / b, by (simp only [f_X1_joined]; simp (disch := omega) only [f_X1_joined, q_ifF hb0, hz, ↓reduceIte, ↓qM_e, ↓q_rem, q_mod, q_modN, q_lit, q_nI, q_lt, q_bd, q_ix, q_dz, q_iflt, q_ifnlt, q_ifeq, q_ifne, q_ifM, q_ifMM, q_ifMlt, q_ifltM, nI_add, pk_mul, q_sub, q_div, q_cl, q_st_s, q_st_i, q_st_c, Nat.add_zero, Nat.zero_add]), by (simp only [f_X11_twoOf]; simp (disch := omega) only [f_X11_twoOf, hz, ↓reduceIte, ↓qM_e, ↓q_rem, q_mod, q_modN, q_lit, q_nI, q_lt, q_bd, q_ix, q_dz, q_iflt, q_ifnlt, q_ifeq, q_ifne, q_ifM, q_ifMM, q_ifMlt, q_ifltM, nI_add, pk_mul, q_sub, q_div, q_cl, q_st_s, q_st_i, q_st_c, Nat.add_zero, Nat.zero_add]), fun q => absurd q (by decide)⟩
  · by_cases c : a < b
    · exact ⟨1, by (simp only [f_X1_joined]; simp (disch := omega) only [f_X1_joined, q_ifT c, ↓reduceIte, ↓qM_e, ↓q_rem, q_mod, q_modN, q_lit, q_nI, q_lt, q_bd, q_ix, q_dz, q_iflt, q_ifnlt, q_ifeq, q_ifne, q_ifM, q_ifMM, q_ifMlt, q_ifltM, nI_add, pk_mul, q_sub, q_div, q_cl, q_st_s, q_st_i, q_st_c, Nat.add_zero, Nat.zero_add]), by (simp only [f_X11_twoOf]; simp (disch := omega) only [f_X11_twoOf, q_ifT c, ↓reduceIte, ↓qM_e, ↓q_rem, q_mod, q_modN, q_lit, q_nI, q_lt, q_bd, q_ix, q_dz, q_iflt, q_ifnlt, q_ifeq, q_ifne, q_ifM, q_ifMM, q_ifMlt, q_ifltM, nI_add, pk_mul, q_sub, q_div, q_cl, q_st_s, q_st_i, q_st_c, Nat.add_zero, Nat.zero_add]), fun _ => Or.inr rfl⟩
    · exact ⟨0, by (simp only [f_X1_joined]; simp (disch := omega) only [f_X1_joined, q_ifF c, ↓reduceIte, ↓qM_e, ↓q_rem, q_mod, q_modN, q_lit, q_nI, q_lt, q_bd, q_ix, q_dz, q_iflt, q_ifnlt, q_ifeq, q_ifne, q_ifM, q_ifMM, q_ifMlt, q_ifltM, nI_add, pk_mul, q_sub, q_div, q_cl, q_st_s, q_st_i, q_st_c, Nat.add_zero, Nat.zero_add]), by (simp only [f_X11_twoOf]; simp (disch := omega) only [f_X11_twoOf, q_ifF c, ↓reduceIte, ↓qM_e, ↓q_rem, q_mod, q_modN, q_lit, q_nI, q_lt, q_bd, q_ix, q_dz, q_iflt, q_ifnlt, q_ifeq, q_ifne, q_ifM, q_ifMM, q_ifMlt, q_ifltM, nI_add, pk_mul, q_sub, q_div, q_cl, q_st_s, q_st_i, q_st_c, Nat.add_zero, Nat.zero_add]), fun _ => Or.inl rfl⟩
  · by_cases c : a = b
    · exact ⟨1, by (simp only [f_X1_joined]; simp (disch := omega) only [f_X1_joined, q_ifT c, ↓reduceIte, ↓qM_e, ↓q_rem, q_mod, q_modN, q_lit, q_nI, q_lt, q_bd, q_ix, q_dz, q_iflt, q_ifnlt, q_ifeq, q_ifne, q_ifM, q_ifMM, q_ifMlt, q_ifltM, nI_add, pk_mul, q_sub, q_div, q_cl, q_st_s, q_st_i, q_st_c, Nat.add_zero, Nat.zero_add]), by (simp only [f_X11_twoOf]; simp (disch := omega) only [f_X11_twoOf, q_ifT c, ↓reduceIte, ↓qM_e, ↓q_rem, q_mod, q_modN, q_lit, q_nI, q_lt, q_bd, q_ix, q_dz, q_iflt, q_ifnlt, q_ifeq, q_ifne, q_ifM, q_ifMM, q_ifMlt, q_ifltM, nI_add, pk_mul, q_sub, q_div, q_cl, q_st_s, q_st_i, q_st_c, Nat.add_zero, Nat.zero_add]), fun _ => Or.inr rfl⟩
    · exact ⟨0, by (simp only [f_X1_joined]; simp (disch := omega) only [f_X1_joined, q_ifF c, ↓reduceIte, ↓qM_e, ↓q_rem, q_mod, q_modN, q_lit, q_nI, q_lt, q_bd, q_ix, q_dz, q_iflt, q_ifnlt, q_ifeq, q_ifne, q_ifM, q_ifMM, q_ifMlt, q_ifltM, nI_add, pk_mul, q_sub, q_div, q_cl, q_st_s, q_st_i, q_st_c, Nat.add_zero, Nat.zero_add]), by (simp only [f_X11_twoOf]; simp (disch := omega) only [f_X11_twoOf, q_ifF c, ↓reduceIte, ↓qM_e, ↓q_rem, q_mod, q_modN, q_lit, q_nI, q_lt, q_bd, q_ix, q_dz, q_iflt, q_ifnlt, q_ifeq, q_ifne, q_ifM, q_ifMM, q_ifMlt, q_ifltM, nI_add, pk_mul, q_sub, q_div, q_cl, q_st_s, q_st_i, q_st_c, Nat.add_zero, Nat.zero_add]), fun _ => Or.inl rfl⟩
  · by_cases c : b < a
    · exact ⟨1, by (simp only [f_X1_joined]; simp (disch := omega) only [f_X1_joined, q_ifT c, ↓reduceIte, ↓qM_e, ↓q_rem, q_mod, q_modN, q_lit, q_nI, q_lt, q_bd, q_ix, q_dz, q_iflt, q_ifnlt, q_ifeq, q_ifne, q_ifM, q_ifMM, q_ifMlt, q_ifltM, nI_add, pk_mul, q_sub, q_div, q_cl, q_st_s, q_st_i, q_st_c, Nat.add_zero, Nat.zero_add]), by (simp only [f_X11_twoOf]; simp (disch := omega) only [f_X11_twoOf, q_ifT c, ↓reduceIte, ↓qM_e, ↓q_rem, q_mod, q_modN, q_lit, q_nI, q_lt, q_bd, q_ix, q_dz, q_iflt, q_ifnlt, q_ifeq, q_ifne, q_ifM, q_ifMM, q_ifMlt, q_ifltM, nI_add, pk_mul, q_sub, q_div, q_cl, q_st_s, q_st_i, q_st_c, Nat.add_zero, Nat.zero_add]), fun _ => Or.inr rfl⟩
    · exact ⟨0, by (simp only [f_X1_joined]; simp (disch := omega) only [f_X1_joined, q_ifF c, ↓reduceIte, ↓qM_e, ↓q_rem, q_mod, q_modN, q_lit, q_nI, q_lt, q_bd, q_ix, q_dz, q_iflt, q_ifnlt, q_ifeq, q_ifne, q_ifM, q_ifMM, q_ifMlt, q_ifltM, nI_add, pk_mul, q_sub, q_div, q_cl, q_st_s, q_st_i, q_st_c, Nat.add_zero, Nat.zero_add]), by (simp only [f_X11_twoOf]; simp (disch := omega) only [f_X11_twoOf, q_ifF c, ↓reduceIte, ↓qM_e, ↓q_rem, q_mod, q_modN, q_lit, q_nI, q_lt, q_bd, q_ix, q_dz, q_iflt, q_ifnlt, q_ifeq, q_ifne, q_ifM, q_ifMM, q_ifMlt, q_ifltM, nI_add, pk_mul, q_sub, q_div, q_cl, q_st_s, q_st_i, q_st_c, Nat.add_zero, Nat.zero_add]), fun _ => Or.inl rfl⟩
  · obtain ⟨ba, bb⟩ := hb (Or.inl rfl)
    have e : a &&& b = a * b := by rcases ba with rfl | rfl <;> rcases bb with rfl | rfl <;> decide
    have eb : qBit (a * b) := by rcases ba with rfl | rfl <;> rcases bb with rfl | rfl <;> unfold qBit <;> decide
    exact ⟨a * b, by (simp only [f_X1_joined]; simp (disch := omega) only [f_X1_joined, e, ↓reduceIte, ↓qM_e, ↓q_rem, q_mod, q_modN, q_lit, q_nI, q_lt, q_bd, q_ix, q_dz, q_iflt, q_ifnlt, q_ifeq, q_ifne, q_ifM, q_ifMM, q_ifMlt, q_ifltM, nI_add, pk_mul, q_sub, q_div, q_cl, q_st_s, q_st_i, q_st_c, Nat.add_zero, Nat.zero_add]), by (simp only [f_X11_twoOf]; simp (disch := omega) only [f_X11_twoOf, ↓reduceIte, ↓qM_e, ↓q_rem, q_mod, q_modN, q_lit, q_nI, q_lt, q_bd, q_ix, q_dz, q_iflt, q_ifnlt, q_ifeq, q_ifne, q_ifM, q_ifMM, q_ifMlt, q_ifltM, nI_add, pk_mul, q_sub, q_div, q_cl, q_st_s, q_st_i, q_st_c, Nat.add_zero, Nat.zero_add]), fun _ => eb⟩
  · obtain ⟨ba, bb⟩ := hb (Or.inr rfl)
    have eb : qBit (a ||| b) := by rcases ba with rfl | rfl <;> rcases bb with rfl | rfl <;> unfold qBit <;> decide
    refine ⟨a ||| b, by (simp only [f_X1_joined]; simp (disch := omega) only [f_X1_joined, ↓reduceIte, ↓qM_e, ↓q_rem, q_mod, q_modN, q_lit, q_nI, q_lt, q_bd, q_ix, q_dz, q_iflt, q_ifnlt, q_ifeq, q_ifne, q_ifM, q_ifMM, q_ifMlt, q_ifltM, nI_add, pk_mul, q_sub, q_div, q_cl, q_st_s, q_st_i, q_st_c, Nat.add_zero, Nat.zero_add]), ?_, fun _ => eb⟩
    have e : (if 0 < a + b then some ((1 : Int32), k) else some ((0 : Int32), k)) = some (a ||| b, k) := by
      rcases ba with rfl | rfl <;> rcases bb with rfl | rfl <;> rfl
    have e1 : f_X11_twoOf (nI 11) a b k = (if 0 < a + b then some ((1 : Int32), k) else some ((0 : Int32), k)) := by
      unfold f_X11_twoOf
      rw [if_neg (by decide), if_neg (by decide), if_neg (by decide), if_neg (by decide), if_neg (by decide), if_neg (by decide), if_neg (by decide), if_neg (by decide)]
    rw [e1, e]
-- the two stacks
/-- both stacks hold the same, as the types say -/
def qStkE (h : zHp) (o : Nat) (k : zHp) (st : List Bool) : Prop := st.length ≤ 26 ∧ (∀ m, m < st.length → h (o + 6) m = k 21 m) ∧ ∀ t, st[t]? = some true → qBit (k 21 (st.length - 1 - t))
theorem q_xor (a : Nat) : nI a ^^^ (-1) ^^^ (-1) = nI a := by
  rw [Int32.xor_assoc, Int32.xor_self, Int32.xor_zero]
theorem q_xorneg {a : Nat} (h : a < 2147483648) : nI a ^^^ (-1) < 0 := by
  rw [Int32.xor_neg_one, fa_lt, Int32.toInt_not, nI_toInt (by omega), fb_bmod (by omega) (by omega)]
  show -(a : Int) - 1 < 0
  omega
theorem q_xorMM (a : Nat) : nI a ^^^ qM ^^^ qM = nI a := q_xor a
theorem q_xorM (a : Nat) : nI a ^^^ (-1) ^^^ qM = nI a := q_xor a
/-- one more on both stacks -/
theorem qStkE_push {h : zHp} {o : Nat} {k : zHp} {st : List Bool} {x : Int32} (S : qStkE h o k st) (hl : st.length < 26) : qStkE (zst h (o + 6) st.length x) o (zst k 21 st.length x) (false :: st) := by
  obtain ⟨s1, s2, s3⟩ := S
  refine ⟨by simp only [List.length_cons]; omega, fun m hm => ?_, fun t ht => ?_⟩
  · simp only [List.length_cons] at hm
    by_cases z : m = st.length
    · rw [z, q_st_s, q_st_s]
    · rw [q_st_i z, q_st_i z]; exact s2 m (by omega)
  · match t, ht with
    | t + 1, ht =>
      have ht' : st[t]? = some true := by simpa using ht
      have hlt : t < st.length := by
        rcases Nat.lt_or_ge t st.length with q | q
        · exact q
        · rw [List.getElem?_eq_none q] at ht'; cases ht'
      simp only [List.length_cons]
      rw [q_st_i (by omega), show st.length + 1 - 1 - (t + 1) = st.length - 1 - t by omega]
      exact s3 t ht'
/-- the two on top become one -/
theorem qStkE_two {h : zHp} {o : Nat} {k : zHp} {x y b : Bool} {st : List Bool} {v : Int32} (S : qStkE h o k (x :: y :: st)) (hb : b = true → qBit v) : qStkE (zst h (o + 6) st.length v) o (zst k 21 st.length v) (b :: st) := by
  obtain ⟨s1, s2, s3⟩ := S
  simp only [List.length_cons] at s1 s2 s3
  refine ⟨by simp only [List.length_cons]; omega, fun m hm => ?_, fun t ht => ?_⟩
  · simp only [List.length_cons] at hm
    by_cases z : m = st.length
    · rw [z, q_st_s, q_st_s]
    · rw [q_st_i z, q_st_i z]; exact s2 m (by omega)
  · match t, ht with
    | 0, ht =>
      simp only [List.length_cons]
      rw [show st.length + 1 - 1 - 0 = st.length by omega, q_st_s]
      exact hb (by simpa using ht)
    | t + 1, ht =>
      have ht' : st[t]? = some true := by simpa using ht
      have hlt : t < st.length := by
        rcases Nat.lt_or_ge t st.length with q | q
        · exact q
        · rw [List.getElem?_eq_none q] at ht'; cases ht'
      simp only [List.length_cons]
      rw [q_st_i (by omega)]
      have := s3 (t + 2) (by simpa using ht')
      rw [show st.length + 1 + 1 - 1 - (t + 2) = st.length + 1 - 1 - (t + 1) by omega] at this
      exact this
/-- the top becomes another -/
theorem qStkE_top {h : zHp} {o : Nat} {k : zHp} {x b : Bool} {st : List Bool} {v : Int32} (S : qStkE h o k (x :: st)) (hb : b = true → qBit v) : qStkE (zst h (o + 6) st.length v) o (zst k 21 st.length v) (b :: st) := by
  obtain ⟨s1, s2, s3⟩ := S
  simp only [List.length_cons] at s1 s2 s3
  refine ⟨by simp only [List.length_cons]; omega, fun m hm => ?_, fun t ht => ?_⟩
  · simp only [List.length_cons] at hm
    by_cases z : m = st.length
    · rw [z, q_st_s, q_st_s]
    · rw [q_st_i z, q_st_i z]; exact s2 m (by omega)
  · match t, ht with
    | 0, ht =>
      simp only [List.length_cons]
      rw [show st.length + 1 - 1 - 0 = st.length by omega, q_st_s]
      exact hb (by simpa using ht)
    | t + 1, ht =>
      have ht' : st[t]? = some true := by simpa using ht
      have hlt : t < st.length := by
        rcases Nat.lt_or_ge t st.length with q | q
        · exact q
        · rw [List.getElem?_eq_none q] at ht'; cases ht'
      simp only [List.length_cons]
      rw [q_st_i (by omega)]
      exact s3 (t + 1) (by simpa using ht')
/-- what runs of both ask -/
def qAskd (h k : zHp) : Prop := ∀ j, j < 9 → h 160 j = k 20 j
/-- one code of both -/
theorem q_code {o sz c n b T : Nat} {h k : zHp} {st r : List Bool} (ho : o + 6 ≠ 160) (hc : c < b) (hb : b ≤ 400) (hT : T < 2147483648) (hC : qCode (h (o + 5) c) (k 14 c) (k 15 c)) (hA : qAskd h k) (S : qStkE h o k st) (hN : 0 < c → k 14 (c - 1) = 0 → st ≠ [] → k 21 (st.length - 1) = k 15 (c - 1)) (hty : qTy (k 14) (k 15) c (n + 1) st = some r) :
    ∃ st' x, qTy (k 14) (k 15) (c + 1) n st' = some r ∧ qStkE (zst h (o + 6) (st'.length - 1) x) o (zst k 21 (st'.length - 1) x) st' ∧ st' ≠ [] ∧ (k 14 c = 0 → x = k 15 c) ∧
    (∀ rec : Int32 × Int32 × Int32 × zHp → Option (Int32 × zHp), f_X1_worth_10 o rec (nI b) (nI st.length) (nI c) h = rec (nI b, nI st'.length, nI (c + 1), zst h (o + 6) (st'.length - 1) x)) ∧
    (∀ rec : Int32 × Int32 × Int32 × Int32 × zHp → Option (Int32 × zHp), f_X11_runs_12 rec (nI 0) (nI b) (nI st.length) (nI c) k = rec (nI 0, nI b, nI st'.length, nI (c + 1), zst k 21 (st'.length - 1) x)) := by
  have s1 := S.1
  have s2 := S.2.1
  rcases hC with ⟨v, hv, c1, c2, c3⟩ | ⟨j, hj, c1, c2, c3⟩ | ⟨x, y, hxy, c1, c2⟩
  · -- a number
    obtain ⟨t1, t2⟩ := qTy_num (Or.inl c2) hty
    refine ⟨false :: st, nI v, t2, qStkE_push S t1, by simp, fun _ => c3.symm, fun rec => ?_, fun rec => ?_⟩
    · have hx := q_xorneg (a := v) (by omega)
      have hx' : nI v ^^^ qM < nI 0 := hx
      simp only [f_X1_worth_10, f_X1_worth_53, f_X1_worth_87, List.length_cons]
      simp (disch := omega) only [c1, q_ifT hx', Nat.add_sub_cancel, ↓reduceIte, ↓qM_e, ↓q_rem, q_mod, q_modN, q_lit, q_nI, q_lt, q_bd, q_ix, q_dz, q_iflt, q_ifnlt, q_ifeq, q_ifne, q_ifM, q_ifMM, q_ifMlt, q_ifltM, nI_add, pk_mul, q_sub, q_div, q_cl, q_st_s, q_st_i, q_st_c, Nat.add_zero, Nat.zero_add]
    · simp only [f_X11_runs_12, f_X11_runs_45, f_X11_runs_83, List.length_cons]
      simp (disch := omega) only [Nat.mul_zero, q_ifT (show k 14 c = nI 0 from c2), c3, Nat.add_sub_cancel, ↓reduceIte, ↓qM_e, ↓q_rem, q_mod, q_modN, q_lit, q_nI, q_lt, q_bd, q_ix, q_dz, q_iflt, q_ifnlt, q_ifeq, q_ifne, q_ifM, q_ifMM, q_ifMlt, q_ifltM, nI_add, pk_mul, q_sub, q_div, q_cl, q_st_s, q_st_i, q_st_c, Nat.add_zero, Nat.zero_add]
  · -- asked
    obtain ⟨t1, t2⟩ := qTy_num (Or.inr c2) hty
    have hne : ¬ k 14 c = nI 0 := by rw [c2]; decide
    refine ⟨false :: st, k 20 j, t2, qStkE_push S t1, by simp, fun q => absurd q hne, fun rec => ?_, fun rec => ?_⟩
    · simp only [f_X1_worth_10, f_X1_worth_53, f_X1_worth_87, List.length_cons]
      simp (disch := omega) only [c1, q_xorMM, hA j hj, Nat.add_sub_cancel, Nat.add_sub_cancel_left, ↓reduceIte, ↓qM_e, ↓q_rem, q_mod, q_modN, q_lit, q_nI, q_lt, q_bd, q_ix, q_dz, q_iflt, q_ifnlt, q_ifeq, q_ifne, q_ifM, q_ifMM, q_ifMlt, q_ifltM, nI_add, pk_mul, q_sub, q_div, q_cl, q_st_s, q_st_i, q_st_c, Nat.add_zero, Nat.zero_add]
    · simp only [f_X11_runs_12, f_X11_runs_45, f_X11_runs_83, List.length_cons]
      simp (disch := omega) only [Nat.mul_zero, q_ifF hne, q_ifT (show k 14 c = nI 1 from c2), c3, Nat.add_sub_cancel, ↓reduceIte, ↓qM_e, ↓q_rem, q_mod, q_modN, q_lit, q_nI, q_lt, q_bd, q_ix, q_dz, q_iflt, q_ifnlt, q_ifeq, q_ifne, q_ifM, q_ifMM, q_ifMlt, q_ifltM, nI_add, pk_mul, q_sub, q_div, q_cl, q_st_s, q_st_i, q_st_c, Nat.add_zero, Nat.zero_add]
  · by_cases hnot : y = 9
    · have hx15 : x = 15 := by
        exact (show ∀ p ∈ [(25, 2), (26, 3), (27, 4), (28, 5), (31, 6), (32, 7), (33, 8), (15, 9), (14, 10), (13, 11)], p.2 = 9 → p.1 = 15 by decide) (x, y) hxy hnot
      subst hnot; subst hx15
      obtain ⟨s, rfl, t2⟩ := qTy_not c2 hty
      have hne : ¬ k 14 c = nI 0 := by rw [c2]; decide
      have hne1 : ¬ k 14 c = nI 1 := by rw [c2]; decide
      have hbit := S.2.2 0 rfl
      simp only [List.length_cons] at s1 s2 hbit
      rw [show s.length + 1 - 1 - 0 = s.length by omega] at hbit
      have e2 := s2 s.length (by omega)
      have nb : qBit (1 - k 21 s.length) := by rcases hbit with q | q <;> rw [q] <;> unfold qBit <;> decide
      refine ⟨true :: s, 1 - k 21 s.length, t2, ?_, by simp, fun q => absurd q hne, fun rec => ?_, fun rec => ?_⟩
      · rw [List.length_cons, Nat.add_sub_cancel]
        exact qStkE_top S (fun _ => nb)
      · simp only [f_X1_worth_10, f_X1_worth_94, List.length_cons]
        simp (disch := omega) only [c1, q_xorMM, e2, Nat.add_sub_cancel, ↓reduceIte, ↓qM_e, ↓q_rem, q_mod, q_modN, q_lit, q_nI, q_lt, q_bd, q_ix, q_dz, q_iflt, q_ifnlt, q_ifeq, q_ifne, q_ifM, q_ifMM, q_ifMlt, q_ifltM, nI_add, pk_mul, q_sub, q_div, q_cl, q_st_s, q_st_i, q_st_c, Nat.add_zero, Nat.zero_add]
      · simp only [f_X11_runs_12, List.length_cons]
        simp (disch := omega) only [Nat.mul_zero, q_ifF hne, q_ifF hne1, q_ifT (show k 14 c = nI 9 from c2), Nat.add_sub_cancel, ↓reduceIte, ↓qM_e, ↓q_rem, q_mod, q_modN, q_lit, q_nI, q_lt, q_bd, q_ix, q_dz, q_iflt, q_ifnlt, q_ifeq, q_ifne, q_ifM, q_ifMM, q_ifMlt, q_ifltM, nI_add, pk_mul, q_sub, q_div, q_cl, q_st_s, q_st_i, q_st_c, Nat.add_zero, Nat.zero_add]
    · -- two
      have hxy' : (x, y) ∈ [(25, 2), (26, 3), (27, 4), (28, 5), (31, 6), (32, 7), (33, 8), (14, 10), (13, 11)] := by
        exact (show ∀ p ∈ [(25, 2), (26, 3), (27, 4), (28, 5), (31, 6), (32, 7), (33, 8), (15, 9), (14, 10), (13, 11)], p.2 ≠ 9 → p ∈ [(25, 2), (26, 3), (27, 4), (28, 5), (31, 6), (32, 7), (33, 8), (14, 10), (13, 11)] by decide) (x, y) hxy hnot
      have hx1 : x < 40 ∧ 12 ≤ x ∧ x ≠ 15 ∧ 2 ≤ y ∧ y < 12 ∧ y ≠ 9 := by
        exact (show ∀ p ∈ [(25, 2), (26, 3), (27, 4), (28, 5), (31, 6), (32, 7), (33, 8), (14, 10), (13, 11)], p.1 < 40 ∧ 12 ≤ p.1 ∧ p.1 ≠ 15 ∧ 2 ≤ p.2 ∧ p.2 < 12 ∧ p.2 ≠ 9 by decide) (x, y) hxy'
      clear hxy
      have hne : ¬ k 14 c = nI 0 := by rw [c2]; intro q; have := (nI_eq (by omega) (by omega)).mp q; omega
      have hne1 : ¬ k 14 c = nI 1 := by rw [c2]; intro q; have := (nI_eq (by omega) (by omega)).mp q; omega
      have hne9 : ¬ k 14 c = nI 9 := by rw [c2]; intro q; have := (nI_eq (by omega) (by omega)).mp q; omega
      have ty : ∃ a b' s nb, st = a :: b' :: s ∧ qTy (k 14) (k 15) (c + 1) n (nb :: s) = some r ∧ (y = 5 → 0 < c ∧ k 14 (c - 1) = 0 ∧ k 15 (c - 1) ≠ 0) ∧ (y = 10 ∨ y = 11 → a = true ∧ b' = true) ∧ (nb = true → y ∈ [6, 7, 8, 10, 11]) := by
        simp only [List.mem_cons, Prod.mk.injEq, List.not_mem_nil, or_false] at hxy'
        rcases hxy' with ⟨-, rfl⟩ | ⟨-, rfl⟩ | ⟨-, rfl⟩ | ⟨-, rfl⟩ | ⟨-, rfl⟩ | ⟨-, rfl⟩ | ⟨-, rfl⟩ | ⟨-, rfl⟩ | ⟨-, rfl⟩
        · obtain ⟨a, b', s, e, t⟩ := qTy_ar (Or.inl c2) hty
          exact ⟨a, b', s, false, e, t, by omega, by omega, fun q => by cases q⟩
        · obtain ⟨a, b', s, e, t⟩ := qTy_ar (Or.inr (Or.inl c2)) hty
          exact ⟨a, b', s, false, e, t, by omega, by omega, fun q => by cases q⟩
        · obtain ⟨a, b', s, e, t⟩ := qTy_ar (Or.inr (Or.inr c2)) hty
          exact ⟨a, b', s, false, e, t, by omega, by omega, fun q => by cases q⟩
        · obtain ⟨a, b', s, e, d, t⟩ := qTy_div c2 hty
          exact ⟨a, b', s, false, e, t, fun _ => d, by omega, fun q => by cases q⟩
        · obtain ⟨a, b', s, e, t⟩ := qTy_cmp (Or.inl c2) hty
          exact ⟨a, b', s, true, e, t, by omega, by omega, fun _ => by decide⟩
        · obtain ⟨a, b', s, e, t⟩ := qTy_cmp (Or.inr (Or.inl c2)) hty
          exact ⟨a, b', s, true, e, t, by omega, by omega, fun _ => by decide⟩
        · obtain ⟨a, b', s, e, t⟩ := qTy_cmp (Or.inr (Or.inr c2)) hty
          exact ⟨a, b', s, true, e, t, by omega, by omega, fun _ => by decide⟩
        · obtain ⟨s, e, t⟩ := qTy_ao (Or.inl c2) hty
          exact ⟨true, true, s, true, e, t, by omega, fun _ => ⟨rfl, rfl⟩, fun _ => by decide⟩
        · obtain ⟨s, e, t⟩ := qTy_ao (Or.inr c2) hty
          exact ⟨true, true, s, true, e, t, by omega, fun _ => ⟨rfl, rfl⟩, fun _ => by decide⟩
      obtain ⟨a, b', s, nb, rfl, t1, t2, t3, t4⟩ := ty
      simp only [List.length_cons] at s1 s2
      have e1 := s2 s.length (by omega)
      have e2 := s2 (s.length + 1) (by omega)
      obtain ⟨v, v1, v2, v3⟩ := q_two hxy' (k 21 s.length) (k 21 (s.length + 1)) h k (fun q => by
        obtain ⟨d1, d2, d3⟩ := t2 q
        have := hN d1 d2 (by simp)
        simp only [List.length_cons] at this
        rw [show s.length + 1 + 1 - 1 = s.length + 1 by omega] at this
        rw [this]; exact d3) (fun q => by
        obtain ⟨q1, q2⟩ := t3 q
        subst q1; subst q2
        have b0 := S.2.2 0 rfl
        have b1 := S.2.2 1 rfl
        simp only [List.length_cons] at b0 b1
        rw [show s.length + 1 + 1 - 1 - 0 = s.length + 1 by omega] at b0
        rw [show s.length + 1 + 1 - 1 - 1 = s.length by omega] at b1
        exact ⟨b1, b0⟩)
      refine ⟨nb :: s, v, t1, ?_, by simp, fun q => absurd q hne, fun rec => ?_, fun rec => ?_⟩
      · rw [List.length_cons, Nat.add_sub_cancel]
        exact qStkE_two S (fun q => v3 (t4 q))
      · have f1 : qM + nI (s.length + 1 + 1) = nI (s.length + 1) := qM_add _
        simp only [f_X1_worth_10, f_X1_worth_53, f_X1_worth_94, f_X1_worth_129, List.length_cons]
        rcases Nat.lt_or_ge 11 x with z | z
        · simp (disch := omega) only [c1, q_xorMM, qM_c, f1, e1, e2, v1, Nat.add_sub_cancel, ↓reduceIte, ↓qM_e, ↓q_rem, q_mod, q_modN, q_lit, q_nI, q_lt, q_bd, q_ix, q_dz, q_iflt, q_ifnlt, q_ifeq, q_ifne, q_ifM, q_ifMM, q_ifMlt, q_ifltM, nI_add, pk_mul, q_sub, q_div, q_cl, q_st_s, q_st_i, q_st_c, Nat.add_zero, Nat.zero_add]
        · omega
      · simp only [f_X11_runs_12, List.length_cons]
        have v2' : f_X11_twoOf (k 14 c) (k 21 s.length) (k 21 (s.length + 1)) k = some (v, k) := by rw [c2]; exact v2
        simp (disch := omega) only [Nat.mul_zero, q_ifF hne, q_ifF hne1, q_ifF hne9, v2', Nat.add_sub_cancel, ↓reduceIte, ↓qM_e, ↓q_rem, q_mod, q_modN, q_lit, q_nI, q_lt, q_bd, q_ix, q_dz, q_iflt, q_ifnlt, q_ifeq, q_ifne, q_ifM, q_ifMM, q_ifMlt, q_ifltM, nI_add, pk_mul, q_sub, q_div, q_cl, q_st_s, q_st_i, q_st_c, Nat.add_zero, Nat.zero_add]
/-- codes of both, from a to b: the same number -/
theorem q_worth {o a b : Nat} {h k : zHp} {r : List Bool} (ho : o + 6 ≠ 160) (hab : a ≤ b) (hb : b ≤ 400) (hC : ∀ c, a ≤ c → c < b → qCode (h (o + 5) c) (k 14 c) (k 15 c)) (hA : qAskd h k) (hty : qTy (k 14) (k 15) a (b - a) [] = some r) (hr : r ≠ []) (hty0 : 0 < a → k 14 (a - 1) = 0 → True) : ∃ v h' k', f_X1_worth o (nI a) (nI b) h = some (v, h') ∧ f_X11_runs (nI 0) (nI a) (nI b) k = some (v, k') ∧ (∀ c, c ≠ o + 6 → h' c = h c) ∧ (∀ c, c ≠ 21 → k' c = k c) := by
  have e0 : (if (0 : Int32) < nI a then nI a else (0 : Int32)) = nI a := by
    rcases Nat.eq_zero_or_pos a with z | z
    · subst z; rfl
    · exact q_ifT (nI_lt (a := 0) (b := a) z (by omega))
  obtain ⟨v, w, ⟨st, h', k', rfl, rfl, I1, I2, I3, I4, I5⟩, e1, e2⟩ := q_inv2 (b1 := fun k10 v => f_X1_worth_10 o k10 v.1 v.2.1 v.2.2.1 v.2.2.2) (b2 := fun k12 v => f_X11_runs_12 k12 v.1 v.2.1 v.2.2.1 v.2.2.2.1 v.2.2.2.2) (I := fun j v w => ∃ st h' k', v = (nI b, nI st.length, nI (a + j), h') ∧ w = (nI 0, nI b, nI st.length, nI (a + j), k') ∧ qTy (k 14) (k 15) (a + j) (b - a - j) st = some r ∧ qStkE h' o k' st ∧ (∀ c, c ≠ o + 6 → h' c = h c) ∧ (∀ c, c ≠ 21 → k' c = k c) ∧ (0 < a + j → k 14 (a + j - 1) = 0 → st ≠ [] → k' 21 (st.length - 1) = k 15 (a + j - 1))) (b - a) (fun j v w hj hI => by
      obtain ⟨st, h', k', rfl, rfl, I1, I2, I3, I4, I5⟩ := hI
      have k14 := I4 14 (by omega)
      have k15 := I4 15 (by omega)
      obtain ⟨st', x, g1, g2, g3, g4, g5, g6⟩ := q_code (sz := 0) (T := 0) (o := o) (c := a + j) (n := b - a - j - 1) (b := b) (h := h') (k := k') (st := st) (r := r) ho (by omega) hb (by omega) (by rw [I3 _ (by omega), k14, k15]; exact hC _ (by omega) (by omega)) (fun i hi => by rw [I3 _ (fun q => ho q.symm), I4 _ (by omega)]; exact hA i hi) I2 (by rw [k14, k15]; exact I5) (by rw [k14, k15, show b - a - j - 1 + 1 = b - a - j by omega]; exact I1)
      refine ⟨_, _, g5, g6, st', _, _, rfl, rfl, ?_, g2, fun c hc => ?_, fun c hc => ?_, fun q1 q2 q3 => ?_⟩
      · rw [← k14, ← k15, show b - a - (j + 1) = b - a - j - 1 by omega]; exact g1
      · rw [q_st_c hc]; exact I3 c hc
      · rw [q_st_c hc]; exact I4 c hc
      · rw [q_st_s]
        rw [show a + (j + 1) - 1 = a + j by omega] at q2 ⊢
        rw [← k15]
        exact g4 (by rw [k14]; exact q2)) (nI b, nI ([] : List Bool).length, nI (a + 0), h) (nI 0, nI b, nI ([] : List Bool).length, nI (a + 0), k) ⟨[], h, k, rfl, rfl, hty, ⟨by simp, fun m hm => by simp at hm, fun t ht => by simp at ht⟩, fun _ _ => rfl, fun _ _ => rfl, fun _ _ q => absurd rfl q⟩ zN zN (by rw [q_zN]; omega) (by rw [q_zN]; omega)
  have hst : st = r := by
    rw [show b - a - (b - a) = 0 by omega] at I1
    unfold qTy at I1
    exact Option.some.inj I1
  have hl : 0 < st.length := by
    rw [hst]; exact List.length_pos_iff.mpr hr
  have hl2 := I2.1
  rw [show a + (b - a) = b by omega] at e1 e2
  refine ⟨k' 21 0, h', k', ?_, ?_, I3, I4⟩
  · unfold f_X1_worth f_X1_worth_10_lp
    rw [q_lt, e0]
    have e1' : zlp (fun k10 v => f_X1_worth_10 o k10 v.1 v.2.1 v.2.2.1 v.2.2.2) zN (nI b, (0 : Int32), nI a, h) = _ := e1
    rw [e1', q_lpS (by rw [q_zN]; omega)]
    have hz := I2.2.1 0 hl
    simp only [f_X1_worth_10]
    rw [q_ifF (nI_nlt (Nat.le_refl b) (by omega))]
    simp only [f_X1_worth_174]
    simp (disch := omega) only [hz, ↓reduceIte, ↓qM_e, ↓q_rem, q_mod, q_modN, q_lit, q_nI, q_lt, q_bd, q_ix, q_dz, q_iflt, q_ifnlt, q_ifeq, q_ifne, q_ifM, q_ifMM, q_ifMlt, q_ifltM, nI_add, pk_mul, q_sub, q_div, q_cl, q_st_s, q_st_i, q_st_c, Nat.add_zero, Nat.zero_add]
  · unfold f_X11_runs f_X11_runs_12_lp
    have e3 : (400 : Int32) * nI 0 + nI a = nI a := by
      simp (disch := omega) only [Nat.mul_zero, ↓reduceIte, ↓qM_e, ↓q_rem, q_mod, q_modN, q_lit, q_nI, q_lt, q_bd, q_ix, q_dz, q_iflt, q_ifnlt, q_ifeq, q_ifne, q_ifM, q_ifMM, q_ifMlt, q_ifltM, nI_add, pk_mul, q_sub, q_div, q_cl, q_st_s, q_st_i, q_st_c, Nat.add_zero, Nat.zero_add]
    rw [q_lt, e3]
    have e2' : zlp (fun k12 v => f_X11_runs_12 k12 v.1 v.2.1 v.2.2.1 v.2.2.2.1 v.2.2.2.2) zN (nI 0, nI b, (0 : Int32), nI a, k) = _ := e2
    rw [e2', q_lpS (by rw [q_zN]; omega)]
    have e4 : (400 : Int32) * nI 0 + nI b = nI b := by
      simp (disch := omega) only [Nat.mul_zero, ↓reduceIte, ↓qM_e, ↓q_rem, q_mod, q_modN, q_lit, q_nI, q_lt, q_bd, q_ix, q_dz, q_iflt, q_ifnlt, q_ifeq, q_ifne, q_ifM, q_ifMM, q_ifMlt, q_ifltM, nI_add, pk_mul, q_sub, q_div, q_cl, q_st_s, q_st_i, q_st_c, Nat.add_zero, Nat.zero_add]
    simp only [f_X11_runs_12]
    rw [e4, q_ifF (nI_nlt (Nat.le_refl b) (by omega))]
    simp (disch := omega) only [↓reduceIte, ↓qM_e, ↓q_rem, q_mod, q_modN, q_lit, q_nI, q_lt, q_bd, q_ix, q_dz, q_iflt, q_ifnlt, q_ifeq, q_ifne, q_ifM, q_ifMM, q_ifMlt, q_ifltM, nI_add, pk_mul, q_sub, q_div, q_cl, q_st_s, q_st_i, q_st_c, Nat.add_zero, Nat.zero_add]
end Qeval
