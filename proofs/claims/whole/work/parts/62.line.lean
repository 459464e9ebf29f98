/-! LINE -/
section Qline
def qFold {A : Type} (f : A → Nat → A) (a : A) : Nat → A
  | 0 => a
  | n + 1 => f (qFold f a n) n
theorem qFold_max (f : Nat → Nat) (a : Nat) : ∀ n, a ≤ qFold (fun v t => max v (f t)) a n ∧ (∀ t, t < n → f t ≤ qFold (fun v t => max v (f t)) a n) ∧ (qFold (fun v t => max v (f t)) a n = a ∨ ∃ t, t < n ∧ qFold (fun v t => max v (f t)) a n = f t)
  | 0 => ⟨Nat.le_refl a, fun t ht => absurd ht (Nat.not_lt_zero t), Or.inl rfl⟩
  | n + 1 => by
    obtain ⟨h1, h2, h3⟩ := qFold_max f a n
    have e : qFold (fun v t => max v (f t)) a (n + 1) = max (qFold (fun v t => max v (f t)) a n) (f n) := rfl
    rw [e]
    generalize qFold (fun v t => max v (f t)) a n = r at *
    refine ⟨by omega, fun t ht => ?_, ?_⟩
    · by_cases z : t = n
      · rw [z]; omega
      · have := h2 t (by omega); omega
    · rcases Nat.le_total r (f n) with z | z
      · exact Or.inr ⟨n, by omega, by omega⟩
      · rw [Nat.max_eq_left z]
        rcases h3 with q | ⟨t, t1, t2⟩
        · exact Or.inl q
        · exact Or.inr ⟨t, by omega, t2⟩
theorem qFold_max2 (f : Nat → Nat → Nat) (L : Nat → Nat) (a : Nat) : ∀ n, a ≤ qFold (fun v i => qFold (fun v t => max v (f i t)) v (L i)) a n ∧ (∀ i t, i < n → t < L i → f i t ≤ qFold (fun v i => qFold (fun v t => max v (f i t)) v (L i)) a n) ∧ (qFold (fun v i => qFold (fun v t => max v (f i t)) v (L i)) a n = a ∨ ∃ i t, i < n ∧ t < L i ∧ qFold (fun v i => qFold (fun v t => max v (f i t)) v (L i)) a n = f i t)
  | 0 => ⟨Nat.le_refl a, fun i t ht => absurd ht (Nat.not_lt_zero i), Or.inl rfl⟩
  | n + 1 => by
    obtain ⟨h1, h2, h3⟩ := qFold_max2 f L a n
    have e : qFold (fun v i => qFold (fun v t => max v (f i t)) v (L i)) a (n + 1) = qFold (fun v t => max v (f n t)) (qFold (fun v i => qFold (fun v t => max v (f i t)) v (L i)) a n) (L n) := rfl
    rw [e]
    generalize qFold (fun v i => qFold (fun v t => max v (f i t)) v (L i)) a n = r at *
    obtain ⟨g1, g2, g3⟩ := qFold_max (f n) r (L n)
    refine ⟨by omega, fun i t hi ht => ?_, ?_⟩
    · by_cases z : i = n
      · subst z; exact g2 t ht
      · have := h2 i t (by omega) ht; omega
    · rcases g3 with q | ⟨t, t1, t2⟩
      · rw [q]
        rcases h3 with q | ⟨i, t, t1, t2, t3⟩
        · exact Or.inl q
        · exact Or.inr ⟨i, t, by omega, t2, t3⟩
      · exact Or.inr ⟨n, t, by omega, t1, t2⟩
theorem qFold_min (f : Nat → Nat) (a : Nat) : ∀ n, qFold (fun v t => min v (f t)) a n ≤ a ∧ (∀ t, t < n → qFold (fun v t => min v (f t)) a n ≤ f t) ∧ (qFold (fun v t => min v (f t)) a n = a ∨ ∃ t, t < n ∧ qFold (fun v t => min v (f t)) a n = f t)
  | 0 => ⟨Nat.le_refl a, fun t ht => absurd ht (Nat.not_lt_zero t), Or.inl rfl⟩
  | n + 1 => by
    obtain ⟨h1, h2, h3⟩ := qFold_min f a n
    have e : qFold (fun v t => min v (f t)) a (n + 1) = min (qFold (fun v t => min v (f t)) a n) (f n) := rfl
    rw [e]
    generalize qFold (fun v t => min v (f t)) a n = r at *
    refine ⟨by omega, fun t ht => ?_, ?_⟩
    · by_cases z : t = n
      · rw [z]; omega
      · have := h2 t (by omega); omega
    · rcases Nat.le_total (f n) r with z | z
      · exact Or.inr ⟨n, by omega, by omega⟩
      · rw [Nat.min_eq_left z]
        rcases h3 with q | ⟨t, t1, t2⟩
        · exact Or.inl q
        · exact Or.inr ⟨t, by omega, t2⟩
theorem qFold_min2 (f : Nat → Nat → Nat) (L : Nat → Nat) (a : Nat) : ∀ n, qFold (fun v i => qFold (fun v t => min v (f i t)) v (L i)) a n ≤ a ∧ (∀ i t, i < n → t < L i → qFold (fun v i => qFold (fun v t => min v (f i t)) v (L i)) a n ≤ f i t) ∧ (qFold (fun v i => qFold (fun v t => min v (f i t)) v (L i)) a n = a ∨ ∃ i t, i < n ∧ t < L i ∧ qFold (fun v i => qFold (fun v t => min v (f i t)) v (L i)) a n = f i t)
  | 0 => ⟨Nat.le_refl a, fun i t ht => absurd ht (Nat.not_lt_zero i), Or.inl rfl⟩
  | n + 1 => by
    obtain ⟨h1, h2, h3⟩ := qFold_min2 f L a n
    have e : qFold (fun v i => qFold (fun v t => min v (f i t)) v (L i)) a (n + 1) = qFold (fun v t => min v (f n t)) (qFold (fun v i => qFold (fun v t => min v (f i t)) v (L i)) a n) (L n) := rfl
    rw [e]
    generalize qFold (fun v i => qFold (fun v t => min v (f i t)) v (L i)) a n = r at *
    obtain ⟨g1, g2, g3⟩ := qFold_min (f n) r (L n)
    refine ⟨by omega, fun i t hi ht => ?_, ?_⟩
    · by_cases z : i = n
      · subst z; exact g2 t ht
      · have := h2 i t (by omega) ht; omega
    · rcases g3 with q | ⟨t, t1, t2⟩
      · rw [q]
        rcases h3 with q | ⟨i, t, t1, t2, t3⟩
        · exact Or.inl q
        · exact Or.inr ⟨i, t, by omega, t2, t3⟩
      · exact Or.inr ⟨n, t, by omega, t1, t2⟩
-- two numbers' difference
def qDf (a b : Nat) : Nat := if a ≤ b then b - a else a - b
theorem qDf_le {a b m : Nat} (ha : a ≤ m) (hb : b ≤ m) : qDf a b ≤ m := by unfold qDf; split <;> omega
theorem qDf_sq {a b : Nat} (ha : a < 1000) (hb : b < 1000) : (nI a - nI b) * (nI a - nI b) = nI (qDf a b * qDf a b) := by
  unfold qDf
  split
  · rename_i h
    have e : nI a - nI b = -(nI (b - a)) := by rw [← pk_sub h, Int32.neg_sub]
    rw [e, Int32.neg_mul_neg, pk_mul]
  · rename_i h
    rw [pk_sub (by omega), pk_mul]
theorem qDf_c (a b : Nat) : qDf a b = qDf b a := by unfold qDf; split <;> split <;> omega
theorem q_toI {a b : Nat} (ha : a < 1000) (hb : b < 1000) : (nI a - nI b).toInt = (a : Int) - b := pk_sub_toInt (by omega) (by omega)
theorem q_mulI {a b c d : Nat} (ha : a < 1000) (hb : b < 1000) (hc : c < 1000) (hd : d < 1000) : ((nI a - nI b) * (nI c - nI d)).toInt = ((a : Int) - b) * ((c : Int) - d) ∧ -1000000 ≤ ((a : Int) - b) * ((c : Int) - d) ∧ ((a : Int) - b) * ((c : Int) - d) ≤ 1000000 := by
  have h : ((a : Int) - b).natAbs * ((c : Int) - d).natAbs ≤ 1000 * 1000 := Nat.mul_le_mul (by omega) (by omega)
  rw [← Int.natAbs_mul] at h
  have h1 : -1000000 ≤ ((a : Int) - b) * ((c : Int) - d) ∧ ((a : Int) - b) * ((c : Int) - d) ≤ 1000000 := by
    generalize ((a : Int) - b) * ((c : Int) - d) = z at *
    omega
  refine ⟨?_, h1⟩
  rw [fb_mulI, q_toI ha hb, q_toI hc hd]
  · rw [q_toI ha hb, q_toI hc hd]; omega
  · rw [q_toI ha hb, q_toI hc hd]; omega
/-- c lies on the line of i and j -/
def qCol (x y : Nat → Nat) (i j c : Nat) : Bool := decide (((x j : Int) - x i) * ((y c : Int) - y i) = ((x c : Int) - x i) * ((y j : Int) - y i))
theorem qCol_sw (x y : Nat → Nat) (i j c : Nat) : qCol x y i j c = qCol x y j i c := by
  unfold qCol
  congr 1
  apply propext
  simp only [Int.sub_mul, Int.mul_sub]
  constructor <;> intro h <;> omega
def qOn (x y : Nat → Nat) (n i j : Nat) : Nat := qCnt (qCol x y i j) n
theorem qOn_sw (x y : Nat → Nat) (n i j : Nat) : qOn x y n i j = qOn x y n j i := by
  unfold qOn
  congr 1
  exact funext fun c => qCol_sw x y i j c
theorem qCnt_pos {p : Nat → Bool} {i : Nat} (hp : p i = true) : ∀ {n}, i < n → 1 ≤ qCnt p n
  | 0, h => absurd h (Nat.not_lt_zero i)
  | n + 1, h => by
    unfold qCnt
    by_cases z : i = n
    · rw [← z, hp, if_pos rfl]; omega
    · have := qCnt_pos hp (n := n) (by omega)
      split <;> omega
theorem qOn_pos (x y : Nat → Nat) {n i j : Nat} (hi : i < n) : 1 ≤ qOn x y n i j := by
  refine qCnt_pos (i := i) ?_ hi
  unfold qCol
  simp
def qSq (x y : Nat → Nat) (i j : Nat) : Nat := qDf (x i) (x j) * qDf (x i) (x j) + qDf (y i) (y j) * qDf (y i) (y j)
theorem qSq_sw (x y : Nat → Nat) (i j : Nat) : qSq x y i j = qSq x y j i := by unfold qSq; rw [qDf_c (x i), qDf_c (y i)]
theorem qSq_le {x y : Nat → Nat} {i j : Nat} (h1 : x i ≤ 20) (h2 : x j ≤ 20) (h3 : y i ≤ 20) (h4 : y j ≤ 20) : qSq x y i j ≤ 800 := by
  unfold qSq
  have a := Nat.mul_le_mul (qDf_le h1 h2) (qDf_le h1 h2)
  have b := Nat.mul_le_mul (qDf_le h3 h4) (qDf_le h3 h4)
  omega
-- the class
def qPX (h : zHp) (n : Nat) (x y : Nat → Nat) : Prop := n ≤ 8 ∧ h 31 1 = nI n ∧ ∀ i, i < n → x i ≤ 20 ∧ y i ≤ 20 ∧ h 32 i = nI (x i * 32 + y i)
def qPM (k : zHp) (n : Nat) (x y : Nat → Nat) : Prop := n ≤ 8 ∧ k 0 49 = nI n ∧ ∀ i, i < n → x i ≤ 20 ∧ y i ≤ 20 ∧ k 27 i = nI (x i) ∧ k 28 i = nI (y i)
theorem q_pxX {h : zHp} {n : Nat} {x y : Nat → Nat} (S : qPX h n x y) {i : Nat} (hi : i < n) : f_X5_x (nI i) h = some (nI (x i), h) ∧ f_X5_y (nI i) h = some (nI (y i), h) := by
  obtain ⟨s1, s2, s3⟩ := S
  obtain ⟨a1, a2, a3⟩ := s3 i hi
  have hz : zln wX 32 = 8 := by decide +kernel
  have hg := q_get (N := 8) (o := 31) s2 hz s1 (by omega) hi a3
  unfold f_X5_x f_X5_y
  rw [hg, q_bd]
  simp only [qT_first (h := h) (show x i < 1000 by omega) (show y i < 32 by omega), qT_second (h := h) (show x i < 1000 by omega) (show y i < 32 by omega), q_bd]
  constructor <;> first | trivial | rfl
theorem q_mostX {h : zHp} {n : Nat} {x y : Nat → Nat} (S : qPX h n x y) : f_X5_mostOnLine h = some (nI (qFold (fun v i => qFold (fun v t => max v (qOn x y n i (i + 1 + t))) v (n - (i + 1))) (min n 1) n), h) := by
  obtain ⟨s1, s2, s3⟩ := id S
  have e0 : (if (1 : Int32) < nI n then (1 : Int32) else nI n) = nI (min n 1) := by
    rw [show (1 : Int32) = nI 1 from rfl, q_minX (by omega) (by omega), Nat.min_comm]
  unfold f_X5_mostOnLine f_X5_mostOnLine_19_lp
  rw [s2, q_lt, e0, q_lt]
  have bd : ∀ i v, v ≤ 8 → ∀ m, qFold (fun v t => max v (qOn x y n i (i + 1 + t))) v m ≤ 8 := by
    intro i v hv m
    induction m with
    | zero => exact hv
    | succ m ih =>
      have := qCnt_le (qCol x y i (i + 1 + m)) n
      show max _ (qOn x y n i (i + 1 + m)) ≤ 8
      unfold qOn at *
      omega
  have bd2 : ∀ m, qFold (fun v i => qFold (fun v t => max v (qOn x y n i (i + 1 + t))) v (n - (i + 1))) (min n 1) m ≤ 8 := by
    intro m
    induction m with
    | zero => show min n 1 ≤ 8; omega
    | succ m ih => exact bd m _ ih _
  refine q_for (S := fun i => (nI n, nI (qFold (fun v i => qFold (fun v t => max v (qOn x y n i (i + 1 + t))) v (n - (i + 1))) (min n 1) i), nI i, h)) n (fun i hi rec => ?_) (fun rec => ?_) zN (by rw [q_zN]; omega)
  · have b0 := bd2 i
    have eS : qFold (fun v i => qFold (fun v t => max v (qOn x y n i (i + 1 + t))) v (n - (i + 1))) (min n 1) (i + 1) = qFold (fun v t => max v (qOn x y n i (i + 1 + t))) (qFold (fun v i => qFold (fun v t => max v (qOn x y n i (i + 1 + t))) v (n - (i + 1))) (min n 1) i) (n - (i + 1)) := rfl
    rw [eS]
    generalize qFold (fun v i => qFold (fun v t => max v (qOn x y n i (i + 1 + t))) v (n - (i + 1))) (min n 1) i = mo at *
    simp only [f_X5_mostOnLine_19]
    simp (disch := omega) only [f_X5_mostOnLine_19, ↓reduceIte, ↓qM_e, ↓q_rem, q_mod, q_modN, q_lit, q_nI, q_lt, q_bd, q_ix, q_dz, q_iflt, q_ifnlt, q_ifeq, q_ifne, q_ifM, q_ifMM, q_ifMlt, q_ifltM, nI_add, pk_mul, q_sub, q_div, q_cl, q_st_s, q_st_i, q_st_c, Nat.add_zero, Nat.zero_add]
    unfold f_X5_mostOnLine_29_lp
    refine q_for (S := fun m => (nI n, nI (qFold (fun v t => max v (qOn x y n i (i + 1 + t))) mo m), nI i, nI (i + 1 + m), h)) (n - (i + 1)) (fun m hm rec2 => ?_) (fun rec2 => ?_) zN (by rw [q_zN]; omega)
    · have b1 := bd i mo b0 m
      have eS : qFold (fun v t => max v (qOn x y n i (i + 1 + t))) mo (m + 1) = max (qFold (fun v t => max v (qOn x y n i (i + 1 + t))) mo m) (qOn x y n i (i + 1 + m)) := rfl
      rw [eS]
      generalize qFold (fun v t => max v (qOn x y n i (i + 1 + t))) mo m = mo2 at *
      have hj : i + 1 + m < n := by omega
      simp only [f_X5_mostOnLine_29]
      simp (disch := omega) only [f_X5_mostOnLine_29, ↓reduceIte, ↓qM_e, ↓q_rem, q_mod, q_modN, q_lit, q_nI, q_lt, q_bd, q_ix, q_dz, q_iflt, q_ifnlt, q_ifeq, q_ifne, q_ifM, q_ifMM, q_ifMlt, q_ifltM, nI_add, pk_mul, q_sub, q_div, q_cl, q_st_s, q_st_i, q_st_c, Nat.add_zero, Nat.zero_add]
      unfold f_X5_mostOnLine_41_lp
      refine q_for (S := fun c => (nI n, nI mo2, nI i, nI (i + 1 + m), nI (qCnt (qCol x y i (i + 1 + m)) c), nI c, h)) n (fun c hc rec3 => ?_) (fun rec3 => ?_) zN (by rw [q_zN]; omega)
      · obtain ⟨xi, yi⟩ := q_pxX S hi
        obtain ⟨xj, yj⟩ := q_pxX S hj
        obtain ⟨xc, yc⟩ := q_pxX S hc
        obtain ⟨a1, a2, -⟩ := s3 i hi
        obtain ⟨a3, a4, -⟩ := s3 _ hj
        obtain ⟨a5, a6, -⟩ := s3 c hc
        have m1 := (q_mulI (a := x (i + 1 + m)) (b := x i) (c := y c) (d := y i) (by omega) (by omega) (by omega) (by omega)).1
        have m2 := (q_mulI (a := x c) (b := x i) (c := y (i + 1 + m)) (d := y i) (by omega) (by omega) (by omega) (by omega)).1
        have hq := qCnt_le (qCol x y i (i + 1 + m)) c
        simp only [f_X5_mostOnLine_41]
        rw [q_ifT (nI_lt hc (by omega)), xj, q_bd]
        simp only [xi, xc, yi, yj, yc, q_bd]
        by_cases z : qCol x y i (i + 1 + m) c = true
        · have e1 : (nI (x (i + 1 + m)) - nI (x i)) * (nI (y c) - nI (y i)) = (nI (x c) - nI (x i)) * (nI (y (i + 1 + m)) - nI (y i)) := by
            rw [fa_eq, m1, m2]; unfold qCol at z; exact of_decide_eq_true z
          rw [q_ifT e1, qCnt, if_pos z]
          simp (disch := omega) only [↓reduceIte, ↓qM_e, ↓q_rem, q_mod, q_modN, q_lit, q_nI, q_lt, q_bd, q_ix, q_dz, q_iflt, q_ifnlt, q_ifeq, q_ifne, q_ifM, q_ifMM, q_ifMlt, q_ifltM, nI_add, pk_mul, q_sub, q_div, q_cl, q_st_s, q_st_i, q_st_c, Nat.add_zero, Nat.zero_add]
        · have e1 : ¬ (nI (x (i + 1 + m)) - nI (x i)) * (nI (y c) - nI (y i)) = (nI (x c) - nI (x i)) * (nI (y (i + 1 + m)) - nI (y i)) := by
            rw [fa_eq, m1, m2]; unfold qCol at z; intro q; exact z (decide_eq_true q)
          rw [q_ifF e1, qCnt, if_neg z]
          simp (disch := omega) only [↓reduceIte, ↓qM_e, ↓q_rem, q_mod, q_modN, q_lit, q_nI, q_lt, q_bd, q_ix, q_dz, q_iflt, q_ifnlt, q_ifeq, q_ifne, q_ifM, q_ifMM, q_ifMlt, q_ifltM, nI_add, pk_mul, q_sub, q_div, q_cl, q_st_s, q_st_i, q_st_c, Nat.add_zero, Nat.zero_add]
      · have hq := qCnt_le (qCol x y i (i + 1 + m)) n
        simp only [f_X5_mostOnLine_41]
        rw [q_ifF (nI_nlt (Nat.le_refl n) (by omega)), q_lt, q_maxX (by omega) (by omega), nI_1]
        rfl
    · simp only [f_X5_mostOnLine_29]
      rw [show i + 1 + (n - (i + 1)) = n by omega, q_ifF (nI_nlt (Nat.le_refl n) (by omega)), nI_1]
  · simp only [f_X5_mostOnLine_19]
    simp (disch := omega) only [f_X5_mostOnLine_19, ↓reduceIte, ↓qM_e, ↓q_rem, q_mod, q_modN, q_lit, q_nI, q_lt, q_bd, q_ix, q_dz, q_iflt, q_ifnlt, q_ifeq, q_ifne, q_ifM, q_ifMM, q_ifMlt, q_ifltM, nI_add, pk_mul, q_sub, q_div, q_cl, q_st_s, q_st_i, q_st_c, Nat.add_zero, Nat.zero_add]
/-- the least (g: the greatest) so far; none -/
def qBest (g : Bool) (o : Option Nat) (d : Nat) : Option Nat := match o with
  | none => some d
  | some v => some (if g then max v d else min v d)
def qEnc : Option Nat → Int32
  | none => qM
  | some v => nI v
def qBst (x y : Nat → Nat) (g : Bool) (n m : Nat) : Option Nat := qFold (fun v i => qFold (fun v t => qBest g v (qSq x y (i + 1 + t) i)) v (n - (i + 1))) none m
theorem q_distX {h : zHp} {n : Nat} {x y : Nat → Nat} (S : qPX h n x y) (g : Bool) : f_X5_distance (if g then 1 else 0) h = some (qEnc (qBst x y g n n), h) := by
  obtain ⟨s1, s2, s3⟩ := id S
  unfold f_X5_distance f_X5_distance_4_lp
  have ok : ∀ (o : Option Nat), (∀ v, o = some v → v ≤ 800) → ∀ d, d ≤ 800 → ∀ v, qBest g o d = some v → v ≤ 800 := by
    intro o ho d hd v hv
    unfold qBest at hv
    cases o with
    | none => cases hv; exact hd
    | some w =>
      have := ho w rfl
      cases g <;> simp at hv <;> omega
  have bd : ∀ i, i < n → ∀ o : Option Nat, (∀ v, o = some v → v ≤ 800) → ∀ m, m ≤ n - (i + 1) → ∀ v, qFold (fun v t => qBest g v (qSq x y (i + 1 + t) i)) o m = some v → v ≤ 800 := by
    intro i hi o ho m
    induction m with
    | zero => intro _; exact ho
    | succ m ih =>
      intro hm
      have a := s3 i hi
      have b := s3 (i + 1 + m) (by omega)
      exact ok _ (ih (by omega)) _ (qSq_le b.1 a.1 b.2.1 a.2.1)
  have bd2 : ∀ m, m ≤ n → ∀ v, qBst x y g n m = some v → v ≤ 800 := by
    intro m
    induction m with
    | zero => intro _ v hv; cases hv
    | succ m ih => intro hm; exact bd m (by omega) _ (ih (by omega)) _ (Nat.le_refl _)
  refine q_for (S := fun i => ((if g then 1 else 0 : Int32), qEnc (qBst x y g n i), nI i, h)) n (fun i hi rec => ?_) (fun rec => ?_) zN (by rw [q_zN]; omega)
  · have eS : qBst x y g n (i + 1) = qFold (fun v t => qBest g v (qSq x y (i + 1 + t) i)) (qBst x y g n i) (n - (i + 1)) := rfl
    rw [eS]
    have b0 := bd2 i (by omega)
    generalize qBst x y g n i = mo at *
    simp only [f_X5_distance_4]
    rw [s2, q_ifT (nI_lt hi (by omega)), q_lt]
    unfold f_X5_distance_23_lp
    rw [show nI i + (1 : Int32) = nI (i + 1 + 0) from nI_1 i]
    refine q_for (S := fun m => ((if g then 1 else 0 : Int32), qEnc (qFold (fun v t => qBest g v (qSq x y (i + 1 + t) i)) mo m), nI i, nI (i + 1 + m), h)) (n - (i + 1)) (fun m hm rec2 => ?_) (fun rec2 => ?_) zN (by rw [q_zN]; omega)
    · have b1 := bd i hi mo b0 m (by omega)
      have eS : qFold (fun v t => qBest g v (qSq x y (i + 1 + t) i)) mo (m + 1) = qBest g (qFold (fun v t => qBest g v (qSq x y (i + 1 + t) i)) mo m) (qSq x y (i + 1 + m) i) := rfl
      rw [eS]
      generalize qFold (fun v t => qBest g v (qSq x y (i + 1 + t) i)) mo m = mo2 at *
      have hj : i + 1 + m < n := by omega
      obtain ⟨xi, yi⟩ := q_pxX S hi
      obtain ⟨xj, yj⟩ := q_pxX S hj
      obtain ⟨a1, a2, -⟩ := s3 i hi
      obtain ⟨a3, a4, -⟩ := s3 _ hj
      have hs := qSq_le (x := x) (y := y) a3 a1 a4 a2
      have e1 : (nI (x (i + 1 + m)) - nI (x i)) * (nI (x (i + 1 + m)) - nI (x i)) + (nI (y (i + 1 + m)) - nI (y i)) * (nI (y (i + 1 + m)) - nI (y i)) = nI (qSq x y (i + 1 + m) i) := by
        rw [qDf_sq (by omega) (by omega), qDf_sq (by omega) (by omega), nI_add]; rfl
      simp only [f_X5_distance_23]
      rw [s2, q_ifT (nI_lt hj (by omega)), xj, q_bd]
      simp only [xi, yi, yj, q_bd, q_lt, e1]
      generalize qSq x y (i + 1 + m) i = d at *
      cases mo2 with
      | none =>
        rw [show qEnc none = qM from rfl, q_ifT (show qM = -1 from rfl), nI_1]; rfl
      | some v =>
        have hv := b1 v rfl
        rw [show qEnc (some v) = nI v from rfl, q_ifF (show ¬ nI v = -1 from qM_ne (by omega)), nI_1]
        cases g with
        | false =>
          rw [q_ifT (show (if false = true then (1 : Int32) else 0) = 0 from rfl)]
          show _ = rec2 (0, nI (min v d), nI i, nI (i + 1 + (m + 1)), h)
          rcases Nat.lt_or_ge d v with z | z
          · rw [q_ifT (nI_lt z (by omega)), Nat.min_eq_right (by omega)]; rfl
          · rw [q_ifF (nI_nlt z (by omega)), Nat.min_eq_left (by omega)]; rfl
        | true =>
          rw [q_ifF (show ¬ (if true = true then (1 : Int32) else 0) = 0 by decide)]
          show _ = rec2 (1, nI (max v d), nI i, nI (i + 1 + (m + 1)), h)
          rcases Nat.lt_or_ge v d with z | z
          · rw [q_ifT (nI_lt z (by omega)), Nat.max_eq_right (by omega)]; rfl
          · rw [q_ifF (nI_nlt z (by omega)), Nat.max_eq_left (by omega)]; rfl
    · simp only [f_X5_distance_23]
      rw [s2, show i + 1 + (n - (i + 1)) = n by omega, q_ifF (nI_nlt (Nat.le_refl n) (by omega)), nI_1]
  · simp only [f_X5_distance_4]
    rw [s2, q_ifF (nI_nlt (Nat.le_refl n) (by omega))]
/-- what the best of all couples is -/
theorem qBest_row (f : Nat → Nat) (g : Bool) (o : Option Nat) : ∀ n, (qFold (fun v t => qBest g v (f t)) o n = none → o = none ∧ n = 0) ∧ ∀ r, qFold (fun v t => qBest g v (f t)) o n = some r → (∀ v, o = some v → if g then v ≤ r else r ≤ v) ∧ (∀ t, t < n → if g then f t ≤ r else r ≤ f t) ∧ (o = some r ∨ ∃ t, t < n ∧ f t = r)
  | 0 => ⟨fun h => ⟨h, rfl⟩, fun r hr => ⟨fun v hv => by have : v = r := Option.some.inj (hv.symm.trans hr); subst this; cases g <;> simp, fun t ht => absurd ht (Nat.not_lt_zero t), Or.inl hr⟩⟩
  | n + 1 => by
    obtain ⟨h1, h2⟩ := qBest_row f g o n
    have e : qFold (fun v t => qBest g v (f t)) o (n + 1) = qBest g (qFold (fun v t => qBest g v (f t)) o n) (f n) := rfl
    rw [e]
    cases hq : qFold (fun v t => qBest g v (f t)) o n with
    | none =>
      obtain ⟨z1, z2⟩ := h1 hq
      subst z1; subst z2
      refine ⟨fun h => (by cases h), fun r hr => ?_⟩
      have : f 0 = r := Option.some.inj hr
      refine ⟨fun v hv => (by cases hv), fun t ht => ?_, Or.inr ⟨0, by omega, this⟩⟩
      rw [show t = 0 by omega, this]
      cases g <;> simp
    | some w =>
      obtain ⟨g1, g2, g3⟩ := h2 w hq
      refine ⟨fun h => (by cases h), fun r hr => ?_⟩
      have hr2 : (if g then max w (f n) else min w (f n)) = r := Option.some.inj hr
      refine ⟨fun v hv => ?_, fun t ht => ?_, ?_⟩
      · have := g1 v hv
        cases g <;> simp at * <;> omega
      · by_cases z : t = n
        · subst z; cases g <;> simp at * <;> omega
        · have := g2 t (by omega)
          cases g <;> simp at * <;> omega
      · by_cases z : r = w
        · rcases g3 with q | ⟨t, t1, t2⟩
          · exact Or.inl (by rw [z]; exact q)
          · exact Or.inr ⟨t, by omega, by rw [z]; exact t2⟩
        · refine Or.inr ⟨n, by omega, ?_⟩
          cases g <;> simp at * <;> omega
theorem qBst_is (x y : Nat → Nat) (g : Bool) (n : Nat) : ∀ m, m ≤ n → (qBst x y g n m = none → m = 0 ∨ n ≤ 1) ∧ ∀ r, qBst x y g n m = some r → (∀ i t, i < m → t < n - (i + 1) → if g then qSq x y (i + 1 + t) i ≤ r else r ≤ qSq x y (i + 1 + t) i) ∧ ∃ i t, i < m ∧ t < n - (i + 1) ∧ qSq x y (i + 1 + t) i = r
  | 0, _ => ⟨fun _ => Or.inl rfl, fun r hr => by cases hr⟩
  | m + 1, hm => by
    obtain ⟨h1, h2⟩ := qBst_is x y g n m (by omega)
    have e : qBst x y g n (m + 1) = qFold (fun v t => qBest g v (qSq x y (m + 1 + t) m)) (qBst x y g n m) (n - (m + 1)) := rfl
    rw [e]
    obtain ⟨g1, g2⟩ := qBest_row (fun t => qSq x y (m + 1 + t) m) g (qBst x y g n m) (n - (m + 1))
    refine ⟨fun h => ?_, fun r hr => ?_⟩
    · obtain ⟨z1, z2⟩ := g1 h
      rcases h1 z1 with q | q
      · right; omega
      · exact Or.inr q
    · obtain ⟨a1, a2, a3⟩ := g2 r hr
      refine ⟨fun i t hi ht => ?_, ?_⟩
      · by_cases z : i = m
        · subst z; exact a2 t ht
        · cases hq : qBst x y g n m with
          | none => rcases h1 hq with q | q <;> omega
          | some w =>
            have b1 := (h2 w hq).1 i t (by omega) ht
            have b2 := a1 w hq
            cases g <;> simp at * <;> omega
      · rcases a3 with q | ⟨t, t1, t2⟩
        · obtain ⟨i, t, i1, i2, i3⟩ := (h2 r q).2
          exact ⟨i, t, by omega, i2, i3⟩
        · exact ⟨m, t, by omega, t1, t2⟩
-- the reference
theorem q_sideM {k : zHp} {n : Nat} {x y : Nat → Nat} (S : qPM k n x y) {a b c : Nat} (ha : a < n) (hb : b < n) (hc : c < n) : ∃ v, f_X11_sideOf (nI a) (nI b) (nI c) k = some (v, k) ∧ (v = nI 0 ↔ qCol x y a b c = true) := by
  obtain ⟨s1, s2, s3⟩ := S
  obtain ⟨a1, a2, a3, a4⟩ := s3 a ha
  obtain ⟨b1, b2, b3, b4⟩ := s3 b hb
  obtain ⟨c1, c2, c3, c4⟩ := s3 c hc
  refine ⟨(nI (x b) - nI (x a)) * (nI (y c) - nI (y a)) - (nI (x c) - nI (x a)) * (nI (y b) - nI (y a)), ?_, ?_⟩
  · unfold f_X11_sideOf
    simp only [q_ix (show a < 8 by omega) (by omega), q_ix (show b < 8 by omega) (by omega), q_ix (show c < 8 by omega) (by omega), q_cl (show a < 2147483648 by omega), q_cl (show b < 2147483648 by omega), q_cl (show c < 2147483648 by omega), a3, a4, b3, b4, c3, c4]
  · obtain ⟨m1, m2, m3⟩ := q_mulI (a := x b) (b := x a) (c := y c) (d := y a) (by omega) (by omega) (by omega) (by omega)
    obtain ⟨n1, n2, n3⟩ := q_mulI (a := x c) (b := x a) (c := y b) (d := y a) (by omega) (by omega) (by omega) (by omega)
    rw [fa_eq, fb_subI (by rw [m1, n1]; omega) (by rw [m1, n1]; omega), m1, n1, nI_toInt (by omega)]
    unfold qCol
    rw [decide_eq_true_eq]
    constructor
    · intro z
      generalize ((x b : Int) - x a) * ((y c : Int) - y a) = p at *
      generalize ((x c : Int) - x a) * ((y b : Int) - y a) = q at *
      omega
    · intro z
      rw [z]; simp
theorem q_sqM {k : zHp} {n : Nat} {x y : Nat → Nat} (S : qPM k n x y) {a b : Nat} (ha : a < n) (hb : b < n) : f_X11_squareApart (nI a) (nI b) k = some (nI (qSq x y a b), k) := by
  obtain ⟨s1, s2, s3⟩ := S
  obtain ⟨a1, a2, a3, a4⟩ := s3 a ha
  obtain ⟨b1, b2, b3, b4⟩ := s3 b hb
  unfold f_X11_squareApart
  simp only [q_ix (show a < 8 by omega) (by omega), q_ix (show b < 8 by omega) (by omega), q_cl (show a < 2147483648 by omega), q_cl (show b < 2147483648 by omega), a3, a4, b3, b4]
  rw [qDf_sq (by omega) (by omega), qDf_sq (by omega) (by omega), nI_add]; rfl
def qM1 (x y : Nat → Nat) (n m : Nat) : Nat := qFold (fun v a => qFold (fun v b => max v (qOn x y n a b)) v a) 0 m
def qM2 (x y : Nat → Nat) (m : Nat) : Nat := qFold (fun v a => qFold (fun v b => min v (qSq x y a b)) v a) 100000000 m
def qM3 (x y : Nat → Nat) (m : Nat) : Nat := qFold (fun v a => qFold (fun v b => max v (qSq x y a b)) v a) 0 m
theorem q_lineM {k : zHp} {n : Nat} {x y : Nat → Nat} (S : qPM k n x y) (w : Int32) : f_X11_line_50_lp zN (w, nI 0, nI 100000000, nI 0, nI 0, k) = some (if w = 0 then nI (qM1 x y n n) else if w = 1 then nI (qM2 x y n) else nI (qM3 x y n), k) := by
  obtain ⟨s1, s2, s3⟩ := id S
  unfold f_X11_line_50_lp
  have c1 : ∀ a v, v ≤ 8 → ∀ m, qFold (fun v b => max v (qOn x y n a b)) v m ≤ 8 := by
    intro a v hv m
    induction m with
    | zero => exact hv
    | succ m ih =>
      have := qCnt_le (qCol x y a m) n
      show max _ (qOn x y n a m) ≤ 8
      unfold qOn at *
      omega
  have c2 : ∀ a v, v ≤ 100000000 → ∀ m, qFold (fun v b => min v (qSq x y a b)) v m ≤ 100000000 := by
    intro a v hv m
    induction m with
    | zero => exact hv
    | succ m ih =>
      show min _ _ ≤ 100000000
      omega
  have c3 : ∀ a, a < n → ∀ v, v ≤ 800 → ∀ m, m ≤ a → qFold (fun v b => max v (qSq x y a b)) v m ≤ 800 := by
    intro a ha v hv m
    induction m with
    | zero => intro _; exact hv
    | succ m ih =>
      intro hm
      have z1 := s3 a ha
      have z2 := s3 m (by omega)
      have := qSq_le (x := x) (y := y) z1.1 z2.1 z1.2.1 z2.2.1
      have := ih (by omega)
      show max _ _ ≤ 800
      omega
  have d1 : ∀ m, qM1 x y n m ≤ 8 := by
    intro m
    induction m with
    | zero => exact Nat.zero_le _
    | succ m ih => exact c1 m _ ih m
  have d2 : ∀ m, qM2 x y m ≤ 100000000 := by
    intro m
    induction m with
    | zero => exact Nat.le_refl _
    | succ m ih => exact c2 m _ ih m
  have d3 : ∀ m, m ≤ n → qM3 x y m ≤ 800 := by
    intro m
    induction m with
    | zero => intro _; exact Nat.zero_le _
    | succ m ih => intro hm; exact c3 m (by omega) _ (ih (by omega)) m (Nat.le_refl m)
  refine q_for (S := fun a => (w, nI (qM1 x y n a), nI (qM2 x y a), nI (qM3 x y a), nI a, k)) n (fun a ha rec => ?_) (fun rec => ?_) zN (by rw [q_zN]; omega)
  · have b1 := d1 a
    have b2 := d2 a
    have b3 := d3 a (by omega)
    have eS1 : qM1 x y n (a + 1) = qFold (fun v b => max v (qOn x y n a b)) (qM1 x y n a) a := rfl
    have eS2 : qM2 x y (a + 1) = qFold (fun v b => min v (qSq x y a b)) (qM2 x y a) a := rfl
    have eS3 : qM3 x y (a + 1) = qFold (fun v b => max v (qSq x y a b)) (qM3 x y a) a := rfl
    rw [eS1, eS2, eS3]
    generalize qM1 x y n a = p1 at *
    generalize qM2 x y a = p2 at *
    generalize qM3 x y a = p3 at *
    simp only [f_X11_line_50]
    rw [s2, q_ifT (nI_lt ha (by omega))]
    unfold f_X11_line_62_lp
    refine q_for (S := fun b => (w, nI (qFold (fun v b => max v (qOn x y n a b)) p1 b), nI (qFold (fun v b => min v (qSq x y a b)) p2 b), nI (qFold (fun v b => max v (qSq x y a b)) p3 b), nI a, nI b, k)) a (fun b hb rec2 => ?_) (fun rec2 => ?_) zN (by rw [q_zN]; omega)
    · have b4 := c1 a p1 b1 b
      have b5 := c2 a p2 b2 b
      have b6 := c3 a ha p3 b3 b (by omega)
      have eS1 : qFold (fun v b => max v (qOn x y n a b)) p1 (b + 1) = max (qFold (fun v b => max v (qOn x y n a b)) p1 b) (qOn x y n a b) := rfl
      have eS2 : qFold (fun v b => min v (qSq x y a b)) p2 (b + 1) = min (qFold (fun v b => min v (qSq x y a b)) p2 b) (qSq x y a b) := rfl
      have eS3 : qFold (fun v b => max v (qSq x y a b)) p3 (b + 1) = max (qFold (fun v b => max v (qSq x y a b)) p3 b) (qSq x y a b) := rfl
      rw [eS1, eS2, eS3]
      generalize qFold (fun v b => max v (qOn x y n a b)) p1 b = r1 at *
      generalize qFold (fun v b => min v (qSq x y a b)) p2 b = r2 at *
      generalize qFold (fun v b => max v (qSq x y a b)) p3 b = r3 at *
      simp only [f_X11_line_62]
      rw [q_ifT (nI_lt hb (by omega))]
      unfold f_X11_line_75_lp
      refine q_for (S := fun c => (w, nI r1, nI r2, nI r3, nI a, nI b, nI (qCnt (qCol x y a b) c), nI c, k)) n (fun c hc rec3 => ?_) (fun rec3 => ?_) zN (by rw [q_zN]; omega)
      · obtain ⟨v, v1, v2⟩ := q_sideM S ha (show b < n by omega) hc
        have hq := qCnt_le (qCol x y a b) c
        simp only [f_X11_line_75]
        rw [s2, q_ifT (nI_lt hc (by omega)), v1, q_bd]
        by_cases z : qCol x y a b c = true
        · dsimp only
          rw [q_ifT (show v = 0 from v2.mpr z), qCnt, if_pos z]
          simp (disch := omega) only [↓reduceIte, ↓qM_e, ↓q_rem, q_mod, q_modN, q_lit, q_nI, q_lt, q_bd, q_ix, q_dz, q_iflt, q_ifnlt, q_ifeq, q_ifne, q_ifM, q_ifMM, q_ifMlt, q_ifltM, nI_add, pk_mul, q_sub, q_div, q_cl, q_st_s, q_st_i, q_st_c, Nat.add_zero, Nat.zero_add]
        · dsimp only
          rw [q_ifF (show ¬ v = 0 from fun y => z (v2.mp y)), qCnt, if_neg z]
          simp (disch := omega) only [↓reduceIte, ↓qM_e, ↓q_rem, q_mod, q_modN, q_lit, q_nI, q_lt, q_bd, q_ix, q_dz, q_iflt, q_ifnlt, q_ifeq, q_ifne, q_ifM, q_ifMM, q_ifMlt, q_ifltM, nI_add, pk_mul, q_sub, q_div, q_cl, q_st_s, q_st_i, q_st_c, Nat.add_zero, Nat.zero_add]
      · have hq := qCnt_le (qCol x y a b) n
        have z1 := s3 a ha
        have z2 := s3 b (by omega)
        have hs := qSq_le (x := x) (y := y) z1.1 z2.1 z1.2.1 z2.2.1
        simp only [f_X11_line_75]
        rw [s2, q_ifF (nI_nlt (Nat.le_refl n) (by omega)), q_grM (by omega) (by omega), q_bd]
        simp only [q_sqM S ha (show b < n by omega), q_bd]
        rw [q_lsM (by omega) (by omega), q_bd]
        simp only [q_sqM S ha (show b < n by omega), q_bd]
        rw [q_grM (by omega) (by omega), q_bd, nI_1]
        rfl
    · simp only [f_X11_line_62]
      rw [q_ifF (nI_nlt (Nat.le_refl a) (by omega)), nI_1]
  · simp only [f_X11_line_50]
    rw [s2, q_ifF (nI_nlt (Nat.le_refl n) (by omega))]
    by_cases z : w = 0
    · rw [if_pos z, if_pos z]
    · rw [if_neg z, if_neg z]
      by_cases z2 : w = 1
      · rw [if_pos z2, if_pos z2]
      · rw [if_neg z2, if_neg z2]
theorem q_ask_line {h k : zHp} (R : qRel h k) (w : Int32) : qAsk h k (f_X10_line w h) (f_X11_line w k) := by
  obtain ⟨C, P, -, -, -, -, -, -, -, -, -, ⟨n, h1, h2, h3, h4⟩, -⟩ := R.1
  obtain ⟨x, y, H⟩ := q_ch2 h4
  have SX : qPX h n x y := ⟨h1, h2, fun i hi => ⟨(H i hi).1, (H i hi).2.1, (H i hi).2.2.1⟩⟩
  have SM : qPM (zst k 0 0 0) n x y := ⟨h1, by rw [q_st_i (by decide)]; exact h3, fun i hi => ⟨(H i hi).1, (H i hi).2.1, by rw [q_st_c (by decide)]; exact (H i hi).2.2.2.1, by rw [q_st_c (by decide)]; exact (H i hi).2.2.2.2⟩⟩
  have kn : (zst k 0 0 0) 0 49 = nI n := SM.2.1
  unfold f_X10_line f_X11_line
  rcases q_rng 0 2 w (by omega) with o | ⟨v, -, hv, rfl⟩
  · have n0 : ∀ m, m ≤ 2 → ¬ w = nI m := by
      intro m hm z
      rw [z] at o
      rcases o with q | q
      · exact nI_nlt (Nat.zero_le m) (by omega) q
      · exact nI_nlt hm (by omega) q
    refine ⟨-1, h, zst k 0 0 0, ?_, by simp (disch := omega) only [q_inO o, ↓reduceIte, ↓qM_e, ↓q_rem, q_mod, q_modN, q_lit, q_nI, q_lt, q_bd, q_ix, q_dz, q_iflt, q_ifnlt, q_ifeq, q_ifne, q_ifM, q_ifMM, q_ifMlt, q_ifltM, nI_add, pk_mul, q_sub, q_div, q_cl, q_st_s, q_st_i, q_st_c, Nat.add_zero, Nat.zero_add], qXs_rf h, qMs_s0 k⟩
    rw [q_ifF (show ¬ w = 0 from n0 0 (by omega)), q_ifF (show ¬ w = 1 from n0 1 (by omega)), q_ifF (show ¬ w = 2 from n0 2 (by omega))]
  have i1 := q_inI (h := zst k 0 0 0) (lo := 0) (by omega) hv (by omega)
  have eX0 : f_X5_mostOnLine h = _ := q_mostX SX
  have eX1 := q_distX SX false
  have eX2 := q_distX SX true
  rw [if_neg (by decide)] at eX1
  rw [if_pos rfl] at eX2
  rw [q_lt, show (0 : Int32) = nI 0 from rfl, show (2 : Int32) = nI 2 from rfl, show zst k 0 0 (nI 0) = zst k 0 0 0 from rfl, i1, q_bd, q_ifF (show ¬ nI 1 = nI 0 by decide)]
  simp only []
  rw [kn]
  have big := qFold_max2 (fun i t => qOn x y n i (i + 1 + t)) (fun i => n - (i + 1)) (min n 1) n
  have cap : qFold (fun v i => qFold (fun v t => max v (qOn x y n i (i + 1 + t))) v (n - (i + 1))) (min n 1) n ≤ 8 := by
    rcases big.2.2 with q | ⟨i, t, -, -, q⟩
    · rw [q]; omega
    · rw [q]; have := qCnt_le (qCol x y i (i + 1 + t)) n; unfold qOn; omega
  rcases Nat.lt_or_ge n 2 with hn | hn
  · -- one or none
    have f0 : qFold (fun v i => qFold (fun v t => max v (qOn x y n i (i + 1 + t))) v (n - (i + 1))) (min n 1) n = n := by
      rcases (show n = 0 ∨ n = 1 by omega) with rfl | rfl <;> rfl
    have f1 : ∀ g, qBst x y g n n = none := by
      intro g
      rcases (show n = 0 ∨ n = 1 by omega) with rfl | rfl <;> rfl
    rw [f0] at eX0
    rw [f1] at eX1 eX2
    rw [q_ifT (nI_lt hn (by omega))]
    rcases (show v = 0 ∨ v = 1 ∨ v = 2 by omega) with rfl | rfl | rfl
    · refine ⟨nI n, h, zst k 0 0 0, ?_, ?_, qXs_rf h, qMs_s0 k⟩
      · rw [q_ifT rfl, eX0]; rfl
      · rw [q_ifT rfl]
    · refine ⟨-1, h, zst k 0 0 0, ?_, ?_, qXs_rf h, qMs_s0 k⟩
      · rw [q_ifF (by decide), q_ifT (show nI 1 = 1 from rfl)]
        show (f_X5_distance 0 h).bind _ = _
        rw [eX1]; rfl
      · rw [q_ifF (by decide)]
    · refine ⟨-1, h, zst k 0 0 0, ?_, ?_, qXs_rf h, qMs_s0 k⟩
      · rw [q_ifF (by decide), q_ifF (by decide), q_ifT rfl]
        show (f_X5_distance 1 h).bind _ = _
        rw [eX2]; rfl
      · rw [q_ifF (by decide)]
  · rw [q_ifF (nI_nlt hn (by omega))]
    have eM := q_lineM SM (nI v)
    have eM' : f_X11_line_50_lp zN (nI v, nI 0, (100000000 : Int32), nI 0, nI 0, zst k 0 0 0) = _ := eM
    rw [eM']
    have r1 : qFold (fun v i => qFold (fun v t => max v (qOn x y n i (i + 1 + t))) v (n - (i + 1))) (min n 1) n = qM1 x y n n := by
      have m := qFold_max2 (fun a b => qOn x y n a b) (fun a => a) 0 n
      have e1 : qM1 x y n n = qFold (fun v i => qFold (fun v t => max v (qOn x y n i t)) v i) 0 n := rfl
      rw [← e1] at m
      obtain ⟨b1, b2, b3⟩ := big
      obtain ⟨m1, m2, m3⟩ := m
      generalize qFold (fun v i => qFold (fun v t => max v (qOn x y n i (i + 1 + t))) v (n - (i + 1))) (min n 1) n = X at *
      generalize qM1 x y n n = M at *
      have p1 : 1 ≤ M := by
        have := m2 1 0 (by omega) (by omega)
        have := qOn_pos x y (n := n) (i := 1) (j := 0) (by omega)
        omega
      apply Nat.le_antisymm
      · rcases b3 with q | ⟨i, t, i1, i2, q⟩
        · omega
        · rw [q, qOn_sw]; exact m2 (i + 1 + t) i (by omega) (by omega)
      · rcases m3 with q | ⟨a, b, a1, a2, q⟩
        · omega
        · rw [q, qOn_sw]
          have := b2 b (a - (b + 1)) (by omega) (by omega)
          rw [show b + 1 + (a - (b + 1)) = a by omega] at this
          exact this
    rcases (show v = 0 ∨ v = 1 ∨ v = 2 by omega) with rfl | rfl | rfl
    · refine ⟨nI (qM1 x y n n), h, zst k 0 0 0, ?_, ?_, qXs_rf h, qMs_s0 k⟩
      · rw [q_ifT rfl, eX0, r1]; rfl
      · rw [if_pos (show nI 0 = 0 from rfl)]
    · -- the least
      obtain ⟨z1, z2⟩ := qBst_is x y false n n (Nat.le_refl n)
      cases hB : qBst x y false n n with
      | none => rcases z1 hB with q | q <;> omega
      | some r =>
        obtain ⟨y1, i, t, y2, y3, y4⟩ := z2 r hB
        have m := qFold_min2 (fun a b => qSq x y a b) (fun a => a) 100000000 n
        have e1 : qM2 x y n = qFold (fun v i => qFold (fun v t => min v (qSq x y i t)) v i) 100000000 n := rfl
        rw [← e1] at m
        obtain ⟨m1, m2, m3⟩ := m
        have hr8 : r ≤ 800 := by
          have a := H i (by omega)
          have b := H (i + 1 + t) (by omega)
          rw [← y4]; exact qSq_le b.1 a.1 b.2.1 a.2.1
        have r2 : r = qM2 x y n := by
          apply Nat.le_antisymm
          · rcases m3 with q | ⟨a, b, a1, a2, q⟩
            · omega
            · have := y1 b (a - (b + 1)) (by omega) (by omega)
              rw [show b + 1 + (a - (b + 1)) = a by omega] at this
              simp at this
              rw [q]; exact this
          · have := m2 (i + 1 + t) i (by omega) (by omega)
            rw [y4] at this; exact this
        rw [hB] at eX1
        refine ⟨nI r, h, zst k 0 0 0, ?_, ?_, qXs_rf h, qMs_s0 k⟩
        · rw [q_ifF (by decide), q_ifT (show nI 1 = 1 from rfl)]
          show (f_X5_distance 0 h).bind _ = _
          rw [eX1]; rfl
        · rw [if_neg (by decide), if_pos (show nI 1 = 1 from rfl), r2]
    · obtain ⟨z1, z2⟩ := qBst_is x y true n n (Nat.le_refl n)
      cases hB : qBst x y true n n with
      | none => rcases z1 hB with q | q <;> omega
      | some r =>
        obtain ⟨y1, i, t, y2, y3, y4⟩ := z2 r hB
        have m := qFold_max2 (fun a b => qSq x y a b) (fun a => a) 0 n
        have e1 : qM3 x y n = qFold (fun v i => qFold (fun v t => max v (qSq x y i t)) v i) 0 n := rfl
        rw [← e1] at m
        obtain ⟨m1, m2, m3⟩ := m
        have r2 : r = qM3 x y n := by
          apply Nat.le_antisymm
          · have := m2 (i + 1 + t) i (by omega) (by omega)
            rw [y4] at this; exact this
          · rcases m3 with q | ⟨a, b, a1, a2, q⟩
            · omega
            · have := y1 b (a - (b + 1)) (by omega) (by omega)
              rw [show b + 1 + (a - (b + 1)) = a by omega] at this
              simp at this
              rw [q]; exact this
        rw [hB] at eX2
        refine ⟨nI r, h, zst k 0 0 0, ?_, ?_, qXs_rf h, qMs_s0 k⟩
        · rw [q_ifF (by decide), q_ifF (by decide), q_ifT rfl]
          show (f_X5_distance 1 h).bind _ = _
          rw [eX2]; rfl
        · rw [if_neg (by decide), if_neg (by decide), r2]
end Qline
