/-! STEPS -/
section Qsteps
theorem q_lp1 {V R : Type} {b : (V → Option R) → V → Option R} {F : Nat} {v : V} {r : Option R} (hF : 0 < F) (H : ∀ rec : V → Option R, b rec v = r) : zlp b F v = r := by rw [q_lpS hF]; exact H _
def qBits (s : Nat → Nat) : Nat → Nat
  | 0 => 0
  | n + 1 => qBits s n ||| 2 ^ s n
theorem qBits_lt {s : Nat → Nat} {b : Nat} : ∀ n, (∀ i, i < n → s i < b) → qBits s n < 2 ^ b
  | 0, _ => Nat.two_pow_pos b
  | n + 1, H => Nat.or_lt_two_pow (qBits_lt n (fun i hi => H i (by omega))) (Nat.pow_lt_pow_right (by decide) (H n (by omega)))
theorem qBits_t {s : Nat → Nat} (v : Nat) : ∀ n, (qBits s n).testBit v = true ↔ ∃ i, i < n ∧ s i = v
  | 0 => by
    constructor
    · intro h; rw [show qBits s 0 = 0 from rfl, Nat.zero_testBit] at h; cases h
    · rintro ⟨i, hi, -⟩; omega
  | n + 1 => by
    have ih := qBits_t (s := s) v n
    rw [show qBits s (n + 1) = qBits s n ||| 2 ^ s n from rfl, fb_bit_set, Bool.or_eq_true, ih, decide_eq_true_eq]
    constructor
    · rintro (⟨i, h1, h2⟩ | h)
      · exact ⟨i, by omega, h2⟩
      · exact ⟨n, by omega, h.symm⟩
    · rintro ⟨i, h1, h2⟩
      by_cases z : i = n
      · subst z; exact Or.inr h2.symm
      · exact Or.inl ⟨i, by omega, h2⟩
theorem q_smod64 : ∀ v, v < 61 → ((lN v).toBitVec.smod 64).toNat = v := by decide +kernel
theorem q_stepSet {h : zHp} {n : Nat} {s : Nat → Nat} (hn : n ≤ 10) (hc : h 35 1 = nI n) (H : ∀ i, i < n → s i ≤ 60 ∧ h 36 i = nI (s i)) : f_X5_stepSet h = some (lN (qBits s n), h) := by
  have hz : zln wX 36 = 10 := by decide +kernel
  unfold f_X5_stepSet f_X5_stepSet_4_lp
  refine q_for (S := fun i => (lN (qBits s i), nI i, h)) n (fun i hi rec => ?_) (fun rec => ?_) zN (by rw [q_zN]; omega)
  · obtain ⟨a1, a2⟩ := H i hi
    have hg := q_get (N := 10) (o := 35) hc hz hn (by omega) hi a2
    have hb := qBits_lt (s := s) (b := 61) i (fun j hj => by have := (H j (by omega)).1; omega)
    simp only [f_X5_stepSet_4]
    simp (disch := omega) only [f_X5_stepSet_4, hc, hg, ↓reduceIte, ↓qM_e, ↓q_rem, q_mod, q_modN, q_lit, q_nI, q_lt, q_bd, q_ix, q_dz, q_iflt, q_ifnlt, q_ifeq, q_ifne, q_ifM, q_ifMM, q_ifMlt, q_ifltM, nI_add, pk_mul, q_sub, q_div, q_cl, q_st_s, q_st_i, q_st_c, Nat.add_zero, Nat.zero_add]
    rw [show (1 : Int64) = lN 1 from rfl, wb_shl 1 (show s i < 64 by omega), fb_orL, Nat.one_mul]
    rfl
  · simp only [f_X5_stepSet_4]
    rw [hc, q_ifF (nI_nlt (Nat.le_refl n) (by omega))]
theorem q_cmp1 (b : Nat) (hb : b < 2) : lg_cmp (lN b) 1 = 0 ↔ b = 1 := by
  rcases (show b = 0 ∨ b = 1 by omega) with rfl | rfl <;> decide
theorem q_stands {S v : Nat} (hS : S < 2 ^ 61) (hv : v < 2147483648) (h : zHp) : f_X5_stands (lN S) (nI v) h = some (nI (if S.testBit v then 1 else 0), h) := by
  unfold f_X5_stands
  rw [q_ifF (nI_pos hv)]
  by_cases z : v ≤ 60
  · have c1 : (nI v).toInt64 &&& 63 = lN v := wb_c v (by omega)
    have hm : S / 2 ^ v % 2 < 2 := Nat.mod_lt _ (by omega)
    have hd : S / 2 ^ v ≤ S := Nat.div_le_self _ _
    rw [q_ifF (show ¬ (60 : Int32) < nI v from nI_nlt (a := 60) z (by omega)), c1, pf_shr (q_smod64 v (by omega)) (by omega), show (1 : Int64) = 1 from rfl, wb_a1 (by omega), Nat.testBit_eq_decide_div_mod_eq]
    by_cases y : S / 2 ^ v % 2 = 1
    · rw [q_ifT ((q_cmp1 _ hm).mpr y), decide_eq_true y, if_pos rfl]; rfl
    · rw [q_ifF (fun e => y ((q_cmp1 _ hm).mp e)), decide_eq_false y, if_neg (by decide)]; rfl
  · rw [q_ifT (show (60 : Int32) < nI v from nI_lt (a := 60) (by omega) hv), Nat.testBit_lt_two_pow (Nat.lt_of_lt_of_le hS (Nat.pow_le_pow_right (by decide) (by omega))), if_neg (by decide)]; rfl
/-- how many stand in a row from v on by d -/
def qRun (p : Nat → Bool) (v d : Nat) : Nat := fa_first (fun j => !p (v + j * d)) 61
theorem qRun_le (p : Nat → Bool) (v d : Nat) : qRun p v d ≤ 61 := fa_first_le _ 61
theorem qRun_yes {p : Nat → Bool} {v d j : Nat} (h : j < qRun p v d) : p (v + j * d) = true := by
  have := fa_first_no (fun j => !p (v + j * d)) 61 j h
  simpa using this
theorem qRun_no {p : Nat → Bool} {v d : Nat} (hp : ∀ x, 60 < x → p x = false) (hd : 1 ≤ d) : p (v + qRun p v d * d) = false := by
  by_cases z : qRun p v d < 61
  · have := fa_first_yes (fun j => !p (v + j * d)) 61 z
    simpa [qRun] using this
  · have e : qRun p v d = 61 := by have := qRun_le p v d; omega
    refine hp _ ?_
    rw [e]
    have : 61 * 1 ≤ 61 * d := Nat.mul_le_mul_left 61 hd
    omega
theorem qRun_0 {p : Nat → Bool} {v d : Nat} (h : p v = false) : qRun p v d = 0 := by
  rcases Nat.eq_zero_or_pos (qRun p v d) with z | z
  · exact z
  · have := qRun_yes z
    rw [Nat.zero_mul, Nat.add_zero, h] at this; cases this
theorem qRun_pos {p : Nat → Bool} {v d : Nat} (hp : ∀ x, 60 < x → p x = false) (hd : 1 ≤ d) (h : p v = true) : 1 ≤ qRun p v d := by
  rcases Nat.eq_zero_or_pos (qRun p v d) with z | z
  · have := qRun_no (v := v) hp hd
    rw [z, Nat.zero_mul, Nat.add_zero, h] at this; cases this
  · exact z
theorem qRun_1 {p : Nat → Bool} {v d : Nat} (h2 : p (v + d) = false) : qRun p v d ≤ 1 := by
  rcases Nat.lt_or_ge 1 (qRun p v d) with z | z
  · have := qRun_yes z
    rw [Nat.one_mul, h2] at this; cases this
  · exact z
theorem qRun_3 {p : Nat → Bool} {v d : Nat} (hp : ∀ x, 60 < x → p x = false) (hd : 1 ≤ d) : decide (2 < qRun p v d) = (p v && (p (v + d) && p (v + 2 * d))) := by
  by_cases z : 2 < qRun p v d
  · have a0 := qRun_yes (show 0 < qRun p v d by omega)
    have a1 := qRun_yes (show 1 < qRun p v d by omega)
    have a2 := qRun_yes z
    rw [Nat.zero_mul, Nat.add_zero] at a0
    rw [Nat.one_mul] at a1
    rw [decide_eq_true z, a0, a1, a2]; rfl
  · have b := qRun_no (v := v) hp hd
    rw [decide_eq_false z]
    rcases (show qRun p v d = 0 ∨ qRun p v d = 1 ∨ qRun p v d = 2 by omega) with e | e | e
    · rw [e, Nat.zero_mul, Nat.add_zero] at b; rw [b]; rfl
    · rw [e, Nat.one_mul] at b; rw [b, Bool.false_and, Bool.and_false]
    · rw [e] at b; rw [b, Bool.and_false, Bool.and_false]
theorem qFold_s {A : Type} (f : A → Nat → A) (a : A) (n : Nat) : qFold f a (n + 1) = f (qFold f a n) n := rfl
theorem qFold_cut (F : Nat → Nat) (m L : Nat) : ∀ c, (∀ j, L ≤ j → j < L + c → F j ≤ m) → qFold (fun v t => max v (F t)) m (L + c) = qFold (fun v t => max v (F t)) m L
  | 0, _ => rfl
  | c + 1, H => by
    have ih := qFold_cut F m L c (fun j h1 h2 => H j h1 (by omega))
    have h1 := (qFold_max F m (L + c)).1
    have h2 := H (L + c) (by omega) (by omega)
    rw [show qFold (fun v t => max v (F t)) m (L + (c + 1)) = max (qFold (fun v t => max v (F t)) m (L + c)) (F (L + c)) from rfl, Nat.max_eq_left (by omega)]
    exact ih
theorem qFold_bd {F : Nat → Nat} {B : Nat} (m : Nat) (hm : m ≤ B) : ∀ n, (∀ j, j < n → F j ≤ B) → qFold (fun v t => max v (F t)) m n ≤ B
  | 0, _ => hm
  | n + 1, H => by
    have h1 := qFold_bd m hm n (fun j hj => H j (by omega))
    have h2 := H n (by omega)
    show max _ _ ≤ B
    omega
-- the reference
def qT3 (p : Nat → Bool) (N v : Nat) : Nat := qCnt (fun j => decide (2 < qRun p v (j + 1))) N
def qTM (p : Nat → Bool) (N m v : Nat) : Nat := qFold (fun m j => max m (qRun p v (j + 1))) m N
theorem qTM_le (p : Nat → Bool) (N : Nat) {m : Nat} (hm : m ≤ 61) (v : Nat) : qTM p N m v ≤ 61 := qFold_bd m hm N (fun j _ => qRun_le p v (j + 1))
theorem qTMs_le (p : Nat → Bool) (N : Nat) {m : Nat} (hm : m ≤ 61) (n : Nat) : qFold (qTM p N) m n ≤ 61 := by
  induction n with
  | zero => exact hm
  | succ n ih =>
    rw [qFold_s]
    exact qTM_le p N ih n
theorem qTM_ge (p : Nat → Bool) (N m v : Nat) : m ≤ qTM p N m v := by
  unfold qTM
  exact (qFold_max (fun j => qRun p v (j + 1)) m N).1
theorem q_stepRun {k : zHp} {n : Nat} {p : Nat → Bool} (hp : ∀ x, 60 < x → p x = false) (hq : ∀ v, v < 100000 → f_X11_isStep (nI v) k = some (nI (if p v then 1 else 0), k)) (k32 : Int32 × Int32 × Int32 × Int32 × zHp → Option (Int32 × zHp)) (k42 : Int32 × Int32 × Int32 × Int32 × Int32 × zHp → Option (Int32 × zHp)) (a : Int32) {t m v d : Nat} (ht : t < 100000) (hm : m ≤ 61) (hv : v ≤ 60) (hd : 1 ≤ d) (hd2 : d ≤ 60) : f_X11_steps_52_lp k32 k42 zN (a, nI t, nI m, nI v, nI d, nI 0, k) = k42 (a, nI (t + if decide (2 < qRun p v d) = true then 1 else 0), nI (max m (qRun p v d)), nI v, nI (d + 1), k) := by
  have hR := qRun_le p v d
  unfold f_X11_steps_52_lp
  refine q_for (S := fun j => (a, nI t, nI m, nI v, nI d, nI j, k)) (qRun p v d) (fun j hj rec => ?_) (fun rec => ?_) zN (by rw [q_zN]; omega)
  · have hx : j * d ≤ 61 * 60 := Nat.mul_le_mul (by omega) hd2
    have y := hq (v + j * d) (by omega)
    rw [qRun_yes hj, if_pos rfl] at y
    simp only [f_X11_steps_52]
    simp (disch := omega) only [f_X11_steps_52, y, ↓reduceIte, ↓qM_e, ↓q_rem, q_mod, q_modN, q_lit, q_nI, q_lt, q_bd, q_ix, q_dz, q_iflt, q_ifnlt, q_ifeq, q_ifne, q_ifM, q_ifMM, q_ifMlt, q_ifltM, nI_add, pk_mul, q_sub, q_div, q_cl, q_st_s, q_st_i, q_st_c, Nat.add_zero, Nat.zero_add]
  · have hx : qRun p v d * d ≤ 61 * 60 := Nat.mul_le_mul (by omega) hd2
    have y := hq (v + qRun p v d * d) (by omega)
    rw [qRun_no hp hd, if_neg (by decide)] at y
    by_cases z : 2 < qRun p v d
    · rw [decide_eq_true z, if_pos rfl]
      simp only [f_X11_steps_52, f_X11_steps_86]
      simp (disch := omega) only [f_X11_steps_52, f_X11_steps_86, y, q_grM, ↓reduceIte, ↓qM_e, ↓q_rem, q_mod, q_modN, q_lit, q_nI, q_lt, q_bd, q_ix, q_dz, q_iflt, q_ifnlt, q_ifeq, q_ifne, q_ifM, q_ifMM, q_ifMlt, q_ifltM, nI_add, pk_mul, q_sub, q_div, q_cl, q_st_s, q_st_i, q_st_c, Nat.add_zero, Nat.zero_add]
    · rw [decide_eq_false z, if_neg (by decide)]
      simp only [f_X11_steps_52, f_X11_steps_86]
      simp (disch := omega) only [f_X11_steps_52, f_X11_steps_86, y, q_grM, ↓reduceIte, ↓qM_e, ↓q_rem, q_mod, q_modN, q_lit, q_nI, q_lt, q_bd, q_ix, q_dz, q_iflt, q_ifnlt, q_ifeq, q_ifne, q_ifM, q_ifMM, q_ifMlt, q_ifltM, nI_add, pk_mul, q_sub, q_div, q_cl, q_st_s, q_st_i, q_st_c, Nat.add_zero, Nat.zero_add]
theorem q_stepsM {k : zHp} {p : Nat → Bool} (hp : ∀ x, 60 < x → p x = false) (hq : ∀ v, v < 100000 → f_X11_isStep (nI v) k = some (nI (if p v then 1 else 0), k)) (a : Int32) {m N M : Nat} (hm : m ≤ 61) (hN : N = 60) (hM : M = 61) : f_X11_steps_32_lp zN (a, nI 0, nI m, nI 0, k) = if a = 0 then some (nI (fb_sm (qT3 p N) M), k) else some (nI (qFold (qTM p N) m M), k) := by
  have hT : ∀ v, qT3 p N v ≤ N := fun v => qCnt_le _ N
  have hS : ∀ n, n ≤ M → fb_sm (qT3 p N) n ≤ n * N := fun n _ => fb_sm_bound (fun v _ => hT v)
  unfold f_X11_steps_32_lp
  refine q_for (S := fun v => (a, nI (fb_sm (qT3 p N) v), nI (qFold (qTM p N) m v), nI v, k)) M (fun v hv rec => ?_) (fun rec => ?_) zN (by rw [q_zN]; omega)
  · have s1 := Nat.le_trans (hS v (by omega)) (Nat.mul_le_mul_left v (Nat.le_of_eq hN))
    have f1 := qTMs_le p N hm v
    have e1 : fb_sm (qT3 p N) (v + 1) = fb_sm (qT3 p N) v + qCnt (fun j => decide (2 < qRun p v (j + 1))) N := rfl
    have e2 : qFold (qTM p N) m (v + 1) = qFold (fun m j => max m (qRun p v (j + 1))) (qFold (qTM p N) m v) N := by rw [qFold_s]; unfold qTM; rfl
    rw [e1, e2]
    generalize fb_sm (qT3 p N) v = t at *
    generalize qFold (qTM p N) m v = mo at *
    simp only [f_X11_steps_32]
    simp (disch := omega) only [f_X11_steps_32, ↓reduceIte, ↓qM_e, ↓q_rem, q_mod, q_modN, q_lit, q_nI, q_lt, q_bd, q_ix, q_dz, q_iflt, q_ifnlt, q_ifeq, q_ifne, q_ifM, q_ifMM, q_ifMlt, q_ifltM, nI_add, pk_mul, q_sub, q_div, q_cl, q_st_s, q_st_i, q_st_c, Nat.add_zero, Nat.zero_add]
    unfold f_X11_steps_42_lp
    refine q_for (S := fun j => (a, nI (t + qCnt (fun j => decide (2 < qRun p v (j + 1))) j), nI (qFold (fun m j => max m (qRun p v (j + 1))) mo j), nI v, nI (1 + j), k)) N (fun j hj rec2 => ?_) (fun rec2 => ?_) zN (by rw [q_zN]; omega)
    · have c1 := qCnt_le (fun j => decide (2 < qRun p v (j + 1))) j
      have c2 := qFold_bd (F := fun j => qRun p v (j + 1)) mo f1 j (fun i _ => qRun_le p v (i + 1))
      have e3 : qFold (fun m j => max m (qRun p v (j + 1))) mo (j + 1) = max (qFold (fun m j => max m (qRun p v (j + 1))) mo j) (qRun p v (j + 1)) := rfl
      have e4 : qCnt (fun j => decide (2 < qRun p v (j + 1))) (j + 1) = qCnt (fun j => decide (2 < qRun p v (j + 1))) j + (if decide (2 < qRun p v (j + 1)) = true then 1 else 0) := by
        show (if _ then _ else _) = _
        split <;> rfl
      rw [e3, e4]
      simp only [f_X11_steps_42]
      simp (disch := omega) only [f_X11_steps_42, ↓reduceIte, ↓qM_e, ↓q_rem, q_mod, q_modN, q_lit, q_nI, q_lt, q_bd, q_ix, q_dz, q_iflt, q_ifnlt, q_ifeq, q_ifne, q_ifM, q_ifMM, q_ifMlt, q_ifltM, nI_add, pk_mul, q_sub, q_div, q_cl, q_st_s, q_st_i, q_st_c, Nat.add_zero, Nat.zero_add]
      rw [Nat.add_comm 1 j, q_stepRun (n := 0) hp hq _ _ a (by omega) c2 (by omega) (by omega) (by omega), Nat.add_assoc, Nat.add_comm 1 (j + 1)]
    · simp only [f_X11_steps_42]
      simp (disch := omega) only [f_X11_steps_42, ↓reduceIte, ↓qM_e, ↓q_rem, q_mod, q_modN, q_lit, q_nI, q_lt, q_bd, q_ix, q_dz, q_iflt, q_ifnlt, q_ifeq, q_ifne, q_ifM, q_ifMM, q_ifMlt, q_ifltM, nI_add, pk_mul, q_sub, q_div, q_cl, q_st_s, q_st_i, q_st_c, Nat.add_zero, Nat.zero_add]
  · simp only [f_X11_steps_32]
    simp (disch := omega) only [f_X11_steps_32, ↓reduceIte, ↓qM_e, ↓q_rem, q_mod, q_modN, q_lit, q_nI, q_lt, q_bd, q_ix, q_dz, q_iflt, q_ifnlt, q_ifeq, q_ifne, q_ifM, q_ifMM, q_ifMlt, q_ifltM, nI_add, pk_mul, q_sub, q_div, q_cl, q_st_s, q_st_i, q_st_c, Nat.add_zero, Nat.zero_add]
-- the class
theorem qCnt_cut {p : Nat → Bool} (L : Nat) : ∀ c, (∀ j, L ≤ j → j < L + c → p j = false) → qCnt p (L + c) = qCnt p L := by
  intro c H
  rw [qCnt_add, qCnt_none c (fun t ht => H (L + t) (by omega) (by omega)), Nat.add_zero]
theorem q_threesX {h : zHp} {S N M : Nat} (hS : S < 2 ^ 61) (hN : N = 60) (hM : M = 61) : f_X5_threes_10_lp zN (lN S, nI 0, nI 0, h) = some (nI (fb_sm (qT3 S.testBit N) M), h) := by
  have hp : ∀ x, 60 < x → S.testBit x = false := fun x hx => Nat.testBit_lt_two_pow (Nat.lt_of_lt_of_le hS (Nat.pow_le_pow_right (by decide) (by omega)))
  have hT : ∀ v, qT3 S.testBit N v ≤ N := fun v => qCnt_le _ N
  have hB : ∀ n, n ≤ M → fb_sm (qT3 S.testBit N) n ≤ n * N := fun n _ => fb_sm_bound (fun v _ => hT v)
  unfold f_X5_threes_10_lp
  refine q_for (S := fun v => (lN S, nI (fb_sm (qT3 S.testBit N) v), nI v, h)) M (fun v hv rec => ?_) (fun rec => ?_) zN (by rw [q_zN]; omega)
  · have s1 := Nat.le_trans (hB v (by omega)) (Nat.mul_le_mul_left v (Nat.le_of_eq hN))
    have e1 : fb_sm (qT3 S.testBit N) (v + 1) = fb_sm (qT3 S.testBit N) v + qCnt (fun j => decide (2 < qRun S.testBit v (j + 1))) N := rfl
    rw [e1]
    generalize fb_sm (qT3 S.testBit N) v = t at *
    simp only [f_X5_threes_10]
    simp (disch := omega) only [f_X5_threes_10, ↓reduceIte, ↓qM_e, ↓q_rem, q_mod, q_modN, q_lit, q_nI, q_lt, q_bd, q_ix, q_dz, q_iflt, q_ifnlt, q_ifeq, q_ifne, q_ifM, q_ifMM, q_ifMlt, q_ifltM, nI_add, pk_mul, q_sub, q_div, q_cl, q_st_s, q_st_i, q_st_c, Nat.add_zero, Nat.zero_add]
    unfold f_X5_threes_20_lp
    by_cases z : S.testBit v = true
    · have sv := q_stands hS (show v < 2147483648 by omega) h
      rw [z, if_pos rfl] at sv
      have eC : qCnt (fun j => decide (2 < qRun S.testBit v (j + 1))) N = qCnt (fun j => decide (2 < qRun S.testBit v (j + 1))) ((60 - v) / 2) := by
        have := qCnt_cut (p := fun j => decide (2 < qRun S.testBit v (j + 1))) ((60 - v) / 2) (N - (60 - v) / 2) (fun j h1 h2 => by
          show decide (2 < qRun S.testBit v (j + 1)) = false
          rw [qRun_3 hp (by omega), hp (v + 2 * (j + 1)) (by omega), Bool.and_false, Bool.and_false])
        rw [← this, show (60 - v) / 2 + (N - (60 - v) / 2) = N by omega]
      obtain ⟨L, hL⟩ : ∃ L, L = (60 - v) / 2 := ⟨_, rfl⟩
      have hL1 : 60 < v + 2 * (1 + L) := by omega
      have hL2 : v + 2 * L ≤ 60 := by omega
      rw [eC, ← hL]
      clear hL
      refine q_for (S := fun j => (lN S, nI (t + qCnt (fun j => decide (2 < qRun S.testBit v (j + 1))) j), nI v, nI (1 + j), h)) L (fun j hj rec2 => ?_) (fun rec2 => ?_) zN (by rw [q_zN]; omega)
      · have c1 := qCnt_le (fun j => decide (2 < qRun S.testBit v (j + 1))) j
        have e4 : qCnt (fun j => decide (2 < qRun S.testBit v (j + 1))) (j + 1) = qCnt (fun j => decide (2 < qRun S.testBit v (j + 1))) j + (if (S.testBit (v + (1 + j)) && S.testBit (v + 2 * (1 + j))) = true then 1 else 0) := by
          show (if decide (2 < qRun S.testBit v (j + 1)) = true then _ else _) = _
          rw [qRun_3 hp (by omega), z, Bool.true_and, Nat.add_comm 1 j]
          split <;> rfl
        rw [e4]
        have s1 := q_stands hS (show v + (1 + j) < 2147483648 by omega) h
        have s2 := q_stands hS (show v + 2 * (1 + j) < 2147483648 by omega) h
        cases z2 : S.testBit (v + (1 + j)) with
        | false =>
          rw [z2, if_neg (by decide)] at s1
          rw [Bool.false_and, if_neg (by decide)]
          simp only [f_X5_threes_20, f_X5_threes_72]
          simp (disch := omega) only [f_X5_threes_20, f_X5_threes_72, sv, s1, ↓reduceIte, ↓qM_e, ↓q_rem, q_mod, q_modN, q_lit, q_nI, q_lt, q_bd, q_ix, q_dz, q_iflt, q_ifnlt, q_ifeq, q_ifne, q_ifM, q_ifMM, q_ifMlt, q_ifltM, nI_add, pk_mul, q_sub, q_div, q_cl, q_st_s, q_st_i, q_st_c, Nat.add_zero, Nat.zero_add]
          rw [Nat.add_assoc]
        | true =>
          rw [z2, if_pos rfl] at s1
          rw [Bool.true_and]
          cases z3 : S.testBit (v + 2 * (1 + j)) with
          | false =>
            rw [z3, if_neg (by decide)] at s2
            rw [if_neg (by decide)]
            simp only [f_X5_threes_20, f_X5_threes_72]
            simp (disch := omega) only [f_X5_threes_20, f_X5_threes_72, sv, s1, s2, ↓reduceIte, ↓qM_e, ↓q_rem, q_mod, q_modN, q_lit, q_nI, q_lt, q_bd, q_ix, q_dz, q_iflt, q_ifnlt, q_ifeq, q_ifne, q_ifM, q_ifMM, q_ifMlt, q_ifltM, nI_add, pk_mul, q_sub, q_div, q_cl, q_st_s, q_st_i, q_st_c, Nat.add_zero, Nat.zero_add]
            rw [Nat.add_assoc]
          | true =>
            rw [z3, if_pos rfl] at s2
            rw [if_pos rfl]
            simp only [f_X5_threes_20, f_X5_threes_72]
            simp (disch := omega) only [f_X5_threes_20, f_X5_threes_72, sv, s1, s2, ↓reduceIte, ↓qM_e, ↓q_rem, q_mod, q_modN, q_lit, q_nI, q_lt, q_bd, q_ix, q_dz, q_iflt, q_ifnlt, q_ifeq, q_ifne, q_ifM, q_ifMM, q_ifMlt, q_ifltM, nI_add, pk_mul, q_sub, q_div, q_cl, q_st_s, q_st_i, q_st_c, Nat.add_zero, Nat.zero_add]
            rw [Nat.add_assoc, Nat.add_assoc]
      · simp only [f_X5_threes_20]
        simp (disch := omega) only [f_X5_threes_20, sv, ↓reduceIte, ↓qM_e, ↓q_rem, q_mod, q_modN, q_lit, q_nI, q_lt, q_bd, q_ix, q_dz, q_iflt, q_ifnlt, q_ifeq, q_ifne, q_ifM, q_ifMM, q_ifMlt, q_ifltM, nI_add, pk_mul, q_sub, q_div, q_cl, q_st_s, q_st_i, q_st_c, Nat.add_zero, Nat.zero_add]
    · have z' : S.testBit v = false := by simpa using z
      have sv := q_stands hS (show v < 2147483648 by omega) h
      rw [z', if_neg (by decide)] at sv
      have eC : qCnt (fun j => decide (2 < qRun S.testBit v (j + 1))) N = 0 := qCnt_none N (fun j _ => by
        show decide (2 < qRun S.testBit v (j + 1)) = false
        rw [qRun_0 z']; decide)
      rw [eC]
      refine q_lp1 (by rw [q_zN]; omega) (fun rec2 => ?_)
      simp only [f_X5_threes_20]
      simp (disch := omega) only [f_X5_threes_20, sv, ↓reduceIte, ↓qM_e, ↓q_rem, q_mod, q_modN, q_lit, q_nI, q_lt, q_bd, q_ix, q_dz, q_iflt, q_ifnlt, q_ifeq, q_ifne, q_ifM, q_ifMM, q_ifMlt, q_ifltM, nI_add, pk_mul, q_sub, q_div, q_cl, q_st_s, q_st_i, q_st_c, Nat.add_zero, Nat.zero_add]
  · simp only [f_X5_threes_10]
    simp (disch := omega) only [f_X5_threes_10, ↓reduceIte, ↓qM_e, ↓q_rem, q_mod, q_modN, q_lit, q_nI, q_lt, q_bd, q_ix, q_dz, q_iflt, q_ifnlt, q_ifeq, q_ifne, q_ifM, q_ifMM, q_ifMlt, q_ifltM, nI_add, pk_mul, q_sub, q_div, q_cl, q_st_s, q_st_i, q_st_c, Nat.add_zero, Nat.zero_add]
theorem q_stairX {h : zHp} {S N M : Nat} (hS : S < 2 ^ 61) (hN : N = 60) (hM : M = 61) {m : Nat} (hm : m ≤ 61) (hm2 : ∀ v, S.testBit v = true → 1 ≤ m) : f_X5_longestStair_23_lp zN (lN S, nI m, nI 0, h) = some (nI (qFold (qTM S.testBit N) m M), h) := by
  have hp : ∀ x, 60 < x → S.testBit x = false := fun x hx => Nat.testBit_lt_two_pow (Nat.lt_of_lt_of_le hS (Nat.pow_le_pow_right (by decide) (by omega)))
  have hge : ∀ n, m ≤ qFold (qTM S.testBit N) m n := by
    intro n
    induction n with
    | zero => exact Nat.le_refl m
    | succ n ih =>
      rw [qFold_s]
      exact Nat.le_trans ih (qTM_ge S.testBit N _ n)
  unfold f_X5_longestStair_23_lp
  refine q_for (S := fun v => (lN S, nI (qFold (qTM S.testBit N) m v), nI v, h)) M (fun v hv rec => ?_) (fun rec => ?_) zN (by rw [q_zN]; omega)
  · have f1 := qTMs_le S.testBit N hm v
    have f2 := hge v
    have e2 : qFold (qTM S.testBit N) m (v + 1) = qFold (fun m j => max m (qRun S.testBit v (j + 1))) (qFold (qTM S.testBit N) m v) N := by rw [qFold_s]; unfold qTM; rfl
    rw [e2]
    generalize qFold (qTM S.testBit N) m v = mo at *
    simp only [f_X5_longestStair_23]
    simp (disch := omega) only [f_X5_longestStair_23, ↓reduceIte, ↓qM_e, ↓q_rem, q_mod, q_modN, q_lit, q_nI, q_lt, q_bd, q_ix, q_dz, q_iflt, q_ifnlt, q_ifeq, q_ifne, q_ifM, q_ifMM, q_ifMlt, q_ifltM, nI_add, pk_mul, q_sub, q_div, q_cl, q_st_s, q_st_i, q_st_c, Nat.add_zero, Nat.zero_add]
    unfold f_X5_longestStair_33_lp
    have sv := q_stands hS (show v < 2147483648 by omega) h
    by_cases z : S.testBit v = true
    · have h1 := hm2 v z
      rw [z, if_pos rfl] at sv
      have eC : qFold (fun m j => max m (qRun S.testBit v (j + 1))) mo N = qFold (fun m j => max m (qRun S.testBit v (j + 1))) mo (60 - v) := by
        have := qFold_cut (fun j => qRun S.testBit v (j + 1)) mo (60 - v) v (fun j j1 j2 => by
          have := qRun_1 (p := S.testBit) (v := v) (d := j + 1) (hp _ (by omega))
          show qRun S.testBit v (j + 1) ≤ mo
          omega)
        rw [← this, show 60 - v + v = N by omega]
      rw [eC]
      refine q_for (S := fun j => (lN S, nI (qFold (fun m j => max m (qRun S.testBit v (j + 1))) mo j), nI v, nI (1 + j), h)) (60 - v) (fun j hj rec2 => ?_) (fun rec2 => ?_) zN (by rw [q_zN]; omega)
      · have c2 := qFold_bd (F := fun j => qRun S.testBit v (j + 1)) mo f1 j (fun i _ => qRun_le S.testBit v (i + 1))
        have e3 : qFold (fun m j => max m (qRun S.testBit v (j + 1))) mo (j + 1) = max (qFold (fun m j => max m (qRun S.testBit v (j + 1))) mo j) (qRun S.testBit v (j + 1)) := rfl
        rw [e3]
        generalize qFold (fun m j => max m (qRun S.testBit v (j + 1))) mo j = mo2 at *
        have st : f_X5_longestStair_33 rec rec2 (lN S) (nI mo2) (nI v) (nI (1 + j)) h = f_X5_longestStair_55_lp rec rec2 zN (lN S, nI mo2, nI v, nI (1 + j), nI 1, h) := by
          clear e2 e3 eC
          simp only [f_X5_longestStair_33]
          rw [sv, q_bd]
          dsimp only
          rw [q_ifF (show ¬ nI 1 = 0 by decide), nI_add, q_ifF (show ¬ (60 : Int32) < nI (v + (1 + j)) from nI_nlt (a := 60) (by omega) (by omega))]
          rfl
        refine st.trans ?_
        clear st
        have r1 := qRun_pos (p := S.testBit) (v := v) (d := j + 1) hp (by omega) z
        have r2 := qRun_le S.testBit v (j + 1)
        have ry : ∀ i, i < qRun S.testBit v (j + 1) → S.testBit (v + i * (1 + j)) = true := fun i hi => by
          rw [Nat.add_comm 1 j]; exact qRun_yes hi
        have rn : S.testBit (v + qRun S.testBit v (j + 1) * (1 + j)) = false := by
          rw [Nat.add_comm 1 j]; exact qRun_no (p := S.testBit) (v := v) (d := j + 1) hp (by omega)
        clear h1 f1 f2 eC e2 e3
        generalize qRun S.testBit v (j + 1) = r at *
        obtain ⟨r, rfl⟩ : ∃ r', r = 1 + r' := ⟨r - 1, by omega⟩
        have en : ∀ rec3 : Int64 × Int32 × Int32 × Int32 × zHp → Option (Int32 × zHp), f_X5_longestStair_83 rec rec3 (lN S) (nI mo2) (nI v) (nI (1 + j)) (nI (1 + r)) h = rec3 (lN S, nI (max mo2 (1 + r)), nI v, nI (1 + (j + 1)), h) := by
          intro rec3
          unfold f_X5_longestStair_83
          rw [q_maxX (by omega) (by omega), q_lt, show (1 : Int32) = nI 1 from rfl, nI_add, Nat.add_assoc]
        unfold f_X5_longestStair_55_lp
        refine q_for (S := fun i => (lN S, nI mo2, nI v, nI (1 + j), nI (1 + i), h)) r (fun i hi rec3 => ?_) (fun rec3 => ?_) zN (by rw [q_zN]; omega)
        · have y1 := ry (1 + i) (by omega)
          have hx : (1 + i) * (1 + j) ≤ 61 * 61 := Nat.mul_le_mul (by omega) (by omega)
          have s1 := q_stands hS (show v + (1 + i) * (1 + j) < 2147483648 by omega) h
          rw [y1, if_pos rfl] at s1
          simp only [f_X5_longestStair_55]
          simp (disch := omega) only [f_X5_longestStair_55, s1, ↓reduceIte, ↓qM_e, ↓q_rem, q_mod, q_modN, q_lit, q_nI, q_lt, q_bd, q_ix, q_dz, q_iflt, q_ifnlt, q_ifeq, q_ifne, q_ifM, q_ifMM, q_ifMlt, q_ifltM, nI_add, pk_mul, q_sub, q_div, q_cl, q_st_s, q_st_i, q_st_c, Nat.add_zero, Nat.zero_add]
          rw [Nat.add_assoc]
        · refine Eq.trans ?_ (en rec2)
          clear en ry
          by_cases y : 1 + r ≤ 60
          · have hx : (1 + r) * (1 + j) ≤ 61 * 61 := Nat.mul_le_mul (by omega) (by omega)
            have s1 := q_stands hS (show v + (1 + r) * (1 + j) < 2147483648 by omega) h
            rw [rn, if_neg (by decide)] at s1
            simp only [f_X5_longestStair_55]
            simp (disch := omega) only [f_X5_longestStair_55, s1, ↓reduceIte, ↓qM_e, ↓q_rem, q_mod, q_modN, q_lit, q_nI, q_lt, q_bd, q_ix, q_dz, q_iflt, q_ifnlt, q_ifeq, q_ifne, q_ifM, q_ifMM, q_ifMlt, q_ifltM, nI_add, pk_mul, q_sub, q_div, q_cl, q_st_s, q_st_i, q_st_c, Nat.add_zero, Nat.zero_add]
          · simp only [f_X5_longestStair_55]
            simp (disch := omega) only [f_X5_longestStair_55, ↓reduceIte, ↓qM_e, ↓q_rem, q_mod, q_modN, q_lit, q_nI, q_lt, q_bd, q_ix, q_dz, q_iflt, q_ifnlt, q_ifeq, q_ifne, q_ifM, q_ifMM, q_ifMlt, q_ifltM, nI_add, pk_mul, q_sub, q_div, q_cl, q_st_s, q_st_i, q_st_c, Nat.add_zero, Nat.zero_add]
      · simp only [f_X5_longestStair_33]
        simp (disch := omega) only [f_X5_longestStair_33, sv, ↓reduceIte, ↓qM_e, ↓q_rem, q_mod, q_modN, q_lit, q_nI, q_lt, q_bd, q_ix, q_dz, q_iflt, q_ifnlt, q_ifeq, q_ifne, q_ifM, q_ifMM, q_ifMlt, q_ifltM, nI_add, pk_mul, q_sub, q_div, q_cl, q_st_s, q_st_i, q_st_c, Nat.add_zero, Nat.zero_add]
    · have z' : S.testBit v = false := by simpa using z
      have eC : qFold (fun m j => max m (qRun S.testBit v (j + 1))) mo N = mo := by
        have := qFold_cut (fun j => qRun S.testBit v (j + 1)) mo 0 N (fun j _ _ => by
          show qRun S.testBit v (j + 1) ≤ mo
          rw [qRun_0 z']; omega)
        rw [Nat.zero_add] at this
        exact this
      rw [z', if_neg (by decide)] at sv
      rw [eC]
      refine q_lp1 (by rw [q_zN]; omega) (fun rec2 => ?_)
      simp only [f_X5_longestStair_33]
      simp (disch := omega) only [f_X5_longestStair_33, sv, ↓reduceIte, ↓qM_e, ↓q_rem, q_mod, q_modN, q_lit, q_nI, q_lt, q_bd, q_ix, q_dz, q_iflt, q_ifnlt, q_ifeq, q_ifne, q_ifM, q_ifMM, q_ifMlt, q_ifltM, nI_add, pk_mul, q_sub, q_div, q_cl, q_st_s, q_st_i, q_st_c, Nat.add_zero, Nat.zero_add]
  · simp only [f_X5_longestStair_23]
    simp (disch := omega) only [f_X5_longestStair_23, ↓reduceIte, ↓qM_e, ↓q_rem, q_mod, q_modN, q_lit, q_nI, q_lt, q_bd, q_ix, q_dz, q_iflt, q_ifnlt, q_ifeq, q_ifne, q_ifM, q_ifMM, q_ifMlt, q_ifltM, nI_add, pk_mul, q_sub, q_div, q_cl, q_st_s, q_st_i, q_st_c, Nat.add_zero, Nat.zero_add]
theorem q_ask_steps {h k : zHp} (R : qRel h k) (a : Int32) : qAsk h k (f_X10_steps a h) (f_X11_steps a k) := by
  obtain ⟨⟨C, P, -, -, -, -, -, -, -, -, -, -, -, w5, -, -⟩, -⟩ := R
  obtain ⟨n, n1, n2, n3, n4⟩ := w5
  obtain ⟨s, hs⟩ := q_ch1 (n := n) (p := fun i v => v ≤ 60 ∧ h 36 i = nI v ∧ k 35 i = nI v) (fun i hi => by
    obtain ⟨v, -, v2, v3, v4⟩ := n4 i hi
    exact ⟨v, v2, v3, v4⟩)
  have n2' : h 35 1 = nI n := n2
  have hS : qBits s n < 2 ^ 61 := qBits_lt n (fun i hi => by have := (hs i hi).1; omega)
  have hp : ∀ x, 60 < x → (qBits s n).testBit x = false := fun x hx => Nat.testBit_lt_two_pow (Nat.lt_of_lt_of_le hS (Nat.pow_le_pow_right (by decide) (by omega)))
  have eS := q_stepSet (h := h) n1 n2' (fun i hi => ⟨(hs i hi).1, (hs i hi).2.1⟩)
  obtain ⟨k0, hk0⟩ : ∃ k0, k0 = zst k 0 0 0 := ⟨_, rfl⟩
  have k60 : k0 0 60 = nI n := by rw [hk0, q_st_i (by omega)]; exact n3
  have k35 : ∀ i, k0 35 i = k 35 i := fun i => by rw [hk0, q_st_c (by omega)]
  have hq : ∀ v, v < 100000 → f_X11_isStep (nI v) k0 = some (nI (if (qBits s n).testBit v then 1 else 0), k0) := by
    intro v hv
    rcases q_isStep n1 k60 (nI v) with ⟨⟨i, i1, i2⟩, e⟩ | ⟨e1, e⟩
    · have : s i = v := by
        rw [k35, (hs i i1).2.2] at i2
        exact (nI_eq (by have := (hs i i1).1; omega) (by omega)).mp i2
      rw [e, (qBits_t v n).mpr ⟨i, i1, this⟩, if_pos rfl]
    · have : ¬ (qBits s n).testBit v = true := by
        intro q
        obtain ⟨i, i1, i2⟩ := (qBits_t v n).mp q
        exact e1 ⟨i, i1, by rw [k35, (hs i i1).2.2, i2]⟩
      rw [e, if_neg this]
  have em : f_X11_lesser (nI n) (nI 1) k0 = some (nI (min n 1), k0) := q_lsM (by omega) (by omega)
  have e0 : (if (1 : Int32) < nI n then (1 : Int32) else nI n) = nI (min n 1) := by
    rw [show (1 : Int32) = nI 1 from rfl, q_minX (by omega) (by omega), Nat.min_comm]
  have hm2 : ∀ v, (qBits s n).testBit v = true → 1 ≤ min n 1 := by
    intro v q
    obtain ⟨i, i1, -⟩ := (qBits_t v n).mp q
    omega
  obtain ⟨N, hN⟩ : ∃ N, N = 60 := ⟨_, rfl⟩
  obtain ⟨M, hM⟩ : ∃ M, M = 61 := ⟨_, rfl⟩
  have fM := fun a => q_stepsM hp hq a (m := min n 1) (N := N) (M := M) (by omega) hN hM
  have eM : f_X11_steps a k = (f_X11_isIn a (nI 0) (nI 1) k0).bind fun x2 => (if x2.1 = 0 then some ((-1 : Int32), x2.2) else (f_X11_lesser (x2.2 0 60) (1 : Int32) x2.2).bind fun x3 => f_X11_steps_32_lp zN (a, (0 : Int32), x3.1, (0 : Int32), x3.2)) := by
    unfold f_X11_steps
    rw [q_lt, ← hk0]; rfl
  rw [eM]
  refine (show qAsk h k _ _ from ?_)
  rcases q_rng 0 1 a (by omega) with o | ⟨j, -, hj, rfl⟩
  · have ne : ∀ j, j ≤ 1 → ¬ a = nI j := by
      intro j hj e
      subst e
      rcases o with o | o
      · exact nI_pos (by omega) o
      · exact nI_nlt (a := 1) hj (by omega) o
    refine ⟨-1, h, k0, ?_, ?_, qXs_rf h, by rw [hk0]; exact qMs_s0 k⟩
    · unfold f_X10_steps
      rw [if_neg (show ¬ a = (0 : Int32) from ne 0 (by omega)), if_neg (show ¬ a = (1 : Int32) from ne 1 (by omega))]
    · rw [q_inO o, q_bd]; exact if_pos rfl
  · have eI := q_inI (h := k0) (a := j) (lo := 0) (hi := 1) (by omega) hj (by omega)
    have eB : ((f_X11_isIn (nI j) (nI 0) (nI 1) k0).bind fun x2 => (if x2.1 = 0 then some ((-1 : Int32), x2.2) else (f_X11_lesser (x2.2 0 60) (1 : Int32) x2.2).bind fun x3 => f_X11_steps_32_lp zN (nI j, (0 : Int32), x3.1, (0 : Int32), x3.2))) = if nI j = 0 then some (nI (fb_sm (qT3 (qBits s n).testBit N) M), k0) else some (nI (qFold (qTM (qBits s n).testBit N) (min n 1) M), k0) := by
      rw [eI, q_bd]
      dsimp only
      rw [q_ifF (by decide), k60, show (1 : Int32) = nI 1 from rfl, em, q_bd]
      exact fM (nI j)
    rw [eB]
    rcases (show j = 0 ∨ j = 1 by omega) with rfl | rfl
    · refine ⟨nI (fb_sm (qT3 (qBits s n).testBit N) M), h, k0, ?_, if_pos rfl, qXs_rf h, by rw [hk0]; exact qMs_s0 k⟩
      unfold f_X10_steps f_X5_threes
      rw [if_pos (show nI 0 = (0 : Int32) from rfl), eS, q_bd]
      show (f_X5_threes_10_lp zN (lN (qBits s n), nI 0, nI 0, h)).bind _ = _
      rw [q_threesX hS hN hM]; rfl
    · refine ⟨nI (qFold (qTM (qBits s n).testBit N) (min n 1) M), h, k0, ?_, if_neg (by decide), qXs_rf h, by rw [hk0]; exact qMs_s0 k⟩
      unfold f_X10_steps f_X5_longestStair
      rw [if_neg (show ¬ nI 1 = (0 : Int32) by decide), if_pos (show nI 1 = (1 : Int32) from rfl), eS, q_bd]
      have e0' : (if (1 : Int32) < h 35 1 then (1 : Int32) else h 35 1) = nI (min n 1) := by rw [n2']; exact e0
      refine (congrArg (fun z => ((f_X5_longestStair_23_lp zN (lN (qBits s n), z, 0, h)).bind fun x4 => some (x4.1, x4.2))) e0').trans ?_
      show (f_X5_longestStair_23_lp zN (lN (qBits s n), nI (min n 1), nI 0, h)).bind _ = _
      rw [q_stairX hS hN hM (by omega) hm2]; rfl
end Qsteps
