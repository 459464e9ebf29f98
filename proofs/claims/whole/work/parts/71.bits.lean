/-! SETS and how many are in them -/
section Qbits
def qPop (f x : Nat) : Nat := qCnt (fun i => x.testBit i) f
theorem qPop_s (f x : Nat) : qPop (f + 1) x = x % 2 + qPop f (x / 2) := by
  unfold qPop
  rw [Nat.add_comm f 1, qCnt_add]
  have e : qCnt (fun i => x.testBit i) 1 = x % 2 := by
    show (if x.testBit 0 = true then 0 + 1 else 0) = x % 2
    rw [Nat.testBit_zero]
    by_cases z : x % 2 = 1
    · rw [z]; rfl
    · have : x % 2 = 0 := by omega
      rw [this]; rfl
  rw [e]
  congr 1
  refine qCnt_congr f (fun t _ => ?_)
  rw [Nat.add_comm 1 t, Nat.testBit_succ]
def qIt (x : Nat) : Nat → Nat
  | 0 => x
  | j + 1 => qIt x j &&& (qIt x j - 1)
theorem qIt_sh (x : Nat) : ∀ j, qIt x (j + 1) = qIt (x &&& (x - 1)) j
  | 0 => rfl
  | j + 1 => by
    show qIt x (j + 1) &&& (qIt x (j + 1) - 1) = qIt (x &&& (x - 1)) j &&& (qIt (x &&& (x - 1)) j - 1)
    rw [qIt_sh x j]
theorem q_and2 (a : Nat) (h : 0 < a) : (2 * a) &&& (2 * a - 1) = 2 * (a &&& (a - 1)) := by
  apply Nat.eq_of_testBit_eq
  intro i
  cases i with
  | zero => rw [Nat.testBit_and]; simp
  | succ i =>
    rw [Nat.testBit_and, Nat.testBit_succ, Nat.testBit_succ, Nat.testBit_succ, show 2 * a / 2 = a by omega, show (2 * a - 1) / 2 = a - 1 by omega, show 2 * (a &&& (a - 1)) / 2 = a &&& (a - 1) by omega, Nat.testBit_and]
theorem q_and1 (a : Nat) : (2 * a + 1) &&& (2 * a + 1 - 1) = 2 * a := by
  apply Nat.eq_of_testBit_eq
  intro i
  cases i with
  | zero => rw [Nat.testBit_and]; simp
  | succ i =>
    rw [Nat.testBit_and, Nat.testBit_succ, Nat.testBit_succ, Nat.testBit_succ, show (2 * a + 1) / 2 = a by omega, show (2 * a + 1 - 1) / 2 = a by omega, show 2 * a / 2 = a by omega]
    cases a.testBit i <;> rfl
theorem qIt_2 (a : Nat) : ∀ e, (∀ j, j < e → qIt a j ≠ 0) → ∀ j, j ≤ e → qIt (2 * a) j = 2 * qIt a j
  | e, H, 0, _ => rfl
  | e, H, j + 1, hj => by
    have ih := qIt_2 a e H j (by omega)
    have h0 := H j (by omega)
    show qIt (2 * a) j &&& (qIt (2 * a) j - 1) = 2 * (qIt a j &&& (qIt a j - 1))
    rw [ih, q_and2 _ (by omega)]
theorem qIt_pop : ∀ f x, x < 2 ^ f → (∀ j, j < qPop f x → qIt x j ≠ 0) ∧ qIt x (qPop f x) = 0
  | 0, x, h => by
    have : x = 0 := by omega
    subst this
    exact ⟨fun j hj => absurd hj (Nat.not_lt_zero j), rfl⟩
  | f + 1, x, h => by
    rw [Nat.pow_succ] at h
    obtain ⟨h1, h2⟩ := qIt_pop f (x / 2) (by omega)
    rw [qPop_s]
    have k := qIt_2 (x / 2) (qPop f (x / 2)) h1
    rcases Nat.mod_two_eq_zero_or_one x with z | z
    · have e : x = 2 * (x / 2) := by omega
      rw [z, Nat.zero_add]
      generalize x / 2 = a at *
      subst e
      refine ⟨fun j hj => ?_, ?_⟩
      · have := h1 j hj
        rw [k j (by omega)]; omega
      · rw [k _ (Nat.le_refl _), h2]
    · have e : x = 2 * (x / 2) + 1 := by omega
      rw [z, Nat.add_comm 1]
      generalize x / 2 = a at *
      subst e
      have sh : ∀ j, qIt (2 * a + 1) (j + 1) = qIt (2 * a) j := fun j => by rw [qIt_sh, q_and1]
      refine ⟨fun j hj => ?_, ?_⟩
      · cases j with
        | zero => show 2 * a + 1 ≠ 0; omega
        | succ j =>
          have := h1 j (by omega)
          rw [sh, k j (by omega)]; omega
      · rw [sh, k _ (Nat.le_refl _), h2]
theorem qIt_le (x : Nat) : ∀ j, qIt x j ≤ x
  | 0 => Nat.le_refl x
  | j + 1 => Nat.le_trans Nat.and_le_left (qIt_le x j)
theorem q_onesOf {x : Nat} (h : x < 2 ^ 14) (k : zHp) : f_X11_onesOf (nI x) k = some (nI (qPop 14 x), k) := by
  obtain ⟨h1, h2⟩ := qIt_pop 14 x h
  have hp : qPop 14 x ≤ 14 := qCnt_le _ _
  unfold f_X11_onesOf f_X11_onesOf_4_lp
  refine q_for (S := fun j => (nI j, nI (qIt x j), k)) (qPop 14 x) (fun j hj rec => ?_) (fun rec => ?_) zN (by rw [q_zN]; omega)
  · have h3 := h1 j hj
    have h4 := qIt_le x j
    have e : qIt x (j + 1) = qIt x j &&& (qIt x j - 1) := rfl
    rw [e]
    generalize qIt x j = y at *
    simp only [f_X11_onesOf_4]
    simp (disch := omega) only [f_X11_onesOf_4, fa_and, ↓reduceIte, ↓qM_e, ↓q_rem, q_mod, q_modN, q_lit, q_nI, q_lt, q_bd, q_ix, q_dz, q_iflt, q_ifnlt, q_ifeq, q_ifne, q_ifM, q_ifMM, q_ifMlt, q_ifltM, nI_add, pk_mul, q_sub, q_div, q_cl, q_st_s, q_st_i, q_st_c, Nat.add_zero, Nat.zero_add]
  · rw [h2]
    simp only [f_X11_onesOf_4]
    simp (disch := omega) only [f_X11_onesOf_4, ↓reduceIte, ↓qM_e, ↓q_rem, q_mod, q_modN, q_lit, q_nI, q_lt, q_bd, q_ix, q_dz, q_iflt, q_ifnlt, q_ifeq, q_ifne, q_ifM, q_ifMM, q_ifMlt, q_ifltM, nI_add, pk_mul, q_sub, q_div, q_cl, q_st_s, q_st_i, q_st_c, Nat.add_zero, Nat.zero_add]
-- the JDK's way
def qSw1 (x : Nat) : Nat := x - (x / 2 &&& 1431655765)
def qSw2 (x : Nat) : Nat := (qSw1 x &&& 858993459) + (qSw1 x / 4 &&& 858993459)
def qSw3 (x : Nat) : Nat := (qSw2 x + qSw2 x / 16) &&& 252645135
def qSw4 (x : Nat) : Nat := qSw3 x + qSw3 x / 256
def qSw5 (x : Nat) : Nat := qSw4 x + qSw4 x / 65536
set_option maxRecDepth 100000 in
theorem q_swar : ∀ a, a < 128 → ∀ b, b < 128 → (qSw5 (128 * a + b) &&& 63) = qPop 14 (128 * a + b) := by decide +kernel
theorem q_us (s k : Nat) (hs : (((nI s).toUInt32 &&& Int32.toUInt32 31).toBitVec % 32).toNat = k) {n : Nat} (hn : n < 4294967296) : ((nI n).toUInt32 >>> ((nI s).toUInt32 &&& Int32.toUInt32 31)).toInt32 = nI (n / 2 ^ k) := pk_ushrN hn _ k hs
theorem q_bitCount {x : Nat} (h : x < 2 ^ 14) (k : zHp) : f_J6_bitCount_0f7a4 (nI x) k = some (nI (qPop 14 x), k) := by
  have e := q_swar (x / 128) (by omega) (x % 128) (by omega)
  rw [Nat.div_add_mod] at e
  rw [← e]
  have a1 : (x / 2 &&& 1431655765) ≤ x := Nat.le_trans Nat.and_le_left (Nat.div_le_self _ _)
  have b1 : qSw1 x ≤ x := Nat.sub_le _ _
  have b2 : qSw2 x ≤ 2 * x := by
    have c1 : (qSw1 x &&& 858993459) ≤ qSw1 x := Nat.and_le_left
    have c2 : (qSw1 x / 4 &&& 858993459) ≤ qSw1 x / 4 := Nat.and_le_left
    unfold qSw2; omega
  have b3 : qSw3 x ≤ 4 * x := by
    have c1 : ((qSw2 x + qSw2 x / 16) &&& 252645135) ≤ qSw2 x + qSw2 x / 16 := Nat.and_le_left
    unfold qSw3; omega
  have b4 : qSw4 x ≤ 8 * x := by unfold qSw4; omega
  unfold f_J6_bitCount_0f7a4
  have l1 : ((nI x).toUInt32 >>> ((1 : Int32).toUInt32 &&& Int32.toUInt32 31)).toInt32 = nI (x / 2) := q_us 1 1 (by decide) (by omega)
  rw [l1, q_lt]
  have d1 : nI x - (nI (x / 2) &&& (1431655765 : Int32)) = nI (qSw1 x) := by
    rw [show (1431655765 : Int32) = nI 1431655765 from rfl, fa_and, pk_sub a1]; rfl
  rw [d1, q_lt]
  have l2 : ((nI (qSw1 x)).toUInt32 >>> ((2 : Int32).toUInt32 &&& Int32.toUInt32 31)).toInt32 = nI (qSw1 x / 4) := q_us 2 2 (by decide) (by omega)
  have d2 : (nI (qSw1 x) &&& (858993459 : Int32)) + (nI (qSw1 x / 4) &&& (858993459 : Int32)) = nI (qSw2 x) := by
    rw [show (858993459 : Int32) = nI 858993459 from rfl, fa_and, fa_and, nI_add]; rfl
  rw [l2, d2, q_lt]
  have l3 : ((nI (qSw2 x)).toUInt32 >>> ((4 : Int32).toUInt32 &&& Int32.toUInt32 31)).toInt32 = nI (qSw2 x / 16) := q_us 4 4 (by decide) (by omega)
  have d3 : ((nI (qSw2 x) + nI (qSw2 x / 16)) &&& (252645135 : Int32)) = nI (qSw3 x) := by
    rw [show (252645135 : Int32) = nI 252645135 from rfl, nI_add, fa_and]; rfl
  rw [l3, d3, q_lt]
  have l4 : ((nI (qSw3 x)).toUInt32 >>> ((8 : Int32).toUInt32 &&& Int32.toUInt32 31)).toInt32 = nI (qSw3 x / 256) := q_us 8 8 (by decide) (by omega)
  have d4 : nI (qSw3 x) + nI (qSw3 x / 256) = nI (qSw4 x) := by rw [nI_add]; rfl
  rw [l4, d4, q_lt]
  have l5 : ((nI (qSw4 x)).toUInt32 >>> ((16 : Int32).toUInt32 &&& Int32.toUInt32 31)).toInt32 = nI (qSw4 x / 65536) := q_us 16 16 (by decide) (by omega)
  have d5 : nI (qSw4 x) + nI (qSw4 x / 65536) = nI (qSw5 x) := by rw [nI_add]; rfl
  rw [l5, d5, show (63 : Int32) = nI 63 from rfl, fa_and]
-- sets
def qSet (p : Nat → Bool) : Nat → Nat
  | 0 => 0
  | n + 1 => if p n then qSet p n ||| 2 ^ n else qSet p n
theorem qSet_lt (p : Nat → Bool) : ∀ n, qSet p n < 2 ^ n
  | 0 => by unfold qSet; omega
  | n + 1 => by
    have h := qSet_lt p n
    have h2 : 2 ^ n < 2 ^ (n + 1) := Nat.pow_lt_pow_right (by omega) (by omega)
    unfold qSet
    split
    · exact Nat.or_lt_two_pow (by omega) h2
    · omega
theorem qSet_bit (p : Nat → Bool) (i : Nat) : ∀ n, (qSet p n).testBit i = (decide (i < n) && p i)
  | 0 => by unfold qSet; simp
  | n + 1 => by
    have ih := qSet_bit p i n
    unfold qSet
    by_cases hp : p n = true
    · rw [if_pos hp, Nat.testBit_or, ih, Nat.testBit_two_pow]
      by_cases hi : i = n
      · subst hi; simp [hp]
      · have e1 : decide (n = i) = false := decide_eq_false (fun q => hi q.symm)
        rw [e1, Bool.or_false]
        congr 1
        exact decide_eq_decide.mpr (by omega)
    · rw [if_neg hp, ih]
      by_cases hi : i = n
      · subst hi
        have : p i = false := by simpa using hp
        simp [this]
      · congr 1
        exact decide_eq_decide.mpr (by omega)
theorem qSet_pop (p : Nat → Bool) {n f : Nat} (h : n ≤ f) : qPop f (qSet p n) = qCnt p n := by
  unfold qPop
  obtain ⟨d, rfl⟩ : ∃ d, f = n + d := ⟨f - n, by omega⟩
  rw [qCnt_add]
  have e1 : qCnt (fun i => (qSet p n).testBit i) n = qCnt p n := qCnt_congr n (fun t ht => by rw [qSet_bit]; simp [ht])
  have e2 : qCnt (fun t => (qSet p n).testBit (n + t)) d = 0 := qCnt_none d (fun t ht => by rw [qSet_bit, decide_eq_false (by omega)]; rfl)
  rw [e1, e2]; rfl
theorem qCnt_not (p : Nat → Bool) : ∀ n, qCnt p n + qCnt (fun i => !p i) n = n
  | 0 => rfl
  | n + 1 => by
    have := qCnt_not p n
    rw [qCnt, qCnt]
    cases p n <;> simp <;> omega
theorem qSet_congr {p q : Nat → Bool} : ∀ n, (∀ i, i < n → p i = q i) → qSet p n = qSet q n
  | 0, _ => rfl
  | n + 1, h => by rw [qSet, qSet, qSet_congr n (fun i hi => h i (by omega)), h n (by omega)]
/-- those in m who aren't away -/
theorem q_minus {m a n : Nat} (hm : m < 2 ^ n) (ha : a < 2 ^ 31) (p : Nat → Bool) (hn : n ≤ 31) (hap : a = qSet (fun i => !p i) n) : nI m &&& (nI a ^^^ (-1)) = nI (m &&& qSet p n) := by
  have e1 : nI a ^^^ (-1) = nI (2 ^ 32 - (a + 1)) := by
    have : (-1 : Int32) = nI 4294967295 := by decide
    rw [this, fb_xorI]
    congr 1
    apply Nat.eq_of_testBit_eq
    intro i
    rw [Nat.testBit_xor, Nat.testBit_two_pow_sub_succ (by omega), show (4294967295 : Nat) = 2 ^ 32 - 1 from rfl, Nat.testBit_two_pow_sub_one]
    by_cases hi : i < 32
    · simp [hi]
    · have : a.testBit i = false := Nat.testBit_lt_two_pow (Nat.lt_of_lt_of_le ha (Nat.pow_le_pow_right (by omega) (by omega)))
      simp [hi, this]
  rw [e1, fa_and]
  congr 1
  apply Nat.eq_of_testBit_eq
  intro i
  rw [Nat.testBit_and, Nat.testBit_and, Nat.testBit_two_pow_sub_succ (by omega), qSet_bit, hap, qSet_bit]
  by_cases hi : i < n
  · have : i < 32 := by omega
    simp [hi, this]
  · have : m.testBit i = false := Nat.testBit_lt_two_pow (Nat.lt_of_lt_of_le hm (Nat.pow_le_pow_right (by omega) (by omega)))
    simp [this]
end Qbits
