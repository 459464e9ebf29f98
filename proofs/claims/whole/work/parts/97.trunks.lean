/-! TRUNKS -/
section Qtrunks
/-- the weights as both have them -/
def qWts (h k : zHp) (n : Nat) (c : Nat → Nat) : Prop := n ≤ 9 ∧ h 33 1 = nI n ∧ k 0 56 = nI n ∧ ∀ i, i < n → 1 ≤ c i ∧ c i ≤ 99 ∧ h 34 i = nI (c i) ∧ k 32 i = nI (c i)
theorem qWts_c {h h' k k' : zHp} {n : Nat} {c : Nat → Nat} (W : qWts h k n c) (e : ∀ a, a ≠ 162 → a ≠ 165 → h' a = h a) (f : ∀ a, a ≠ 33 → a ≠ 34 → k' a = k a) : qWts h' k' n c := by
  obtain ⟨w1, w2, w3, w4⟩ := W
  refine ⟨w1, by rw [e 33 (by omega) (by omega)]; exact w2, by rw [f 0 (by omega) (by omega)]; exact w3, fun i hi => ?_⟩
  rw [e 34 (by omega) (by omega), f 32 (by omega) (by omega)]
  exact w4 i hi
theorem qWts_get {h k : zHp} {n : Nat} {c : Nat → Nat} (W : qWts h k n c) {i : Nat} (hi : i < n) : f_X7_get 33 (nI i) h = some (nI (c i), h) :=
  q_get (N := 9) (o := 33) W.2.1 (by decide +kernel) W.1 (by omega) hi (W.2.2.2 i hi).2.2.1
-- the first in which it has room
theorem q_ffX {h : zHp} {s u i w e : Nat} {x : Nat → Nat} (k4 : Int32 × Int32 × Int32 × zHp → Option (Int32 × zHp)) (hs : s ≤ 99) (hu : u < 9) (hw : w ≤ 99) (hx : ∀ t, t < u → h 162 t = nI (x t) ∧ x t ≤ 99) (he : e ≤ u) (h1 : ∀ t, t < e → s < x t + w) (h2 : e < u → ¬ s < x e + w) : f_X5_firstFit_34_lp k4 zN (nI s, nI u, nI i, nI w, nI 0, h) = if e < u then k4 (nI s, nI u, nI (i + 1), zst h 162 e (nI (x e + w))) else k4 (nI s, nI (u + 1), nI (i + 1), zst h 162 u (nI w)) := by
  unfold f_X5_firstFit_34_lp
  refine q_for (S := fun t => (nI s, nI u, nI i, nI w, nI t, h)) e (fun t ht rec => ?_) (fun rec => ?_) zN (by rw [q_zN]; omega)
  · obtain ⟨x1, x2⟩ := hx t (by omega)
    have := h1 t ht
    simp only [f_X5_firstFit_34]
    rw [q_ifT (nI_lt (show t < u by omega) (by omega)), q_ix (by omega) (by omega), q_cl (by omega), x1, nI_add, q_ifT (nI_lt this (by omega)), show (1 : Int32) = nI 1 from rfl, nI_add]
  · simp only [f_X5_firstFit_34, f_X5_firstFit_60, f_X5_firstFit_82]
    by_cases z : e < u
    · obtain ⟨x1, x2⟩ := hx e z
      have := h2 z
      rw [if_pos z, q_ifT (nI_lt z (by omega)), q_ix (by omega) (by omega), q_cl (by omega), q_ifF (show ¬ nI s < h 162 e + nI w by rw [x1, nI_add]; exact nI_nlt (by omega) (by omega)), q_ifne (show e ≠ u by omega) (by omega) (by omega), q_ifT (show nI e < (10 : Int32) from nI_lt (b := 10) (by omega) (by omega)), q_ix (by omega) (by omega), q_ix (by omega) (by omega), q_lt, x1, nI_add, show (1 : Int32) = nI 1 from rfl, nI_add]
    · have ee : e = u := by omega
      subst ee
      rw [if_neg z, q_ifF (nI_nlt (Nat.le_refl e) (by omega)), q_ifeq rfl, q_ifT (show nI e < (10 : Int32) from nI_lt (b := 10) (by omega) (by omega)), q_ix (by omega) (by omega), q_lt, q_ifT (show nI e < (10 : Int32) from nI_lt (b := 10) (by omega) (by omega)), q_ix (by omega) (by omega), q_ix (by omega) (by omega), q_lt, q_cl (by omega), q_st_s, q_zst2, show (0 : Int32) = nI 0 from rfl, nI_add, Nat.zero_add, show (1 : Int32) = nI 1 from rfl, nI_add, nI_add]
theorem q_ffM {k : zHp} {s u i w e n : Nat} {x : Nat → Nat} (k4 : Int32 × Int32 × Int32 × zHp → Option (Int32 × zHp)) (hs : s ≤ 99) (hu : u < 9) (hi : i < 9) (hw : w ≤ 99) (hk : k 32 i = nI w) (hx : ∀ t, t < u → k 33 t = nI (x t) ∧ x t ≤ 99) (he : e ≤ u) (h1 : ∀ t, t < e → s < x t + w) (h2 : e < u → ¬ s < x e + w) : f_X11_firstTrunks_15_lp k4 zN (nI s, nI u, nI i, nI 0, k) = if e < u then k4 (nI s, nI u, nI (i + 1), zst k 33 e (nI (x e + w))) else k4 (nI s, nI (u + 1), nI (i + 1), zst k 33 u (nI w)) := by
  unfold f_X11_firstTrunks_15_lp
  refine q_for (S := fun t => (nI s, nI u, nI i, nI t, k)) e (fun t ht rec => ?_) (fun rec => ?_) zN (by rw [q_zN]; omega)
  · obtain ⟨x1, x2⟩ := hx t (by omega)
    have := h1 t ht
    simp only [f_X11_firstTrunks_15]
    rw [q_ifT (nI_lt (show t < u by omega) (by omega)), q_ix (by omega) (by omega), q_ix (by omega) (by omega), q_cl (by omega), q_cl (by omega), x1, hk, nI_add, q_ifT (nI_lt this (by omega)), q_lt, show (1 : Int32) = nI 1 from rfl, nI_add]
  · simp only [f_X11_firstTrunks_15, f_X11_firstTrunks_48, f_X11_firstTrunks_66]
    by_cases z : e < u
    · obtain ⟨x1, x2⟩ := hx e z
      have := h2 z
      rw [if_pos z, q_ifT (nI_lt z (by omega)), q_ix (by omega) (by omega), q_ix (by omega) (by omega), q_cl (by omega), q_cl (by omega), q_ifF (show ¬ nI s < k 33 e + k 32 i by rw [x1, hk, nI_add]; exact nI_nlt (by omega) (by omega)), q_ifne (show e ≠ u by omega) (by omega) (by omega), q_ix (by omega) (by omega), q_ix (by omega) (by omega), q_ix (by omega) (by omega), q_lt, x1, hk, nI_add, show (1 : Int32) = nI 1 from rfl, nI_add]
    · have ee : e = u := by omega
      subst ee
      rw [if_neg z, q_ifF (nI_nlt (Nat.le_refl e) (by omega)), q_ifeq rfl, q_ix (by omega) (by omega), q_lt, q_lt, q_ix (by omega) (by omega), q_ix (by omega) (by omega), q_ix (by omega) (by omega), q_lt, q_cl (by omega), q_cl (by omega), q_st_s, q_st_c (show (32 : Nat) ≠ 33 by omega), hk, q_zst2, show (0 : Int32) = nI 0 from rfl, nI_add, Nat.zero_add, show (1 : Int32) = nI 1 from rfl, nI_add, nI_add]
theorem q_firstFit {h k : zHp} {s n : Nat} {c : Nat → Nat} (W : qWts h k n c) (hs : s ≤ 99) (hg : ∀ i, i < n → c i ≤ s) : ∃ v h' k', f_X5_firstFit (nI s) h = some (v, h') ∧ f_X11_firstTrunks (nI s) k = some (v, k') ∧ (∀ a, a ≠ 162 → h' a = h a) ∧ ∀ a, a ≠ 33 → k' a = k a := by
  have hn := W.1
  unfold f_X5_firstFit f_X5_firstFit_4_lp f_X11_firstTrunks f_X11_firstTrunks_4_lp
  refine q_exit2 (b1 := fun k4 v => f_X5_firstFit_4 k4 v.1 v.2.1 v.2.2.1 v.2.2.2) (b2 := fun k4 v => f_X11_firstTrunks_4 k4 v.1 v.2.1 v.2.2.1 v.2.2.2) (I := fun i v w => ∃ u h' k' x, u ≤ i ∧ v = (nI s, nI u, nI i, h') ∧ w = (nI s, nI u, nI i, k') ∧ (∀ a, a ≠ 162 → h' a = h a) ∧ (∀ a, a ≠ 33 → k' a = k a) ∧ ∀ t, t < u → h' 162 t = nI (x t) ∧ k' 33 t = nI (x t) ∧ x t ≤ 99) n (Q := fun x y => ∃ v h' k', x = some (v, h') ∧ y = some (v, k') ∧ (∀ a, a ≠ 162 → h' a = h a) ∧ ∀ a, a ≠ 33 → k' a = k a) (fun i v w hi hI => Or.inl ?_) (fun v w hI => ?_) _ _ ⟨0, h, k, fun _ => 0, by omega, rfl, rfl, fun _ _ => rfl, fun _ _ => rfl, fun t ht => by omega⟩ zN zN (by rw [q_zN]; omega) (by rw [q_zN]; omega)
  · obtain ⟨u, h', k', x, u1, rfl, rfl, u2, u3, u4⟩ := hI
    have W' : qWts h' k' n c := qWts_c W (fun a a1 _ => u2 a a1) (fun a a1 _ => u3 a a1)
    obtain ⟨c1, c2, c3, c4⟩ := W'.2.2.2 i hi
    have cs := hg i hi
    obtain ⟨e, e1, e2, e3⟩ := q_least (fun t => ¬ s < x t + c i) u
    have e2' : ∀ t, t < e → s < x t + c i := fun t ht => Classical.not_not.mp (e2 t ht)
    have sX : ∀ rec, f_X5_firstFit_4 rec (nI s) (nI u) (nI i) h' = f_X5_firstFit_34_lp rec zN (nI s, nI u, nI i, nI (c i), nI 0, h') := by
      intro rec
      simp only [f_X5_firstFit_4]
      rw [W'.2.1, q_ifT (nI_lt hi (by omega)), qWts_get W' hi, q_bd]; rfl
    have sM : ∀ rec, f_X11_firstTrunks_4 rec (nI s) (nI u) (nI i) k' = f_X11_firstTrunks_15_lp rec zN (nI s, nI u, nI i, nI 0, k') := by
      intro rec
      simp only [f_X11_firstTrunks_4]
      rw [W'.2.2.1, q_ifT (nI_lt hi (by omega))]; rfl
    have lX := fun rec => q_ffX (i := i) rec hs (show u < 9 by omega) c2 (fun t ht => ⟨(u4 t ht).1, (u4 t ht).2.2⟩) e1 e2' e3
    have lM := fun rec => q_ffM (n := n) (i := i) rec hs (show u < 9 by omega) (by omega) c2 c4 (fun t ht => ⟨(u4 t ht).2.1, (u4 t ht).2.2⟩) e1 e2' e3
    by_cases z : e < u
    · have e3' := e3 z
      refine ⟨_, _, fun rec => (sX rec).trans ((lX rec).trans (if_pos z)), fun rec => (sM rec).trans ((lM rec).trans (if_pos z)), u, _, _, fun t => if t = e then x e + c i else x t, by omega, rfl, rfl, fun a ha => by rw [q_st_c ha]; exact u2 a ha, fun a ha => by rw [q_st_c ha]; exact u3 a ha, fun t ht => ?_⟩
      show zst h' 162 e (nI (x e + c i)) 162 t = nI (if t = e then x e + c i else x t) ∧ zst k' 33 e (nI (x e + c i)) 33 t = nI (if t = e then x e + c i else x t) ∧ (if t = e then x e + c i else x t) ≤ 99
      by_cases y : t = e
      · rw [if_pos y, y, q_st_s, q_st_s]; exact ⟨rfl, rfl, by omega⟩
      · rw [if_neg y, q_st_i y, q_st_i y]; exact u4 t ht
    · refine ⟨_, _, fun rec => (sX rec).trans ((lX rec).trans (if_neg z)), fun rec => (sM rec).trans ((lM rec).trans (if_neg z)), u + 1, _, _, fun t => if t = u then c i else x t, by omega, rfl, rfl, fun a ha => by rw [q_st_c ha]; exact u2 a ha, fun a ha => by rw [q_st_c ha]; exact u3 a ha, fun t ht => ?_⟩
      show zst h' 162 u (nI (c i)) 162 t = nI (if t = u then c i else x t) ∧ zst k' 33 u (nI (c i)) 33 t = nI (if t = u then c i else x t) ∧ (if t = u then c i else x t) ≤ 99
      by_cases y : t = u
      · rw [if_pos y, y, q_st_s, q_st_s]; exact ⟨rfl, rfl, c2⟩
      · rw [if_neg y, q_st_i y, q_st_i y]; exact u4 t (by omega)
  · obtain ⟨u, h', k', x, u1, rfl, rfl, u2, u3, u4⟩ := hI
    refine ⟨some (nI u, h'), some (nI u, k'), fun rec => ?_, fun rec => ?_, nI u, h', k', rfl, rfl, u2, u3⟩
    · simp only [f_X5_firstFit_4]
      rw [u2 33 (by omega), W.2.1]
      exact if_neg (nI_nlt (Nat.le_refl n) (by omega))
    · simp only [f_X11_firstTrunks_4]
      rw [u3 0 (by omega), W.2.2.1]
      exact if_neg (nI_nlt (Nat.le_refl n) (by omega))
-- bits
theorem q_hasN {x b : Nat} (hx : x < 2147483648) (hb : b < 31) (k : zHp) : f_X11_has (nI x) (nI b) k = some (nI (if x.testBit b then 1 else 0), k) := by
  have hm : x / 2 ^ b % 2 < 2 := Nat.mod_lt _ (by omega)
  have hd : x / 2 ^ b ≤ x := Nat.div_le_self _ _
  unfold f_X11_has
  rw [show (31 : Int32) = nI 31 from rfl, q_shr hx (by omega), show (1 : Int32) = nI (2 ^ 1 - 1) from rfl, fa_mask, Nat.testBit_eq_decide_div_mod_eq]
  rcases (show x / 2 ^ b % 2 = 0 ∨ x / 2 ^ b % 2 = 1 by omega) with z | z
  · rw [show x / 2 ^ b % 2 ^ 1 = x / 2 ^ b % 2 from rfl, z, q_ifF (by decide), decide_eq_false (by omega), if_neg (by decide)]; rfl
  · rw [show x / 2 ^ b % 2 ^ 1 = x / 2 ^ b % 2 from rfl, z, q_ifT (by decide), decide_eq_true (by omega), if_pos rfl]
theorem qCnt_drop {p q : Nat → Bool} {b : Nat} (h1 : p b = true) (h2 : q b = false) (h3 : ∀ i, i ≠ b → q i = p i) : ∀ n, b < n → qCnt q n + 1 = qCnt p n
  | 0, h => absurd h (Nat.not_lt_zero b)
  | n + 1, h => by
    have e1 : qCnt q (n + 1) = if q n then qCnt q n + 1 else qCnt q n := rfl
    have e2 : qCnt p (n + 1) = if p n then qCnt p n + 1 else qCnt p n := rfl
    rw [e1, e2]
    by_cases z : n = b
    · subst z
      rw [h1, h2, if_pos rfl, if_neg (by decide), qCnt_congr n (fun t ht => h3 t (by omega))]
    · have ih := qCnt_drop h1 h2 h3 n (by omega)
      rw [h3 n z]
      split <;> omega
theorem qPop_drop {f x b : Nat} (hb : b < f) (h : x.testBit b = true) : qPop f (x ^^^ 2 ^ b) + 1 = qPop f x := by
  unfold qPop
  refine qCnt_drop (b := b) h ?_ (fun i hi => ?_) f hb
  · rw [fb_bit_flip, h, decide_eq_true rfl]; rfl
  · rw [fb_bit_flip, decide_eq_false hi, Bool.xor_false]
theorem q_xlt {x b : Nat} (h : x.testBit b = true) : x ^^^ 2 ^ b < x := by
  have e : x &&& (x ^^^ 2 ^ b) = x ^^^ 2 ^ b := by
    apply Nat.eq_of_testBit_eq
    intro i
    rw [Nat.testBit_and, fb_bit_flip]
    by_cases z : i = b
    · rw [z, h, decide_eq_true rfl]; rfl
    · rw [decide_eq_false z, Bool.xor_false, Bool.and_self]
  have l : x ^^^ 2 ^ b ≤ x := by
    have := Nat.and_le_left (n := x) (m := x ^^^ 2 ^ b)
    rw [e] at this; exact this
  have n : x ^^^ 2 ^ b ≠ x := fun q => by
    have := congrArg (fun z => z.testBit b) q
    have this : (x ^^^ 2 ^ b).testBit b = x.testBit b := this
    rw [fb_bit_flip, decide_eq_true rfl, h] at this
    exact absurd this (by decide)
  omega
theorem qPop_pos {x : Nat} (h1 : 0 < x) (h2 : x < 2 ^ 9) : ∃ b, b < 9 ∧ x.testBit b = true := by
  obtain ⟨b, hb⟩ := Nat.exists_testBit_of_ne_zero (x := x) (by omega)
  refine ⟨b, ?_, hb⟩
  rcases Nat.lt_or_ge b 9 with z | z
  · exact z
  · rw [Nat.testBit_lt_two_pow (Nat.lt_of_lt_of_le h2 (Nat.pow_le_pow_right (by decide) z))] at hb; cases hb
theorem q_andnot {x b : Nat} (hb : b < 9) (hx : x < 2 ^ 9) (h : x.testBit b = true) : nI x &&& (nI (2 ^ b) ^^^ (-1)) = nI (x ^^^ 2 ^ b) := by
  have h2 : 2 ^ b ≤ 2 ^ 9 := Nat.pow_le_pow_right (by omega) (by omega)
  rw [q_minus (n := 9) hx (by omega) (fun i => decide (i ≠ b)) (by omega) ?_]
  · congr 1
    apply Nat.eq_of_testBit_eq
    intro i
    rw [Nat.testBit_and, qSet_bit, fb_bit_flip]
    by_cases z : i = b
    · rw [z, h, decide_eq_true (show b = b from rfl), decide_eq_false (show ¬ b ≠ b from fun q => q rfl), Bool.and_false, Bool.and_false]; rfl
    · rw [decide_eq_false z, decide_eq_true (show i ≠ b from z), Bool.and_true, Bool.xor_false]
      by_cases y : i < 9
      · rw [decide_eq_true y, Bool.and_true]
      · rw [decide_eq_false y, Bool.and_false, Nat.testBit_lt_two_pow (Nat.lt_of_lt_of_le hx (Nat.pow_le_pow_right (by decide) (by omega)))]
  · apply Nat.eq_of_testBit_eq
    intro i
    rw [qSet_bit, Nat.testBit_two_pow]
    by_cases z : b = i
    · subst z
      rw [decide_eq_true rfl, decide_eq_true hb, decide_eq_false (show ¬ b ≠ b from fun q => q rfl)]; rfl
    · rw [decide_eq_false z, decide_eq_true (show i ≠ b from fun q => z q.symm), Bool.not_true, Bool.and_false]
-- one more in the last trunk, or in a new one
def qPk (z w s : Nat) : Nat := if z % 100 + w ≤ s then z + w else z / 100 * 100 + 100 + w
theorem qPk_bd {z w s p : Nat} (hw : w ≤ 99) (hs : s ≤ 99) (h1 : 100 ≤ z) (h2 : z ≤ 100 * p + 99) : 100 ≤ qPk z w s ∧ qPk z w s ≤ 100 * (p + 1) + 99 := by
  unfold qPk
  split <;> omega
theorem q_packX {z w s : Nat} (hz : z < 100000) (hw : w ≤ 99) (hs : s ≤ 99) (h1 : 100 ≤ z) (h : zHp) : f_X5_packed (nI z) (nI w) (nI s) h = some (nI (qPk z w s), h) := by
  unfold f_X5_packed f_X5_packed_21 qPk
  rw [show (100 : Int32) = nI 100 from rfl, q_ifF (nI_nlt h1 (by omega)), q_rem (by omega) (by omega) (by omega), nI_add]
  by_cases y : z % 100 + w ≤ s
  · rw [q_ifF (nI_nlt y (by omega)), if_pos y, q_ifF (by decide), nI_add]
  · rw [q_ifT (nI_lt (by omega) (by omega)), if_neg y, q_ifT (show (0 : Int32) = 0 from rfl), q_div (by omega) (by omega) (by omega), show (1 : Int32) = nI 1 from rfl, nI_add, pk_mul, nI_add, Nat.add_mul, Nat.one_mul]
theorem q_pack0 {w s : Nat} (h : zHp) : f_X5_packed (nI 0) (nI w) (nI s) h = some (nI (100 + w), h) := by
  unfold f_X5_packed f_X5_packed_21
  rw [q_ifT (by decide), q_ifT (show (0 : Int32) = 0 from rfl), show ((nI 0 / 100 + 1) * 100 : Int32) = nI 100 by decide, nI_add]
def qCell (h k : zHp) (st j : Nat) : Prop := ((∀ b, b < j → st.testBit b = false) ∧ h 165 st = nI 1000 ∧ k 34 st = nI 100000000) ∨ ∃ y, 100 ≤ y ∧ y ≤ 100 * qPop 9 st + 99 ∧ h 165 st = nI y ∧ k 34 st = nI y
def qBelow (h k : zHp) (s st : Nat) : Prop := h 165 0 = nI 0 ∧ k 34 0 = nI s ∧ ∀ t, 1 ≤ t → t < st → ∃ y, 100 ≤ y ∧ y ≤ 100 * qPop 9 t + 99 ∧ h 165 t = nI y ∧ k 34 t = nI y
theorem qPop9 (x : Nat) : qPop 9 x ≤ 9 := qCnt_le _ 9
/-- one weight of a set: what both put in -/
theorem q_few1 {h k : zHp} {s n st j : Nat} {c : Nat → Nat} (W : qWts h k n c) (hs1 : 1 ≤ s) (hs : s ≤ 99) (hg : ∀ i, i < n → c i ≤ s) (h1 : 1 ≤ st) (h2 : st < 2 ^ n) (hj : j < n) (B : qBelow h k s st) (K : qCell h k st j) : ∃ h' k', (∀ (k24 : Int32 × Int32 × Int32 × zHp → Option (Int32 × zHp)) (k50 : Int32 × Int32 × Int32 × Int32 × zHp → Option (Int32 × zHp)), f_X5_fewestTrunks_50 k24 k50 (nI s) (nI (2 ^ n - 1)) (nI st) (nI j) h = k50 (nI s, nI (2 ^ n - 1), nI st, nI (j + 1), h')) ∧ (∀ (k9 : Int32 × Int32 × zHp → Option (Int32 × zHp)) (k30 : Int32 × Int32 × Int32 × zHp → Option (Int32 × zHp)), f_X11_fewestTrunks_30 k9 k30 (nI s) (nI st) (nI j) k = k30 (nI s, nI st, nI (j + 1), k')) ∧ (∀ a i, (a ≠ 165 ∨ i ≠ st) → h' a i = h a i) ∧ (∀ a i, (a ≠ 34 ∨ i ≠ st) → k' a i = k a i) ∧ qCell h' k' st (j + 1) := by
  have hn := W.1
  have hp9 : 2 ^ n ≤ 2 ^ 9 := Nat.pow_le_pow_right (by omega) hn
  obtain ⟨c1, c2, c3, c4⟩ := W.2.2.2 j hj
  have cs := hg j hj
  have p9 := qPop9 st
  have hh := q_hasN (x := st) (b := j) (by omega) (by omega) k
  have l31 : (31 : Int32) = nI 31 := rfl
  have l1 : (1 : Int32) = nI 1 := rfl
  cases hb : st.testBit j with
  | false =>
    refine ⟨h, k, fun k24 k50 => ?_, fun k9 k30 => ?_, fun _ _ _ => rfl, fun _ _ _ => rfl, ?_⟩
    · simp only [f_X5_fewestTrunks_50]
      rw [W.2.1, q_ifT (nI_lt hj (by omega)), l31, l1, q_shl1 (by omega), q_ifT ((fa_bit (by omega)).mpr hb), nI_add]
    · simp only [f_X11_fewestTrunks_30]
      rw [W.2.2.1, q_ifT (nI_lt hj (by omega)), hh, hb, if_neg (by decide), q_bd]
      dsimp only
      rw [q_ifT (show nI 0 = 0 from rfl), l1, nI_add]
    · rcases K with ⟨z1, z2⟩ | z
      · refine Or.inl ⟨fun b hb2 => ?_, z2⟩
        by_cases y : b = j
        · rw [y]; exact hb
        · exact z1 b (by omega)
      · exact Or.inr z
  | true =>
    have pd := qPop_drop (f := 9) (x := st) (b := j) (by omega) hb
    have pl := q_xlt hb
    have nb : ¬ nI st &&& nI (2 ^ j) = 0 := fun q => by
      have := (fa_bit (n := st) (j := j) (by omega)).mp q
      rw [hb] at this; cases this
    -- what comes out
    have cand : ∃ y, 100 ≤ y ∧ y ≤ 100 * qPop 9 st + 99 ∧ f_X5_packed (h 165 (st ^^^ 2 ^ j)) (nI (c j)) (nI s) h = some (nI y, h) ∧ ∃ z, k 34 (st ^^^ 2 ^ j) = nI z ∧ z < 100000 ∧ qPk z (c j) s = y := by
      rcases Nat.eq_zero_or_pos (st ^^^ 2 ^ j) with z | z
      · refine ⟨100 + c j, by omega, by omega, ?_, s, by rw [z]; exact B.2.1, by omega, ?_⟩
        · rw [z, B.1]; exact q_pack0 h
        · unfold qPk
          rw [if_neg (by omega)]; omega
      · obtain ⟨y, y1, y2, y3, y4⟩ := B.2.2 _ z pl
        have p8 := qPop9 (st ^^^ 2 ^ j)
        have bd := qPk_bd (w := c j) c2 hs y1 y2
        rw [pd] at bd
        refine ⟨qPk y (c j) s, bd.1, bd.2, ?_, y, y4, by omega, rfl⟩
        rw [y3]; exact q_packX (by omega) c2 hs y1 h
    obtain ⟨y, y1, y2, y3, z, z1, z2, z3⟩ := cand
    have cell : ∃ x m, h 165 st = nI x ∧ k 34 st = nI m ∧ x < 2147483648 ∧ m < 2147483648 ∧ min y x = min m y ∧ 100 ≤ min m y ∧ min m y ≤ 100 * qPop 9 st + 99 := by
      rcases K with ⟨-, a1, a2⟩ | ⟨v, v1, v2, v3, v4⟩
      · exact ⟨1000, 100000000, a1, a2, by omega, by omega, by omega, by omega, by omega⟩
      · exact ⟨v, v, v3, v4, by omega, by omega, by omega, by omega, by omega⟩
    obtain ⟨x, m, x1, x2, x3, x4, x5, x6, x7⟩ := cell
    refine ⟨zst h 165 st (nI (min m y)), zst k 34 st (nI (min m y)), fun k24 k50 => ?_, fun k9 k30 => ?_, fun a i hai => ?_, fun a i hai => ?_, Or.inr ⟨min m y, x6, x7, q_st_s, q_st_s⟩⟩
    · simp only [f_X5_fewestTrunks_50]
      rw [W.2.1, q_ifT (nI_lt hj (by omega)), l31, l1, q_shl1 (by omega), q_ifF nb, fb_xorI, q_ix (by omega) (by omega), qWts_get W hj, q_bd, q_cl (by omega)]
      dsimp only
      rw [y3, q_bd, q_ix (by omega) (by omega), q_ix (by omega) (by omega), q_lt, q_cl (by omega)]
      have ex : (if nI y < h 165 st then nI y else h 165 st) = nI (min m y) := by rw [x1, q_minX (by omega) x3, x5]
      show k50 (nI s, nI (2 ^ n - 1), nI st, nI j + nI 1, zst h 165 st (if nI y < h 165 st then nI y else h 165 st)) = _
      rw [ex, nI_add]
    · simp only [f_X11_fewestTrunks_30, f_X11_fewestTrunks_85]
      rw [W.2.2.1, q_ifT (nI_lt hj (by omega)), hh, hb, if_pos rfl, q_bd]
      dsimp only
      rw [q_ifF (by decide), l31, l1, q_shl1 (by omega), show nI st &&& (nI (2 ^ j) ^^^ -nI 1) = nI (st ^^^ 2 ^ j) from q_andnot (by omega) (by omega) hb, q_ix (by omega) (by omega), q_lt, q_cl (by omega), z1, q_ix (by omega) (by omega), q_cl (by omega)]
      have ec : nI z - nI z / 100 * 100 + k 32 j = nI (z % 100 + c j) := by rw [c4, show (100 : Int32) = nI 100 from rfl, q_rem (by omega) (by omega) (by omega), nI_add]
      unfold qPk at z3
      by_cases w : z % 100 + c j ≤ s
      · rw [if_pos w] at z3
        rw [q_ifF (show ¬ nI s < nI z - nI z / 100 * 100 + k 32 j by rw [ec]; exact nI_nlt w (by omega)), q_ix (by omega) (by omega), q_ifF (by decide), q_ix (by omega) (by omega), q_cl (by omega), x2, c4, nI_add, z3, q_lsM x4 (by omega), q_bd, q_ix (by omega) (by omega), q_lt, nI_add]
      · rw [if_neg w] at z3
        rw [q_ifT (show nI s < nI z - nI z / 100 * 100 + k 32 j by rw [ec]; exact nI_lt (by omega) (by omega)), q_ix (by omega) (by omega), q_ifT trivial, q_ix (by omega) (by omega), q_cl (by omega), x2, c4, show (100 : Int32) = nI 100 from rfl, q_div (by omega) (by omega) (by omega), pk_mul, nI_add, nI_add, z3, q_lsM x4 (by omega), q_bd, q_ix (by omega) (by omega), q_lt, nI_add]
    · rw [q_st]
      by_cases w : a = 165
      · rw [if_pos w, if_neg (by omega), w]
      · rw [if_neg w]
    · rw [q_st]
      by_cases w : a = 34
      · rw [if_pos w, if_neg (by omega), w]
      · rw [if_neg w]
theorem q_fewest {h k : zHp} {s n : Nat} {c : Nat → Nat} (W : qWts h k n c) (hs1 : 1 ≤ s) (hs : s ≤ 99) (hg : ∀ i, i < n → c i ≤ s) : ∃ v h' k', f_X5_fewestTrunks (nI s) h = some (v, h') ∧ f_X11_fewestTrunks (nI s) k = some (v, k') ∧ (∀ a, a ≠ 165 → h' a = h a) ∧ ∀ a, a ≠ 34 → k' a = k a := by
  have hn := W.1
  have hp9 : 2 ^ n ≤ 2 ^ 9 := Nat.pow_le_pow_right (by omega) hn
  have hp0 : 1 ≤ 2 ^ n := Nat.one_le_two_pow
  have l31 : (31 : Int32) = nI 31 := rfl
  have l1 : (1 : Int32) = nI 1 := rfl
  have l512 : Int32.ofNat 512 = nI 512 := rfl
  unfold f_X5_fewestTrunks f_X11_fewestTrunks
  rw [W.2.1, l31, l1, q_shl1 (by omega), q_sub hp0, q_lt, show (0 : Int32) = nI 0 from rfl, q_ix (by omega) (by omega), q_ix (by omega) (by omega), q_lt, q_lt, q_cl (by omega)]
  unfold f_X5_fewestTrunks_24_lp f_X11_fewestTrunks_9_lp
  refine q_exit2 (b1 := fun k24 v => f_X5_fewestTrunks_24 k24 v.1 v.2.1 v.2.2.1 v.2.2.2) (b2 := fun k9 v => f_X11_fewestTrunks_9 k9 v.1 v.2.1 v.2.2) (I := fun i v w => ∃ h' k', v = (nI s, nI (2 ^ n - 1), nI (i + 1), h') ∧ w = (nI s, nI (i + 1), k') ∧ (∀ a, a ≠ 165 → h' a = h a) ∧ (∀ a, a ≠ 34 → k' a = k a) ∧ qBelow h' k' s (i + 1)) (2 ^ n - 1) (Q := fun x y => ∃ v h' k', x = some (v, h') ∧ y = some (v, k') ∧ (∀ a, a ≠ 165 → h' a = h a) ∧ ∀ a, a ≠ 34 → k' a = k a) (fun i v w hi hI => Or.inl ?_) (fun v w hI => ?_) _ _ ⟨_, _, rfl, rfl, fun a ha => q_st_c ha, fun a ha => q_st_c ha, q_st_s, q_st_s, fun t t1 t2 => by omega⟩ zN zN (by rw [q_zN]; omega) (by rw [q_zN]; omega)
  · obtain ⟨h', k', rfl, rfl, u2, u3, B⟩ := hI
    have sX : ∀ rec, f_X5_fewestTrunks_24 rec (nI s) (nI (2 ^ n - 1)) (nI (i + 1)) h' = f_X5_fewestTrunks_50_lp rec zN (nI s, nI (2 ^ n - 1), nI (i + 1), nI 0, zst h' 165 (i + 1) (nI 1000)) := by
      intro rec
      simp only [f_X5_fewestTrunks_24]
      rw [q_ifF (nI_nlt (by omega) (by omega)), l512, q_ifT (nI_lt (by omega) (by omega)), q_ix (by omega) (by omega), q_lt, q_cl (by omega)]; rfl
    have sM : ∀ rec, f_X11_fewestTrunks_9 rec (nI s) (nI (i + 1)) k' = f_X11_fewestTrunks_30_lp rec zN (nI s, nI (i + 1), nI 0, zst k' 34 (i + 1) (nI 100000000)) := by
      intro rec
      simp only [f_X11_fewestTrunks_9]
      rw [u3 0 (by omega), W.2.2.1, l31, l1, q_shl1 (by omega), q_ifT (nI_lt (by omega) (by omega)), q_ix (by omega) (by omega), q_lt, q_cl (by omega)]; rfl
    obtain ⟨v1, w1, ⟨h2, k2, e1, e2, e3, e4, e5, e6⟩, g1, g2⟩ := q_inv2k (K1 := Int32 × Int32 × Int32 × zHp → Option (Int32 × zHp)) (K2 := Int32 × Int32 × zHp → Option (Int32 × zHp)) (b1 := fun k24 k50 v => f_X5_fewestTrunks_50 k24 k50 v.1 v.2.1 v.2.2.1 v.2.2.2.1 v.2.2.2.2) (b2 := fun k9 k30 v => f_X11_fewestTrunks_30 k9 k30 v.1 v.2.1 v.2.2.1 v.2.2.2) (I := fun j v w => ∃ h2 k2, v = (nI s, nI (2 ^ n - 1), nI (i + 1), nI j, h2) ∧ w = (nI s, nI (i + 1), nI j, k2) ∧ (∀ a t, (a ≠ 165 ∨ t ≠ i + 1) → h2 a t = h' a t) ∧ (∀ a t, (a ≠ 34 ∨ t ≠ i + 1) → k2 a t = k' a t) ∧ qBelow h2 k2 s (i + 1) ∧ qCell h2 k2 (i + 1) j) n (fun j v w hj hI => by
      obtain ⟨h2, k2, rfl, rfl, e3, e4, e5, e6⟩ := hI
      have W2 : qWts h2 k2 n c := qWts_c W (fun a _ a2 => by rw [← u2 a a2]; exact funext fun t => e3 a t (Or.inl a2)) (fun a _ a2 => by rw [← u3 a a2]; exact funext fun t => e4 a t (Or.inl a2))
      obtain ⟨h3, k3, f1, f2, f3, f4, f5⟩ := q_few1 W2 hs1 hs hg (show 1 ≤ i + 1 by omega) (show i + 1 < 2 ^ n by omega) hj e5 e6
      refine ⟨_, _, fun κ rec => f1 κ rec, fun κ rec => f2 κ rec, h3, k3, rfl, rfl, fun a t q => (f3 a t q).trans (e3 a t q), fun a t q => (f4 a t q).trans (e4 a t q), ⟨?_, ?_, fun t t1 t2 => ?_⟩, f5⟩
      · rw [f3 165 0 (Or.inr (by omega))]; exact e5.1
      · rw [f4 34 0 (Or.inr (by omega))]; exact e5.2.1
      · rw [f3 165 t (Or.inr (by omega)), f4 34 t (Or.inr (by omega))]; exact e5.2.2 t t1 t2) (nI s, nI (2 ^ n - 1), nI (i + 1), nI 0, zst h' 165 (i + 1) (nI 1000)) (nI s, nI (i + 1), nI 0, zst k' 34 (i + 1) (nI 100000000)) ⟨_, _, rfl, rfl, fun a t q => by
        rw [q_st]
        by_cases y : a = 165
        · rw [if_pos y, if_neg (by omega), y]
        · rw [if_neg y], fun a t q => by
        rw [q_st]
        by_cases y : a = 34
        · rw [if_pos y, if_neg (by omega), y]
        · rw [if_neg y], ⟨by rw [q_st_i (by omega)]; exact B.1, by rw [q_st_i (by omega)]; exact B.2.1, fun t t1 t2 => by rw [q_st_i (by omega), q_st_i (by omega)]; exact B.2.2 t t1 t2⟩, Or.inl ⟨fun b hb => absurd hb (Nat.not_lt_zero b), q_st_s, q_st_s⟩⟩ zN zN (by rw [q_zN]; omega) (by rw [q_zN]; omega)
    have W2 : qWts h2 k2 n c := qWts_c W (fun a _ a2 => by rw [← u2 a a2]; exact funext fun t => e3 a t (Or.inl a2)) (fun a _ a2 => by rw [← u3 a a2]; exact funext fun t => e4 a t (Or.inl a2))
    refine ⟨(nI s, nI (2 ^ n - 1), nI (i + 1 + 1), h2), (nI s, nI (i + 1 + 1), k2), fun rec => (sX rec).trans ((g1 rec).trans ?_), fun rec => (sM rec).trans ((g2 rec).trans ?_), h2, k2, rfl, rfl, fun a ha => by rw [← u2 a ha]; exact funext fun t => e3 a t (Or.inl ha), fun a ha => by rw [← u3 a ha]; exact funext fun t => e4 a t (Or.inl ha), e5.1, e5.2.1, fun t t1 t2 => ?_⟩
    · rw [e1]
      refine q_lp1 (by rw [q_zN]; omega) (fun rec2 => ?_)
      simp only [f_X5_fewestTrunks_50]
      rw [W2.2.1, q_ifF (nI_nlt (Nat.le_refl n) (by omega)), l1, nI_add]
    · rw [e2]
      refine q_lp1 (by rw [q_zN]; omega) (fun rec2 => ?_)
      simp only [f_X11_fewestTrunks_30]
      rw [W2.2.2.1, q_ifF (nI_nlt (Nat.le_refl n) (by omega)), l1, nI_add]
    · by_cases y : t = i + 1
      · subst y
        rcases e6 with ⟨q, -⟩ | q
        · obtain ⟨b, b1, b2⟩ := qPop_pos (x := i + 1) (by omega) (by omega)
          have : b < n := by
            rcases Nat.lt_or_ge b n with y | y
            · exact y
            · rw [Nat.testBit_lt_two_pow (Nat.lt_of_lt_of_le (show i + 1 < 2 ^ n by omega) (Nat.pow_le_pow_right (by decide) y))] at b2; cases b2
          rw [q b this] at b2; cases b2
        · exact q
      · exact e5.2.2 t t1 (by omega)
  · obtain ⟨h', k', rfl, rfl, u2, u3, B⟩ := hI
    have fin : ∃ y z, h' 165 (2 ^ n - 1) = nI y ∧ k' 34 (2 ^ n - 1) = nI z ∧ y / 100 = z / 100 ∧ y < 100000 ∧ z < 100000 := by
      rcases Nat.eq_zero_or_pos (2 ^ n - 1) with q | q
      · rw [q]; exact ⟨0, s, B.1, B.2.1, by omega, by omega, by omega⟩
      · obtain ⟨y, y1, y2, y3, y4⟩ := B.2.2 (2 ^ n - 1) q (by omega)
        have := qPop9 (2 ^ n - 1)
        exact ⟨y, y, y3, y4, rfl, by omega, by omega⟩
    obtain ⟨y, z, f1, f2, f3, f4, f5⟩ := fin
    refine ⟨some (nI (y / 100), h'), some (nI (y / 100), k'), fun rec => ?_, fun rec => ?_, nI (y / 100), h', k', rfl, rfl, u2, u3⟩
    · simp only [f_X5_fewestTrunks_24, f_X5_fewestTrunks_132]
      rw [q_ifT (nI_lt (by omega) (by omega)), l512, q_ifT (nI_lt (by omega) (by omega)), q_ix (by omega) (by omega), q_cl (by omega), f1, show (100 : Int32) = nI 100 from rfl, q_div (by omega) (by omega) (by omega)]
    · simp only [f_X11_fewestTrunks_9]
      rw [u3 0 (by omega), W.2.2.1, l31, l1, q_shl1 (by omega), q_ifF (nI_nlt (by omega) (by omega)), q_sub hp0, q_ix (by omega) (by omega), q_cl (by omega), f2, show (100 : Int32) = nI 100 from rfl, q_div (by omega) (by omega) (by omega), f3]
def qMxW (c : Nat → Nat) : Nat → Nat
  | 0 => 0
  | n + 1 => max (qMxW c n) (c n)
theorem qMxW_le {c : Nat → Nat} {b : Nat} : ∀ n, qMxW c n ≤ b ↔ ∀ i, i < n → c i ≤ b
  | 0 => by constructor
            · intro _ i hi; omega
            · intro _; exact Nat.zero_le b
  | n + 1 => by
    have ih := qMxW_le (c := c) (b := b) n
    rw [show qMxW c (n + 1) = max (qMxW c n) (c n) from rfl]
    constructor
    · intro h i hi
      by_cases z : i = n
      · rw [z]; omega
      · exact ih.mp (by omega) i (by omega)
    · intro h
      have := ih.mpr (fun i hi => h i (by omega))
      have := h n (by omega)
      omega
theorem q_greatest {h k : zHp} {n : Nat} {c : Nat → Nat} (W : qWts h k n c) : f_X7_greatest 33 h = some (nI (qMxW c n), h) := by
  have hn := W.1
  have hz : zln wX 34 = 9 := by decide +kernel
  have hb : ∀ i, i ≤ n → qMxW c i ≤ 99 := fun i hi => (qMxW_le i).mpr (fun j hj => (W.2.2.2 j (by omega)).2.1)
  unfold f_X7_greatest f_X7_greatest_4_lp
  refine q_for (S := fun i => (nI (qMxW c i), nI i, h)) n (fun i hi rec => ?_) (fun rec => ?_) zN (by rw [q_zN]; omega)
  · obtain ⟨c1, c2, c3, c4⟩ := W.2.2.2 i hi
    have b1 := hb i (by omega)
    simp only [f_X7_greatest_4]
    rw [W.2.1, q_ifT (nI_lt hi (by omega)), show (33 + 1 : Nat) = 34 from rfl, hz, q_nI, q_ifT (nI_lt (show i < 9 by omega) (by omega)), q_ix (by omega) (by omega), q_cl (by omega), c3, q_maxX (by omega) (by omega), q_lt, show (1 : Int32) = nI 1 from rfl, nI_add]; rfl
  · simp only [f_X7_greatest_4]
    rw [W.2.1, q_ifF (nI_nlt (Nat.le_refl n) (by omega))]
theorem q_ask_trunks {h k : zHp} (R : qRel h k) (s a : Int32) : qAsk h k (f_X10_trunks s a h) (f_X11_trunks s a k) := by
  obtain ⟨⟨C, P, -, -, -, -, -, -, -, -, -, -, w4, -, -, -⟩, -⟩ := R
  obtain ⟨n, n1, n2, n3, n4⟩ := w4
  obtain ⟨c, hc⟩ := q_ch1 (n := n) (p := fun i v => 1 ≤ v ∧ v ≤ 99 ∧ h 34 i = nI v ∧ k 32 i = nI v) (fun i hi => n4 i hi)
  obtain ⟨k0, hk0⟩ : ∃ k0, k0 = zst k 0 0 0 := ⟨_, rfl⟩
  have W : qWts h k0 n c := ⟨n1, n2, by rw [hk0, q_st_i (by omega)]; exact n3, fun i hi => by
    rw [hk0, q_st_c (by omega)]; exact hc i hi⟩
  have f0 : qMs k k0 := by rw [hk0]; exact qMs_s0 k
  have no : ∀ x y, x = some ((-1 : Int32), h) → y = some ((-1 : Int32), k0) → qAsk h k x y := fun x y hx hy => ⟨-1, h, k0, hx, hy, qXs_rf h, f0⟩
  unfold f_X10_trunks f_X11_trunks
  rw [q_lt, ← hk0, show (1 : Int32) = nI 1 from rfl, show (99 : Int32) = nI 99 from rfl, show (0 : Int32) = nI 0 from rfl]
  rcases q_rng 1 99 s (by omega) with o | ⟨j, j1, j2, rfl⟩
  · refine no _ _ (q_out2 o) ?_
    rw [q_inO o, q_bd]; exact if_pos rfl
  rw [q_ifF (nI_nlt j1 (by omega)), q_ifF (nI_nlt j2 (by omega)), q_inI j1 j2 (by omega), q_bd]
  dsimp only
  rw [q_ifF (by decide)]
  rcases q_rng 0 1 a (by omega) with o | ⟨w, -, w2, rfl⟩
  · refine no _ _ ?_ ?_
    · rw [q_wiO o, q_bd]; exact if_pos rfl
    · rw [q_inO o, q_bd]; exact if_pos rfl
  rw [q_wiI w2 (by omega), q_bd, q_inI (Nat.zero_le w) w2 (by omega), q_bd]
  dsimp only
  rw [q_ifF (by decide), q_ifF (by decide), q_greatest W, q_bd]
  dsimp only
  have hmx : qMxW c n ≤ 99 := (qMxW_le n).mpr (fun i hi => (W.2.2.2 i hi).2.1)
  by_cases g : qMxW c n ≤ j
  · have hg := (qMxW_le n).mp g
    rw [q_ifF (nI_nlt g (by omega))]
    have eM : f_X11_trunks_30_lp zN (nI j, nI w, nI 0, k0) = if nI w = 0 then (f_X11_firstTrunks (nI j) k0).bind fun x1 => some (x1.1, x1.2) else (f_X11_fewestTrunks (nI j) k0).bind fun x2 => some (x2.1, x2.2) := by
      unfold f_X11_trunks_30_lp
      refine q_for (S := fun i => (nI j, nI w, nI i, k0)) n (fun i hi rec => ?_) (fun rec => ?_) zN (by rw [q_zN]; omega)
      · have := hg i hi
        simp only [f_X11_trunks_30]
        rw [W.2.2.1, q_ifT (nI_lt hi (by omega)), q_ix (by omega) (by omega), q_cl (by omega), (W.2.2.2 i hi).2.2.2, q_ifF (nI_nlt this (by omega)), show (1 : Int32) = nI 1 from rfl, nI_add]
      · simp only [f_X11_trunks_30]
        rw [W.2.2.1, q_ifF (nI_nlt (Nat.le_refl n) (by omega))]
    rw [eM]
    rcases (show w = 0 ∨ w = 1 by omega) with rfl | rfl
    · obtain ⟨v, h', k', e1, e2, e3, e4⟩ := q_firstFit W j2 hg
      refine ⟨v, h', k', ?_, ?_, ⟨fun x hx => e3 x (fun q => by rw [q] at hx; exact absurd hx (by decide)), by rw [e3 136 (by omega)]⟩, qMs_tr f0 (fun x i hx => ?_)⟩
      · rw [if_pos (show nI 0 = nI 0 from rfl), e1]; rfl
      · rw [if_pos (show nI 0 = 0 from rfl), e2]; rfl
      · rw [e4 x (fun q => by
          rw [q] at hx
          revert hx
          unfold qPers qPos
          simp)]
    · obtain ⟨v, h', k', e1, e2, e3, e4⟩ := q_fewest W j1 j2 hg
      refine ⟨v, h', k', ?_, ?_, ⟨fun x hx => e3 x (fun q => by rw [q] at hx; exact absurd hx (by decide)), by rw [e3 136 (by omega)]⟩, qMs_tr f0 (fun x i hx => ?_)⟩
      · rw [if_neg (show ¬ nI 1 = nI 0 by decide), e1]; rfl
      · rw [if_neg (show ¬ nI 1 = 0 by decide), e2]; rfl
      · rw [e4 x (fun q => by
          rw [q] at hx
          revert hx
          unfold qPers qPos
          simp)]
  · rw [q_ifT (nI_lt (by omega) (by omega))]
    refine no _ _ rfl ?_
    obtain ⟨e, e1, e2, e3⟩ := q_least (fun i => j < c i) n
    have hlt : e < n := by
      rcases Nat.lt_or_ge e n with y | y
      · exact y
      · exact absurd ((qMxW_le n).mpr (fun i hi => by have := e2 i (by omega); omega)) g
    unfold f_X11_trunks_30_lp
    refine q_for (S := fun i => (nI j, nI w, nI i, k0)) e (fun i hi rec => ?_) (fun rec => ?_) zN (by rw [q_zN]; omega)
    · have := e2 i hi
      simp only [f_X11_trunks_30]
      rw [W.2.2.1, q_ifT (nI_lt (by omega) (by omega)), q_ix (by omega) (by omega), q_cl (by omega), (W.2.2.2 i (by omega)).2.2.2, q_ifF (nI_nlt (by omega) (by omega)), show (1 : Int32) = nI 1 from rfl, nI_add]
    · simp only [f_X11_trunks_30]
      have := (W.2.2.2 e hlt).2.1
      rw [W.2.2.1, q_ifT (nI_lt hlt (by omega)), q_ix (by omega) (by omega), q_cl (by omega), (W.2.2.2 e hlt).2.2.2, q_ifT (nI_lt (e3 hlt) (by omega))]
end Qtrunks
