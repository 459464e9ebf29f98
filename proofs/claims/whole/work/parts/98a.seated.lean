/-! SEATED: ways by sets -/
section Qseat1
-- sums
theorem q_smMul (c : Nat) (f : Nat → Nat) : ∀ n, fb_sm (fun k => c * f k) n = c * fb_sm f n
  | 0 => rfl
  | n + 1 => by rw [fb_sm_succ, fb_sm_succ, q_smMul c f n, Nat.mul_add]
theorem q_smNil {f : Nat → Nat} : ∀ n, (∀ k, k < n → f k = 0) → fb_sm f n = 0
  | 0, _ => rfl
  | n + 1, h => by rw [fb_sm_succ, q_smNil n (fun k hk => h k (by omega)), h n (by omega)]
theorem q_smSwap (f : Nat → Nat → Nat) (m : Nat) : ∀ n, fb_sm (fun p => fb_sm (fun a => f a p) m) n = fb_sm (fun a => fb_sm (fun p => f a p) n) m
  | 0 => (q_smNil m (fun _ _ => rfl)).symm
  | n + 1 => by
    rw [fb_sm_succ, q_smSwap f m n, ← fb_sm_add]
    exact fb_sm_cong (fun k _ => (fb_sm_succ (fun p => f k p) n).symm)
theorem q_smOne {f : Nat → Nat} {a : Nat} : ∀ n, a < n → (∀ k, k < n → k ≠ a → f k = 0) → fb_sm f n = f a
  | 0, h, _ => absurd h (Nat.not_lt_zero a)
  | n + 1, h, H => by
    rw [fb_sm_succ]
    by_cases z : a = n
    · subst z
      rw [q_smNil a (fun k hk => H k (by omega) (by omega)), Nat.zero_add]
    · rw [q_smOne n (by omega) (fun k hk hk2 => H k (by omega) hk2), H n (by omega) (fun e => z e.symm), Nat.add_zero]
theorem q_smUp {f g : Nat → Nat} {a v : Nat} : ∀ n, a < n → (∀ k, k < n → k ≠ a → g k = f k) → g a = f a + v → fb_sm g n = fb_sm f n + v
  | 0, h, _, _ => absurd h (Nat.not_lt_zero a)
  | n + 1, h, H, e => by
    rw [fb_sm_succ, fb_sm_succ]
    by_cases z : a = n
    · subst z
      rw [fb_sm_cong (f := g) (g := f) (n := a) (fun k hk => H k (by omega) (by omega)), e, Nat.add_assoc]
    · rw [q_smUp n (by omega) (fun k hk hk2 => H k (by omega) hk2) e, H n (by omega) (fun e => z e.symm)]
      omega
theorem q_smRev (f : Nat → Nat) : ∀ n, fb_sm (fun k => f (n - 1 - k)) n = fb_sm f n
  | 0 => rfl
  | n + 1 => by
    have h := fb_sm_split (fun k => f (n + 1 - 1 - k)) 1 n
    rw [Nat.add_comm 1 n] at h
    rw [h, show fb_sm (fun k => f (n + 1 - 1 - k)) 1 = f n by rw [fb_sm_succ]; simp [fb_sm], fb_sm_succ]
    have e : fb_sm (fun k => f (n + 1 - 1 - (1 + k))) n = fb_sm (fun k => f (n - 1 - k)) n := fb_sm_cong (fun k hk => by rw [show n + 1 - 1 - (1 + k) = n - 1 - k by omega])
    rw [e, q_smRev f n, Nat.add_comm]
def qIf (b : Bool) (x : Nat) : Nat := bif b then x else 0
theorem qIf_t {b : Bool} {x : Nat} (h : b = true) : qIf b x = x := by rw [h]; rfl
theorem qIf_f {b : Bool} {x : Nat} (h : b = false) : qIf b x = 0 := by rw [h]; rfl
theorem qIf_0 (b : Bool) : qIf b 0 = 0 := by cases b <;> rfl
theorem qIf_le (b : Bool) (x : Nat) : qIf b x ≤ x := by cases b <;> simp [qIf]
theorem qIf_mul (b : Bool) (c x : Nat) : qIf b (c * x) = c * qIf b x := by cases b <;> simp [qIf]
theorem qIf_sm (b : Bool) (f : Nat → Nat) (n : Nat) : qIf b (fb_sm f n) = fb_sm (fun k => qIf b (f k)) n := by
  cases b
  · rw [qIf_f rfl, q_smNil n (fun k _ => qIf_f rfl)]
  · rw [qIf_t rfl]; exact fb_sm_cong (fun k _ => (qIf_t rfl).symm)
/-- one sits alone: the starts -/
def qIni (c : Nat → Bool) (t l : Nat) : Nat := qIf (c l && decide (t = 2 ^ l)) 1
theorem qIni_eq (a t l : Nat) : qIni (fun y => decide (y = a)) t l = qIf (decide (l = a) && decide (t = 2 ^ l)) 1 := rfl
theorem qIni_lt (a t l : Nat) : qIni (fun y => decide (y < a)) t l = qIf (decide (l < a) && decide (t = 2 ^ l)) 1 := rfl
/-- in how many ways those of t sit in a row, l last -/
def qNw (c : Nat → Bool) (ok : Nat → Nat → Bool) (n : Nat) : Nat → Nat → Nat → Nat
  | 0, t, l => qIni c t l
  | m + 1, t, l => qIni c t l + qIf (t.testBit l) (fb_sm (fun p => qIf (ok p l) (qNw c ok n m (t ^^^ 2 ^ l) p)) n)
def qVw (c : Nat → Bool) (ok : Nat → Nat → Bool) (n t l : Nat) : Nat := qNw c ok n 7 t l
theorem qPop_no {t : Nat} (ht : t < 2 ^ 7) (h : qPop 7 t = 0) : t = 0 := by
  apply Nat.eq_of_testBit_eq
  intro i
  rw [Nat.zero_testBit]
  by_cases z : i < 7
  · have : ∀ n, qCnt (fun i => t.testBit i) n = 0 → ∀ i, i < n → t.testBit i = false := by
      intro n
      induction n with
      | zero => intro _ i hi; omega
      | succ n ih =>
        intro h i hi
        have e : qCnt (fun i => t.testBit i) (n + 1) = if t.testBit n then qCnt (fun i => t.testBit i) n + 1 else qCnt (fun i => t.testBit i) n := rfl
        rw [e] at h
        cases hb : t.testBit n with
        | true => rw [hb, if_pos rfl] at h; omega
        | false =>
          rw [hb, if_neg (by decide)] at h
          by_cases y : i = n
          · rw [y]; exact hb
          · exact ih h i (by omega)
    exact this 7 h i z
  · exact Nat.testBit_lt_two_pow (Nat.lt_of_lt_of_le ht (Nat.pow_le_pow_right (by decide) (by omega)))
theorem qNw_st {c : Nat → Bool} {ok : Nat → Nat → Bool} {n : Nat} (hn : n ≤ 7) : ∀ m m' t l, t < 2 ^ 7 → l < 7 → qPop 7 t ≤ m → qPop 7 t ≤ m' → qNw c ok n m t l = qNw c ok n m' t l := by
  intro m
  induction m with
  | zero =>
    intro m' t l ht hl h1 h2
    have e := qPop_no ht (by omega)
    cases m' with
    | zero => rfl
    | succ m' =>
      show qIni c t l = qIni c t l + qIf (t.testBit l) _
      rw [qIf_f (by rw [e, Nat.zero_testBit]), Nat.add_zero]
  | succ m ih =>
    intro m' t l ht hl h1 h2
    cases m' with
    | zero =>
      have e := qPop_no ht (by omega)
      show qIni c t l + qIf (t.testBit l) _ = qIni c t l
      rw [qIf_f (by rw [e, Nat.zero_testBit]), Nat.add_zero]
    | succ m' =>
      show qIni c t l + qIf (t.testBit l) _ = qIni c t l + qIf (t.testBit l) _
      cases hb : t.testBit l with
      | false => rw [qIf_f rfl, qIf_f rfl]
      | true =>
        have pd := qPop_drop (f := 7) (x := t) (b := l) hl hb
        have pl := q_xlt hb
        rw [qIf_t rfl, qIf_t rfl]
        congr 1
        exact fb_sm_cong (fun p hp => by rw [ih m' (t ^^^ 2 ^ l) p (by omega) (by omega) (by omega) (by omega)])
theorem qNw_le {c : Nat → Bool} {ok : Nat → Nat → Bool} {n : Nat} (hn : n ≤ 7) : ∀ m t l, qNw c ok n m t l ≤ 8 ^ m := by
  intro m
  induction m with
  | zero => intro t l; show qIf _ 1 ≤ 1; exact qIf_le _ 1
  | succ m ih =>
    intro t l
    show qIf _ 1 + qIf _ _ ≤ 8 ^ (m + 1)
    have h1 := qIf_le (c l && decide (t = 2 ^ l)) 1
    have h2 := qIf_le (t.testBit l) (fb_sm (fun p => qIf (ok p l) (qNw c ok n m (t ^^^ 2 ^ l) p)) n)
    have h3 : fb_sm (fun p => qIf (ok p l) (qNw c ok n m (t ^^^ 2 ^ l) p)) n ≤ n * 8 ^ m := fb_sm_bound (fun p _ => Nat.le_trans (qIf_le _ _) (ih _ _))
    have h4 : n * 8 ^ m ≤ 7 * 8 ^ m := Nat.mul_le_mul_right _ hn
    have h5 : 1 ≤ 8 ^ m := Nat.one_le_pow _ _ (by decide)
    rw [Nat.pow_succ]
    omega
theorem qVw_le {c : Nat → Bool} {ok : Nat → Nat → Bool} {n : Nat} (hn : n ≤ 7) (t l : Nat) : qVw c ok n t l ≤ 2097152 := qNw_le hn 7 t l
theorem qVw_eq {c : Nat → Bool} {ok : Nat → Nat → Bool} {n t l : Nat} (hn : n ≤ 7) (ht : t < 2 ^ 7) (hl : l < 7) : qVw c ok n t l = qIni c t l + qIf (t.testBit l) (fb_sm (fun p => qIf (ok p l) (qVw c ok n (t ^^^ 2 ^ l) p)) n) := by
  show qIni c t l + qIf (t.testBit l) _ = _
  cases hb : t.testBit l with
  | false => rw [qIf_f rfl, qIf_f rfl]
  | true =>
    have pd := qPop_drop (f := 7) (x := t) (b := l) hl hb
    have pl := q_xlt hb
    have p7 : qPop 7 t ≤ 7 := qCnt_le _ 7
    rw [qIf_t rfl, qIf_t rfl]
    congr 1
    exact fb_sm_cong (fun p hp => by rw [qNw_st hn 6 7 (t ^^^ 2 ^ l) p (by omega) (by omega) (by omega) (by omega)]; rfl)
theorem qVw_no {c : Nat → Bool} {ok : Nat → Nat → Bool} {n t l : Nat} (hn : n ≤ 7) (ht : t < 2 ^ 7) (hl : l < 7) (h : t.testBit l = false) : qVw c ok n t l = 0 := by
  rw [qVw_eq hn ht hl, qIf_f h, Nat.add_zero]
  unfold qIni
  refine qIf_f ?_
  have : ¬ t = 2 ^ l := fun e => by rw [e, Nat.testBit_two_pow_self] at h; cases h
  rw [decide_eq_false this, Bool.and_false]
/-- the starts one by one -/
theorem qNw_sum {ok : Nat → Nat → Bool} {n : Nat} : ∀ m t l, l < n → qNw (fun x => decide (x < n)) ok n m t l = fb_sm (fun a => qNw (fun x => decide (x = a)) ok n m t l) n := by
  have ini : ∀ t l, l < n → qIni (fun x => decide (x < n)) t l = fb_sm (fun a => qIni (fun x => decide (x = a)) t l) n := by
    intro t l hl
    rw [q_smOne n hl (fun k hk hne => by
      rw [qIni_eq]
      exact qIf_f (by rw [decide_eq_false (show ¬ l = k from fun e => hne e.symm)]; rfl)), qIni_eq, qIni_lt]
    rw [decide_eq_true hl, decide_eq_true (show l = l from rfl)]
  intro m
  induction m with
  | zero => exact ini
  | succ m ih =>
    intro t l hl
    show qIni _ t l + qIf (t.testBit l) _ = _
    have e1 : fb_sm (fun p => qIf (ok p l) (qNw (fun x => decide (x < n)) ok n m (t ^^^ 2 ^ l) p)) n = fb_sm (fun a => fb_sm (fun p => qIf (ok p l) (qNw (fun x => decide (x = a)) ok n m (t ^^^ 2 ^ l) p)) n) n := by
      rw [← q_smSwap]
      refine fb_sm_cong (fun p hp => ?_)
      rw [ih (t ^^^ 2 ^ l) p hp, qIf_sm]
    rw [ini t l hl, e1, qIf_sm, ← fb_sm_add]
    rfl
-- the way one goes round, parted where another one sits
def qTo (ok : Nat → Nat → Bool) (n a b S : Nat) : Nat := fb_sm (fun x => qIf (ok x b) (qVw (fun y => decide (y = a)) ok n S x)) n
theorem q_subs {S T l : Nat} (hT : T.testBit l = true) (hS : S.testBit l = false) : decide (S &&& T = S) = decide (S &&& (T ^^^ 2 ^ l) = S) := by
  congr 1
  apply propext
  have e : S &&& (T ^^^ 2 ^ l) = S &&& T := by
    apply Nat.eq_of_testBit_eq
    intro i
    rw [Nat.testBit_and, Nat.testBit_and, fb_bit_flip]
    by_cases z : i = l
    · rw [z, hS, Bool.false_and, Bool.false_and]
    · rw [decide_eq_false z, Bool.xor_false]
  rw [e]
theorem q_sub_t {S T : Nat} (h : S &&& T = S) {i : Nat} (hi : S.testBit i = true) : T.testBit i = true := by
  rw [← h, Nat.testBit_and, Bool.and_eq_true] at hi
  exact hi.2
theorem q_xor7 {S T n : Nat} (hS : S < 2 ^ n) (hT : T < 2 ^ n) : S ^^^ T < 2 ^ n := Nat.xor_lt_two_pow hS hT
theorem qNw_na {ok : Nat → Nat → Bool} {n l : Nat} (hn : n ≤ 7) : ∀ m t p, t < 2 ^ 7 → p < 7 → t.testBit l = false → qNw (fun y => decide (y = l)) ok n m t p = 0 := by
  have j0 : ∀ t p, t.testBit l = false → qIni (fun y => decide (y = l)) t p = 0 := by
    intro t p ht
    rw [qIni_eq]
    refine qIf_f ?_
    by_cases w : p = l
    · subst w
      have : ¬ t = 2 ^ p := fun e => by rw [e, Nat.testBit_two_pow_self] at ht; cases ht
      rw [decide_eq_false this, Bool.and_false]
    · rw [decide_eq_false w]; rfl
  intro m
  induction m with
  | zero => intro t p _ _ ht; exact j0 t p ht
  | succ m ihm =>
    intro t p ht1 hp ht
    show qIni _ t p + qIf (t.testBit p) _ = 0
    rw [j0 t p ht, Nat.zero_add]
    cases hv : t.testBit p with
    | false => exact qIf_f rfl
    | true =>
      rw [q_smNil n (fun x hx => ?_), qIf_0]
      rw [ihm (t ^^^ 2 ^ p) x (Nat.lt_trans (q_xlt hv) ht1) (by omega) ?_, qIf_0]
      rw [fb_bit_flip, ht]
      have : ¬ l = p := fun e => by rw [← e, ht] at hv; cases hv
      rw [decide_eq_false this]; rfl
theorem q_path {ok : Nat → Nat → Bool} {n a b : Nat} (hn : n ≤ 7) (hb : b < n) (hab : a ≠ b) : ∀ m T l, qPop 7 T = m → T < 2 ^ n → l < n → T.testBit b = true → qVw (fun y => decide (y = a)) ok n T l = fb_sm (fun S => qIf (decide (S &&& T = S)) (qTo ok n a b S * qVw (fun y => decide (y = b)) ok n (T ^^^ S) l)) (2 ^ n) := by
  have h27 : 2 ^ n ≤ 2 ^ 7 := Nat.pow_le_pow_right (by decide) hn
  intro m
  induction m using Nat.strongRecOn with
  | _ m ih =>
    intro T l hm hT hl hbT
    have i0 : ∀ t l, t ≠ 2 ^ a → qIni (fun y => decide (y = a)) t l = 0 := by
      intro t l h
      rw [qIni_eq]
      refine qIf_f ?_
      by_cases z : l = a
      · subst z; rw [decide_eq_false h, Bool.and_false]
      · rw [decide_eq_false z]; rfl
    have nT : T ≠ 2 ^ a := fun e => by
      rw [e, Nat.testBit_two_pow, decide_eq_false hab] at hbT; cases hbT
    rw [qVw_eq hn (by omega) (by omega), i0 T l nT, Nat.zero_add]
    cases hlT : T.testBit l with
    | false =>
      rw [qIf_f rfl]
      refine (q_smNil _ (fun S hS => ?_)).symm
      by_cases z : S &&& T = S
      · rw [qVw_no hn (Nat.lt_of_lt_of_le (q_xor7 hT hS) h27) (by omega) ?_, Nat.mul_zero, qIf_0]
        rw [Nat.testBit_xor, hlT]
        cases hs : S.testBit l with
        | false => rfl
        | true => rw [q_sub_t z hs] at hlT; cases hlT
      · exact qIf_f (decide_eq_false z)
    | true =>
      rw [qIf_t rfl]
      have pl := q_xlt hlT
      have pd := qPop_drop (f := 7) (x := T) (b := l) (by omega) hlT
      by_cases hlb : l = b
      · subst hlb
        rw [q_smOne (f := fun S => qIf (decide (S &&& T = S)) (qTo ok n a l S * qVw (fun y => decide (y = l)) ok n (T ^^^ S) l)) (a := T ^^^ 2 ^ l) (2 ^ n) (by omega) (fun S hS hne => ?_)]
        · have e1 : (T ^^^ 2 ^ l) &&& T = T ^^^ 2 ^ l := by
            apply Nat.eq_of_testBit_eq
            intro i
            rw [Nat.testBit_and, fb_bit_flip]
            by_cases z : i = l
            · rw [z, hlT, decide_eq_true rfl]; rfl
            · rw [decide_eq_false z, Bool.xor_false, Bool.and_self]
          have e2 : T ^^^ (T ^^^ 2 ^ l) = 2 ^ l := by rw [← Nat.xor_assoc, Nat.xor_self, Nat.zero_xor]
          have e3 : qVw (fun y => decide (y = l)) ok n (2 ^ l) l = 1 := by
            have hp : 2 ^ l < 2 ^ 7 := Nat.pow_lt_pow_right (by decide) (by omega)
            rw [qVw_eq hn hp (by omega), q_smNil n (fun p hp2 => ?_), qIf_0, Nat.add_zero]
            · rw [qIni_eq]
              exact qIf_t (by rw [decide_eq_true (show l = l from rfl), decide_eq_true (show 2 ^ l = 2 ^ l from rfl)]; rfl)
            · rw [Nat.xor_self, qVw_no hn (by decide) (by omega) (Nat.zero_testBit p), qIf_0]
          show _ = qIf (decide ((T ^^^ 2 ^ l) &&& T = T ^^^ 2 ^ l)) (qTo ok n a l (T ^^^ 2 ^ l) * qVw (fun y => decide (y = l)) ok n (T ^^^ (T ^^^ 2 ^ l)) l)
          rw [qIf_t (decide_eq_true e1), e2, e3, Nat.mul_one]; rfl
        · by_cases z : S &&& T = S
          · have hTS : T ^^^ S < 2 ^ 7 := Nat.lt_of_lt_of_le (q_xor7 hT hS) h27
            have e0 : qIni (fun y => decide (y = l)) (T ^^^ S) l = 0 := by
              rw [qIni_eq]
              refine qIf_f ?_
              have : ¬ T ^^^ S = 2 ^ l := fun e => hne (by
                have : T ^^^ (T ^^^ S) = T ^^^ 2 ^ l := by rw [e]
                rw [← Nat.xor_assoc, Nat.xor_self, Nat.zero_xor] at this
                exact this)
              rw [decide_eq_false this, Bool.and_false]
            cases y : (T ^^^ S).testBit l with
            | true =>
              have hx : T ^^^ S ^^^ 2 ^ l < 2 ^ 7 := Nat.lt_trans (q_xlt y) hTS
              have nl : (T ^^^ S ^^^ 2 ^ l).testBit l = false := by rw [fb_bit_flip, y, decide_eq_true rfl]; rfl
              rw [qVw_eq hn hTS (by omega), e0, Nat.zero_add, q_smNil n (fun p hp => ?_), qIf_0, Nat.mul_zero, qIf_0]
              rw [show qVw (fun y => decide (y = l)) ok n (T ^^^ S ^^^ 2 ^ l) p = 0 from qNw_na hn 7 _ p hx (by omega) nl, qIf_0]
            | false => rw [qVw_no hn hTS (by omega) y, Nat.mul_zero, qIf_0]
          · exact qIf_f (decide_eq_false z)
      · have hbl : (T ^^^ 2 ^ l).testBit b = true := by
          rw [fb_bit_flip, hbT, decide_eq_false (fun e => hlb e.symm)]; rfl
        have st : ∀ p, p < n → qIf (ok p l) (qVw (fun y => decide (y = a)) ok n (T ^^^ 2 ^ l) p) = fb_sm (fun S => qIf (decide (S &&& (T ^^^ 2 ^ l) = S)) (qTo ok n a b S * qIf (ok p l) (qVw (fun y => decide (y = b)) ok n (T ^^^ 2 ^ l ^^^ S) p))) (2 ^ n) := by
          intro p hp
          rw [ih (qPop 7 (T ^^^ 2 ^ l)) (by omega) (T ^^^ 2 ^ l) p rfl (by omega) hp hbl, qIf_sm]
          refine fb_sm_cong (fun S _ => ?_)
          cases ok p l
          · rw [qIf_f rfl, qIf_f rfl, Nat.mul_zero, qIf_0]
          · rw [qIf_t rfl, qIf_t rfl]
        rw [fb_sm_cong st, q_smSwap]
        refine fb_sm_cong (fun S hS => ?_)
        rw [← qIf_sm, q_smMul]
        cases hs : S.testBit l with
        | true =>
          have n1 : ¬ S &&& (T ^^^ 2 ^ l) = S := fun e => by
            have := q_sub_t e hs
            rw [fb_bit_flip, hlT, decide_eq_true rfl] at this; cases this
          rw [qIf_f (decide_eq_false n1), qVw_no hn (Nat.lt_of_lt_of_le (q_xor7 hT hS) h27) (by omega) (by rw [Nat.testBit_xor, hlT, hs]; rfl), Nat.mul_zero, qIf_0]
        | false =>
          have hTS : T ^^^ S < 2 ^ 7 := Nat.lt_of_lt_of_le (q_xor7 hT hS) h27
          have e0 : qIni (fun y => decide (y = b)) (T ^^^ S) l = 0 := by
            rw [qIni_eq]
            exact qIf_f (by rw [decide_eq_false hlb]; rfl)
          have e1 : (T ^^^ S).testBit l = true := by rw [Nat.testBit_xor, hlT, hs]; rfl
          rw [← q_subs hlT hs, qVw_eq hn hTS (by omega) (l := l), e0, Nat.zero_add, qIf_t e1]
          have e2 : T ^^^ 2 ^ l ^^^ S = T ^^^ S ^^^ 2 ^ l := by rw [Nat.xor_assoc, Nat.xor_comm (2 ^ l) S, ← Nat.xor_assoc]
          rw [e2]
theorem q_full {n S : Nat} (hS : S < 2 ^ n) : S &&& (2 ^ n - 1) = S ∧ (2 ^ n - 1) ^^^ S = 2 ^ n - 1 - S := by
  refine ⟨by rw [Nat.and_two_pow_sub_one_eq_mod, Nat.mod_eq_of_lt hS], ?_⟩
  apply Nat.eq_of_testBit_eq
  intro i
  rw [Nat.testBit_xor, Nat.testBit_two_pow_sub_one, show 2 ^ n - 1 - S = 2 ^ n - (S + 1) by omega, Nat.testBit_two_pow_sub_succ hS]
  by_cases z : i < n
  · rw [decide_eq_true z, Bool.true_and]; cases S.testBit i <;> rfl
  · rw [decide_eq_false z, Bool.false_and, Nat.testBit_lt_two_pow (Nat.lt_of_lt_of_le hS (Nat.pow_le_pow_right (by decide) (by omega)))]; rfl
theorem q_cyc1 {ok : Nat → Nat → Bool} {n a b : Nat} (hn : n ≤ 7) (hb : b < n) (hab : a ≠ b) : qTo ok n a a (2 ^ n - 1) = fb_sm (fun S => qTo ok n a b S * qTo ok n b a (2 ^ n - 1 - S)) (2 ^ n) := by
  have hp : 0 < 2 ^ n := Nat.two_pow_pos n
  have e : ∀ x, x < n → qIf (ok x a) (qVw (fun y => decide (y = a)) ok n (2 ^ n - 1) x) = fb_sm (fun S => qTo ok n a b S * qIf (ok x a) (qVw (fun y => decide (y = b)) ok n (2 ^ n - 1 - S) x)) (2 ^ n) := by
    intro x hx
    rw [q_path hn hb hab _ (2 ^ n - 1) x rfl (by omega) hx (by rw [Nat.testBit_two_pow_sub_one, decide_eq_true hb]), qIf_sm]
    refine fb_sm_cong (fun S hS => ?_)
    obtain ⟨f1, f2⟩ := q_full hS
    rw [qIf_t (decide_eq_true f1), f2, qIf_mul]
  unfold qTo at *
  rw [fb_sm_cong e, q_smSwap]
  exact fb_sm_cong (fun S _ => q_smMul _ _ n)
/-- a ring is the same wherever one begins -/
theorem q_cyc {ok : Nat → Nat → Bool} {n a b : Nat} (hn : n ≤ 7) (ha : a < n) (hb : b < n) : qTo ok n a a (2 ^ n - 1) = qTo ok n b b (2 ^ n - 1) := by
  by_cases z : a = b
  · rw [z]
  rw [q_cyc1 hn hb z, q_cyc1 hn ha (fun e => z e.symm), ← q_smRev (fun S => qTo ok n b a S * qTo ok n a b (2 ^ n - 1 - S))]
  refine fb_sm_cong (fun S hS => ?_)
  rw [show 2 ^ n - 1 - (2 ^ n - 1 - S) = S by omega, Nat.mul_comm]
end Qseat1
