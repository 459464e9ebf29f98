section Qseat3
-- who won't sit beside whom
def qWo (A B : Nat → Nat) (p q : Nat) : Nat → Bool
  | 0 => false
  | n + 1 => qWo A B p q n || (decide (A n = p ∧ B n = q) || decide (A n = q ∧ B n = p))
theorem qWo_t {A B : Nat → Nat} {p q : Nat} : ∀ n, qWo A B p q n = true ↔ ∃ i, i < n ∧ ((A i = p ∧ B i = q) ∨ (A i = q ∧ B i = p))
  | 0 => by
    constructor
    · intro h; cases h
    · rintro ⟨i, hi, -⟩; omega
  | n + 1 => by
    have ih := qWo_t (A := A) (B := B) (p := p) (q := q) n
    rw [qWo, Bool.or_eq_true, Bool.or_eq_true, decide_eq_true_eq, decide_eq_true_eq, ih]
    constructor
    · rintro (⟨i, h1, h2⟩ | h)
      · exact ⟨i, by omega, h2⟩
      · exact ⟨n, by omega, h⟩
    · rintro ⟨i, h1, h2⟩
      by_cases z : i = n
      · subst z; exact Or.inr h2
      · exact Or.inl ⟨i, by omega, h2⟩
def qOks (A B : Nat → Nat) (m p q : Nat) : Bool := !qWo A B p q m
theorem qOks_f {A B : Nat → Nat} {m p q : Nat} : qOks A B m p q = false ↔ ∃ i, i < m ∧ ((A i = p ∧ B i = q) ∨ (A i = q ∧ B i = p)) := by
  unfold qOks
  rw [Bool.not_eq_false', qWo_t]
theorem q_forbid {h : zHp} {m : Nat} {A B : Nat → Nat} (hm : m ≤ 10) (hc : h 29 1 = nI m) (H : ∀ i, i < m → A i < 7 ∧ B i < 7 ∧ A i ≠ B i ∧ h 30 i = nI (A i * 32 + B i)) : ∃ h', f_X5_forbid h = some h' ∧ (∀ a, a ≠ 162 → h' a = h a) ∧ qOkX h' (qOks A B m) := by
  have hz : zln wX 30 = 10 := by decide +kernel
  have l31 : (31 : Int32) = nI 31 := rfl
  have l1 : (1 : Int32) = nI 1 := rfl
  have part2 : ∀ h1 : zHp, (∀ a, a ≠ 162 → h1 a = h a) → (∀ p, p < 7 → h1 162 p = nI 0) → ∃ h', f_X5_forbid_23_lp zN (nI 0, h1) = some h' ∧ (∀ a, a ≠ 162 → h' a = h a) ∧ qOkX h' (qOks A B m) := by
    intro h1 g1 g2
    unfold f_X5_forbid_23_lp
    refine q_exit (b := fun k23 v => f_X5_forbid_23 k23 v.1 v.2) (I := fun i v => ∃ h', v = (nI i, h') ∧ (∀ a, a ≠ 162 → h' a = h a) ∧ ∀ p, p < 7 → ∃ F, F < 2 ^ 7 ∧ h' 162 p = nI F ∧ ∀ q, q < 7 → F.testBit q = qWo A B p q i) m (Q := fun x => ∃ h', x = some h' ∧ (∀ a, a ≠ 162 → h' a = h a) ∧ qOkX h' (qOks A B m)) (fun i v hi hI => Or.inl ?_) (fun v hI => ?_) _ ⟨h1, rfl, g1, fun p hp => ⟨0, by decide, g2 p hp, fun q _ => Nat.zero_testBit q⟩⟩ zN (by rw [q_zN]; omega)
    · obtain ⟨h', rfl, e1, e2⟩ := hI
      obtain ⟨a1, a2, a3, a4⟩ := H i hi
      have b1 : h' 29 1 = nI m := by rw [e1 29 (by omega)]; exact hc
      have b2 : h' 30 i = nI (A i * 32 + B i) := by rw [e1 30 (by omega)]; exact a4
      have hg := q_get (N := 10) (o := 29) b1 hz hm (by omega) hi b2
      obtain ⟨F, F1, F2, F3⟩ := e2 (A i) a1
      obtain ⟨G, G1, G2, G3⟩ := e2 (B i) a2
      have pA : 2 ^ B i < 2 ^ 7 := Nat.pow_lt_pow_right (by decide) a2
      have pB : 2 ^ A i < 2 ^ 7 := Nat.pow_lt_pow_right (by decide) a1
      refine ⟨(nI (i + 1), zst (zst h' 162 (A i) (nI (F ||| 2 ^ B i))) 162 (B i) (nI (G ||| 2 ^ A i))), fun rec => ?_, _, rfl, fun a ha => by rw [q_st_c ha, q_st_c ha]; exact e1 a ha, fun p hp => ?_⟩
      · simp only [f_X5_forbid_23]
        rw [b1, q_ifT (nI_lt hi (by omega)), hg, q_bd, qT_first (by omega) (by omega), q_bd]
        dsimp only
        rw [hg, q_bd]
        dsimp only
        rw [qT_second (by omega) (by omega), q_bd]
        dsimp only
        rw [q_ifT (show nI (A i) < (7 : Int32) from nI_lt (b := 7) a1 (by omega)), q_ifT (show nI (B i) < (7 : Int32) from nI_lt (b := 7) a2 (by omega)), q_ix (by omega) (by omega), q_ix (by omega) (by omega), q_lt, q_ix (by omega) (by omega), q_ix (by omega) (by omega), q_lt, q_cl (show A i < 2147483648 by omega), q_cl (show B i < 2147483648 by omega), F2, l1, l31, q_shl1 (by omega), q_shl1 (by omega), fa_or, q_st_i (fun e => a3 e.symm), G2, fa_or, nI_add]
      · by_cases z : p = B i
        · refine ⟨G ||| 2 ^ A i, Nat.or_lt_two_pow G1 pB, by rw [z, q_st_s], fun q hq => ?_⟩
          rw [fb_bit_set, G3 q hq, qWo, z, decide_eq_false (show ¬ (A i = B i ∧ B i = q) from fun y => a3 y.1), Bool.false_or]
          congr 2
          apply propext
          constructor
          · intro y; exact ⟨y.symm, rfl⟩
          · intro y; exact y.1.symm
        · by_cases y : p = A i
          · refine ⟨F ||| 2 ^ B i, Nat.or_lt_two_pow F1 pA, by rw [q_st_i z, y, q_st_s], fun q hq => ?_⟩
            rw [fb_bit_set, F3 q hq, qWo, y, decide_eq_false (show ¬ (A i = q ∧ B i = A i) from fun y => a3 y.2.symm), Bool.or_false]
            congr 2
            apply propext
            constructor
            · intro y; exact ⟨rfl, y.symm⟩
            · intro y; exact y.2.symm
          · obtain ⟨K, K1, K2, K3⟩ := e2 p hp
            refine ⟨K, K1, by rw [q_st_i z, q_st_i y]; exact K2, fun q hq => ?_⟩
            rw [K3 q hq, qWo, decide_eq_false (fun w => y w.1.symm), decide_eq_false (fun w => z w.2.symm), Bool.or_false, Bool.or_false]
    · obtain ⟨h', rfl, e1, e2⟩ := hI
      refine ⟨some h', fun rec => ?_, h', rfl, e1, fun p hp => ?_⟩
      · simp only [f_X5_forbid_23]
        rw [e1 29 (by omega), hc]
        exact if_neg (nI_nlt (Nat.le_refl m) (by omega))
      · obtain ⟨F, F1, F2, F3⟩ := e2 p hp
        refine ⟨F, F1, F2, fun q hq => ?_⟩
        rw [F3 q hq]
        unfold qOks
        rw [Bool.not_not]
  unfold f_X5_forbid f_X5_forbid_2_lp
  refine q_exit (b := fun k2 v => f_X5_forbid_2 k2 v.1 v.2) (I := fun i v => ∃ h', v = (nI i, h') ∧ (∀ a, a ≠ 162 → h' a = h a) ∧ ∀ p, p < i → h' 162 p = nI 0) 7 (Q := fun x => ∃ h', x = some h' ∧ (∀ a, a ≠ 162 → h' a = h a) ∧ qOkX h' (qOks A B m)) (fun i v hi hI => Or.inl ?_) (fun v hI => ?_) _ ⟨h, rfl, fun _ _ => rfl, fun p hp => by omega⟩ zN (by rw [q_zN]; omega)
  · obtain ⟨h', rfl, e1, e2⟩ := hI
    refine ⟨(nI (i + 1), zst h' 162 i (nI 0)), fun rec => ?_, _, rfl, fun a ha => by rw [q_st_c ha]; exact e1 a ha, fun p hp => ?_⟩
    · simp only [f_X5_forbid_2]
      rw [q_ifT (show nI i < (7 : Int32) from nI_lt (b := 7) hi (by omega)), q_ix (by omega) (by omega), q_lt, q_cl (by omega), l1, nI_add]; rfl
    · by_cases z : p = i
      · rw [z, q_st_s]
      · rw [q_st_i z]; exact e2 p (by omega)
  · obtain ⟨h', rfl, e1, e2⟩ := hI
    refine ⟨f_X5_forbid_23_lp zN (nI 0, h'), fun rec => ?_, part2 h' e1 e2⟩
    simp only [f_X5_forbid_2]
    exact if_neg (nI_nlt (a := 7) (b := 7) (by omega) (by omega))
theorem q_nIz (b : Bool) : nI (qIf b 1) = if b = true then 1 else 0 := by cases b <;> rfl
/-- the class's sum at the end -/
def qFin (w : Nat) (ok : Nat → Nat → Bool) (a : Nat) (V : Nat → Nat) (n : Nat) : Nat := fb_sm (fun x => qIf (w == 0 || ok x a) (V x)) n
theorem q_finX {h : zHp} {c : Nat → Bool} {ok : Nat → Nat → Bool} {n w : Nat} (h1 : 1 ≤ n) (hn : n ≤ 7) (hw : w < 2) (O : qOkX h ok) (C : qCw (h 164) c ok n (49 * (2 ^ n - 1))) : f_X5_orders_132_lp zN (nI n, nI w, nI (2 ^ n - 1), nI 0, nI 0, h) = some (nI (if w = 0 then qFin w ok 0 (qVw c ok n (2 ^ n - 1)) n else n * qFin w ok 0 (qVw c ok n (2 ^ n - 1)) n), h) := by
  have h27 : 2 ^ n ≤ 2 ^ 7 := Nat.pow_le_pow_right (by decide) hn
  have hp : 0 < 2 ^ n := Nat.two_pow_pos n
  have l1 : (1 : Int32) = nI 1 := rfl
  unfold f_X5_orders_132_lp
  refine q_for (S := fun i => (nI n, nI w, nI (2 ^ n - 1), nI (qFin w ok 0 (qVw c ok n (2 ^ n - 1)) i), nI i, h)) n (fun i hi rec => ?_) (fun rec => ?_) zN (by rw [q_zN]; omega)
  · have eV : h 164 (7 * (2 ^ n - 1) + i) = nI (qVw c ok n (2 ^ n - 1) i) := by rw [C (2 ^ n - 1) i (by omega) hi, qGw_V hn (by omega) (by omega) (by omega)]
    obtain ⟨F, F1, F2, F3⟩ := O i (by omega)
    have eS : qFin w ok 0 (qVw c ok n (2 ^ n - 1)) (i + 1) = qFin w ok 0 (qVw c ok n (2 ^ n - 1)) i + qIf (w == 0 || ok i 0) (qVw c ok n (2 ^ n - 1) i) := rfl
    rw [eS]
    have yes : f_X5_orders_159 rec (nI n) (nI w) (nI (2 ^ n - 1)) (nI (qFin w ok 0 (qVw c ok n (2 ^ n - 1)) i)) (nI i) 1 h = rec (nI n, nI w, nI (2 ^ n - 1), nI (qFin w ok 0 (qVw c ok n (2 ^ n - 1)) i + qVw c ok n (2 ^ n - 1) i), nI (i + 1), h) := by
      simp only [f_X5_orders_159]
      rw [q_ifF (by decide), show (7 : Int32) = nI 7 from rfl, pk_mul, nI_add, Nat.mul_comm _ 7, q_ix (by omega) (by omega), q_lt, q_cl (by omega), eV, nI_add, l1, nI_add]
    have non : f_X5_orders_159 rec (nI n) (nI w) (nI (2 ^ n - 1)) (nI (qFin w ok 0 (qVw c ok n (2 ^ n - 1)) i)) (nI i) 0 h = rec (nI n, nI w, nI (2 ^ n - 1), nI (qFin w ok 0 (qVw c ok n (2 ^ n - 1)) i), nI (i + 1), h) := by
      simp only [f_X5_orders_159]
      rw [q_ifT trivial, show (0 : Int32) = nI 0 from rfl, q_lt, nI_add, l1, nI_add, Nat.add_zero]
    simp only [f_X5_orders_132]
    rw [q_ifT (nI_lt hi (by omega))]
    rcases (show w = 0 ∨ w = 1 by omega) with rfl | rfl
    · rw [q_ifT (show nI 0 = 0 from rfl), yes]; rfl
    · rw [q_ifF (by decide), q_ix (by omega) (by omega), q_cl (by omega), F2]
      cases hb : ok i 0 with
      | true =>
        rw [q_ifT (show nI F &&& 1 = 0 from (fa_bit (n := F) (j := 0) (by omega)).mpr (by rw [F3 0 (by omega), hb]; rfl)), yes]; rfl
      | false =>
        rw [q_ifF (show ¬ nI F &&& 1 = 0 from fun q => by
          have := (fa_bit (n := F) (j := 0) (by omega)).mp q
          rw [F3 0 (by omega), hb] at this; cases this), non]; rfl
  · simp only [f_X5_orders_132]
    rw [q_ifF (nI_nlt (Nat.le_refl n) (by omega))]
    rcases (show w = 0 ∨ w = 1 by omega) with rfl | rfl
    · rw [q_ifT (show nI 0 = 0 from rfl), if_pos rfl]
    · rw [q_ifF (by decide), if_neg (by decide), pk_mul]
/-- set by set, class -/
theorem q_setsX {h : zHp} {c : Nat → Bool} {ok : Nat → Nat → Bool} {n w : Nat} (h1 : 1 ≤ n) (hn : n ≤ 7) (hw : w < 2) (O : qOkX h ok) (C : qCw (h 164) c ok n 49) : ∃ h', f_X5_orders_90_lp zN (nI n, nI w, nI (2 ^ n - 1), nI 1, h) = some (nI (if w = 0 then qFin w ok 0 (qVw c ok n (2 ^ n - 1)) n else n * qFin w ok 0 (qVw c ok n (2 ^ n - 1)) n), h') ∧ ∀ a, a ≠ 164 → h' a = h a := by
  have h27 : 2 ^ n ≤ 2 ^ 7 := Nat.pow_le_pow_right (by decide) hn
  have hp : 2 ≤ 2 ^ n := Nat.le_trans (show 2 ≤ 2 ^ 1 by decide) (Nat.pow_le_pow_right (by decide) h1)
  have l1 : (1 : Int32) = nI 1 := rfl
  unfold f_X5_orders_90_lp
  refine q_exit (b := fun k90 v => f_X5_orders_90 k90 v.1 v.2.1 v.2.2.1 v.2.2.2.1 v.2.2.2.2) (I := fun i v => ∃ h', v = (nI n, nI w, nI (2 ^ n - 1), nI (i + 1), h') ∧ (∀ a, a ≠ 164 → h' a = h a) ∧ qCw (h' 164) c ok n (49 * (i + 1))) (2 ^ n - 2) (Q := fun x => ∃ h', x = some (nI (if w = 0 then qFin w ok 0 (qVw c ok n (2 ^ n - 1)) n else n * qFin w ok 0 (qVw c ok n (2 ^ n - 1)) n), h') ∧ ∀ a, a ≠ 164 → h' a = h a) (fun i v hi hI => Or.inl ?_) (fun v hI => ?_) _ ⟨h, rfl, fun _ _ => rfl, C⟩ zN (by rw [q_zN]; omega)
  · obtain ⟨h', rfl, e1, e2⟩ := hI
    have O' : qOkX h' ok := fun p hp => by rw [e1 162 (by omega)]; exact O p hp
    obtain ⟨v', ⟨h2, f1, f2, f3⟩, g⟩ := q_invk (K := Int32 × Int32 × Int32 × Int32 × zHp → Option (Int32 × zHp)) (b := fun k90 k99 v => f_X5_orders_99 k90 k99 v.1 v.2.1 v.2.2.1 v.2.2.2.1 v.2.2.2.2.1 v.2.2.2.2.2) (I := fun p v => ∃ h2, v = (nI n, nI w, nI (2 ^ n - 1), nI (i + 1), nI p, h2) ∧ (∀ a, a ≠ 164 → h2 a = h' a) ∧ qCw (h2 164) c ok n (49 * (i + 1) + 7 * p)) n (fun p v hp hI => by
      obtain ⟨h2, rfl, f2, f3⟩ := hI
      have O2 : qOkX h2 ok := fun p hp => by rw [f2 162 (by omega)]; exact O' p hp
      obtain ⟨h3, g1, g2, g3⟩ := q_seatX2 hn (show i + 1 < 2 ^ n by omega) hp O2 f3
      refine ⟨_, fun κ rec => ?_, h3, rfl, fun a ha => (g2 a ha).trans (f2 a ha), g3⟩
      simp only [f_X5_orders_99]
      rw [q_ifT (nI_lt hp (by omega)), g1, q_bd, l1, nI_add]) (nI n, nI w, nI (2 ^ n - 1), nI (i + 1), nI 0, h') ⟨h', rfl, fun _ _ => rfl, e2⟩ zN (by rw [q_zN]; omega)
    refine ⟨(nI n, nI w, nI (2 ^ n - 1), nI (i + 1 + 1), h2), fun rec => ?_, h2, rfl, fun a ha => (f2 a ha).trans (e1 a ha), qCw_eq f3 (fun x p l hp hl => by omega)⟩
    simp only [f_X5_orders_90]
    rw [q_ifT (nI_lt (by omega) (by omega))]
    refine (show f_X5_orders_99_lp rec zN (nI n, nI w, nI (2 ^ n - 1), nI (i + 1), nI 0, h') = _ from ?_)
    unfold f_X5_orders_99_lp
    rw [g rec, f1]
    refine q_lp1 (by rw [q_zN]; omega) (fun rec9 => ?_)
    simp only [f_X5_orders_99]
    rw [q_ifF (nI_nlt (Nat.le_refl n) (by omega)), l1, nI_add]
  · obtain ⟨h', rfl, e1, e2⟩ := hI
    have O' : qOkX h' ok := fun p hp => by rw [e1 162 (by omega)]; exact O p hp
    rw [show 2 ^ n - 2 + 1 = 2 ^ n - 1 by omega] at e2
    refine ⟨_, fun rec => ?_, h', rfl, e1⟩
    simp only [f_X5_orders_90]
    rw [show 2 ^ n - 2 + 1 = 2 ^ n - 1 by omega, q_ifF (nI_nlt (Nat.le_refl _) (by omega))]
    exact q_finX h1 hn hw O' e2
theorem q_sordX {h : zHp} {m n w : Nat} {A B : Nat → Nat} (h1 : 1 ≤ n) (hn : n ≤ 7) (hw : w < 2) (hm : m ≤ 10) (hc : h 29 1 = nI m) (H : ∀ i, i < m → A i < 7 ∧ B i < 7 ∧ A i ≠ B i ∧ h 30 i = nI (A i * 32 + B i)) : ∃ h', f_X5_orders (nI n) (nI w) h = some (nI (if w = 0 then qFin w (qOks A B m) 0 (qVw (fun x => decide (x < n)) (qOks A B m) n (2 ^ n - 1)) n else n * qFin w (qOks A B m) 0 (qVw (fun x => decide (x < 1)) (qOks A B m) n (2 ^ n - 1)) n), h') ∧ ∀ a, a ≠ 162 → a ≠ 164 → h' a = h a := by
  have h27 : 2 ^ n ≤ 2 ^ 7 := Nat.pow_le_pow_right (by decide) hn
  have hp : 2 ≤ 2 ^ n := Nat.le_trans (show 2 ≤ 2 ^ 1 by decide) (Nat.pow_le_pow_right (by decide) h1)
  have l1 : (1 : Int32) = nI 1 := rfl
  have l31 : (31 : Int32) = nI 31 := rfl
  have l7 : (7 : Int32) = nI 7 := rfl
  obtain ⟨h1', g1, g2, g3⟩ := q_forbid hm hc H
  obtain ⟨ok, hok⟩ : ∃ ok, ok = qOks A B m := ⟨_, rfl⟩
  rw [← hok] at g3 ⊢
  obtain ⟨e, he⟩ : ∃ e, e = if w = 0 then n else 1 := ⟨_, rfl⟩
  have he1 : 1 ≤ e ∧ e ≤ n := by rw [he]; split <;> omega
  have goal : ∀ v, v = (if w = 0 then qFin w ok 0 (qVw (fun x => decide (x < n)) ok n (2 ^ n - 1)) n else n * qFin w ok 0 (qVw (fun x => decide (x < 1)) ok n (2 ^ n - 1)) n) ↔ v = (if w = 0 then qFin w ok 0 (qVw (fun x => decide (x < e)) ok n (2 ^ n - 1)) n else n * qFin w ok 0 (qVw (fun x => decide (x < e)) ok n (2 ^ n - 1)) n) := by
    intro v
    by_cases z : w = 0
    · rw [if_pos z, if_pos z, he, if_pos z]
    · rw [if_neg z, if_neg z, he, if_neg z]
  rw [(goal _).mp rfl]
  have part51 : ∀ h2 : zHp, (∀ a, a ≠ 164 → h2 a = h1' a) → (∀ j, j < 7 * 2 ^ n → h2 164 j = nI 0) → ∃ h', f_X5_orders_51_lp zN (nI n, nI w, nI (2 ^ n - 1), nI 0, h2) = some (nI (if w = 0 then qFin w ok 0 (qVw (fun x => decide (x < e)) ok n (2 ^ n - 1)) n else n * qFin w ok 0 (qVw (fun x => decide (x < e)) ok n (2 ^ n - 1)) n), h') ∧ ∀ a, a ≠ 162 → a ≠ 164 → h' a = h a := by
    intro h2 z1 z2
    unfold f_X5_orders_51_lp
    refine q_exit (b := fun k51 v => f_X5_orders_51 k51 v.1 v.2.1 v.2.2.1 v.2.2.2.1 v.2.2.2.2) (I := fun i v => ∃ h3, v = (nI n, nI w, nI (2 ^ n - 1), nI i, h3) ∧ (∀ a, a ≠ 164 → h3 a = h1' a) ∧ ∀ t l, t < 2 ^ n → l < n → h3 164 (7 * t + l) = nI (qIni (fun x => decide (x < i)) t l)) e (Q := fun x => ∃ h', x = some (nI (if w = 0 then qFin w ok 0 (qVw (fun x => decide (x < e)) ok n (2 ^ n - 1)) n else n * qFin w ok 0 (qVw (fun x => decide (x < e)) ok n (2 ^ n - 1)) n), h') ∧ ∀ a, a ≠ 162 → a ≠ 164 → h' a = h a) (fun i v hi hI => Or.inl ?_) (fun v hI => ?_) _ ⟨h2, rfl, z1, fun t l ht hl => by rw [z2 _ (by omega)]; rfl⟩ zN (by rw [q_zN]; omega)
    · obtain ⟨h3, rfl, f1, f2⟩ := hI
      have pi : 2 ^ i < 2 ^ n := Nat.pow_lt_pow_right (by decide) (by omega)
      refine ⟨(nI n, nI w, nI (2 ^ n - 1), nI (i + 1), zst h3 164 (7 * 2 ^ i + i) (nI 1)), fun rec => ?_, _, rfl, fun a ha => by rw [q_st_c ha]; exact f1 a ha, fun t l ht hl => ?_⟩
      · have fin : zix ((((1 : Int32) <<< (nI i &&& 31)) * (7 : Int32)) + nI i) 896 (zlt (zst h3 164 ((((1 : Int32) <<< (nI i &&& 31)) * (7 : Int32)) + nI i).toNatClampNeg (1 : Int32)) fun h1 => rec (nI n, nI w, nI (2 ^ n - 1), (nI i + (1 : Int32)), h1)) = rec (nI n, nI w, nI (2 ^ n - 1), nI (i + 1), zst h3 164 (7 * 2 ^ i + i) (nI 1)) := by
          rw [l1, l31, q_shl1 (by omega), l7, pk_mul, nI_add, Nat.mul_comm _ 7, q_ix (by omega) (by omega), q_lt, q_cl (by omega), nI_add]
        simp only [f_X5_orders_51, f_X5_orders_62]
        by_cases z : w = 0
        · rw [he, if_pos z] at hi
          rw [z, q_ifT (show nI 0 = 0 from rfl), q_ifT (nI_lt hi (by omega)), ← z]; exact fin
        · rw [he, if_neg z] at hi
          rw [q_ifF (nI_ne0 (by omega) (by omega)), q_ifT (show nI i < (1 : Int32) from nI_lt (b := 1) hi (by omega))]; exact fin
      · rw [qIni_lt]
        by_cases z : t = 2 ^ i ∧ l = i
        · rw [z.1, z.2, q_st_s, decide_eq_true (show i < i + 1 by omega), decide_eq_true (show 2 ^ i = 2 ^ i from rfl)]; rfl
        · rw [q_st_i (by omega), f2 t l ht hl, qIni_lt]
          congr 2
          by_cases y : t = 2 ^ l
          · have : l ≠ i := fun q => z ⟨by rw [y, q], q⟩
            rw [show decide (l < i) = decide (l < i + 1) from by congr 1; apply propext; omega]
          · rw [decide_eq_false y, Bool.and_false, Bool.and_false]
    · obtain ⟨h3, rfl, f1, f2⟩ := hI
      have O3 : qOkX h3 ok := fun p hp => by rw [f1 162 (by omega)]; exact g3 p hp
      have C3 : qCw (h3 164) (fun x => decide (x < e)) ok n 49 := fun t l ht hl => by rw [f2 t l ht hl, qGw_0 hn]
      obtain ⟨h4, y1, y2⟩ := q_setsX h1 hn hw O3 C3
      refine ⟨_, fun rec => ?_, h4, rfl, fun a a1 a2 => by rw [y2 a a2, f1 a a2, g2 a a1]⟩
      simp only [f_X5_orders_51, f_X5_orders_62]
      by_cases z : w = 0
      · rw [he, if_pos z]
        rw [he, if_pos z] at y1
        rw [z] at y1 ⊢
        rw [q_ifT (show nI 0 = 0 from rfl), q_ifF (nI_nlt (Nat.le_refl n) (by omega))]; exact y1
      · rw [he] at y1 ⊢
        simp only [if_neg z] at y1 ⊢
        rw [q_ifF (nI_ne0 (by omega) (by omega)), q_ifF (show ¬ nI 1 < (1 : Int32) by decide)]; exact y1
  unfold f_X5_orders
  rw [l1, l31, q_shl1 (by omega), q_sub (by omega), q_lt, g1, q_bd]
  unfold f_X5_orders_13_lp
  refine q_exit (b := fun k13 v => f_X5_orders_13 k13 v.1 v.2.1 v.2.2.1 v.2.2.2.1 v.2.2.2.2) (I := fun i v => ∃ h2, v = (nI n, nI w, nI (2 ^ n - 1), nI i, h2) ∧ (∀ a, a ≠ 164 → h2 a = h1' a) ∧ ∀ j, j < i → h2 164 j = nI 0) (7 * 2 ^ n) (Q := fun x => ∃ h', x = some (nI (if w = 0 then qFin w ok 0 (qVw (fun x => decide (x < e)) ok n (2 ^ n - 1)) n else n * qFin w ok 0 (qVw (fun x => decide (x < e)) ok n (2 ^ n - 1)) n), h') ∧ ∀ a, a ≠ 162 → a ≠ 164 → h' a = h a) (fun i v hi hI => Or.inl ?_) (fun v hI => ?_) _ ⟨h1', rfl, fun _ _ => rfl, fun j hj => by omega⟩ zN (by rw [q_zN]; omega)
  · obtain ⟨h2, rfl, f1, f2⟩ := hI
    refine ⟨(nI n, nI w, nI (2 ^ n - 1), nI (i + 1), zst h2 164 i (nI 0)), fun rec => ?_, _, rfl, fun a ha => by rw [q_st_c ha]; exact f1 a ha, fun j hj => ?_⟩
    · simp only [f_X5_orders_13]
      rw [l1, nI_add, l7, pk_mul, q_ifT (nI_lt (show i < (2 ^ n - 1 + 1) * 7 by omega) (by omega)), q_nI, q_ifT (nI_lt (show i < 896 by omega) (by omega)), q_ix (by omega) (by omega), q_lt, q_cl (by omega), nI_add]; rfl
    · by_cases z : j = i
      · rw [z, q_st_s]
      · rw [q_st_i z]; exact f2 j (by omega)
  · obtain ⟨h2, rfl, f1, f2⟩ := hI
    refine ⟨f_X5_orders_51_lp zN (nI n, nI w, nI (2 ^ n - 1), nI 0, h2), fun rec => ?_, part51 h2 f1 f2⟩
    simp only [f_X5_orders_13]
    rw [l1, nI_add, l7, pk_mul, q_ifF (nI_nlt (show (2 ^ n - 1 + 1) * 7 ≤ 7 * 2 ^ n by omega) (by omega))]; rfl
-- the reference
theorem q_finM {k : zHp} {ok : Nat → Nat → Bool} {n w a : Nat} (h1 : 1 ≤ n) (hn : n ≤ 7) (hw : w < 2) (ha : a < n) (o1 : ok 0 0 = true) (O : qOkM k ok) (C : qCw (k 26) (fun y => decide (y = a)) ok n (49 * (2 ^ n - 1 + 1))) : f_X11_ordersFrom_183_lp zN (nI n, nI a, nI w, nI (2 ^ n - 1), nI 0, nI 0, k) = some (nI (qFin w ok a (qVw (fun y => decide (y = a)) ok n (2 ^ n - 1)) n), k) := by
  have h27 : 2 ^ n ≤ 2 ^ 7 := Nat.pow_le_pow_right (by decide) hn
  have hp : 0 < 2 ^ n := Nat.two_pow_pos n
  have l1 : (1 : Int32) = nI 1 := rfl
  unfold f_X11_ordersFrom_183_lp
  refine q_for (S := fun i => (nI n, nI a, nI w, nI (2 ^ n - 1), nI (qFin w ok a (qVw (fun y => decide (y = a)) ok n (2 ^ n - 1)) i), nI i, k)) n (fun i hi rec => ?_) (fun rec => ?_) zN (by rw [q_zN]; omega)
  · have eV : k 26 (7 * (2 ^ n - 1) + i) = nI (qVw (fun y => decide (y = a)) ok n (2 ^ n - 1) i) := by rw [C (2 ^ n - 1) i (by omega) hi, qGw_V hn (by omega) (by omega) (by omega)]
    have eS : qFin w ok a (qVw (fun y => decide (y = a)) ok n (2 ^ n - 1)) (i + 1) = qFin w ok a (qVw (fun y => decide (y = a)) ok n (2 ^ n - 1)) i + qIf (w == 0 || ok i a) (qVw (fun y => decide (y = a)) ok n (2 ^ n - 1) i) := rfl
    have yes : f_X11_ordersFrom_208 rec (nI n) (nI a) (nI w) (nI (2 ^ n - 1)) (nI (qFin w ok a (qVw (fun y => decide (y = a)) ok n (2 ^ n - 1)) i)) (nI i) k = rec (nI n, nI a, nI w, nI (2 ^ n - 1), nI (qFin w ok a (qVw (fun y => decide (y = a)) ok n (2 ^ n - 1)) i + qVw (fun y => decide (y = a)) ok n (2 ^ n - 1) i), nI (i + 1), k) := by
      simp only [f_X11_ordersFrom_208]
      rw [show (7 : Int32) = nI 7 from rfl, pk_mul, nI_add, q_ix (by omega) (by omega), q_lt, q_cl (by omega), eV, nI_add, l1, nI_add]
    rw [eS]
    simp only [f_X11_ordersFrom_183]
    rw [q_ifT (nI_lt hi (by omega))]
    rcases (show w = 0 ∨ w = 1 by omega) with rfl | rfl
    · rw [q_ifT (show nI 0 = 0 from rfl), yes]; rfl
    · rw [q_ifF (show ¬ nI 1 = 0 by decide)]
      by_cases z : n = 1
      · have i0 : i = 0 := by omega
        have a0 : a = 0 := by omega
        rw [q_ifT (show nI n = 1 by rw [z]; rfl), yes, i0, a0, o1]; rfl
      · rw [q_ifF (show ¬ nI n = 1 from fun q => z ((nI_eq (a := n) (b := 1) (by omega) (by omega)).mp q)), O i a (by omega) (by omega)]
        cases hb : ok i a with
        | true =>
          rw [if_pos rfl, q_bd]
          dsimp only
          rw [q_ifF (by decide), yes]; rfl
        | false =>
          rw [if_neg (by decide), q_bd]
          dsimp only
          rw [q_ifT (show nI 0 = 0 from rfl), l1, nI_add]; rfl
  · simp only [f_X11_ordersFrom_183]
    rw [q_ifF (nI_nlt (Nat.le_refl n) (by omega))]
theorem q_setsM {k : zHp} {ok : Nat → Nat → Bool} {n w a : Nat} (h1 : 1 ≤ n) (hn : n ≤ 7) (hw : w < 2) (ha : a < n) (o1 : ok 0 0 = true) (O : ∀ k', (∀ x, x ≠ 26 → k' x = k x) → qOkM k' ok) (C : qCw (k 26) (fun y => decide (y = a)) ok n 49) : ∃ k', f_X11_ordersFrom_50_lp zN (nI n, nI a, nI w, nI (2 ^ n - 1), nI 1, k) = some (nI (qFin w ok a (qVw (fun y => decide (y = a)) ok n (2 ^ n - 1)) n), k') ∧ ∀ x, x ≠ 26 → k' x = k x := by
  have h27 : 2 ^ n ≤ 2 ^ 7 := Nat.pow_le_pow_right (by decide) hn
  have hp : 2 ≤ 2 ^ n := Nat.le_trans (show 2 ≤ 2 ^ 1 by decide) (Nat.pow_le_pow_right (by decide) h1)
  have l1 : (1 : Int32) = nI 1 := rfl
  unfold f_X11_ordersFrom_50_lp
  refine q_exit (b := fun k50 v => f_X11_ordersFrom_50 k50 v.1 v.2.1 v.2.2.1 v.2.2.2.1 v.2.2.2.2.1 v.2.2.2.2.2) (I := fun i v => ∃ k', v = (nI n, nI a, nI w, nI (2 ^ n - 1), nI (i + 1), k') ∧ (∀ x, x ≠ 26 → k' x = k x) ∧ qCw (k' 26) (fun y => decide (y = a)) ok n (49 * (i + 1))) (2 ^ n - 1) (Q := fun x => ∃ k', x = some (nI (qFin w ok a (qVw (fun y => decide (y = a)) ok n (2 ^ n - 1)) n), k') ∧ ∀ x, x ≠ 26 → k' x = k x) (fun i v hi hI => Or.inl ?_) (fun v hI => ?_) _ ⟨k, rfl, fun _ _ => rfl, C⟩ zN (by rw [q_zN]; omega)
  · obtain ⟨k', rfl, e1, e2⟩ := hI
    obtain ⟨v', ⟨k2, f1, f2, f3⟩, g⟩ := q_invk (K := Int32 × Int32 × Int32 × Int32 × Int32 × zHp → Option (Int32 × zHp)) (b := fun k50 k60 v => f_X11_ordersFrom_60 k50 k60 v.1 v.2.1 v.2.2.1 v.2.2.2.1 v.2.2.2.2.1 v.2.2.2.2.2.1 v.2.2.2.2.2.2) (I := fun p v => ∃ k2, v = (nI n, nI a, nI w, nI (2 ^ n - 1), nI (i + 1), nI p, k2) ∧ (∀ x, x ≠ 26 → k2 x = k x) ∧ qCw (k2 26) (fun y => decide (y = a)) ok n (49 * (i + 1) + 7 * p)) n (fun p v hp hI => by
      obtain ⟨k2, rfl, f2, f3⟩ := hI
      have vb := qVw_le (c := fun y => decide (y = a)) (ok := ok) hn (i + 1) p
      have eV : k2 26 (7 * (i + 1) + p) = nI (qVw (fun y => decide (y = a)) ok n (i + 1) p) := by rw [f3 (i + 1) p (by omega) hp, qGw_V hn (by omega) (by omega) (by omega)]
      rcases Nat.eq_zero_or_pos (qVw (fun y => decide (y = a)) ok n (i + 1) p) with z | z
      · refine ⟨_, fun κ rec => ?_, k2, rfl, f2, fun t l ht hl => ?_⟩
        · simp only [f_X11_ordersFrom_60]
          rw [q_ifT (nI_lt hp (by omega)), show (7 : Int32) = nI 7 from rfl, pk_mul, nI_add, q_ix (by omega) (by omega), q_lt, q_cl (by omega), eV, z, q_ifT (show nI 0 = 0 from rfl), l1, nI_add]
        · rw [f3 t l ht hl, qGw_same (fun q hq => ?_)]
          by_cases y : t ^^^ 2 ^ l = i + 1 ∧ q = p
          · exact Or.inr (Or.inr (by rw [y.1, y.2]; exact z))
          · exact Or.inl (by omega)
      · obtain ⟨v3, ⟨k3, g1, g2, g3⟩, g4⟩ := q_invk (K := (Int32 × Int32 × Int32 × Int32 × Int32 × zHp → Option (Int32 × zHp)) × (Int32 × Int32 × Int32 × Int32 × Int32 × Int32 × zHp → Option (Int32 × zHp))) (b := fun κ k92 v => f_X11_ordersFrom_92 κ.1 κ.2 k92 v.1 v.2.1 v.2.2.1 v.2.2.2.1 v.2.2.2.2.1 v.2.2.2.2.2.1 v.2.2.2.2.2.2.1 v.2.2.2.2.2.2.2.1 v.2.2.2.2.2.2.2.2) (I := fun q v => ∃ k3, v = (nI n, nI a, nI w, nI (2 ^ n - 1), nI (i + 1), nI p, nI (qVw (fun y => decide (y = a)) ok n (i + 1) p), nI q, k3) ∧ (∀ x, x ≠ 26 → k3 x = k x) ∧ qCw (k3 26) (fun y => decide (y = a)) ok n (49 * (i + 1) + 7 * p + q)) n (fun q v hq hI => by
          obtain ⟨k3, rfl, g2, g3⟩ := hI
          obtain ⟨k4, y1, y2, y3⟩ := q_seatM1 (nI a) (nI w) (nI (2 ^ n - 1)) hn (show i + 1 < 2 ^ n by omega) hp hq (O k3 g2) g3
          exact ⟨_, fun κ rec => y1 κ.1 κ.2 rec, k4, rfl, fun x hx => (y2 x hx).trans (g2 x hx), y3⟩) (nI n, nI a, nI w, nI (2 ^ n - 1), nI (i + 1), nI p, nI (qVw (fun y => decide (y = a)) ok n (i + 1) p), nI 0, k2) ⟨k2, rfl, f2, f3⟩ zN (by rw [q_zN]; omega)
        refine ⟨(nI n, nI a, nI w, nI (2 ^ n - 1), nI (i + 1), nI (p + 1), k3), fun κ rec => ?_, k3, rfl, g2, qCw_eq g3 (fun x q l hq hl => by omega)⟩
        simp only [f_X11_ordersFrom_60]
        rw [q_ifT (nI_lt hp (by omega)), show (7 : Int32) = nI 7 from rfl, pk_mul, nI_add, q_ix (by omega) (by omega), q_lt, q_cl (by omega), eV, q_ifF (nI_ne0 z (by omega))]
        refine (show f_X11_ordersFrom_92_lp κ rec zN (nI n, nI a, nI w, nI (2 ^ n - 1), nI (i + 1), nI p, nI (qVw (fun y => decide (y = a)) ok n (i + 1) p), nI 0, k2) = _ from ?_)
        unfold f_X11_ordersFrom_92_lp
        rw [g4 (κ, rec), g1]
        refine q_lp1 (by rw [q_zN]; omega) (fun rec9 => ?_)
        simp only [f_X11_ordersFrom_92]
        rw [q_ifF (nI_nlt (Nat.le_refl n) (by omega)), l1, nI_add]) (nI n, nI a, nI w, nI (2 ^ n - 1), nI (i + 1), nI 0, k') ⟨k', rfl, e1, e2⟩ zN (by rw [q_zN]; omega)
    refine ⟨(nI n, nI a, nI w, nI (2 ^ n - 1), nI (i + 1 + 1), k2), fun rec => ?_, k2, rfl, f2, qCw_eq f3 (fun x p l hp hl => by omega)⟩
    simp only [f_X11_ordersFrom_50]
    rw [q_ifF (nI_nlt (by omega) (by omega))]
    refine (show f_X11_ordersFrom_60_lp rec zN (nI n, nI a, nI w, nI (2 ^ n - 1), nI (i + 1), nI 0, k') = _ from ?_)
    unfold f_X11_ordersFrom_60_lp
    rw [g rec, f1]
    refine q_lp1 (by rw [q_zN]; omega) (fun rec9 => ?_)
    simp only [f_X11_ordersFrom_60]
    rw [q_ifF (nI_nlt (Nat.le_refl n) (by omega)), l1, nI_add]
  · obtain ⟨k', rfl, e1, e2⟩ := hI
    refine ⟨_, fun rec => ?_, k', rfl, e1⟩
    simp only [f_X11_ordersFrom_50]
    rw [q_ifT (nI_lt (by omega) (by omega))]
    exact q_finM h1 hn hw ha o1 (O k' e1) e2
theorem q_sordM {k : zHp} {ok : Nat → Nat → Bool} {n w a : Nat} (h1 : 1 ≤ n) (hn : n ≤ 7) (hw : w < 2) (ha : a < n) (o1 : ok 0 0 = true) (O : ∀ k', (∀ x, x ≠ 26 → k' x = k x) → qOkM k' ok) : ∃ k', f_X11_ordersFrom (nI n) (nI a) (nI w) k = some (nI (qFin w ok a (qVw (fun y => decide (y = a)) ok n (2 ^ n - 1)) n), k') ∧ ∀ x, x ≠ 26 → k' x = k x := by
  have h27 : 2 ^ n ≤ 2 ^ 7 := Nat.pow_le_pow_right (by decide) hn
  have pa : 2 ^ a < 2 ^ n := Nat.pow_lt_pow_right (by decide) ha
  have hp : 0 < 2 ^ n := Nat.two_pow_pos n
  have l1 : (1 : Int32) = nI 1 := rfl
  have l31 : (31 : Int32) = nI 31 := rfl
  have l7 : (7 : Int32) = nI 7 := rfl
  unfold f_X11_ordersFrom f_X11_ordersFrom_3_lp
  refine q_exit (b := fun k3 v => f_X11_ordersFrom_3 k3 v.1 v.2.1 v.2.2.1 v.2.2.2.1 v.2.2.2.2) (I := fun i v => ∃ k2, v = (nI n, nI a, nI w, nI i, k2) ∧ (∀ x, x ≠ 26 → k2 x = k x) ∧ ∀ j, j < i → k2 26 j = nI 0) (7 * 2 ^ n) (Q := fun x => ∃ k', x = some (nI (qFin w ok a (qVw (fun y => decide (y = a)) ok n (2 ^ n - 1)) n), k') ∧ ∀ x, x ≠ 26 → k' x = k x) (fun i v hi hI => Or.inl ?_) (fun v hI => ?_) _ ⟨k, rfl, fun _ _ => rfl, fun j hj => by omega⟩ zN (by rw [q_zN]; omega)
  · obtain ⟨k2, rfl, f1, f2⟩ := hI
    refine ⟨(nI n, nI a, nI w, nI (i + 1), zst k2 26 i (nI 0)), fun rec => ?_, _, rfl, fun x hx => by rw [q_st_c hx]; exact f1 x hx, fun j hj => ?_⟩
    · simp only [f_X11_ordersFrom_3]
      rw [l7, l31, q_shl (by omega) (by omega), q_ifT (nI_lt hi (by omega)), q_ix (by omega) (by omega), q_lt, q_cl (by omega), l1, nI_add]; rfl
    · by_cases z : j = i
      · rw [z, q_st_s]
      · rw [q_st_i z]; exact f2 j (by omega)
  · obtain ⟨k2, rfl, f1, f2⟩ := hI
    have C : qCw (zst k2 26 (7 * 2 ^ a + a) (nI 1) 26) (fun y => decide (y = a)) ok n 49 := fun t l ht hl => by
      rw [qGw_0 hn, qIni_eq]
      by_cases z : t = 2 ^ a ∧ l = a
      · rw [z.1, z.2, q_st_s, decide_eq_true (show a = a from rfl), decide_eq_true (show 2 ^ a = 2 ^ a from rfl)]; rfl
      · rw [q_st_i (by omega), f2 _ (by omega)]
        rw [qIf_f]
        by_cases y : l = a
        · rw [decide_eq_false (show ¬ t = 2 ^ l from fun q => z ⟨by rw [q, y], y⟩), Bool.and_false]
        · rw [decide_eq_false y, Bool.false_and]
    have f1' : ∀ x, x ≠ 26 → zst k2 26 (7 * 2 ^ a + a) (nI 1) x = k x := fun x hx => by rw [q_st_c hx]; exact f1 x hx
    obtain ⟨k', y1, y2⟩ := q_setsM h1 hn hw ha o1 (fun k' hk' => O k' (fun x hx => (hk' x hx).trans (f1' x hx))) C
    refine ⟨_, fun rec => ?_, k', rfl, fun x hx => (y2 x hx).trans (f1' x hx)⟩
    simp only [f_X11_ordersFrom_3]
    rw [l7, l31, q_shl (by omega) (by omega), q_ifF (nI_nlt (Nat.le_refl _) (by omega)), l1, q_shl1 (by omega), q_shl1 (by omega), pk_mul, nI_add, q_ix (by omega) (by omega), q_lt, q_cl (by omega), q_sub (by omega), q_lt]
    exact y1
theorem q_ask_seated {h k : zHp} (R : qRel h k) (n w : Int32) : qAsk h k (f_X10_seated n w h) (f_X11_seated n w k) := by
  obtain ⟨⟨C, P, -, -, -, -, -, -, -, -, w2, -⟩, -⟩ := R
  obtain ⟨m, m1, m2, m3, m4⟩ := w2
  obtain ⟨A, B, hAB⟩ := q_ch2 (n := m) (p := fun i a b => a < 7 ∧ b < 7 ∧ a ≠ b ∧ h 30 i = nI (a * 32 + b) ∧ k 24 i = nI a ∧ k 25 i = nI b) (fun i hi => m4 i hi)
  obtain ⟨k0, hk0⟩ : ∃ k0, k0 = zst k 0 0 0 := ⟨_, rfl⟩
  have f0 : qMs k k0 := by rw [hk0]; exact qMs_s0 k
  have no : ∀ x y, x = some ((-1 : Int32), h) → y = some ((-1 : Int32), k0) → qAsk h k x y := fun x y hx hy => ⟨-1, h, k0, hx, hy, qXs_rf h, f0⟩
  have O : ∀ k', (∀ x, x ≠ 26 → k' x = k0 x) → qOkM k' (qOks A B m) := fun k' hk' => qOkM_c (A := A) (B := B) m1 (by rw [hk' 0 (by omega), hk0, q_st_i (by omega)]; exact m3) (fun i hi => by
    obtain ⟨a1, a2, a3, a4, a5, a6⟩ := hAB i hi
    rw [hk' 24 (by omega), hk' 25 (by omega), hk0, q_st_c (by omega), q_st_c (by omega)]
    exact ⟨a1, a2, a5, a6⟩) (fun p q _ _ => qOks_f)
  have o1 : qOks A B m 0 0 = true := by
    cases hb : qOks A B m 0 0 with
    | true => rfl
    | false =>
      obtain ⟨i, i1, i2⟩ := qOks_f.mp hb
      have := (hAB i i1).2.2.1
      omega
  unfold f_X10_seated f_X11_seated
  rw [q_lt, ← hk0, show (1 : Int32) = nI 1 from rfl, show (7 : Int32) = nI 7 from rfl, show (0 : Int32) = nI 0 from rfl]
  rcases q_rng 1 7 n (by omega) with o | ⟨n, n1, n2, rfl⟩
  · refine no _ _ (q_out2 o) ?_
    rw [q_inO o, q_bd]; exact if_pos rfl
  rw [q_ifF (nI_nlt n1 (by omega)), q_ifF (nI_nlt n2 (by omega)), q_inI n1 n2 (by omega), q_bd]
  dsimp only
  rw [q_ifF (by decide)]
  rcases q_rng 0 1 w (by omega) with o | ⟨w, -, w2, rfl⟩
  · refine no _ _ ?_ ?_
    · rw [q_wiO o, q_bd]; exact if_pos rfl
    · rw [q_inO o, q_bd]; exact if_pos rfl
  rw [q_wiI w2 (by omega), q_bd, q_inI (Nat.zero_le w) w2 (by omega), q_bd]
  dsimp only
  rw [q_ifF (show ¬ nI 1 = nI 0 by decide), q_ifF (show ¬ nI 1 = nI 0 by decide)]
  obtain ⟨h', x1, x2⟩ := q_sordX (h := h) (w := w) n1 n2 (by omega) m1 m2 (fun i hi => by
    obtain ⟨a1, a2, a3, a4, a5, a6⟩ := hAB i hi
    exact ⟨a1, a2, a3, a4⟩)
  obtain ⟨ok, hok⟩ : ∃ ok, ok = qOks A B m := ⟨_, rfl⟩
  rw [← hok] at x1 O o1
  have loop : ∃ k', f_X11_seated_33_lp zN (nI n, nI w, nI 0, nI 0, k0) = some (nI (fb_sm (fun a => qFin w ok a (qVw (fun y => decide (y = a)) ok n (2 ^ n - 1)) n) n), k') ∧ ∀ x, x ≠ 26 → k' x = k0 x := by
    unfold f_X11_seated_33_lp
    refine q_exit (b := fun k33 v => f_X11_seated_33 k33 v.1 v.2.1 v.2.2.1 v.2.2.2.1 v.2.2.2.2) (I := fun i v => ∃ k2, v = (nI n, nI w, nI (fb_sm (fun a => qFin w ok a (qVw (fun y => decide (y = a)) ok n (2 ^ n - 1)) n) i), nI i, k2) ∧ ∀ x, x ≠ 26 → k2 x = k0 x) n (Q := fun x => ∃ k', x = some (nI (fb_sm (fun a => qFin w ok a (qVw (fun y => decide (y = a)) ok n (2 ^ n - 1)) n) n), k') ∧ ∀ x, x ≠ 26 → k' x = k0 x) (fun i v hi hI => Or.inl ?_) (fun v hI => ?_) _ ⟨k0, rfl, fun _ _ => rfl⟩ zN (by rw [q_zN]; omega)
    · obtain ⟨k2, rfl, f1⟩ := hI
      obtain ⟨k3, y1, y2⟩ := q_sordM (k := k2) (w := w) n1 n2 (by omega) hi o1 (fun k' hk' => O k' (fun x hx => (hk' x hx).trans (f1 x hx)))
      refine ⟨(nI n, nI w, nI (fb_sm (fun a => qFin w ok a (qVw (fun y => decide (y = a)) ok n (2 ^ n - 1)) n) (i + 1)), nI (i + 1), k3), fun rec => ?_, k3, rfl, fun x hx => (y2 x hx).trans (f1 x hx)⟩
      simp only [f_X11_seated_33, f_X11_seated_54]
      rw [q_ifT (nI_lt hi (by omega))]
      rcases (show w = 0 ∨ w = 1 by omega) with rfl | rfl
      · have y1' : f_X11_ordersFrom (nI n) (nI i) 0 k2 = _ := y1
        rw [q_ifF (show ¬ nI 0 = (1 : Int32) by decide), y1', q_bd, q_lt]
        dsimp only
        rw [nI_add, show (1 : Int32) = nI 1 from rfl, nI_add, fb_sm_succ]
      · have y1' : f_X11_ordersFrom (nI n) (nI i) 1 k2 = _ := y1
        rw [q_ifT (show nI 1 = (1 : Int32) from rfl), y1', q_bd, q_lt]
        dsimp only
        rw [nI_add, show (1 : Int32) = nI 1 from rfl, nI_add, fb_sm_succ]
    · obtain ⟨k2, rfl, f1⟩ := hI
      refine ⟨_, fun rec => ?_, k2, rfl, f1⟩
      simp only [f_X11_seated_33]
      exact if_neg (nI_nlt (Nat.le_refl n) (by omega))
  obtain ⟨k', y1, y2⟩ := loop
  have fr : qXs h h' := ⟨fun a ha => x2 a (fun q => by rw [q] at ha; exact absurd ha (by decide)) (fun q => by rw [q] at ha; exact absurd ha (by decide)), by rw [x2 136 (by omega) (by omega)]⟩
  have fk : qMs k k' := qMs_tr f0 (fun x i hx => by
    rw [y2 x (fun q => by
      rw [q] at hx
      revert hx
      unfold qPers qPos
      simp)])
  have hp : 0 < 2 ^ n := Nat.two_pow_pos n
  rcases (show w = 0 ∨ w = 1 by omega) with rfl | rfl
  · rw [if_pos rfl] at x1
    have e : fb_sm (fun a => qFin 0 ok a (qVw (fun y => decide (y = a)) ok n (2 ^ n - 1)) n) n = qFin 0 ok 0 (qVw (fun x => decide (x < n)) ok n (2 ^ n - 1)) n := by
      unfold qFin
      rw [← q_smSwap]
      exact fb_sm_cong (fun x hx => by
        show fb_sm (fun a => qVw (fun y => decide (y = a)) ok n (2 ^ n - 1) x) n = qVw (fun x => decide (x < n)) ok n (2 ^ n - 1) x
        exact (qNw_sum 7 (2 ^ n - 1) x hx).symm)
    rw [e] at y1
    refine ⟨_, h', k', ?_, y1, fr, fk⟩
    rw [if_neg (show ¬ nI 0 = nI 1 by decide), x1]; rfl
  · rw [if_neg (by decide)] at x1
    have c0 : (fun x => decide (x < 1)) = (fun y : Nat => decide (y = 0)) := funext fun x => by
      congr 1
      apply propext
      omega
    have e : fb_sm (fun a => qFin 1 ok a (qVw (fun y => decide (y = a)) ok n (2 ^ n - 1)) n) n = n * qFin 1 ok 0 (qVw (fun x => decide (x < 1)) ok n (2 ^ n - 1)) n := by
      rw [c0, ← fb_sm_const]
      exact fb_sm_cong (fun a ha => q_cyc (ok := ok) n2 ha (show 0 < n by omega))
    rw [e] at y1
    refine ⟨_, h', k', ?_, y1, fr, fk⟩
    rw [if_pos (show nI 1 = nI 1 from rfl)]
    have x1' : f_X5_orders (nI n) (nI 1) h = _ := x1
    rw [x1']; rfl
end Qseat3
