section Qseat2
-- the steps by which both put ways in
def qGw (c : Nat → Bool) (ok : Nat → Nat → Bool) (n τ t l : Nat) : Nat := qIni c t l + qIf (t.testBit l) (fb_sm (fun p => qIf (ok p l && decide (49 * (t ^^^ 2 ^ l) + 7 * p + l < τ)) (qVw c ok n (t ^^^ 2 ^ l) p)) n)
theorem qGw_0 {c : Nat → Bool} {ok : Nat → Nat → Bool} {n t l : Nat} (hn : n ≤ 7) : qGw c ok n 49 t l = qIni c t l := by
  unfold qGw
  rw [q_smNil n (fun p hp => ?_), qIf_0, Nat.add_zero]
  by_cases z : t ^^^ 2 ^ l = 0
  · rw [z, qVw_no hn (by decide) (by omega) (Nat.zero_testBit p), qIf_0]
  · exact qIf_f (by rw [decide_eq_false (by omega), Bool.and_false])
theorem qGw_V {c : Nat → Bool} {ok : Nat → Nat → Bool} {n t l τ : Nat} (hn : n ≤ 7) (ht : t < 2 ^ 7) (hl : l < 7) (hτ : 49 * t ≤ τ) : qGw c ok n τ t l = qVw c ok n t l := by
  rw [qVw_eq hn ht hl]
  unfold qGw
  cases hb : t.testBit l with
  | false => rw [qIf_f rfl, qIf_f rfl]
  | true =>
    have := q_xlt hb
    congr 2
    exact fb_sm_cong (fun p hp => by rw [decide_eq_true (by omega), Bool.and_true])
theorem qGw_same {c : Nat → Bool} {ok : Nat → Nat → Bool} {n t l τ τ' : Nat} (h : ∀ p, p < n → (49 * (t ^^^ 2 ^ l) + 7 * p + l < τ ↔ 49 * (t ^^^ 2 ^ l) + 7 * p + l < τ') ∨ ok p l = false ∨ qVw c ok n (t ^^^ 2 ^ l) p = 0) : qGw c ok n τ t l = qGw c ok n τ' t l := by
  unfold qGw
  congr 2
  refine fb_sm_cong (fun p hp => ?_)
  rcases h p hp with z | z | z
  · rw [show decide (49 * (t ^^^ 2 ^ l) + 7 * p + l < τ) = decide (49 * (t ^^^ 2 ^ l) + 7 * p + l < τ') from by congr 1; exact propext z]
  · rw [z, Bool.false_and, Bool.false_and]
  · rw [z, qIf_0, qIf_0]
theorem q_orx {s i : Nat} (h : s.testBit i = false) : (s ||| 2 ^ i) ^^^ 2 ^ i = s ∧ (s ||| 2 ^ i).testBit i = true := by
  refine ⟨?_, ?_⟩
  · apply Nat.eq_of_testBit_eq
    intro j
    rw [fb_bit_flip, fb_bit_set]
    by_cases z : j = i
    · rw [z, h, decide_eq_true rfl]; rfl
    · rw [decide_eq_false z, Bool.or_false, Bool.xor_false]
  · rw [fb_bit_set, decide_eq_true rfl, Bool.or_true]
theorem q_xor_or {s i t : Nat} (h : t ^^^ 2 ^ i = s) (ht : t.testBit i = true) : t = s ||| 2 ^ i := by
  apply Nat.eq_of_testBit_eq
  intro j
  rw [fb_bit_set, ← h, fb_bit_flip]
  by_cases z : j = i
  · rw [z, ht, decide_eq_true rfl]; rfl
  · rw [decide_eq_false z, Bool.or_false, Bool.xor_false]
theorem qGw_hit {c : Nat → Bool} {ok : Nat → Nat → Bool} {n s p i : Nat} (hn : n ≤ 7) (hp : p < n) (hi : i < n) (hs : s.testBit i = false) (ho : ok p i = true) : qGw c ok n (49 * s + 7 * p + i + 1) (s ||| 2 ^ i) i = qGw c ok n (49 * s + 7 * p + i) (s ||| 2 ^ i) i + qVw c ok n s p := by
  obtain ⟨e1, e2⟩ := q_orx hs
  unfold qGw
  rw [e1, e2, qIf_t rfl, qIf_t rfl]
  have key := q_smUp (f := fun x => qIf (ok x i && decide (49 * s + 7 * x + i < 49 * s + 7 * p + i)) (qVw c ok n s x)) (g := fun x => qIf (ok x i && decide (49 * s + 7 * x + i < 49 * s + 7 * p + i + 1)) (qVw c ok n s x)) (a := p) (v := qVw c ok n s p) n hp (fun k hk hne => by
    show qIf (ok k i && decide (49 * s + 7 * k + i < 49 * s + 7 * p + i + 1)) (qVw c ok n s k) = qIf (ok k i && decide (49 * s + 7 * k + i < 49 * s + 7 * p + i)) (qVw c ok n s k)
    rw [show decide (49 * s + 7 * k + i < 49 * s + 7 * p + i + 1) = decide (49 * s + 7 * k + i < 49 * s + 7 * p + i) from by congr 1; apply propext; omega]) (by
    show qIf (ok p i && decide (49 * s + 7 * p + i < 49 * s + 7 * p + i + 1)) (qVw c ok n s p) = qIf (ok p i && decide (49 * s + 7 * p + i < 49 * s + 7 * p + i)) (qVw c ok n s p) + qVw c ok n s p
    rw [ho, decide_eq_true (show 49 * s + 7 * p + i < 49 * s + 7 * p + i + 1 by omega), decide_eq_false (show ¬ 49 * s + 7 * p + i < 49 * s + 7 * p + i by omega), Bool.and_true, Bool.and_false, qIf_t rfl, qIf_f rfl, Nat.zero_add])
  rw [key]
  omega
theorem qGw_miss {c : Nat → Bool} {ok : Nat → Nat → Bool} {n s p i t l : Nat} (hn : n ≤ 7) (hp : p < n) (hi : i < n) (hl : l < n) (h : t ≠ s ||| 2 ^ i ∨ l ≠ i ∨ s.testBit i = true ∨ ok p i = false) : qGw c ok n (49 * s + 7 * p + i + 1) t l = qGw c ok n (49 * s + 7 * p + i) t l := by
  cases hb : t.testBit l with
  | false => unfold qGw; rw [hb, qIf_f rfl, qIf_f rfl]
  | true =>
    refine qGw_same (fun q hq => ?_)
    by_cases z : 49 * (t ^^^ 2 ^ l) + 7 * q + l = 49 * s + 7 * p + i
    · have e1 : l = i := by omega
      have e2 : q = p := by omega
      have e3 : t ^^^ 2 ^ l = s := by omega
      subst e1 e2
      rcases h with h | h | h | h
      · exact absurd (q_xor_or e3 hb) h
      · exact absurd rfl h
      · rw [← e3, fb_bit_flip, hb, decide_eq_true rfl] at h; cases h
      · exact Or.inr (Or.inl h)
    · exact Or.inl (by omega)
/-- the cells hold what is put in so far -/
def qCw (f : Nat → Int32) (c : Nat → Bool) (ok : Nat → Nat → Bool) (n τ : Nat) : Prop := ∀ t l, t < 2 ^ n → l < n → f (7 * t + l) = nI (qGw c ok n τ t l)
theorem qCw_eq {f : Nat → Int32} {c : Nat → Bool} {ok : Nat → Nat → Bool} {n τ τ' : Nat} (C : qCw f c ok n τ) (h : ∀ x p l, p < n → l < n → (49 * x + 7 * p + l < τ ↔ 49 * x + 7 * p + l < τ')) : qCw f c ok n τ' := fun t l ht hl => by
  rw [C t l ht hl, qGw_same (fun p hp => Or.inl (h _ p l hp hl))]
/-- who sits beside whom, of the class's sets -/
def qOkX (h : zHp) (ok : Nat → Nat → Bool) : Prop := ∀ p, p < 7 → ∃ F, F < 2 ^ 7 ∧ h 162 p = nI F ∧ ∀ q, q < 7 → F.testBit q = !ok p q
def qOkM (k : zHp) (ok : Nat → Nat → Bool) : Prop := ∀ p q, p < 7 → q < 7 → f_X11_canSitBy (nI p) (nI q) k = some (nI (if ok p q then 1 else 0), k)
theorem q_orlt {s i n : Nat} (hs : s < 2 ^ n) (hi : i < n) : s ||| 2 ^ i < 2 ^ n := Nat.or_lt_two_pow hs (Nat.pow_lt_pow_right (by decide) hi)
/-- one turn of the innermost loop, class -/
theorem q_seatX1 {h : zHp} {c : Nat → Bool} {ok : Nat → Nat → Bool} {n s p i : Nat} (hn : n ≤ 7) (hs : s < 2 ^ n) (hp : p < n) (hi : i < n) (O : qOkX h ok) (C : qCw (h 164) c ok n (49 * s + 7 * p + i)) (hv : 0 < qVw c ok n s p) : ∃ h', (∀ rec : Int32 × Int32 × Int32 × Int32 × Int32 × zHp → Option zHp, f_X5_seatNext_16 rec (nI s) (nI p) (nI n) (nI (qVw c ok n s p)) (nI i) h = rec (nI s, nI p, nI n, nI (qVw c ok n s p), nI (i + 1), h')) ∧ (∀ a, a ≠ 164 → h' a = h a) ∧ qCw (h' 164) c ok n (49 * s + 7 * p + (i + 1)) := by
  have h27 : 2 ^ n ≤ 2 ^ 7 := Nat.pow_le_pow_right (by decide) hn
  have vb := qVw_le (c := c) (ok := ok) hn s p
  have l31 : (31 : Int32) = nI 31 := rfl
  have l1 : (1 : Int32) = nI 1 := rfl
  obtain ⟨F, F1, F2, F3⟩ := O p (by omega)
  have mk : ∀ t l, t < 2 ^ n → l < n → (t ≠ s ||| 2 ^ i ∨ l ≠ i ∨ s.testBit i = true ∨ ok p i = false) → h 164 (7 * t + l) = nI (qGw c ok n (49 * s + 7 * p + (i + 1)) t l) := fun t l ht hl q => by
    rw [C t l ht hl, ← Nat.add_assoc, qGw_miss hn hp hi hl q]
  cases hb : s.testBit i with
  | true =>
    refine ⟨h, fun rec => ?_, fun _ _ => rfl, fun t l ht hl => mk t l ht hl (Or.inr (Or.inr (Or.inl hb)))⟩
    have nb : ¬ nI s &&& nI (2 ^ i) = 0 := fun q => by
      have := (fa_bit (n := s) (j := i) (by omega)).mp q
      rw [hb] at this; cases this
    simp only [f_X5_seatNext_16]
    rw [q_ifT (nI_lt hi (by omega)), q_ifT (qlL 0 hv (by omega)), l31, l1, q_shl1 (by omega), q_ifF nb, nI_add]
  | false =>
    have yb : nI s &&& nI (2 ^ i) = 0 := (fa_bit (by omega)).mpr hb
    cases ho : ok p i with
    | false =>
      refine ⟨h, fun rec => ?_, fun _ _ => rfl, fun t l ht hl => mk t l ht hl (Or.inr (Or.inr (Or.inr ho)))⟩
      have nb : ¬ nI F &&& nI (2 ^ i) = 0 := fun q => by
        have := (fa_bit (n := F) (j := i) (by omega)).mp q
        rw [F3 i (by omega), ho] at this; cases this
      simp only [f_X5_seatNext_16]
      rw [q_ifT (nI_lt hi (by omega)), q_ifT (qlL 0 hv (by omega)), l31, l1, q_shl1 (by omega), q_ifT yb, q_ix (by omega) (by omega), q_cl (by omega), F2, q_ifF nb, nI_add]
    | true =>
      have ol := q_orlt hs hi
      have y2 : nI F &&& nI (2 ^ i) = 0 := (fa_bit (by omega)).mpr (by rw [F3 i (by omega), ho]; rfl)
      refine ⟨zst h 164 (7 * (s ||| 2 ^ i) + i) (nI (qGw c ok n (49 * s + 7 * p + i + 1) (s ||| 2 ^ i) i)), fun rec => ?_, fun a ha => q_st_c ha, fun t l ht hl => ?_⟩
      · simp only [f_X5_seatNext_16]
        rw [q_ifT (nI_lt hi (by omega)), q_ifT (qlL 0 hv (by omega)), l31, l1, q_shl1 (by omega), q_ifT yb, q_ix (by omega) (by omega), q_cl (show p < 2147483648 by omega), F2, q_ifT y2, fa_or, show (7 : Int32) = nI 7 from rfl, pk_mul, nI_add, Nat.mul_comm (s ||| 2 ^ i) 7, q_ix (by omega) (by omega), q_ix (by omega) (by omega), q_lt, q_cl (by omega), C _ _ ol hi, nI_add, nI_add, qGw_hit hn hp hi hb ho]
      · by_cases z : t = s ||| 2 ^ i ∧ l = i
        · rw [z.1, z.2, q_st_s, Nat.add_assoc]
        · rw [q_st_i (by omega)]
          refine mk t l ht hl ?_
          by_cases y : t = s ||| 2 ^ i
          · exact Or.inr (Or.inl (fun e => z ⟨y, e⟩))
          · exact Or.inl y
/-- one set and one who sits last, class -/
theorem q_seatX2 {h : zHp} {c : Nat → Bool} {ok : Nat → Nat → Bool} {n s p : Nat} (hn : n ≤ 7) (hs : s < 2 ^ n) (hp : p < n) (O : qOkX h ok) (C : qCw (h 164) c ok n (49 * s + 7 * p)) : ∃ h', f_X5_seatNext (nI s) (nI p) (nI n) h = some h' ∧ (∀ a, a ≠ 164 → h' a = h a) ∧ qCw (h' 164) c ok n (49 * s + 7 * (p + 1)) := by
  have h27 : 2 ^ n ≤ 2 ^ 7 := Nat.pow_le_pow_right (by decide) hn
  have vb := qVw_le (c := c) (ok := ok) hn s p
  have eV : h 164 (7 * s + p) = nI (qVw c ok n s p) := by rw [C s p hs hp, qGw_V hn (by omega) (by omega) (by omega)]
  unfold f_X5_seatNext
  rw [show (7 : Int32) = nI 7 from rfl, pk_mul, nI_add, Nat.mul_comm s 7, q_ix (by omega) (by omega), q_lt, q_cl (by omega), eV]
  rcases Nat.eq_zero_or_pos (qVw c ok n s p) with z | z
  · refine ⟨h, ?_, fun _ _ => rfl, fun t l ht hl => ?_⟩
    · unfold f_X5_seatNext_16_lp
      refine q_lp1 (by rw [q_zN]; omega) (fun rec9 => ?_)
      simp only [f_X5_seatNext_16]
      rw [q_ifT (show (0 : Int32) < nI n from nI_lt (a := 0) (by omega) (by omega)), z, q_ifF (by decide)]
    · rw [C t l ht hl, qGw_same (fun q hq => ?_)]
      by_cases y : t ^^^ 2 ^ l = s ∧ q = p
      · exact Or.inr (Or.inr (by rw [y.1, y.2]; exact z))
      · exact Or.inl (by omega)
  · unfold f_X5_seatNext_16_lp
    obtain ⟨v', ⟨h', e1, e2, e3⟩, g⟩ := q_inv (b := fun k16 v => f_X5_seatNext_16 k16 v.1 v.2.1 v.2.2.1 v.2.2.2.1 v.2.2.2.2.1 v.2.2.2.2.2) (I := fun i v => ∃ h', v = (nI s, nI p, nI n, nI (qVw c ok n s p), nI i, h') ∧ (∀ a, a ≠ 164 → h' a = h a) ∧ qCw (h' 164) c ok n (49 * s + 7 * p + i)) n (fun i v hi hI => by
      obtain ⟨h', rfl, e2, e3⟩ := hI
      have O' : qOkX h' ok := fun p hp => by rw [e2 162 (by omega)]; exact O p hp
      obtain ⟨h2, f1, f2, f3⟩ := q_seatX1 hn hs hp hi O' e3 z
      exact ⟨_, fun rec => f1 rec, h2, rfl, fun a ha => (f2 a ha).trans (e2 a ha), f3⟩) (nI s, nI p, nI n, nI (qVw c ok n s p), nI 0, h) ⟨h, rfl, fun _ _ => rfl, C⟩ zN (by rw [q_zN]; omega)
    refine ⟨h', g.trans ?_, e2, qCw_eq e3 (fun x q l hq hl => by omega)⟩
    rw [e1]
    refine q_lp1 (by rw [q_zN]; omega) (fun rec9 => ?_)
    simp only [f_X5_seatNext_16]
    rw [q_ifF (nI_nlt (Nat.le_refl n) (by omega))]
/-- the same, reference -/
theorem q_seatM1 {k : zHp} {c : Nat → Bool} {ok : Nat → Nat → Bool} {n s p i : Nat} (a1 a2 a3 : Int32) (hn : n ≤ 7) (hs : s < 2 ^ n) (hp : p < n) (hi : i < n) (O : qOkM k ok) (C : qCw (k 26) c ok n (49 * s + 7 * p + i)) : ∃ k', (∀ (k50 : Int32 × Int32 × Int32 × Int32 × Int32 × zHp → Option (Int32 × zHp)) (k60 : Int32 × Int32 × Int32 × Int32 × Int32 × Int32 × zHp → Option (Int32 × zHp)) (rec : Int32 × Int32 × Int32 × Int32 × Int32 × Int32 × Int32 × Int32 × zHp → Option (Int32 × zHp)), f_X11_ordersFrom_92 k50 k60 rec (nI n) a1 a2 a3 (nI s) (nI p) (nI (qVw c ok n s p)) (nI i) k = rec (nI n, a1, a2, a3, nI s, nI p, nI (qVw c ok n s p), nI (i + 1), k')) ∧ (∀ a, a ≠ 26 → k' a = k a) ∧ qCw (k' 26) c ok n (49 * s + 7 * p + (i + 1)) := by
  have h27 : 2 ^ n ≤ 2 ^ 7 := Nat.pow_le_pow_right (by decide) hn
  have vb := qVw_le (c := c) (ok := ok) hn s p
  have l31 : (31 : Int32) = nI 31 := rfl
  have l1 : (1 : Int32) = nI 1 := rfl
  have hh := q_hasN (x := s) (b := i) (by omega) (by omega) k
  have oo := O p i (by omega) (by omega)
  have mk : ∀ t l, t < 2 ^ n → l < n → (t ≠ s ||| 2 ^ i ∨ l ≠ i ∨ s.testBit i = true ∨ ok p i = false) → k 26 (7 * t + l) = nI (qGw c ok n (49 * s + 7 * p + (i + 1)) t l) := fun t l ht hl q => by
    rw [C t l ht hl, ← Nat.add_assoc, qGw_miss hn hp hi hl q]
  cases hb : s.testBit i with
  | true =>
    refine ⟨k, fun k50 k60 rec => ?_, fun _ _ => rfl, fun t l ht hl => mk t l ht hl (Or.inr (Or.inr (Or.inl hb)))⟩
    simp only [f_X11_ordersFrom_92]
    rw [q_ifT (nI_lt hi (by omega)), hh, hb, if_pos rfl, q_bd]
    dsimp only
    rw [q_ifF (by decide), l1, nI_add]
  | false =>
    cases ho : ok p i with
    | false =>
      refine ⟨k, fun k50 k60 rec => ?_, fun _ _ => rfl, fun t l ht hl => mk t l ht hl (Or.inr (Or.inr (Or.inr ho)))⟩
      simp only [f_X11_ordersFrom_92]
      rw [q_ifT (nI_lt hi (by omega)), hh, hb, if_neg (by decide), q_bd]
      dsimp only
      rw [q_ifT (show nI 0 = 0 from rfl), oo, ho, if_neg (by decide), q_bd]
      dsimp only
      rw [q_ifT (show nI 0 = 0 from rfl), l1, nI_add]
    | true =>
      have ol := q_orlt hs hi
      refine ⟨zst k 26 (7 * (s ||| 2 ^ i) + i) (nI (qGw c ok n (49 * s + 7 * p + i + 1) (s ||| 2 ^ i) i)), fun k50 k60 rec => ?_, fun a ha => q_st_c ha, fun t l ht hl => ?_⟩
      · simp only [f_X11_ordersFrom_92]
        rw [q_ifT (nI_lt hi (by omega)), hh, hb, if_neg (by decide), q_bd]
        dsimp only
        rw [q_ifT (show nI 0 = 0 from rfl), oo, ho, if_pos rfl, q_bd]
        dsimp only
        rw [q_ifF (by decide), l31, l1, q_shl1 (by omega), fa_or, show (7 : Int32) = nI 7 from rfl, pk_mul, nI_add, q_ix (by omega) (by omega), q_ix (by omega) (by omega), q_lt, q_cl (by omega), C _ _ ol hi, nI_add, nI_add, qGw_hit hn hp hi hb ho]
      · by_cases z : t = s ||| 2 ^ i ∧ l = i
        · rw [z.1, z.2, q_st_s, Nat.add_assoc]
        · rw [q_st_i (by omega)]
          refine mk t l ht hl ?_
          by_cases y : t = s ||| 2 ^ i
          · exact Or.inr (Or.inl (fun e => z ⟨y, e⟩))
          · exact Or.inl y
theorem qOkM_c {k : zHp} {ok : Nat → Nat → Bool} {n : Nat} {A B : Nat → Nat} (hn : n ≤ 10) (hc : k 0 45 = nI n) (H : ∀ i, i < n → A i < 7 ∧ B i < 7 ∧ k 24 i = nI (A i) ∧ k 25 i = nI (B i)) (hok : ∀ p q, p < 7 → q < 7 → (ok p q = false ↔ ∃ i, i < n ∧ ((A i = p ∧ B i = q) ∨ (A i = q ∧ B i = p)))) : qOkM k ok := by
  intro p q hp hq
  unfold f_X11_canSitBy f_X11_canSitBy_2_lp
  obtain ⟨e, e1, e2, e3⟩ := q_least (fun i => (A i = p ∧ B i = q) ∨ (A i = q ∧ B i = p)) n
  have l1 : (1 : Int32) = nI 1 := rfl
  refine q_for (S := fun i => (nI p, nI q, nI i, k)) e (fun i hi rec => ?_) (fun rec => ?_) zN (by rw [q_zN]; omega)
  · obtain ⟨h1, h2, h3, h4⟩ := H i (by omega)
    have z := e2 i hi
    simp only [f_X11_canSitBy_2, f_X11_canSitBy_30]
    have a1 : k 24 i = nI p ↔ A i = p := by rw [h3]; exact nI_eq (by omega) (by omega)
    have a2 : k 24 i = nI q ↔ A i = q := by rw [h3]; exact nI_eq (by omega) (by omega)
    have b1 : k 25 i = nI q ↔ B i = q := by rw [h4]; exact nI_eq (by omega) (by omega)
    have b2 : k 25 i = nI p ↔ B i = p := by rw [h4]; exact nI_eq (by omega) (by omega)
    rw [hc, q_ifT (nI_lt (show i < n by omega) (by omega)), q_ix (by omega) (by omega), q_ix (by omega) (by omega), q_ix (by omega) (by omega), q_cl (by omega), l1, nI_add]
    by_cases x1 : A i = p
    · rw [q_ifT (a1.mpr x1), q_ifF (show ¬ k 25 i = nI q from fun y => z (Or.inl ⟨x1, b1.mp y⟩))]
      by_cases x2 : A i = q
      · rw [q_ifT (a2.mpr x2), q_ix (by omega) (by omega), q_ifF (show ¬ k 25 i = nI p from fun y => z (Or.inr ⟨x2, b2.mp y⟩))]
      · rw [q_ifF (fun y => x2 (a2.mp y))]
    · rw [q_ifF (fun y => x1 (a1.mp y))]
      by_cases x2 : A i = q
      · rw [q_ifT (a2.mpr x2), q_ix (by omega) (by omega), q_ifF (show ¬ k 25 i = nI p from fun y => z (Or.inr ⟨x2, b2.mp y⟩))]
      · rw [q_ifF (fun y => x2 (a2.mp y))]
  · simp only [f_X11_canSitBy_2, f_X11_canSitBy_30]
    by_cases z : e < n
    · obtain ⟨h1, h2, h3, h4⟩ := H e z
      have hf : ok p q = false := (hok p q hp hq).mpr ⟨e, z, e3 z⟩
      have a1 : k 24 e = nI p ↔ A e = p := by rw [h3]; exact nI_eq (by omega) (by omega)
      have a2 : k 24 e = nI q ↔ A e = q := by rw [h3]; exact nI_eq (by omega) (by omega)
      have b1 : k 25 e = nI q ↔ B e = q := by rw [h4]; exact nI_eq (by omega) (by omega)
      have b2 : k 25 e = nI p ↔ B e = p := by rw [h4]; exact nI_eq (by omega) (by omega)
      rw [hc, q_ifT (nI_lt z (by omega)), q_ix (by omega) (by omega), q_ix (by omega) (by omega), q_ix (by omega) (by omega), q_cl (by omega), hf, if_neg (show ¬ false = true by decide)]
      by_cases x1 : A e = p ∧ B e = q
      · rw [q_ifT (a1.mpr x1.1), q_ifT (b1.mpr x1.2)]; rfl
      · have x2 : A e = q ∧ B e = p := by
          rcases e3 z with y | y
          · exact absurd y x1
          · exact y
        by_cases x3 : A e = p
        · rw [q_ifT (a1.mpr x3), q_ifF (show ¬ k 25 e = nI q from fun y => x1 ⟨x3, b1.mp y⟩), q_ifT (a2.mpr x2.1), q_ix (by omega) (by omega), q_ifT (b2.mpr x2.2)]; rfl
        · rw [q_ifF (fun y => x3 (a1.mp y)), q_ifT (a2.mpr x2.1), q_ix (by omega) (by omega), q_ifT (b2.mpr x2.2)]; rfl
    · have ht : ok p q = true := by
        cases hh : ok p q with
        | true => rfl
        | false =>
          obtain ⟨i, i1, i2⟩ := (hok p q hp hq).mp hh
          exact absurd i2 (e2 i (by omega))
      rw [hc, q_ifF (nI_nlt (by omega) (by omega)), ht, if_pos rfl]; rfl
end Qseat2
