/-! THE TAPE's tokens: pure -/
section Qlex
def qSo (c : Nat) : Nat := if c = 32 ∨ c = 10 then 0 else if (97 ≤ c ∧ c ≤ 122) ∨ (65 ≤ c ∧ c ≤ 90) then 1 else if 48 ≤ c ∧ c ≤ 57 then 2 else 3
def qSg (c : Nat) : Nat := fa_first (fun j => decide (zBs.getD j 0 = (nI c).toInt8.toInt32)) 10
/-- where the next token begins -/
def qLxP (t : Nat → Nat) (n s : Nat) : Nat := s + fa_first (fun j => decide (qSo (t (s + j)) ≠ 0)) (n - s)
/-- where a token ends that begins at p -/
def qLxE (t : Nat → Nat) (n p : Nat) : Nat := if qSo (t p) = 3 then p + 1 else p + 1 + fa_first (fun j => decide (qSo (t (p + 1 + j)) ≠ qSo (t p))) (n - (p + 1))
def qCS : List Nat := [0, 7, 13, 19, 23, 29, 34, 40, 47, 51, 59, 64, 71, 76, 79, 83, 87, 90, 97, 101, 106, 109, 114, 118, 123]
def qCs (w : Nat) : Nat := qCS.getD w 0
def qWl (w : Nat) : Nat := qCs (w + 1) - qCs w - 1
def qWb (k : Nat) : Int32 := if k < 122 then zBw.getD k 0 else 32
/-- the first j letters from p on are the word's at st -/
def qSm (t : Nat → Nat) (p e st : Nat) : Nat → Bool
  | 0 => true
  | j + 1 => qSm t p e st j && (decide (p + j < e) && decide (nI (t (p + j)) = qWb (st + j)))
def qWmt (t : Nat → Nat) (p e w : Nat) : Bool := qSm t p e (qCs w) (qWl w) && decide (p + qWl w = e)
def qWrd (t : Nat → Nat) (p e : Nat) : Nat := fa_first (fun w => qWmt t p e w) 24
def qDgt (t : Nat → Nat) (p : Nat) : Nat → Nat
  | 0 => 0
  | m + 1 => 10 * qDgt t p m + (t (p + m) - 48)
/-- of a token at p: its kind, its number -/
def qTkK (t : Nat → Nat) (n p : Nat) : Nat :=
  if n ≤ p then 36 else if qSo (t p) = 1 then (if qWrd t p (qLxE t n p) < 24 then qWrd t p (qLxE t n p) else 35)
  else if qSo (t p) = 2 then (if qLxE t n p - p ≤ 4 then 34 else 35) else if qSg (t p) < 10 then 24 + qSg (t p) else 35
def qTkV (t : Nat → Nat) (n p : Nat) : Nat := if n ≤ p then 0 else if qSo (t p) = 2 then qDgt t p (min (qLxE t n p - p) 4) else 0
def qTkN (t : Nat → Nat) (n p : Nat) : Nat := if n ≤ p then n else qLxE t n p
/-- where reading goes on behind i tokens -/
def qSp (t : Nat → Nat) (n : Nat) : Nat → Nat
  | 0 => 0
  | i + 1 => qTkN t n (qLxP t n (qSp t n i))
theorem qLxP_le {t : Nat → Nat} {n s : Nat} (h : s ≤ n) : s ≤ qLxP t n s ∧ qLxP t n s ≤ n := by
  have := fa_first_le (fun j => decide (qSo (t (s + j)) ≠ 0)) (n - s)
  unfold qLxP
  omega
theorem qLxE_le {t : Nat → Nat} {n p : Nat} (h : p < n) : p + 1 ≤ qLxE t n p ∧ qLxE t n p ≤ n := by
  have := fa_first_le (fun j => decide (qSo (t (p + 1 + j)) ≠ qSo (t p))) (n - (p + 1))
  unfold qLxE
  split <;> omega
theorem qTkN_le {t : Nat → Nat} {n p : Nat} (h : p ≤ n) : p ≤ qTkN t n p ∧ qTkN t n p ≤ n := by
  unfold qTkN
  split
  · omega
  · have := qLxE_le (t := t) (n := n) (p := p) (by omega); omega
theorem qSp_le (t : Nat → Nat) (n : Nat) : ∀ i, qSp t n i ≤ n
  | 0 => Nat.zero_le n
  | i + 1 => (qTkN_le (qLxP_le (qSp_le t n i)).2).2
theorem qLxP_blank {t : Nat → Nat} {n s j : Nat} (h1 : s ≤ j) (h2 : j < qLxP t n s) : qSo (t j) = 0 := by
  unfold qLxP at h2
  have := fa_first_no (fun j => decide (qSo (t (s + j)) ≠ 0)) (n - s) (j - s) (by omega)
  rw [show s + (j - s) = j by omega] at this
  simpa using this
theorem qLxP_at {t : Nat → Nat} {n s : Nat} (h : qLxP t n s < n) (hs : s ≤ n) : qSo (t (qLxP t n s)) ≠ 0 := by
  unfold qLxP at *
  have := fa_first_yes (fun j => decide (qSo (t (s + j)) ≠ 0)) (n - s) (by omega)
  simpa using this
/-- a position is where the next token begins -/
theorem qLxP_is {t : Nat → Nat} {n s p : Nat} (h1 : s ≤ p) (h2 : p ≤ n) (h3 : ∀ j, s ≤ j → j < p → qSo (t j) = 0) (h4 : p < n → qSo (t p) ≠ 0) : qLxP t n s = p := by
  have a := qLxP_le (t := t) (n := n) (s := s) (by omega)
  rcases Nat.lt_trichotomy (qLxP t n s) p with z | z | z
  · exact absurd (h3 _ a.1 z) (qLxP_at (by omega) (by omega))
  · exact z
  · exact absurd (qLxP_blank h1 z) (h4 (by omega))
theorem qLxE_in {t : Nat → Nat} {n p j : Nat} (h : qSo (t p) ≠ 3) (h1 : p ≤ j) (h2 : j < qLxE t n p) : qSo (t j) = qSo (t p) := by
  by_cases z : j = p
  · rw [z]
  · unfold qLxE at h2
    rw [if_neg h] at h2
    have := fa_first_no (fun j => decide (qSo (t (p + 1 + j)) ≠ qSo (t p))) (n - (p + 1)) (j - (p + 1)) (by omega)
    rw [show p + 1 + (j - (p + 1)) = j by omega] at this
    simpa using this
theorem qLxE_out {t : Nat → Nat} {n p : Nat} (h : qSo (t p) ≠ 3) (hp : p < n) (h2 : qLxE t n p < n) : qSo (t (qLxE t n p)) ≠ qSo (t p) := by
  unfold qLxE at *
  rw [if_neg h] at *
  have := fa_first_yes (fun j => decide (qSo (t (p + 1 + j)) ≠ qSo (t p))) (n - (p + 1)) (by omega)
  simpa using this
theorem qSo_le (c : Nat) : qSo c ≤ 3 := by
  unfold qSo
  split
  · omega
  split
  · omega
  split <;> omega
-- the class: sorts
def qSoI (x : Int32) : Int32 := if x = 32 then 0 else if x = 10 then 0 else if x < 97 then (if x < 65 then (if x < 48 then 3 else if 57 < x then 3 else 2) else if 90 < x then (if x < 48 then 3 else if 57 < x then 3 else 2) else 1) else if 122 < x then (if x < 65 then (if x < 48 then 3 else if 57 < x then 3 else 2) else if 90 < x then (if x < 48 then 3 else if 57 < x then 3 else 2) else 1) else 1
theorem qSoI_is : ∀ c, c < 256 → qSoI (nI c) = nI (qSo c) := by decide +kernel
theorem q_so40 (x : Int32) (h : zHp) : f_X6_sortOf_40 x h = some (if x < 48 then 3 else if 57 < x then 3 else 2, h) := by
  unfold f_X6_sortOf_40
  by_cases c1 : x < 48
  · rw [if_pos c1, if_pos c1]
  rw [if_neg c1, if_neg c1]
  by_cases c2 : 57 < x
  · rw [if_pos c2, if_pos c2]
  rw [if_neg c2, if_neg c2]
theorem q_so26 (x : Int32) (h : zHp) : f_X6_sortOf_26 x h = some (if x < 65 then (if x < 48 then 3 else if 57 < x then 3 else 2) else if 90 < x then (if x < 48 then 3 else if 57 < x then 3 else 2) else 1, h) := by
  unfold f_X6_sortOf_26
  by_cases c1 : x < 65
  · rw [if_pos c1, if_pos c1, q_so40]
  rw [if_neg c1, if_neg c1]
  by_cases c2 : 90 < x
  · rw [if_pos c2, if_pos c2, q_so40]
  rw [if_neg c2, if_neg c2]
theorem q_so {c : Nat} (hc : c < 256) (h : zHp) : f_X6_sortOf (nI c) h = some (nI (qSo c), h) := by
  rw [← qSoI_is c hc]
  generalize nI c = x
  unfold f_X6_sortOf qSoI
  by_cases c1 : x = 32
  · rw [if_pos c1, if_pos c1]
  rw [if_neg c1, if_neg c1]
  by_cases c2 : x = 10
  · rw [if_pos c2, if_pos c2]
  rw [if_neg c2, if_neg c2]
  by_cases c3 : x < 97
  · rw [if_pos c3, if_pos c3, q_so26]
  rw [if_neg c3, if_neg c3]
  by_cases c4 : 122 < x
  · rw [if_pos c4, if_pos c4, q_so26]
  rw [if_neg c4, if_neg c4]
-- the class: signs
theorem q_sign {c : Nat} (hc : c < 256) (h : zHp) : f_J0_indexOf_0f7a4 0 (nI c) h = some (if qSg c < 10 then nI (qSg c) else -1, h) := by
  have l10 : zLn.getD 0 0 = 10 := rfl
  have loop : f_J1_indexOfChar_4cfef_7_lp 0 zN (nI 10, (nI c).toInt8.toInt32, nI 0, h) = some (if qSg c < 10 then nI (qSg c) else -1, h) := by
    have hle := fa_first_le (fun j => decide (zBs.getD j 0 = (nI c).toInt8.toInt32)) 10
    unfold f_J1_indexOfChar_4cfef_7_lp
    refine q_for (S := fun j => (nI 10, (nI c).toInt8.toInt32, nI j, h)) (qSg c) (fun j hj rec => ?_) (fun rec => ?_) zN (by rw [q_zN]; unfold qSg; omega)
    · have hj2 : j < 10 := by unfold qSg at hj; omega
      have n1 : ¬ zBs.getD j 0 = (nI c).toInt8.toInt32 := by
        have := fa_first_no (fun j => decide (zBs.getD j 0 = (nI c).toInt8.toInt32)) 10 j hj
        simpa using this
      simp only [f_J1_indexOfChar_4cfef_7]
      rw [q_ifT (nI_lt hj2 (by omega)), l10, q_ix (by omega) (by omega), q_cl (by omega), q_ifF (show ¬ ([zBs, zBw].getD 0 []).getD j 0 = (nI c).toInt8.toInt32 from n1), show (1 : Int32) = nI 1 from rfl, nI_add]
    · simp only [f_J1_indexOfChar_4cfef_7]
      by_cases z : qSg c < 10
      · have y : zBs.getD (qSg c) 0 = (nI c).toInt8.toInt32 := by
          have := fa_first_yes (fun j => decide (zBs.getD j 0 = (nI c).toInt8.toInt32)) 10 z
          simpa [qSg] using this
        rw [q_ifT (nI_lt z (by omega)), l10, q_ix (by omega) (by omega), q_cl (by omega), q_ifT (show ([zBs, zBw].getD 0 []).getD (qSg c) 0 = (nI c).toInt8.toInt32 from y), if_pos z]
      · rw [q_ifF (nI_nlt (by omega) (by unfold qSg; omega)), if_neg z]
  have e1 : f_J1_canEncode_9a6ad (nI c) h = some (1, h) := by
    unfold f_J1_canEncode_9a6ad
    rw [if_neg (nI_pos (by omega)), if_neg (show ¬ (255 : Int32) < nI c from qnL 255 (by omega) (by omega))]
  have e2 : f_J0_length_8abf5 0 h = some (nI 10, h) := by
    unfold f_J0_length_8abf5 f_J0_coder_7d493
    rw [if_neg (show ¬ (1 : Int32) = 0 by decide), q_bd]
    exact congrArg (fun x => some (x, h)) (show Int32.ofNat (zLn.getD 0 0) >>> ((0 : Int32) &&& 31) = nI 10 by decide)
  unfold f_J0_indexOf_0f7a4 f_J0_indexOf_7cf53
  rw [show f_J0_isLatin1_aae02 0 h = some (1, h) from rfl, q_bd]
  dsimp only
  rw [if_neg (show ¬ (1 : Int32) = 0 by decide), e2, q_bd]
  dsimp only
  unfold f_J1_indexOf_4cfef
  rw [e1, q_bd]
  dsimp only
  rw [if_neg (show ¬ (1 : Int32) = 0 by decide), if_neg (show ¬ (0 : Int32) < 0 by decide), q_lt, if_neg (show ¬ Int32.ofNat (zLn.getD 0 0) < nI 10 by decide), q_lt, if_pos (show (0 : Int32) < nI 10 by decide)]
  unfold f_J1_indexOfChar_4cfef
  rw [q_lt]
  show (((f_J1_indexOfChar_4cfef_7_lp 0 zN (nI 10, (nI c).toInt8.toInt32, nI 0, h)).bind _).bind _).bind _ = _
  rw [loop, q_bd, q_bd, q_bd]
-- the class: words
theorem q_len122 (h : zHp) : f_J0_length_8abf5 1 h = some (nI 122, h) := by
  unfold f_J0_length_8abf5 f_J0_coder_7d493
  rw [if_neg (show ¬ (1 : Int32) = 0 by decide), q_bd]
  exact congrArg (fun x => some (x, h)) (show Int32.ofNat (zLn.getD 1 0) >>> ((0 : Int32) &&& 31) = nI 122 by decide)
theorem q_wbOk : ∀ k, k < 122 → (((zBw.getD k 0) &&& (255 : Int32)).toUInt32 % 65536).toInt32 = zBw.getD k 0 ∧ (¬ zBw.getD k 0 < 0 ∧ zBw.getD k 0 < 65536) := by decide +kernel
theorem q_charAt {k : Nat} (hk : k < 122) (h : zHp) : f_J0_charAt_5068e 1 (nI k) h = some (zBw.getD k 0, h) := by
  obtain ⟨w1, w2⟩ := q_wbOk k hk
  have l : zLn.getD 1 0 = 122 := rfl
  have c1 : f_J0_checkIndex_df160 (nI k) (Int32.ofNat (zLn.getD 1 0)) h = some h := by
    unfold f_J0_checkIndex_df160 f_J3_checkIndex_8e157
    rw [if_neg (nI_pos (by omega)), l, q_nI, if_pos (nI_lt hk (by omega))]; rfl
  have g : ([zBs, zBw].getD 1 []) = zBw := rfl
  have ez : ∀ {R : Type} (t : Option R), zzc (zBw.getD k 0) t = t := fun t => by
    unfold zzc; exact if_pos w2
  unfold f_J0_charAt_5068e
  rw [show f_J0_isLatin1_aae02 1 h = some (1, h) from rfl, q_bd]
  dsimp only
  rw [if_neg (show ¬ (1 : Int32) = 0 by decide)]
  unfold f_J1_charAt_3b067
  rw [c1, q_bd, l, q_ix hk (by omega), g, q_cl (by omega), w1, ez, q_bd]
  exact ez _
theorem q_csF : ∀ w, w < 24 → qCs (w + 1) = qCs w + qWl w + 1 ∧ qCs w + qWl w ≤ 122 ∧ qWb (qCs w + qWl w) = 32 ∧ ∀ j, j < 8 → j < qWl w → ¬ qWb (qCs w + j) = 32 := by decide +kernel
theorem q_wl8 : ∀ w, w < 24 → qWl w < 8 := by decide
theorem q_wordOf {h : zHp} {t : Nat → Nat} {n p e : Nat} (hn : n ≤ 400) (he : e ≤ n) (hp : p ≤ e) (H : ∀ i, i < n → t i < 256 ∧ h 146 i = nI (t i)) : f_X6_wordOf (nI p) (nI e) h = some (nI (if qWrd t p e < 24 then qWrd t p e else 35), h) := by
  have l1 : (1 : Int32) = nI 1 := rfl
  unfold f_X6_wordOf f_X6_wordOf_11_lp
  refine q_exit (b := fun k11 v => f_X6_wordOf_11 k11 v.1 v.2.1 v.2.2.1 v.2.2.2.1 v.2.2.2.2.1 v.2.2.2.2.2.1 v.2.2.2.2.2.2) (I := fun k v => ∃ w j, k = qCs w + j ∧ ((w < 24 ∧ j ≤ qWl w) ∨ (w = 24 ∧ j = 0)) ∧ v = (nI p, nI e, nI w, nI (p + j), nI (if qSm t p e (qCs w) j then 1 else 0), nI k, h) ∧ ∀ x, x < w → qWmt t p e x = false) 123 (Q := fun x => x = some (nI (if qWrd t p e < 24 then qWrd t p e else 35), h)) (fun k v hk hI => ?_) (fun v hI => ?_) _ ⟨0, 0, rfl, Or.inl ⟨by decide, by decide⟩, rfl, fun x hx => by omega⟩ zN (by rw [q_zN]; omega)
  · obtain ⟨w, j, k1, k2, rfl, k4⟩ := hI
    have hw : w < 24 ∧ j ≤ qWl w := by
      rcases k2 with z | ⟨z1, z2⟩
      · exact z
      · subst z1 z2
        rw [show qCs 24 = 123 from rfl] at k1
        omega
    obtain ⟨c1, c2, c3, c4⟩ := q_csF w hw.1
    have w8 := q_wl8 w hw.1
    -- one place of the text
    have one : ∀ rec : Int32 × Int32 × Int32 × Int32 × Int32 × Int32 × zHp → Option (Int32 × zHp), f_X6_wordOf_11 rec (nI p) (nI e) (nI w) (nI (p + j)) (nI (if qSm t p e (qCs w) j then 1 else 0)) (nI k) h = f_X6_wordOf_43 rec (nI p) (nI e) (nI w) (nI (p + j)) (nI (if qSm t p e (qCs w) j then 1 else 0)) (nI k) (qWb k) h := by
      intro rec
      unfold f_X6_wordOf_11
      rw [q_len122, q_bd]
      dsimp only
      rw [q_ifF (nI_nlt (show k ≤ 122 by omega) (by omega)), q_len122, q_bd]
      dsimp only
      by_cases z : k < 122
      · rw [q_ifT (nI_lt z (by omega)), q_charAt z, q_bd]
        unfold qWb
        rw [if_pos z]
      · rw [q_ifF (nI_nlt (by omega) (by omega))]
        unfold qWb
        rw [if_neg z]
    by_cases hj : j < qWl w
    · have n32 := c4 j (by omega) hj
      rw [← k1] at n32
      refine Or.inl ⟨(nI p, nI e, nI w, nI (p + (j + 1)), nI (if qSm t p e (qCs w) (j + 1) then 1 else 0), nI (k + 1), h), fun rec => (one rec).trans ?_, w, j + 1, by omega, Or.inl ⟨hw.1, hj⟩, rfl, k4⟩
      have e80 : ∀ s : Int32, f_X6_wordOf_80 rec (nI p) (nI e) (nI w) (nI (p + j)) (nI k) s h = rec (nI p, nI e, nI w, nI (p + (j + 1)), s, nI (k + 1), h) := by
        intro s
        unfold f_X6_wordOf_80
        rw [l1, nI_add, nI_add, Nat.add_assoc]
      unfold f_X6_wordOf_43
      rw [if_neg n32]
      have eS : qSm t p e (qCs w) (j + 1) = (qSm t p e (qCs w) j && (decide (p + j < e) && decide (nI (t (p + j)) = qWb k))) := by rw [k1]; rfl
      rw [eS]
      cases hs : qSm t p e (qCs w) j with
      | false =>
        rw [if_neg (show ¬ false = true by decide), if_pos (show nI 0 = 0 from rfl), e80, Bool.false_and, if_neg (show ¬ false = true by decide)]; rfl
      | true =>
        rw [if_pos rfl, if_neg (show ¬ nI 1 = 0 by decide), Bool.true_and]
        by_cases y : p + j < e
        · obtain ⟨-, y2⟩ := H (p + j) (by omega)
          rw [q_ifT (nI_lt y (by omega)), q_ix (by omega) (by omega), q_cl (by omega), decide_eq_true y, Bool.true_and]
          by_cases x : nI (t (p + j)) = qWb k
          · rw [q_ifT (show h 146 (p + j) = qWb k from y2.trans x), e80, decide_eq_true x, if_pos rfl]; rfl
          · rw [q_ifF (show ¬ h 146 (p + j) = qWb k from fun q => x (y2.symm.trans q)), e80, decide_eq_false x, if_neg (by decide)]; rfl
        · rw [q_ifF (nI_nlt (by omega) (by omega)), e80, decide_eq_false y, Bool.false_and, if_neg (show ¬ false = true by decide)]; rfl
    · have ej : j = qWl w := by omega
      subst ej
      rw [← k1] at c3
      have nx : ∀ rec : Int32 × Int32 × Int32 × Int32 × Int32 × Int32 × zHp → Option (Int32 × zHp), f_X6_wordOf_101 rec (nI p) (nI e) (nI w) (nI k) h = rec (nI p, nI e, nI (w + 1), nI (p + 0), nI (if qSm t p e (qCs (w + 1)) 0 then 1 else 0), nI (k + 1), h) := by
        intro rec
        unfold f_X6_wordOf_101
        rw [l1, nI_add, nI_add]; rfl
      by_cases hm : qWmt t p e w = true
      · refine Or.inr ⟨some (nI w, h), fun rec => (one rec).trans ?_, ?_⟩
        · have hm' := hm
          unfold qWmt at hm'
          rw [Bool.and_eq_true, decide_eq_true_eq] at hm'
          unfold f_X6_wordOf_43
          rw [if_pos c3, hm'.1, if_pos rfl, if_neg (show ¬ nI 1 = 0 by decide), q_ifeq hm'.2]
        · have ew : qWrd t p e = w := by
            have a1 := fa_first_le (fun w => qWmt t p e w) 24
            rcases Nat.lt_trichotomy (qWrd t p e) w with z | z | z
            · have := fa_first_yes (fun w => qWmt t p e w) 24 (by unfold qWrd at z; omega)
              have q := k4 _ z
              unfold qWrd at q
              rw [q] at this; cases this
            · exact z
            · have := fa_first_no (fun w => qWmt t p e w) 24 w z
              rw [hm] at this; cases this
          rw [ew, if_pos hw.1]
      · have hm2 : qWmt t p e w = false := by simpa using hm
        refine Or.inl ⟨_, fun rec => (one rec).trans (Eq.trans ?_ (nx rec)), w + 1, 0, by omega, ?_, rfl, fun x hx => ?_⟩
        · unfold f_X6_wordOf_43
          rw [if_pos c3]
          cases hs : qSm t p e (qCs w) (qWl w) with
          | false => rw [if_neg (show ¬ false = true by decide), if_pos (show nI 0 = 0 from rfl)]
          | true =>
            have : ¬ p + qWl w = e := fun q => by
              unfold qWmt at hm2
              rw [hs, decide_eq_true q] at hm2; cases hm2
            rw [if_pos rfl, if_neg (show ¬ nI 1 = 0 by decide), q_ifne this (by omega) (by omega)]
        · by_cases z : w + 1 < 24
          · exact Or.inl ⟨z, Nat.zero_le _⟩
          · exact Or.inr ⟨by omega, rfl⟩
        · by_cases z : x = w
          · rw [z]; exact hm2
          · exact k4 x (by omega)
  · obtain ⟨w, j, k1, k2, rfl, k4⟩ := hI
    have hw : w = 24 ∧ j = 0 := by
      rcases k2 with ⟨z1, z2⟩ | z
      · have := (q_csF w z1).2.1
        omega
      · exact z
    obtain ⟨rfl, rfl⟩ := hw
    have ew : qWrd t p e = 24 := by
      have a1 := fa_first_le (fun w => qWmt t p e w) 24
      rcases Nat.lt_or_ge (qWrd t p e) 24 with z | z
      · have := fa_first_yes (fun w => qWmt t p e w) 24 z
        have q := k4 _ z
        unfold qWrd at q
        rw [q] at this; cases this
      · unfold qWrd at *; omega
    refine ⟨some (nI 35, h), fun rec => ?_, by rw [ew]; rfl⟩
    simp only [f_X6_wordOf_11]
    rw [q_len122, q_bd]
    dsimp only
    rw [q_ifT (nI_lt (show 122 < 123 by omega) (by omega))]; rfl
theorem q_digits {h : zHp} {t : Nat → Nat} {n p m : Nat} (hn : n ≤ 400) (hm : p + m ≤ n) (h4 : m ≤ 4) (H : ∀ i, i < n → t i < 256 ∧ h 146 i = nI (t i)) (D : ∀ i, p ≤ i → i < p + m → 48 ≤ t i ∧ t i ≤ 57) : f_X6_digits (nI p) (nI (p + m)) h = some (nI (qDgt t p m), h) := by
  unfold f_X6_digits f_X6_digits_5_lp
  refine q_for (S := fun i => (nI (p + m), nI (qDgt t p i), nI (p + i), h)) m (fun i hi rec => ?_) (fun rec => ?_) zN (by rw [q_zN]; omega)
  · obtain ⟨a1, a2⟩ := H (p + i) (by omega)
    obtain ⟨d1, d2⟩ := D (p + i) (by omega) (by omega)
    simp only [f_X6_digits_5]
    rw [q_ifT (nI_lt (by omega) (by omega)), q_ifT (qlR 400 (show p + i < 400 by omega) (by omega)), q_ix (by omega) (by omega), q_lt, q_cl (by omega), a2, show (10 : Int32) = nI 10 from rfl, pk_mul, nI_add, show (48 : Int32) = nI 48 from rfl, q_sub (by omega), show (1 : Int32) = nI 1 from rfl, nI_add, show 10 * qDgt t p i + t (p + i) - 48 = qDgt t p (i + 1) by show _ = 10 * qDgt t p i + (t (p + i) - 48); omega, Nat.add_assoc]
  · simp only [f_X6_digits_5]
    rw [q_ifF (nI_nlt (Nat.le_refl _) (by omega))]
end Qlex
