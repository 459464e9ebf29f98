/-! READING a TEXT: both at one token -/
section Qparse
def qyK (t : Nat → Nat) (n i : Nat) : Nat := qTkK t n (qyP t n i)
def qyV (t : Nat → Nat) (n i : Nat) : Nat := qTkV t n (qyP t n i)
/-- both stand at token i, without a fault -/
def qyAt (h k : zHp) (t : Nat → Nat) (n T i : Nat) : Prop := i ≤ T ∧ h 145 6 = nI i ∧ h 145 7 = nI (qyK t n i) ∧ (h 145 12 = 0 ∧ h 145 13 = -1) ∧ qyTk h t n T ∧ qyTapeM k t n ∧ k 0 13 = nI (qSp t n (i + 1)) ∧ k 0 14 = nI (qyP t n i) ∧ qyTV (k 0 15) (k 0 16) (qyK t n i) (qyV t n i)
/-- the same fault -/
def qyBad (h k : zHp) : Prop := ∃ f, f ≠ 0 ∧ f < 100 ∧ h 145 12 = nI f ∧ k 0 30 = nI f ∧ h 145 13 = k 0 31
/-- the class has a fault -/
def qyF (h : zHp) : Prop := ¬ h 145 12 = 0
theorem qyBad.f {h k : zHp} (B : qyBad h k) : qyF h := by
  obtain ⟨f, f0, f1, f2, -⟩ := B
  unfold qyF
  rw [f2]; exact nI_ne0 (by omega) (by omega)
/-- what an advance leaves -/
def qyAX (h h' : zHp) : Prop := (∀ a, a ≠ 145 → h' a = h a) ∧ ∀ j, j ≠ 6 → j ≠ 7 → j ≠ 12 → j ≠ 13 → h' 145 j = h 145 j
theorem qyAX_rf (h : zHp) : qyAX h h := ⟨fun _ _ => rfl, fun _ _ _ _ _ => rfl⟩
theorem qyAX_tr {h h' h'' : zHp} (a : qyAX h h') (b : qyAX h' h'') : qyAX h h'' := ⟨fun x q => (b.1 x q).trans (a.1 x q), fun j p q r s => (b.2 j p q r s).trans (a.2 j p q r s)⟩
theorem qyK_T {t : Nat → Nat} {n T : Nat} {h : zHp} (S : qyTk h t n T) : qyK t n T = 36 := by
  unfold qyK qTkK
  rw [S.2.2.2.1, if_pos (Nat.le_refl n)]
theorem qyK_lt {h k : zHp} {t : Nat → Nat} {n T i : Nat} (A : qyAt h k t n T i) (hk : qyK t n i ≠ 36) : i < T := by
  rcases Nat.lt_or_ge i T with z | z
  · exact z
  · have : i = T := by have := A.1; omega
    rw [this] at hk
    exact absurd (qyK_T A.2.2.2.2.1) hk
theorem qyK_le {h k : zHp} {t : Nat → Nat} {n T i : Nat} (A : qyAt h k t n T i) : qyK t n i ≤ 36 := by
  rcases A.2.2.2.2.2.2.2.2 with ⟨z, -⟩ | ⟨-, z, -⟩ | ⟨z, -⟩ | ⟨z, -⟩ | ⟨z, -⟩ <;> omega
/-- both go on to the next token -/
theorem q_adv {h k : zHp} {t : Nat → Nat} {n T i : Nat} (A : qyAt h k t n T i) (hi : qyK t n i ≠ 36) : ∃ h' k', f_X6_advance h = some h' ∧ f_X11_reads k = some k' ∧ qyAt h' k' t n T (i + 1) ∧ qyAX h h' ∧ qyFM k k' := by
  have lt := qyK_lt A hi
  obtain ⟨a1, a2, a3, a4, a5, a6, a7, a8, a9⟩ := A
  obtain ⟨T1, T2, T3, T4, T5⟩ := id a5
  obtain ⟨k', r1, r2, r3, r4, r5⟩ := q_reads a6 (qSp_le t n (i + 1)) a7
  have l1 : (1 : Int32) = nI 1 := rfl
  have row := (T5 (i + 1) (by omega)).1
  refine ⟨zst (zst h 145 6 (nI (i + 1))) 145 7 (nI (qyK t n (i + 1))), k', ?_, r1, ⟨by omega, by rw [q_st_i (by omega), q_st_s], q_st_s, ⟨by rw [q_st_i (by omega), q_st_i (by omega)]; exact a4.1, by rw [q_st_i (by omega), q_st_i (by omega)]; exact a4.2⟩, ⟨T1, by rw [q_st_i (by omega), q_st_i (by omega)]; exact T2, T3, T4, fun j hj => ?_⟩, qyTapeM_c a6 r2, r3, r4, r5⟩, ⟨fun a q => by rw [q_st_c q, q_st_c q], fun j p q r s => by rw [q_st_i q, q_st_i p]⟩, r2⟩
  · unfold f_X6_advance
    rw [a2, T2, l1, nI_add, q_ifT (nI_lt (by omega) (by omega)), q_lt, q_st_s, q_ix (by omega) (by omega), q_lt, q_cl (by omega), q_st_c (show (147 : Nat) ≠ 145 by omega), row]; rfl
  · obtain ⟨y1, y2, y3⟩ := T5 j hj
    refine ⟨?_, ?_, ?_⟩
    · rw [q_st_c (by omega), q_st_c (by omega)]; exact y1
    · rw [q_st_c (by omega), q_st_c (by omega)]; exact y2
    · rw [q_st_c (by omega), q_st_c (by omega)]; exact y3
/-- both fail -/
theorem q_failX {h k : zHp} {t : Nat → Nat} {n T i : Nat} (A : qyAt h k t n T i) {f : Nat} (f0 : f ≠ 0) (f1 : f < 100) : ∃ h' k', f_X6_fail (nI f) h = some h' ∧ f_X11_errs (nI f) k = some (qM, k') ∧ qyBad h' k' ∧ qyAX h h' ∧ (∀ a j, ¬(a = 0 ∧ (j = 30 ∨ j = 31)) → k' a j = k a j) := by
  obtain ⟨a1, a2, a3, a4, a5, a6, a7, a8, a9⟩ := A
  have row := (a5.2.2.2.2 i a1).2.2
  have := a5.1
  refine ⟨zst (zst h 145 12 (nI f)) 145 13 (nI (qyP t n i)), zst (zst k 0 30 (nI f)) 0 31 (nI (qyP t n i)), ?_, ?_, ⟨f, f0, f1, by rw [q_st_i (by omega), q_st_s], by rw [q_st_i (by omega), q_st_s], by rw [q_st_s, q_st_s]⟩, ⟨fun a q => by rw [q_st_c q, q_st_c q], fun j p q r s => by rw [q_st_i s, q_st_i r]⟩, fun a j q => ?_⟩
  · unfold f_X6_fail
    rw [a4.1, if_pos rfl, q_lt, q_st_i (by omega), a2, q_ix (by omega) (by omega), q_lt, q_cl (by omega), q_st_c (show (149 : Nat) ≠ 145 by omega), row]
  · unfold f_X11_errs
    rw [q_lt, q_lt, q_st_i (by omega), a8]; rfl
  · rw [q_st]
    by_cases z : a = 0
    · rw [if_pos z, if_neg (by omega), q_st, if_pos z, if_neg (by omega)]
    · rw [if_neg z, q_st_c z]
-- with a fault nothing is read any more
theorem q_failB {h : zHp} (F : qyF h) (f : Int32) : f_X6_fail f h = some h := if_neg F
theorem q_expB {h : zHp} (F : qyF h) (w : Int32) : f_X6_expect w h = some h := if_neg F
theorem q_numB {h : zHp} (F : qyF h) (a b : Int32) : f_X6_expectNumber a b h = some (0, h) := if_neg F
theorem q_linB {h : zHp} (F : qyF h) (w : Int32) : f_X6_expectLine w h = some h := by
  unfold f_X6_expectLine
  rw [q_expB F, q_bd, q_failB F, q_bd, q_expB F, q_bd]
  split
  · split <;> rfl
  · rfl
theorem q_cloB {h : zHp} (F : qyF h) (a b c d : Int32) : f_X6_closeLine a b c d h = some h := by
  unfold f_X6_closeLine
  rw [q_expB F, q_bd]; exact if_neg F
-- what the reference asks of a token
theorem q_isWd {h k : zHp} {t : Nat → Nat} {n T i w : Nat} (A : qyAt h k t n T i) (hw : w < 24) : f_X11_isWord (nI (qyRW w)) k = some (nI (if qyK t n i = w then 1 else 0), k) := by
  have R := q_iwF w hw
  unfold f_X11_isWord
  rcases A.2.2.2.2.2.2.2.2 with ⟨z, y1, y2⟩ | ⟨z1, z2, y1, -⟩ | ⟨z, y1, -⟩ | ⟨z, y1⟩ | ⟨z, y1⟩
  · have R2 := q_iwF _ z
    rw [if_pos y1]
    by_cases e : qyK t n i = w
    · rw [if_pos (show k 0 16 = nI (qyRW w) by rw [y2, e]), if_pos e]; rfl
    · rw [if_neg (show ¬ k 0 16 = nI (qyRW w) from fun q => e (by
        rw [y2] at q
        have := (nI_eq (by omega) (by omega)).mp q
        rw [← R2.2, this, R.2])), if_neg e]; rfl
  · rw [if_neg (show ¬ k 0 15 = 2 by rw [y1]; decide), if_neg (by omega)]; rfl
  · rw [if_neg (show ¬ k 0 15 = 2 by rw [y1]; decide), if_neg (by omega)]; rfl
  · rw [if_neg (show ¬ k 0 15 = 2 by rw [y1]; decide), if_neg (by omega)]; rfl
  · rw [if_neg (show ¬ k 0 15 = 2 by rw [y1]; decide), if_neg (by omega)]; rfl
theorem q_snF : ∀ a, a < 10 → ∀ b, b < 10 → (qySn.getD a 0 = qySn.getD b 0 → a = b) ∧ qySn.getD a 0 < 100 := by decide
theorem q_isSg {h k : zHp} {t : Nat → Nat} {n T i w : Nat} (A : qyAt h k t n T i) (hw : 24 ≤ w) (hw2 : w ≤ 33) : f_X11_isSign (nI (qySn.getD (w - 24) 0)) k = some (nI (if qyK t n i = w then 1 else 0), k) := by
  unfold f_X11_isSign
  rcases A.2.2.2.2.2.2.2.2 with ⟨z, y1, y2⟩ | ⟨z1, z2, y1, y2⟩ | ⟨z, y1, -⟩ | ⟨z, y1⟩ | ⟨z, y1⟩
  · rw [if_neg (show ¬ k 0 15 = 4 by rw [y1]; decide), if_neg (by omega)]; rfl
  · have R1 := q_snF (qyK t n i - 24) (by omega) (w - 24) (by omega)
    have R2 := (q_snF (w - 24) (by omega) 0 (by omega)).2
    rw [if_pos y1]
    by_cases e : qyK t n i = w
    · rw [if_pos (show k 0 16 = nI (qySn.getD (w - 24) 0) by rw [y2, e]), if_pos e]; rfl
    · rw [if_neg (show ¬ k 0 16 = nI (qySn.getD (w - 24) 0) from fun q => e (by
        rw [y2] at q
        have := R1.1 ((nI_eq (by omega) (by omega)).mp q)
        omega)), if_neg e]; rfl
  · rw [if_neg (show ¬ k 0 15 = 4 by rw [y1]; decide), if_neg (by omega)]; rfl
  · rw [if_neg (show ¬ k 0 15 = 4 by rw [y1]; decide), if_neg (by omega)]; rfl
  · rw [if_neg (show ¬ k 0 15 = 4 by rw [y1]; decide), if_neg (by omega)]; rfl
theorem q_tok0 {h k : zHp} {t : Nat → Nat} {n T i : Nat} (A : qyAt h k t n T i) : k 0 15 = 0 ↔ qyK t n i = 36 := by
  rcases A.2.2.2.2.2.2.2.2 with ⟨z, y1, y2⟩ | ⟨z1, z2, y1, y2⟩ | ⟨z, y1, -⟩ | ⟨z, y1⟩ | ⟨z, y1⟩
  · rw [y1]; exact ⟨fun q => absurd q (by decide), fun q => by omega⟩
  · rw [y1]; exact ⟨fun q => absurd q (by decide), fun q => by omega⟩
  · rw [y1]; exact ⟨fun q => absurd q (by decide), fun q => by omega⟩
  · rw [y1]; exact ⟨fun q => absurd q (by decide), fun q => by omega⟩
  · exact ⟨fun _ => z, fun _ => y1⟩
theorem q_tok2 {h k : zHp} {t : Nat → Nat} {n T i : Nat} (A : qyAt h k t n T i) : (k 0 15 = 2 ↔ qyK t n i < 24) ∧ (qyK t n i < 24 → k 0 16 = nI (qyRW (qyK t n i))) := by
  rcases A.2.2.2.2.2.2.2.2 with ⟨z, y1, y2⟩ | ⟨z1, z2, y1, y2⟩ | ⟨z, y1, -⟩ | ⟨z, y1⟩ | ⟨z, y1⟩
  · exact ⟨⟨fun _ => z, fun _ => y1⟩, fun _ => y2⟩
  · rw [y1]; exact ⟨⟨fun q => absurd q (by decide), fun q => by omega⟩, fun q => by omega⟩
  · rw [y1]; exact ⟨⟨fun q => absurd q (by decide), fun q => by omega⟩, fun q => by omega⟩
  · rw [y1]; exact ⟨⟨fun q => absurd q (by decide), fun q => by omega⟩, fun q => by omega⟩
  · rw [y1]; exact ⟨⟨fun q => absurd q (by decide), fun q => by omega⟩, fun q => by omega⟩
theorem q_tok3 {h k : zHp} {t : Nat → Nat} {n T i : Nat} (A : qyAt h k t n T i) : (k 0 15 = 3 ↔ qyK t n i = 34) ∧ (qyK t n i = 34 → k 0 16 = nI (qyV t n i) ∧ qyV t n i ≤ 9999) := by
  rcases A.2.2.2.2.2.2.2.2 with ⟨z, y1, y2⟩ | ⟨z1, z2, y1, y2⟩ | ⟨z, y1, y2⟩ | ⟨z, y1⟩ | ⟨z, y1⟩
  · rw [y1]; exact ⟨⟨fun q => absurd q (by decide), fun q => by omega⟩, fun q => by omega⟩
  · rw [y1]; exact ⟨⟨fun q => absurd q (by decide), fun q => by omega⟩, fun q => by omega⟩
  · exact ⟨⟨fun _ => z, fun _ => y1⟩, fun _ => y2⟩
  · rw [y1]; exact ⟨⟨fun q => absurd q (by decide), fun q => by omega⟩, fun q => by omega⟩
  · rw [y1]; exact ⟨⟨fun q => absurd q (by decide), fun q => by omega⟩, fun q => by omega⟩
-- the class expects a token
theorem q_kne {h k : zHp} {t : Nat → Nat} {n T i w : Nat} (A : qyAt h k t n T i) (hw : w < 100) : h 145 7 = nI w ↔ qyK t n i = w := by
  rw [A.2.2.1]
  have := qyK_le A
  exact nI_eq (by omega) (by omega)
theorem q_expY {h k : zHp} {t : Nat → Nat} {n T i w : Nat} (A : qyAt h k t n T i) (hw : w < 36) (e : qyK t n i = w) : ∃ h' k', f_X6_expect (nI w) h = some h' ∧ f_X11_reads k = some k' ∧ qyAt h' k' t n T (i + 1) ∧ qyAX h h' ∧ qyFM k k' := by
  obtain ⟨h', k', x1, x2, x3⟩ := q_adv A (by omega)
  refine ⟨h', k', ?_, x2, x3⟩
  unfold f_X6_expect
  rw [A.2.2.2.1.1, if_pos rfl, if_pos ((q_kne A (by omega)).mpr e), x1]; rfl
theorem q_expN {h k : zHp} {t : Nat → Nat} {n T i w : Nat} (A : qyAt h k t n T i) (hw : w < 36) (e : qyK t n i ≠ w) : ∃ h' k', f_X6_expect (nI w) h = some h' ∧ f_X11_errs (nI 1) k = some (qM, k') ∧ qyBad h' k' ∧ qyAX h h' ∧ (∀ a j, ¬(a = 0 ∧ (j = 30 ∨ j = 31)) → k' a j = k a j) := by
  obtain ⟨h', k', x1, x2, x3⟩ := q_failX A (f := 1) (by omega) (by omega)
  refine ⟨h', k', ?_, x2, x3⟩
  unfold f_X6_expect
  rw [A.2.2.2.1.1, if_pos rfl, if_neg (fun q => e ((q_kne A (by omega)).mp q))]
  have x1' : f_X6_fail 1 h = some h' := x1
  rw [x1']; rfl
-- numbers
theorem q_bnd {B v : Nat} (hB : B < 100000) (hv : v < 100000) : nI B - 1 < nI v ↔ B ≤ v := by
  have e : (nI B - 1).toInt = (B : Int) - 1 := pk_sub_toInt (b := 1) (by omega) (by omega)
  rw [fa_lt, e, nI_toInt (by omega)]
  omega
theorem q_isInB {B v : Nat} (hB : B < 100000) (hv : v < 100000) (k : zHp) : f_X11_isIn (nI v) (nI 0) (nI B - 1) k = some (nI (if v < B then 1 else 0), k) := by
  unfold f_X11_isIn
  rw [if_neg (show ¬ nI v < nI 0 from nI_nlt (Nat.zero_le v) (by omega))]
  by_cases z : v < B
  · rw [if_neg (fun q => by have := (q_bnd hB hv).mp q; omega), if_pos z]; rfl
  · rw [if_pos ((q_bnd hB hv).mpr (by omega)), if_neg z]; rfl
/-- a number below B, unlike another one -/
theorem q_num {h k : zHp} {t : Nat → Nat} {n T i B : Nat} (A : qyAt h k t n T i) (hB : B < 100000) (x : Int32) (hx : qyK t n i = 34 → qyV t n i < B → ¬ nI (qyV t n i) = x) : (∃ h' k', qyV t n i < B ∧ f_X6_expectNumber (nI B - 1) x h = some (nI (qyV t n i), h') ∧ f_X11_readNumber (nI 0) (nI B - 1) k = some (nI (qyV t n i), k') ∧ qyK t n i = 34 ∧ qyAt h' k' t n T (i + 1) ∧ qyAX h h' ∧ qyFM k k') ∨ (∃ v h' k', f_X6_expectNumber (nI B - 1) x h = some (v, h') ∧ f_X11_readNumber (nI 0) (nI B - 1) k = some (qM, k') ∧ qyBad h' k' ∧ qyAX h h' ∧ (∀ a j, ¬(a = 0 ∧ (j = 30 ∨ j = 31)) → k' a j = k a j)) := by
  have row := (A.2.2.2.2.1.2.2.2.2 i A.1).2.1
  have T1 := A.2.2.2.2.1.1
  have i400 : i ≤ 400 := Nat.le_trans A.1 T1
  have ev : h 148 (nI i).toNatClampNeg = nI (qyV t n i) := by rw [q_cl (by omega)]; exact row
  have start : f_X6_expectNumber (nI B - 1) x h = if qyK t n i = 34 then (if B ≤ qyV t n i then (f_X6_fail 2 h).bind fun x1 => some (nI (qyV t n i), x1) else if nI (qyV t n i) = x then (f_X6_fail 2 h).bind fun x1 => some (nI (qyV t n i), x1) else (f_X6_advance h).bind fun x2 => some (nI (qyV t n i), x2)) else (f_X6_fail 1 h).bind fun x3 => some (nI (qyV t n i), x3) := by
    unfold f_X6_expectNumber f_X6_expectNumber_46
    rw [A.2.2.2.1.1, if_pos rfl, A.2.1, q_ix (by omega) (by omega), q_lt, ev]
    by_cases z : qyK t n i = 34
    · have v9 := ((q_tok3 A).2 z).2
      rw [if_pos z, if_pos (show h 145 7 = (34 : Int32) from (q_kne A (w := 34) (by omega)).mpr z)]
      by_cases y : B ≤ qyV t n i
      · rw [if_pos y, if_pos ((q_bnd hB (by omega)).mpr y)]
      · rw [if_neg y, if_neg (fun q => y ((q_bnd hB (by omega)).mp q))]
    · rw [if_neg z, if_neg (show ¬ h 145 7 = (34 : Int32) from fun q => z ((q_kne A (w := 34) (by omega)).mp q))]
  unfold f_X11_readNumber
  by_cases z : qyK t n i = 34
  · obtain ⟨v1, v2⟩ := (q_tok3 A).2 z
    rw [if_pos z] at start
    rw [if_pos ((q_tok3 A).1.mpr z), v1, q_isInB hB (by omega), q_bd]
    by_cases y : qyV t n i < B
    · obtain ⟨h', k', x1, x2, x3⟩ := q_adv A (by omega)
      refine Or.inl ⟨h', k', y, ?_, ?_, z, x3⟩
      · rw [start, if_neg (by omega), if_neg (hx z y), x1]; rfl
      · rw [if_pos y]
        dsimp only
        rw [if_neg (show ¬ nI 1 = 0 by decide), q_lt, x2, q_bd]
        exact congrArg (fun z => some (z, k')) v1
    · obtain ⟨h', k', x1, x2, x3⟩ := q_failX A (f := 2) (by omega) (by omega)
      have x1' : f_X6_fail 2 h = some h' := x1
      have x2' : f_X11_errs 2 k = some (qM, k') := x2
      refine Or.inr ⟨nI (qyV t n i), h', k', ?_, ?_, x3⟩
      · rw [start, if_pos (by omega), x1', q_bd]
      · rw [if_neg y]
        dsimp only
        rw [if_pos (show nI 0 = 0 from rfl), x2', q_bd]
  · rw [if_neg z] at start
    obtain ⟨h', k', x1, x2, x3⟩ := q_failX A (f := 1) (by omega) (by omega)
    have x1' : f_X6_fail 1 h = some h' := x1
    have x2' : f_X11_errs 1 k = some (qM, k') := x2
    refine Or.inr ⟨nI (qyV t n i), h', k', ?_, ?_, x3⟩
    · rw [start, x1', q_bd]
    · rw [if_neg (fun q => z ((q_tok3 A).1.mp q)), x2', q_bd]
end Qparse
