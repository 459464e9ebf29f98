/-! THE TAPE's tokens, class -/
section Qsplit
/-- where token i begins -/
def qyP (t : Nat → Nat) (n i : Nat) : Nat := qLxP t n (qSp t n i)
def qyTape (h : zHp) (t : Nat → Nat) (n : Nat) : Prop := n ≤ 400 ∧ h 145 1 = nI n ∧ ∀ i, i < n → t i < 256 ∧ h 146 i = nI (t i)
def qyRow (h : zHp) (t : Nat → Nat) (n i : Nat) : Prop := h 147 i = nI (qTkK t n (qyP t n i)) ∧ h 148 i = nI (qTkV t n (qyP t n i)) ∧ h 149 i = nI (qyP t n i)
theorem q_put {h : zHp} {m : Nat} (a b c : Int32) (hm : m ≤ 400) (e : h 145 5 = nI m) : f_X6_put a b c h = some (zst (zst (zst (zst h 147 m a) 148 m b) 149 m c) 145 5 (nI (m + 1))) := by
  unfold f_X6_put
  have s1 : ∀ v, zst h 147 m v 145 5 = nI m := fun v => by rw [q_st_c (by omega)]; exact e
  have s2 : ∀ v w, zst (zst h 147 m v) 148 m w 145 5 = nI m := fun v w => by rw [q_st_c (by omega)]; exact s1 v
  have s3 : ∀ v w x, zst (zst (zst h 147 m v) 148 m w) 149 m x 145 5 = nI m := fun v w x => by rw [q_st_c (by omega)]; exact s2 v w
  rw [e, q_ifF (qnL 400 hm (by omega)), q_ix (by omega) (by omega), q_lt, q_cl (by omega), s1, q_ix (by omega) (by omega), q_lt, q_cl (by omega), s2, q_ix (by omega) (by omega), q_lt, q_cl (by omega), s3, q_lt, show (1 : Int32) = nI 1 from rfl, nI_add]
theorem qDgt_D {t : Nat → Nat} {p : Nat} : True := trivial
/-- a token is put in -/
theorem q_token {h : zHp} {t : Nat → Nat} {n p m : Nat} (A : qyTape h t n) (hp : p < n) (h0 : qSo (t p) ≠ 0) (hm : m ≤ 400) (e5 : h 145 5 = nI m) : f_X6_token (nI p) (nI (qSo (t p))) h = some (zst (zst (zst (zst h 147 m (nI (qTkK t n p))) 148 m (nI (qTkV t n p))) 149 m (nI p)) 145 5 (nI (m + 1))) := by
  obtain ⟨A1, A2, A3⟩ := A
  obtain ⟨t1, t2⟩ := A3 p hp
  have s3 := qSo_le (t p)
  have l1 : (1 : Int32) = nI 1 := rfl
  have np : ¬ n ≤ p := by omega
  unfold f_X6_token
  rw [l1, nI_add, q_lt]
  by_cases z : qSo (t p) = 3
  · have eK : qTkK t n p = if qSg (t p) < 10 then 24 + qSg (t p) else 35 := by
      unfold qTkK
      rw [if_neg np, if_neg (by omega), if_neg (by omega)]
    have eV : qTkV t n p = 0 := by
      unfold qTkV
      rw [if_neg np, if_neg (by omega)]
    rw [eK, eV, q_ifT (show nI (qSo (t p)) = (3 : Int32) by rw [z]; rfl), q_ix (by omega) (by omega), q_cl (by omega), t2, q_sign t1, q_bd]
    by_cases y : qSg (t p) < 10
    · rw [if_pos y, if_pos y]
      dsimp only
      rw [if_neg (nI_pos (by omega)), show (24 : Int32) = nI 24 from rfl, nI_add, q_put _ _ _ hm e5, q_bd]; rfl
    · rw [if_neg y, if_neg y]
      dsimp only
      rw [if_pos (show (-1 : Int32) < 0 by decide), q_put _ _ _ hm e5, q_bd]; rfl
  · have e3 : ¬ nI (qSo (t p)) = (3 : Int32) := fun q => z ((nI_eq (b := 3) (by omega) (by omega)).mp q)
    rw [if_neg e3]
    have hE := qLxE_le (t := t) (n := n) hp
    have fin : f_X6_token_78 (nI p) (nI (qSo (t p))) (nI (qLxE t n p)) h = some (zst (zst (zst (zst h 147 m (nI (qTkK t n p))) 148 m (nI (qTkV t n p))) 149 m (nI p)) 145 5 (nI (m + 1))) := by
      unfold f_X6_token_78
      by_cases y : qSo (t p) = 1
      · have eK : qTkK t n p = if qWrd t p (qLxE t n p) < 24 then qWrd t p (qLxE t n p) else 35 := by
          unfold qTkK
          rw [if_neg np, if_pos y]
        have eV : qTkV t n p = 0 := by
          unfold qTkV
          rw [if_neg np, if_neg (by omega)]
        rw [eK, eV, if_pos (show nI (qSo (t p)) = (1 : Int32) by rw [y]; rfl), q_wordOf A1 hE.2 (by omega) A3, q_bd, q_put _ _ _ hm e5, q_bd]; rfl
      · have y2 : qSo (t p) = 2 := by omega
        have D : ∀ i, p ≤ i → i < qLxE t n p → 48 ≤ t i ∧ t i ≤ 57 := by
          intro i i1 i2
          have := qLxE_in z i1 i2
          rw [y2] at this
          unfold qSo at this
          split at this
          · cases this
          split at this
          · cases this
          split at this
          · assumption
          · cases this
        have eV : qTkV t n p = qDgt t p (min (qLxE t n p - p) 4) := by
          unfold qTkV
          rw [if_neg np, if_pos y2]
        have dg := q_digits (h := h) (t := t) (n := n) (p := p) (m := min (qLxE t n p - p) 4) A1 (by omega) (by omega) A3 (fun i i1 i2 => D i i1 (by omega))
        have em : (if nI p + (4 : Int32) < nI (qLxE t n p) then nI p + (4 : Int32) else nI (qLxE t n p)) = nI (p + min (qLxE t n p - p) 4) := by
          rw [show (4 : Int32) = nI 4 from rfl, nI_add]
          by_cases x : p + 4 < qLxE t n p
          · rw [if_pos (nI_lt x (by omega)), Nat.min_eq_right (by omega)]
          · rw [if_neg (nI_nlt (by omega) (by omega)), Nat.min_eq_left (by omega), show p + (qLxE t n p - p) = qLxE t n p by omega]
        have k113 : ∀ s : Int32, f_X6_token_113 (nI p) (nI (qLxE t n p)) s h = some (zst (zst (zst (zst h 147 m s) 148 m (nI (qTkV t n p))) 149 m (nI p)) 145 5 (nI (m + 1))) := by
          intro s
          unfold f_X6_token_113
          rw [em, dg, q_bd, eV, q_put _ _ _ hm e5, q_bd]
        have n1 : ¬ nI (qSo (t p)) = (1 : Int32) := fun q => y ((nI_eq (b := 1) (by omega) (by omega)).mp q)
        rw [if_neg n1, q_sub (by omega)]
        by_cases x : qLxE t n p - p ≤ 4
        · have eK : qTkK t n p = 34 := by
            unfold qTkK
            rw [if_neg np, if_neg y, if_pos y2, if_pos x]
          rw [if_neg (show ¬ (4 : Int32) < nI (qLxE t n p - p) from qnL 4 x (by omega)), k113, eK]; rfl
        · have eK : qTkK t n p = 35 := by
            unfold qTkK
            rw [if_neg np, if_neg y, if_pos y2, if_neg x]
          rw [if_pos (show (4 : Int32) < nI (qLxE t n p - p) from qlL 4 (by omega) (by omega)), k113, eK]; rfl
    rw [← fin]
    unfold f_X6_token_44_lp
    refine q_for (S := fun j => (nI p, nI (qSo (t p)), nI (p + 1 + j), h)) (qLxE t n p - (p + 1)) (fun j hj rec => ?_) (fun rec => ?_) zN (by rw [q_zN]; omega)
    · obtain ⟨a1, a2⟩ := A3 (p + 1 + j) (by omega)
      have es := qLxE_in (t := t) (n := n) z (show p ≤ p + 1 + j by omega) (show p + 1 + j < qLxE t n p by omega)
      simp only [f_X6_token_44]
      rw [A2, q_ifT (nI_lt (show p + 1 + j < n by omega) (by omega)), q_ifT (qlR 400 (show p + 1 + j < 400 by omega) (by omega)), q_ix (by omega) (by omega), q_cl (by omega), a2, q_so a1, q_bd, es]
      dsimp only
      rw [q_ifT rfl, l1, nI_add, Nat.add_assoc]
    · simp only [f_X6_token_44]
      rw [show p + 1 + (qLxE t n p - (p + 1)) = qLxE t n p by omega, A2]
      by_cases y : qLxE t n p < n
      · obtain ⟨a1, a2⟩ := A3 _ y
        have es := qLxE_out z hp y
        rw [q_ifT (nI_lt y (by omega)), q_ifT (qlR 400 (show qLxE t n p < 400 by omega) (by omega)), q_ix (by omega) (by omega), q_cl (by omega), a2, q_so a1, q_bd]
        dsimp only
        have q3 := qSo_le (t (qLxE t n p))
        rw [q_ifne es (by omega) (by omega)]
      · rw [q_ifF (nI_nlt (by omega) (by omega))]
def qyTk (h : zHp) (t : Nat → Nat) (n T : Nat) : Prop := T ≤ 400 ∧ h 145 5 = nI (T + 1) ∧ (∀ i, i < T → qyP t n i < n) ∧ qyP t n T = n ∧ ∀ i, i ≤ T → qyRow h t n i
abbrev qyOn (t : Nat → Nat) (x : Nat) : Prop := 0 < x ∧ (qSo (t x) = 1 ∨ qSo (t x) = 2) ∧ qSo (t x) = qSo (t (x - 1))
def qyFr (h h' : zHp) : Prop := (∀ a, a ≠ 145 → a ≠ 147 → a ≠ 148 → a ≠ 149 → h' a = h a) ∧ ∀ j, j ≠ 5 → j ≠ 6 → j ≠ 7 → h' 145 j = h 145 j
theorem q_split {h : zHp} {t : Nat → Nat} {n : Nat} (A : qyTape h t n) : ∃ T h', f_X6_split h = some h' ∧ qyTk h' t n T ∧ qyFr h h' ∧ h' 145 6 = nI 0 ∧ h' 145 7 = nI (qTkK t n (qyP t n 0)) := by
  obtain ⟨A1, A2, A3⟩ := id A
  have l1 : (1 : Int32) = nI 1 := rfl
  unfold f_X6_split f_X6_split_7_lp
  rw [q_lt]
  refine q_exit (b := fun k7 v => f_X6_split_7 k7 v.1 v.2) (I := fun i v => ∃ m h', v = (nI i, h') ∧ m ≤ i ∧ h' 145 5 = nI m ∧ qyFr h h' ∧ (∀ j, j < m → qyP t n j < n ∧ qyRow h' t n j) ∧ (∀ x, i ≤ x → x < qSp t n m → qyOn t x) ∧ (∀ j, qSp t n m ≤ j → j < i → qSo (t j) = 0) ∧ (qSp t n m < n → ¬ qyOn t (qSp t n m))) n (Q := fun x => ∃ T h', x = some h' ∧ qyTk h' t n T ∧ qyFr h h' ∧ h' 145 6 = nI 0 ∧ h' 145 7 = nI (qTkK t n (qyP t n 0))) (fun i v hi hI => Or.inl ?_) (fun v hI => ?_) _ ⟨0, _, rfl, Nat.le_refl 0, q_st_s, ⟨fun a a1 a2 a3 a4 => q_st_c a1, fun j j1 j2 j3 => q_st_i j1⟩, fun j hj => absurd hj (Nat.not_lt_zero j), fun x _ hx => absurd hx (Nat.not_lt_zero x), fun j _ hj => absurd hj (Nat.not_lt_zero j), fun _ q => absurd q.1 (Nat.lt_irrefl 0)⟩ zN (by rw [q_zN]; omega)
  · obtain ⟨m, h', rfl, m1, m2, fr, m3, m4, m5, m6⟩ := hI
    have A' : qyTape h' t n := ⟨A1, by rw [fr.2 1 (by omega) (by omega) (by omega)]; exact A2, fun j hj => by rw [fr.1 146 (by omega) (by omega) (by omega) (by omega)]; exact A3 j hj⟩
    obtain ⟨a1, a2⟩ := A'.2.2 i hi
    have s3 := qSo_le (t i)
    have sp := qSp_le t n m
    -- what a place asks
    have one : ∀ rec : Int32 × zHp → Option zHp, f_X6_split_7 rec (nI i) h' = if qSo (t i) = 0 then rec (nI (i + 1), h') else if qyOn t i then rec (nI (i + 1), h') else (f_X6_token (nI i) (nI (qSo (t i))) h').bind fun x1 => rec (nI (i + 1), x1) := by
      intro rec
      have e66 : ∀ s : Int32, s = 0 ∨ s = 1 → f_X6_split_66 rec (nI i) (nI (qSo (t i))) s h' = if qSo (t i) = 0 then rec (nI (i + 1), h') else if s = 1 then rec (nI (i + 1), h') else (f_X6_token (nI i) (nI (qSo (t i))) h').bind fun x1 => rec (nI (i + 1), x1) := by
        intro s hs
        unfold f_X6_split_66
        rw [l1, nI_add]
        by_cases z : qSo (t i) = 0
        · rw [if_pos z, if_pos (show nI (qSo (t i)) = 0 by rw [z]; rfl)]
        · rw [if_neg z, if_neg (nI_ne0 (by omega) (by omega))]
          rcases hs with rfl | rfl
          · rw [if_pos rfl, if_neg (show ¬ (0 : Int32) = nI 1 by decide)]
          · rw [if_neg (show ¬ (1 : Int32) = 0 by decide), if_pos (show (1 : Int32) = nI 1 from rfl)]
      have e46 : 0 < i → (qSo (t i) = 1 ∨ qSo (t i) = 2) → f_X6_split_46 rec (nI i) (nI (qSo (t i))) h' = if qSo (t i) = 0 then rec (nI (i + 1), h') else if qyOn t i then rec (nI (i + 1), h') else (f_X6_token (nI i) (nI (qSo (t i))) h').bind fun x1 => rec (nI (i + 1), x1) := by
        intro i0 h12
        obtain ⟨b1, b2⟩ := A'.2.2 (i - 1) (by omega)
        have s4 := qSo_le (t (i - 1))
        unfold f_X6_split_46
        rw [l1, q_sub (by omega), q_ix (by omega) (by omega), q_cl (by omega), b2, q_so b1, q_bd]
        dsimp only
        by_cases z : qSo (t i) = qSo (t (i - 1))
        · rw [q_ifeq z, e66 (nI 1) (Or.inr rfl), if_pos (show nI 1 = 1 from rfl), if_pos (show qyOn t i from ⟨i0, h12, z⟩)]
        · rw [q_ifne z (by omega) (by omega), e66 _ (Or.inl rfl), if_neg (show ¬ (0 : Int32) = 1 by decide), if_neg (show ¬ qyOn t i from fun q => z q.2.2)]
      have non : ¬(0 < i ∧ (qSo (t i) = 1 ∨ qSo (t i) = 2)) → f_X6_split_66 rec (nI i) (nI (qSo (t i))) 0 h' = if qSo (t i) = 0 then rec (nI (i + 1), h') else if qyOn t i then rec (nI (i + 1), h') else (f_X6_token (nI i) (nI (qSo (t i))) h').bind fun x1 => rec (nI (i + 1), x1) := by
        intro q
        rw [e66 0 (Or.inl rfl), if_neg (show ¬ (0 : Int32) = 1 by decide), if_neg (show ¬ qyOn t i from fun y => q ⟨y.1, y.2.1⟩)]
      unfold f_X6_split_7
      rw [A'.2.1, q_ifT (nI_lt hi (by omega)), q_ifT (qlR 400 (show i < 400 by omega) (by omega)), q_ix (by omega) (by omega), q_cl (by omega), a2, q_so a1, q_bd]
      dsimp only
      by_cases i0 : 0 < i
      · rw [q_ifT (qlL 0 i0 (by omega))]
        by_cases c1 : qSo (t i) = 1
        · rw [q_ifT (show nI (qSo (t i)) = (1 : Int32) by rw [c1]; rfl)]; exact e46 i0 (Or.inl c1)
        · rw [q_ifF (show ¬ nI (qSo (t i)) = (1 : Int32) from fun q => c1 ((nI_eq (b := 1) (by omega) (by omega)).mp q))]
          by_cases c2 : qSo (t i) = 2
          · rw [q_ifT (show nI (qSo (t i)) = (2 : Int32) by rw [c2]; rfl)]; exact e46 i0 (Or.inr c2)
          · rw [q_ifF (show ¬ nI (qSo (t i)) = (2 : Int32) from fun q => c2 ((nI_eq (b := 2) (by omega) (by omega)).mp q))]
            exact non (fun q => q.2.elim c1 c2)
      · rw [q_ifF (qnL 0 (by omega) (by omega))]
        exact non (fun q => i0 q.1)
    by_cases z0 : qSo (t i) = 0
    · refine ⟨(nI (i + 1), h'), fun rec => (one rec).trans (if_pos z0), m, h', rfl, by omega, m2, fr, m3, fun x hx hx2 => m4 x (by omega) hx2, fun j hj hj2 => ?_, m6⟩
      by_cases y : j = i
      · rw [y]; exact z0
      · exact m5 j hj (by omega)
    · by_cases zo : qyOn t i
      · have hs : i < qSp t n m := by
          rcases Nat.lt_trichotomy (qSp t n m) i with z | z | z
          · have := m5 (i - 1) (by omega) (by omega)
            obtain ⟨y1, y2, y3⟩ := zo
            omega
          · rw [z] at m6
            exact absurd zo (m6 hi)
          · exact z
        exact ⟨(nI (i + 1), h'), fun rec => (one rec).trans (by rw [if_neg z0, if_pos zo]), m, h', rfl, by omega, m2, fr, m3, fun x hx hx2 => m4 x (by omega) hx2, fun j hj hj2 => by omega, m6⟩
      · have hs : qSp t n m ≤ i := by
          rcases Nat.lt_or_ge i (qSp t n m) with z | z
          · exact absurd (m4 i (Nat.le_refl i) z) zo
          · exact z
        have eP : qyP t n m = i := qLxP_is hs (by omega) m5 (fun _ => z0)
        have eN : qSp t n (m + 1) = qLxE t n i := by
          show qTkN t n (qyP t n m) = _
          rw [eP]
          unfold qTkN
          rw [if_neg (by omega)]
        have hE := qLxE_le (t := t) (n := n) hi
        have tk := q_token A' hi z0 (show m ≤ 400 by omega) m2
        refine ⟨_, fun rec => (one rec).trans (by rw [if_neg z0, if_neg zo, tk, q_bd]), m + 1, _, rfl, by omega, q_st_s, ⟨fun a b1 b2 b3 b4 => ?_, fun j j1 j2 j3 => ?_⟩, fun j hj => ?_, ?_, ?_, ?_⟩
        · rw [q_st_c b1, q_st_c b4, q_st_c b3, q_st_c b2]; exact fr.1 a b1 b2 b3 b4
        · rw [q_st_i j1, q_st_c (by omega), q_st_c (by omega), q_st_c (by omega)]; exact fr.2 j j1 j2 j3
        · by_cases y : j = m
          · subst y
            refine ⟨by omega, ?_, ?_, ?_⟩
            · rw [q_st_c (by omega), q_st_c (by omega), q_st_c (by omega), q_st_s, eP]
            · rw [q_st_c (by omega), q_st_c (by omega), q_st_s, eP]
            · rw [q_st_c (by omega), q_st_s, eP]
          · obtain ⟨y1, y2, y3, y4⟩ := m3 j (by omega)
            refine ⟨y1, ?_, ?_, ?_⟩
            · rw [q_st_c (by omega), q_st_c (by omega), q_st_c (by omega), q_st_i y]; exact y2
            · rw [q_st_c (by omega), q_st_c (by omega), q_st_i y, q_st_c (by omega)]; exact y3
            · rw [q_st_c (by omega), q_st_i y, q_st_c (by omega), q_st_c (by omega)]; exact y4
        · intro x x1 x2
          rw [eN] at x2
          by_cases y : qSo (t i) = 3
          · unfold qLxE at x2
            rw [if_pos y] at x2
            omega
          · have y1 := qLxE_in (t := t) (n := n) y (show i ≤ x by omega) x2
            have y2 := qLxE_in (t := t) (n := n) y (show i ≤ x - 1 by omega) (by omega)
            exact ⟨by omega, by omega, by omega⟩
        · intro j j1 j2
          rw [eN] at j1
          omega
        · rw [eN]
          intro hn q
          obtain ⟨q1, q2, q3⟩ := q
          by_cases y : qSo (t i) = 3
          · have : qLxE t n i = i + 1 := by unfold qLxE; rw [if_pos y]
            rw [this, Nat.add_sub_cancel] at q3
            rw [this] at q2
            omega
          · have y1 := qLxE_out (t := t) (n := n) y hi hn
            have y2 := qLxE_in (t := t) (n := n) y (show i ≤ qLxE t n i - 1 by omega) (by omega)
            omega
  · obtain ⟨m, h', rfl, m1, m2, fr, m3, m4, m5, m6⟩ := hI
    have e1 : h' 145 1 = nI n := by rw [fr.2 1 (by omega) (by omega) (by omega)]; exact A2
    have sp := qSp_le t n m
    have eP : qyP t n m = n := qLxP_is sp (Nat.le_refl n) m5 (fun q => absurd q (Nat.lt_irrefl n))
    have eK : qTkK t n (qyP t n m) = 36 := by rw [eP]; unfold qTkK; rw [if_pos (Nat.le_refl n)]
    have eV : qTkV t n (qyP t n m) = 0 := by rw [eP]; unfold qTkV; rw [if_pos (Nat.le_refl n)]
    obtain ⟨h2, hh2⟩ : ∃ h2, h2 = zst (zst (zst (zst h' 147 m (nI 36)) 148 m (nI 0)) 149 m (nI n)) 145 5 (nI (m + 1)) := ⟨_, rfl⟩
    have rows : ∀ i, i ≤ m → qyRow h2 t n i := by
      intro i hi
      rw [hh2]
      by_cases y : i = m
      · subst y
        refine ⟨?_, ?_, ?_⟩
        · rw [q_st_c (by omega), q_st_c (by omega), q_st_c (by omega), q_st_s, eK]
        · rw [q_st_c (by omega), q_st_c (by omega), q_st_s, eV]
        · rw [q_st_c (by omega), q_st_s, eP]
      · obtain ⟨y1, y2, y3, y4⟩ := m3 i (by omega)
        refine ⟨?_, ?_, ?_⟩
        · rw [q_st_c (by omega), q_st_c (by omega), q_st_c (by omega), q_st_i y]; exact y2
        · rw [q_st_c (by omega), q_st_c (by omega), q_st_i y, q_st_c (by omega)]; exact y3
        · rw [q_st_c (by omega), q_st_i y, q_st_c (by omega), q_st_c (by omega)]; exact y4
    have e147 : h2 147 0 = nI (qTkK t n (qyP t n 0)) := (rows 0 (Nat.zero_le m)).1
    have fin : ∀ rec : Int32 × zHp → Option zHp, f_X6_split_7 rec (nI n) h' = some (zst (zst h2 145 6 (nI 0)) 145 7 (nI (qTkK t n (qyP t n 0)))) := by
      intro rec
      unfold f_X6_split_7
      rw [e1, q_ifF (nI_nlt (Nat.le_refl n) (by omega))]
      unfold f_X6_split_87
      rw [e1, show (36 : Int32) = nI 36 from rfl, show (0 : Int32) = nI 0 from rfl, q_put _ _ _ (show m ≤ 400 by omega) m2, q_bd, ← hh2, q_lt, q_ix (by omega) (by omega), q_lt, q_cl (by omega), q_st_c (show (147 : Nat) ≠ 145 by omega), e147]
    refine ⟨_, fin, m, _, rfl, ⟨by omega, ?_, fun i hi => (m3 i hi).1, eP, fun i hi => ?_⟩, ⟨fun a a1 a2 a3 a4 => ?_, fun j j1 j2 j3 => ?_⟩, ?_, q_st_s⟩
    · rw [q_st_i (by omega), q_st_i (by omega), hh2, q_st_s]
    · obtain ⟨r1, r2, r3⟩ := rows i hi
      refine ⟨?_, ?_, ?_⟩
      · rw [q_st_c (by omega), q_st_c (by omega)]; exact r1
      · rw [q_st_c (by omega), q_st_c (by omega)]; exact r2
      · rw [q_st_c (by omega), q_st_c (by omega)]; exact r3
    · rw [q_st_c a1, q_st_c a1, hh2, q_st_c a1, q_st_c a4, q_st_c a3, q_st_c a2]; exact fr.1 a a1 a2 a3 a4
    · rw [q_st_i j3, q_st_i j2, hh2, q_st_i j1, q_st_c (by omega), q_st_c (by omega), q_st_c (by omega)]; exact fr.2 j j1 j2 j3
    · rw [q_st_i (by omega), q_st_s]
end Qsplit
