/-! THE LAW's codes: both put one in -/
section Qcodes
theorem qTy_1 (o v : Nat → Int32) (i m : Nat) (st : List Bool) : qTy o v i (m + 1) st = 
    if o i = 0 ∨ o i = 1 then (if st.length < 26 then qTy o v (i + 1) m (false :: st) else none)
    else if o i = 9 then (match st with
      | true :: r => qTy o v (i + 1) m (true :: r)
      | _ => none)
    else if o i = 10 ∨ o i = 11 then (match st with
      | true :: true :: r => qTy o v (i + 1) m (true :: r)
      | _ => none)
    else if o i = 6 ∨ o i = 7 ∨ o i = 8 then (match st with
      | _ :: _ :: r => qTy o v (i + 1) m (true :: r)
      | _ => none)
    else if o i = 5 then (match st with
      | _ :: _ :: r => if 0 < i ∧ o (i - 1) = 0 ∧ v (i - 1) ≠ 0 then qTy o v (i + 1) m (false :: r) else none
      | _ => none)
    else (match st with
      | _ :: _ :: r => qTy o v (i + 1) m (false :: r)
      | _ => none) := rfl
theorem qTy_app {o v : Nat → Int32} : ∀ (n m i : Nat) (st : List Bool), qTy o v i (n + m) st = (qTy o v i n st).bind (fun s => qTy o v (i + n) m s)
  | 0, m, i, st => by rw [Nat.zero_add]; rfl
  | n + 1, m, i, st => by
    have ih : ∀ s, qTy o v (i + 1) (n + m) s = (qTy o v (i + 1) n s).bind (fun s => qTy o v (i + (n + 1)) m s) := fun s => by
      rw [qTy_app n m (i + 1) s, show i + 1 + n = i + (n + 1) by omega]
    rw [show n + 1 + m = n + m + 1 by omega]
    rw [qTy_1, qTy_1]
    by_cases c1 : o i = 0 ∨ o i = 1
    · rw [if_pos c1, if_pos c1]
      by_cases c2 : st.length < 26
      · rw [if_pos c2, if_pos c2]; exact ih _
      · rw [if_neg c2, if_neg c2]; rfl
    rw [if_neg c1, if_neg c1]
    by_cases c3 : o i = 9
    · rw [if_pos c3, if_pos c3]
      rcases st with _ | ⟨_ | _, r⟩
      · rfl
      · rfl
      · exact ih _
    rw [if_neg c3, if_neg c3]
    by_cases c4 : o i = 10 ∨ o i = 11
    · rw [if_pos c4, if_pos c4]
      rcases st with _ | ⟨_ | _, _ | ⟨_ | _, r⟩⟩
      · rfl
      · rfl
      · rfl
      · rfl
      · rfl
      · rfl
      · exact ih _
    rw [if_neg c4, if_neg c4]
    by_cases c5 : o i = 6 ∨ o i = 7 ∨ o i = 8
    · rw [if_pos c5, if_pos c5]
      rcases st with _ | ⟨_, _ | ⟨_, r⟩⟩
      · rfl
      · rfl
      · exact ih _
    rw [if_neg c5, if_neg c5]
    by_cases c6 : o i = 5
    · rw [if_pos c6, if_pos c6]
      rcases st with _ | ⟨_, _ | ⟨_, r⟩⟩
      · rfl
      · rfl
      · dsimp only
        by_cases c7 : 0 < i ∧ o (i - 1) = 0 ∧ v (i - 1) ≠ 0
        · rw [if_pos c7, if_pos c7]; exact ih _
        · rw [if_neg c7, if_neg c7]; rfl
    rw [if_neg c6, if_neg c6]
    rcases st with _ | ⟨_, _ | ⟨_, r⟩⟩
    · rfl
    · rfl
    · exact ih _
/-- the draft's codes from a on make st of st0 -/
def qyTy (k : zHp) (a : Nat) (st0 st : List Bool) (s : Nat) : Prop := a ≤ s ∧ qTy (fun i => k 14 (800 + i)) (fun i => k 15 (800 + i)) a (s - a) st0 = some st
theorem qyTy_0 (k : zHp) (a : Nat) (st : List Bool) : qyTy k a st st a := ⟨Nat.le_refl a, by rw [Nat.sub_self]; rfl⟩
theorem qyTy_c {k k' : zHp} {a s : Nat} {st0 st : List Bool} (Y : qyTy k a st0 st s) (e : ∀ i, i < s → k' 14 (800 + i) = k 14 (800 + i) ∧ k' 15 (800 + i) = k 15 (800 + i)) : qyTy k' a st0 st s := by
  obtain ⟨y1, y2⟩ := Y
  refine ⟨y1, ?_⟩
  rw [← y2]
  exact qTy_c _ _ _ (fun j _ hj => e j (by omega))
theorem qyTy_s {k : zHp} {a s : Nat} {st0 st st' : List Bool} (Y : qyTy k a st0 st s) (h : qTy (fun i => k 14 (800 + i)) (fun i => k 15 (800 + i)) s 1 st = some st') : qyTy k a st0 st' (s + 1) := by
  obtain ⟨y1, y2⟩ := Y
  refine ⟨by omega, ?_⟩
  rw [show s + 1 - a = (s - a) + 1 by omega, qTy_app, y2, q_bd, show a + (s - a) = s by omega]; exact h
/-- both have the same s codes -/
def qyCo (h k : zHp) (s : Nat) : Prop := h 150 6 = nI s ∧ k 0 26 = nI s ∧ ∀ i, i < s → qCode (h 155 i) (k 14 (800 + i)) (k 15 (800 + i))
/-- what codes leave -/
def qyGX (h h' : zHp) (s : Nat) : Prop := (∀ a, a ≠ 145 → a ≠ 150 → a ≠ 155 → h' a = h a) ∧ (∀ j, j ≠ 6 → j ≠ 7 → j ≠ 12 → j ≠ 13 → h' 145 j = h 145 j) ∧ (∀ j, j ≠ 6 → h' 150 j = h 150 j) ∧ ∀ i, i < s → h' 155 i = h 155 i
def qyFL (k k' : zHp) (s : Nat) : Prop := ∀ a j, ¬(a = 0 ∧ ((13 ≤ j ∧ j ≤ 16) ∨ j = 26 ∨ j = 30 ∨ j = 31)) → ¬((a = 14 ∨ a = 15) ∧ 800 + s ≤ j) → a ≠ a + 1 → k' a j = k a j
theorem qyGX_rf (h : zHp) (s : Nat) : qyGX h h s := ⟨fun _ _ _ _ => rfl, fun _ _ _ _ _ => rfl, fun _ _ => rfl, fun _ _ => rfl⟩
theorem qyGX_tr {h h' h'' : zHp} {s s' : Nat} (a : qyGX h h' s) (b : qyGX h' h'' s') (hs : s ≤ s') : qyGX h h'' s := ⟨fun x p q r => (b.1 x p q r).trans (a.1 x p q r), fun j p q r z => (b.2.1 j p q r z).trans (a.2.1 j p q r z), fun j p => (b.2.2.1 j p).trans (a.2.2.1 j p), fun i hi => (b.2.2.2 i (by omega)).trans (a.2.2.2 i hi)⟩
theorem qyAX.gx {h h' : zHp} (a : qyAX h h') (s : Nat) : qyGX h h' s := ⟨fun x p _ _ => a.1 x p, a.2, fun j _ => by rw [a.1 150 (by omega)], fun i _ => by rw [a.1 155 (by omega)]⟩
theorem qyGX.fx {h h' : zHp} {s : Nat} (a : qyGX h h' s) : qyFX h h' := ⟨fun x p q _ _ => a.1 x p (by omega) (by omega), a.2.1, by rw [a.1 157 (by omega) (by omega) (by omega)]⟩
theorem qyFL_rf (k : zHp) (s : Nat) : qyFL k k s := fun _ _ _ _ _ => rfl
theorem qyFL_tr {k k' k'' : zHp} {s s' : Nat} (x : qyFL k k' s) (y : qyFL k' k'' s') (hs : s ≤ s') : qyFL k k'' s := fun a j p q r => (y a j p (by omega) r).trans (x a j p q r)
theorem qyFE.fl {k k' : zHp} (x : qyFE k k') (s : Nat) : qyFL k k' s := fun a j p _ _ => x a j (by omega)
theorem qyCo_ax {h h' k k' : zHp} {s : Nat} (C : qyCo h k s) (X : qyAX h h') (M : qyFE k k') : qyCo h' k' s := by
  obtain ⟨c1, c2, c3⟩ := C
  refine ⟨by rw [X.1 150 (by omega)]; exact c1, by rw [M 0 26 (by omega)]; exact c2, fun i hi => ?_⟩
  rw [X.1 155 (by omega), M 14 _ (by omega), M 15 _ (by omega)]
  exact c3 i hi
/-- one code more -/
theorem q_emit {h k : zHp} {s : Nat} (C : qyCo h k s) (hs : s < 400) {p o a : Int32} (hc : qCode p o a) : ∃ h' k', f_X1_add 150 p h = some h' ∧ f_X11_emits o a k = some k' ∧ qyCo h' k' (s + 1) ∧ k' 14 (800 + s) = o ∧ k' 15 (800 + s) = a ∧ (∀ x, x ≠ 150 → x ≠ 155 → h' x = h x) ∧ (∀ j, j ≠ 6 → h' 150 j = h 150 j) ∧ (∀ i, i ≠ s → h' 155 i = h 155 i) ∧ (∀ x j, ¬(x = 0 ∧ j = 26) → ¬((x = 14 ∨ x = 15) ∧ j = 800 + s) → k' x j = k x j) := by
  obtain ⟨c1, c2, c3⟩ := C
  have l1 : (1 : Int32) = nI 1 := rfl
  refine ⟨zst (zst h 155 s p) 150 6 (nI (s + 1)), zst (zst (zst k 14 (800 + s) o) 15 (800 + s) a) 0 26 (nI (s + 1)), ?_, ?_, ⟨q_st_s, q_st_s, fun i hi => ?_⟩, ?_, ?_, fun x q r => by rw [q_st_c q, q_st_c r], fun j hj => by rw [q_st_i hj, q_st_c (by omega)], fun i hi => by rw [q_st_c (by omega), q_st_i hi], fun x j q r => ?_⟩
  · unfold f_X1_add
    rw [c1, if_pos (show nI s < (400 : Int32) from qlR 400 hs (by omega)), q_ix (by omega) (by omega), q_lt, q_lt, q_cl (by omega), q_st_c (by omega), c1, l1, nI_add]
  · unfold f_X11_emits
    rw [c2, show (800 : Int32) = nI 800 from rfl, nI_add, q_ix (by omega) (by omega), q_lt, q_cl (by omega), q_st_c (by omega), c2, nI_add, q_ix (by omega) (by omega), q_lt, q_lt, q_cl (by omega), q_st_c (by omega), q_st_c (by omega), c2, l1, nI_add]
  · have x1 : zst (zst h 155 s p) 150 6 (nI (s + 1)) 155 i = zst h 155 s p 155 i := congrFun (q_st_c (show (155 : Nat) ≠ 150 by omega)) i
    have x2 : zst (zst (zst k 14 (800 + s) o) 15 (800 + s) a) 0 26 (nI (s + 1)) 14 (800 + i) = zst k 14 (800 + s) o 14 (800 + i) := congrFun ((q_st_c (show (14 : Nat) ≠ 0 by omega)).trans (q_st_c (show (14 : Nat) ≠ 15 by omega))) (800 + i)
    have x3 : zst (zst (zst k 14 (800 + s) o) 15 (800 + s) a) 0 26 (nI (s + 1)) 15 (800 + i) = zst (zst k 14 (800 + s) o) 15 (800 + s) a 15 (800 + i) := congrFun (q_st_c (show (15 : Nat) ≠ 0 by omega)) (800 + i)
    rw [x1, x2, x3]
    by_cases z : i = s
    · rw [z, q_st_s, q_st_s, q_st_s]; exact hc
    · have y1 : zst h 155 s p 155 i = h 155 i := q_st_i z
      have y2 : zst k 14 (800 + s) o 14 (800 + i) = k 14 (800 + i) := q_st_i (by omega)
      have y3 : zst (zst k 14 (800 + s) o) 15 (800 + s) a 15 (800 + i) = k 15 (800 + i) := (q_st_i (by omega)).trans (congrFun (q_st_c (show (15 : Nat) ≠ 14 by omega)) (800 + i))
      rw [y1, y2, y3]; exact c3 i (by omega)
  · rw [q_st_c (by omega), q_st_c (by omega), q_st_s]
  · rw [q_st_c (by omega), q_st_s]
  · rw [q_st, q_st, q_st]
    by_cases z0 : x = 0
    · rw [if_pos z0, if_neg (by omega), if_neg (by omega), if_neg (by omega)]
    · rw [if_neg z0]
      by_cases z15 : x = 15
      · rw [if_pos z15, if_neg (by omega), if_neg (by omega)]
      · rw [if_neg z15]
        by_cases z14 : x = 14
        · rw [if_pos z14, if_neg (by omega)]
        · rw [if_neg z14]
/-- both at token i with s codes -/
def qyL (h k : zHp) (t : Nat → Nat) (n T i s : Nat) : Prop := qyAt h k t n T i ∧ qyCo h k s
theorem q_emitL {h k : zHp} {t : Nat → Nat} {n T i s : Nat} (L : qyL h k t n T i s) (hs : s < 400) {p o a : Int32} (hc : qCode p o a) : ∃ h' k', f_X1_add 150 p h = some h' ∧ f_X11_emits o a k = some k' ∧ qyL h' k' t n T i (s + 1) ∧ k' 14 (800 + s) = o ∧ k' 15 (800 + s) = a ∧ qyGX h h' s ∧ qyFL k k' s ∧ (∀ x j, ¬(x = 0 ∧ j = 26) → ¬((x = 14 ∨ x = 15) ∧ j = 800 + s) → k' x j = k x j) := by
  obtain ⟨h', k', e1, e2, e3, e4, e5, e6, e7, e8, e9⟩ := q_emit L.2 hs hc
  refine ⟨h', k', e1, e2, ⟨qyAt_h (qyAt_k L.1 (fun j hj => e9 0 j (by omega) (by omega)) (funext fun j => e9 7 j (by omega) (by omega)) (funext fun j => e9 8 j (by omega) (by omega))) (fun a p q => e6 a (by omega) (by omega)), e3⟩, e4, e5, ⟨fun x p q r => e6 x q r, fun j _ _ _ _ => by rw [e6 145 (by omega) (by omega)], e7, fun i hi => e8 i (by omega)⟩, fun x j p q _ => e9 x j (by omega) (by omega), e9⟩
theorem qyL_adv {h k : zHp} {t : Nat → Nat} {n T i s : Nat} (L : qyL h k t n T i s) (hi : qyK t n i ≠ 36) : ∃ h' k', f_X6_advance h = some h' ∧ f_X11_reads k = some k' ∧ qyL h' k' t n T (i + 1) s ∧ qyAX h h' ∧ qyFM k k' := by
  obtain ⟨h', k', x1, x2, A1, X, M⟩ := q_adv L.1 hi
  exact ⟨h', k', x1, x2, ⟨A1, qyCo_ax L.2 X M.fe⟩, X, M⟩
theorem q_rw2 : ∀ κ, κ < 24 → ((7 ≤ qyRW κ ∧ qyRW κ ≤ 15) ↔ (3 ≤ κ ∧ κ ≤ 11)) ∧ (3 ≤ κ → κ ≤ 11 → qyRW κ = κ + 4) := by decide
/-- a number, or a word that is asked for -/
theorem q_unit {h k : zHp} {t : Nat → Nat} {n T i s : Nat} (L : qyL h k t n T i s) (hs : s < 400) : (∃ p h1 h2 k2, f_X6_expectUnit h = some (p, h1) ∧ f_X1_add 150 p h1 = some h2 ∧ f_X11_readUnit k = some (0, k2) ∧ qyL h2 k2 t n T (i + 1) (s + 1) ∧ (k2 14 (800 + s) = 0 ∨ k2 14 (800 + s) = 1) ∧ (qyK t n i = 34 → k2 14 (800 + s) = 0 ∧ k2 15 (800 + s) = nI (qyV t n i)) ∧ qyGX h h2 s ∧ qyFL k k2 s) ∨ (∃ p h1 k2, f_X6_expectUnit h = some (p, h1) ∧ f_X11_readUnit k = some (qM, k2) ∧ qyBad h1 k2 ∧ qyAX h h1 ∧ qyFE k k2) := by
  have A := L.1
  have t2 := q_tok2 A
  have t3 := q_tok3 A
  have kK := qyK_le A
  have row := (A.2.2.2.2.1.2.2.2.2 i A.1).2.1
  have T1 := A.2.2.2.2.1.1
  have i400 : i ≤ 400 := Nat.le_trans A.1 T1
  have can : f_X11_readUnit k = if 3 ≤ qyK t n i ∧ qyK t n i ≤ 11 then f_X11_readUnit_53 1 1 k else if qyK t n i = 34 then f_X11_readUnit_53 0 0 k else f_X11_errs 1 k := by
    have e24 : ∀ z, f_X11_readUnit_24 (nI z) k = if z = 0 then (if k 0 15 = (3 : Int32) then f_X11_readUnit_53 0 0 k else f_X11_errs 1 k) else (if z = 1 then f_X11_readUnit_43 1 k else f_X11_readUnit_24 (nI z) k) := fun z => by
      by_cases z0 : z = 0
      · rw [if_pos z0, z0]
        unfold f_X11_readUnit_24 f_X11_readUnit_43
        rw [if_pos (show nI 0 = 0 from rfl), if_pos (show nI 0 = 0 from rfl), q_bs2]; rfl
      · rw [if_neg z0]
        by_cases z1 : z = 1
        · rw [if_pos z1, z1]
          unfold f_X11_readUnit_24
          rw [if_neg (show ¬ nI 1 = 0 by decide)]; rfl
        · rw [if_neg z1]
    have e43 : f_X11_readUnit_43 1 k = f_X11_readUnit_53 1 1 k := if_neg (by decide)
    have z24 : f_X11_readUnit_24 0 k = if k 0 15 = (3 : Int32) then f_X11_readUnit_53 0 0 k else f_X11_errs 1 k := by
      have := e24 0
      rw [if_pos rfl] at this
      exact this
    have o24 : f_X11_readUnit_24 1 k = f_X11_readUnit_53 1 1 k := by
      have := e24 1
      rw [if_neg (by decide), if_pos rfl] at this
      exact this.trans e43
    unfold f_X11_readUnit
    by_cases w : qyK t n i < 24
    · have R := q_rw2 _ w
      have R24 := (q_iwF _ w).1
      rw [if_pos (t2.1.mpr w), t2.2 w]
      unfold f_X11_canAsk
      by_cases y : 3 ≤ qyK t n i ∧ qyK t n i ≤ 11
      · have y2 := R.1.mpr y
        rw [if_pos y, show (7 : Int32) = nI 7 from rfl, show (15 : Int32) = nI 15 from rfl, q_inI y2.1 y2.2 (by omega), q_bd]
        show (some (nI 1, k)).bind _ = _
        rw [q_bd]
        dsimp only
        rw [if_neg (show ¬ nI 1 = 0 by decide)]; exact o24
      · have y2 : ¬(7 ≤ qyRW (qyK t n i) ∧ qyRW (qyK t n i) ≤ 15) := fun q => y (R.1.mp q)
        rw [if_neg y, show (7 : Int32) = nI 7 from rfl, show (15 : Int32) = nI 15 from rfl, q_inO (show qOut 7 15 (nI (qyRW (qyK t n i))) by
          unfold qOut
          by_cases x : qyRW (qyK t n i) < 7
          · exact Or.inl (nI_lt x (by omega))
          · exact Or.inr (nI_lt (by omega) (by omega))), q_bd]
        show (some (nI 0, k)).bind _ = _
        rw [q_bd]
        dsimp only
        rw [if_pos (show nI 0 = 0 from rfl), z24, if_neg (show ¬ k 0 15 = 3 from fun q => by have := t3.1.mp q; omega), if_neg (by omega)]
    · rw [if_neg (fun q => w (t2.1.mp q)), z24, if_neg (show ¬(3 ≤ qyK t n i ∧ qyK t n i ≤ 11) by omega)]
      by_cases y : qyK t n i = 34
      · rw [if_pos y, if_pos (t3.1.mpr y)]
      · rw [if_neg y, if_neg (fun q => y (t3.1.mp q))]
  -- the class
  have cls : f_X6_expectUnit h = if qyK t n i = 34 then (f_X6_advance h).bind fun x1 => some (nI (qyV t n i), x1) else if 3 ≤ qyK t n i ∧ qyK t n i ≤ 11 then (f_X6_advance h).bind fun x1 => some (nI (qyK t n i) ^^^ (-1), x1) else (f_X6_fail 1 h).bind fun x1 => some (nI (qyK t n i) ^^^ (-1), x1) := by
    unfold f_X6_expectUnit f_X6_expectUnit_27
    rw [A.2.2.1]
    by_cases y : qyK t n i = 34
    · rw [if_pos y, if_pos (show nI (qyK t n i) = (34 : Int32) by rw [y]; rfl), if_pos (show nI (qyK t n i) = (34 : Int32) by rw [y]; rfl), A.2.1, q_ix (by omega) (by omega), q_cl (by omega), row]; rfl
    · have n34 : ¬ nI (qyK t n i) = (34 : Int32) := fun q => y ((nI_eq (b := 34) (by omega) (by omega)).mp q)
      rw [if_neg y, if_neg n34, if_neg n34]
      by_cases z : qyK t n i < 3
      · rw [if_pos (show nI (qyK t n i) < (3 : Int32) from qlR 3 z (by omega)), if_neg (by omega)]
      · rw [if_neg (show ¬ nI (qyK t n i) < (3 : Int32) from qnR 3 (by omega) (by omega))]
        by_cases x : qyK t n i ≤ 11
        · rw [if_neg (show ¬ (11 : Int32) < nI (qyK t n i) from qnL 11 x (by omega)), if_pos ⟨by omega, x⟩]
        · rw [if_pos (show (11 : Int32) < nI (qyK t n i) from qlL 11 (by omega) (by omega)), if_neg (by omega)]
  -- one code and the next token
  have go : ∀ (p o a : Int32), qCode p o a → qyK t n i ≠ 36 → (o = 0 ∨ o = 1) → ((f_X11_emits o a k).bind fun x1 => (f_X11_reads x1).bind fun x2 => some ((0 : Int32), x2)) = f_X11_readUnit k → f_X6_expectUnit h = ((f_X6_advance h).bind fun x1 => some (p, x1)) → ∃ p h1 h2 k2, f_X6_expectUnit h = some (p, h1) ∧ f_X1_add 150 p h1 = some h2 ∧ f_X11_readUnit k = some (0, k2) ∧ qyL h2 k2 t n T (i + 1) (s + 1) ∧ (k2 14 (800 + s) = o ∧ k2 15 (800 + s) = a) ∧ qyGX h h2 s ∧ qyFL k k2 s := by
    intro p o a hc h36 ho eM eX
    -- the reference puts the code in first
    obtain ⟨h', k1, a1, a2, a3, a4, a5, a6, a7, a8⟩ := q_emitL L hs hc
    obtain ⟨h1, k2, b1, b2, b3, b4, b5⟩ := q_adv (k := k1) (qyAt_k A (fun j hj => a8 0 j (by omega) (by omega)) (funext fun j => a8 7 j (by omega) (by omega)) (funext fun j => a8 8 j (by omega) (by omega))) h36
    obtain ⟨h2, k3, c1, c2, c3, c4, c5, c6, c7, c8, c9⟩ := q_emit (h := h1) (k := k) (qyCo_ax L.2 b4 (fun _ _ _ => rfl)) hs hc
    have ek : k3 = k1 := Option.some.inj (c2.symm.trans a2)
    refine ⟨p, h1, h2, k2, by rw [eX, b1]; rfl, c1, by rw [← eM, a2, q_bd, b2, q_bd], ⟨qyAt_h b3 (fun a p q => c6 a (by omega) (by omega)), ?_⟩, ⟨by rw [b5 14 _ (by omega)]; exact a4, by rw [b5 15 _ (by omega)]; exact a5⟩, ?_, qyFL_tr a7 (b5.fe.fl s) (Nat.le_refl s)⟩
    · rw [ek] at c3
      exact qyCo_ax c3 (qyAX_rf h2) b5.fe
    · refine ⟨fun x p q r => (c6 x q r).trans (b4.1 x p), fun j p q r z => by rw [c6 145 (by omega) (by omega)]; exact b4.2 j p q r z, fun j hj => (c7 j hj).trans (by rw [b4.1 150 (by omega)]), fun i hi => (c8 i (by omega)).trans (by rw [b4.1 155 (by omega)])⟩
  by_cases y : qyK t n i = 34
  · obtain ⟨v1, v2⟩ := t3.2 y
    rw [if_neg (by omega), if_pos y] at can
    rw [if_pos y] at cls
    have e53 : f_X11_readUnit_53 0 0 k = (f_X11_emits 0 (nI (qyV t n i)) k).bind fun x1 => (f_X11_reads x1).bind fun x2 => some ((0 : Int32), x2) := by
      unfold f_X11_readUnit_53
      rw [if_pos rfl, v1]
    obtain ⟨p, h1, h2, k2, g1, g2, g3, g4, g5, g6, g7⟩ := go (nI (qyV t n i)) 0 (nI (qyV t n i)) (Or.inl ⟨_, v2, rfl, rfl, rfl⟩) (by omega) (Or.inl rfl) (by rw [can, e53]) cls
    exact Or.inl ⟨p, h1, h2, k2, g1, g2, g3, g4, Or.inl g5.1, fun _ => g5, g6, g7⟩
  · by_cases z : 3 ≤ qyK t n i ∧ qyK t n i ≤ 11
    · have w : qyK t n i < 24 := by omega
      have R := (q_rw2 _ w).2 z.1 z.2
      rw [if_pos z] at can
      rw [if_neg y, if_pos z] at cls
      have e53 : f_X11_readUnit_53 1 1 k = (f_X11_emits 1 (nI (qyK t n i - 3)) k).bind fun x1 => (f_X11_reads x1).bind fun x2 => some ((0 : Int32), x2) := by
        unfold f_X11_readUnit_53
        rw [if_neg (by decide), t2.2 w, R, show (7 : Int32) = nI 7 from rfl, q_sub (by omega), show qyK t n i + 4 - 7 = qyK t n i - 3 by omega]
      obtain ⟨p, h1, h2, k2, g1, g2, g3, g4, g5, g6, g7⟩ := go (nI (qyK t n i) ^^^ (-1)) 1 (nI (qyK t n i - 3)) (Or.inr (Or.inl ⟨qyK t n i - 3, by omega, by rw [show 3 + (qyK t n i - 3) = qyK t n i by omega], rfl, rfl⟩)) (by omega) (Or.inr rfl) (by rw [can, e53]) cls
      exact Or.inl ⟨p, h1, h2, k2, g1, g2, g3, g4, Or.inr g5.1, fun q => absurd q y, g6, g7⟩
    · rw [if_neg z, if_neg y] at can
      rw [if_neg y, if_neg z] at cls
      obtain ⟨h1, k1, x1, x2, Bd, X1, M1⟩ := q_failX A (f := 1) (by omega) (by omega)
      have x1' : f_X6_fail 1 h = some h1 := x1
      exact Or.inr ⟨_, h1, k1, by rw [cls, x1']; rfl, by rw [can]; exact x2, Bd, X1, qyFE_e M1⟩
end Qcodes
