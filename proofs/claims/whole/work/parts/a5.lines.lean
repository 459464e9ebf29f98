/-! LINES of CALLS: both -/
section Qlines
def qyFX (h h' : zHp) : Prop := (∀ a, a ≠ 145 → ¬(150 ≤ a ∧ a ≤ 155) → a ≠ 157 → a ≠ 158 → h' a = h a) ∧ (∀ j, j ≠ 6 → j ≠ 7 → j ≠ 12 → j ≠ 13 → h' 145 j = h 145 j) ∧ h' 157 0 = h 157 0
theorem qyFX_rf (h : zHp) : qyFX h h := ⟨fun _ _ _ _ _ => rfl, fun _ _ _ _ _ => rfl, rfl⟩
theorem qyFX_tr {h h' h'' : zHp} (a : qyFX h h') (b : qyFX h' h'') : qyFX h h'' := ⟨fun x p q r s => (b.1 x p q r s).trans (a.1 x p q r s), fun j p q r s => (b.2.1 j p q r s).trans (a.2.1 j p q r s), b.2.2.trans a.2.2⟩
theorem qyAX.fx {h h' : zHp} (a : qyAX h h') : qyFX h h' := ⟨fun x p _ _ _ => a.1 x p, a.2, by rw [a.1 157 (by omega)]⟩
/-- what an error, too, leaves of the reference -/
def qyFE (k k' : zHp) : Prop := ∀ a j, ¬(a = 0 ∧ ((13 ≤ j ∧ j ≤ 16) ∨ j = 30 ∨ j = 31)) → k' a j = k a j
theorem qyFM.fe {k k' : zHp} (F : qyFM k k') : qyFE k k' := fun a j q => F a j (by omega)
theorem qyFE_tr {k k' k'' : zHp} (a : qyFE k k') (b : qyFE k' k'') : qyFE k k'' := fun x j q => (b x j q).trans (a x j q)
theorem qyFE_e {k k' : zHp} (F : ∀ a j, ¬(a = 0 ∧ (j = 30 ∨ j = 31)) → k' a j = k a j) : qyFE k k' := fun a j q => F a j (by omega)
theorem qyAt_k {h k k' : zHp} {t : Nat → Nat} {n T i : Nat} (A : qyAt h k t n T i) (e : ∀ j, j ≤ 16 → k' 0 j = k 0 j) (e7 : k' 7 = k 7) (e8 : k' 8 = k 8) : qyAt h k' t n T i := by
  obtain ⟨a1, a2, a3, a4, a5, ⟨b1, b2, b3, b4⟩, a7, a8, a9⟩ := A
  exact ⟨a1, a2, a3, a4, a5, ⟨b1, by rw [e 12 (by omega)]; exact b2, by rw [e7]; exact b3, by rw [e8]; exact b4⟩, by rw [e 13 (by omega)]; exact a7, by rw [e 14 (by omega)]; exact a8, by rw [e 15 (by omega), e 16 (by omega)]; exact a9⟩
theorem qyAt_st {h k : zHp} {t : Nat → Nat} {n T i a j : Nat} {v : Int32} (A : qyAt h k t n T i) (ha : 9 ≤ a) : qyAt h (zst k a j v) t n T i := qyAt_k A (fun j _ => by rw [q_st_c (by omega)]) (q_st_c (by omega)) (q_st_c (by omega))
theorem qyAt_h {h h' k : zHp} {t : Nat → Nat} {n T i : Nat} (A : qyAt h k t n T i) (e : ∀ a, 145 ≤ a → a ≤ 149 → h' a = h a) : qyAt h' k t n T i := by
  obtain ⟨a1, a2, a3, a4, ⟨c1, c2, c3, c4, c5⟩, a6, a7, a8, a9⟩ := A
  have e5 := e 145 (by omega) (by omega)
  refine ⟨a1, by rw [e5]; exact a2, by rw [e5]; exact a3, by rw [e5]; exact a4, ⟨c1, by rw [e5]; exact c2, c3, c4, fun j hj => ?_⟩, a6, a7, a8, a9⟩
  obtain ⟨y1, y2, y3⟩ := c5 j hj
  exact ⟨by rw [e 147 (by omega) (by omega)]; exact y1, by rw [e 148 (by omega) (by omega)]; exact y2, by rw [e 149 (by omega) (by omega)]; exact y3⟩
theorem qyBad_st {h k : zHp} {a j : Nat} {v : Int32} (B : qyBad h k) (ha : a ≠ 0) : qyBad h (zst k a j v) := by
  obtain ⟨f, f0, f1, f2, f3, f4⟩ := B
  exact ⟨f, f0, f1, f2, by rw [q_st_c (fun q => ha q.symm)]; exact f3, by rw [q_st_c (fun q => ha q.symm)]; exact f4⟩
theorem q_lin {h : zHp} {c : Nat} (c2 : h 157 2 = nI c) (hc : c < 16) (w : Int32) : f_X6_expectLine w h = f_X6_expect w h := by
  have bs : ∀ x : Option zHp, x.bind (fun y => some y) = x := fun x => by cases x <;> rfl
  unfold f_X6_expectLine
  rw [c2, if_pos (show nI c < (16 : Int32) from qlR 16 hc (by omega)), bs, ite_self]
/-- a word and a number below B -/
theorem q_told {h k : zHp} {t : Nat → Nat} {n T i w B : Nat} (A : qyAt h k t n T i) (hw : w < 24) (hB : B < 100000) : ∃ h1 v h' k', f_X6_expect (nI w) h = some h1 ∧ h1 145 8 = h 145 8 ∧ h1 145 9 = h 145 9 ∧ f_X6_expectNumber (nI B - 1) (-1) h1 = some (v, h') ∧ qyAX h h' ∧ ((∃ m, m < B ∧ v = nI m ∧ f_X11_readTold (nI (qyRW w)) 0 (nI B - 1) k = some (nI m, k') ∧ qyAt h' k' t n T (i + 2) ∧ qyFM k k') ∨ (f_X11_readTold (nI (qyRW w)) 0 (nI B - 1) k = some (qM, k') ∧ qyBad h' k' ∧ qyFE k k')) := by
  have iw := q_isWd A hw
  unfold f_X11_readTold
  rw [iw, q_bd]
  dsimp only
  by_cases e : qyK t n i = w
  · obtain ⟨h1, k1, x1, x2, A1, X1, M1⟩ := q_expY A (by omega) e
    have bs : ∀ (v : Int32) (q : zHp) (x : Option (Int32 × zHp)), x = some (v, q) → x.bind (fun y => some (y.1, y.2)) = some (v, q) := fun v q x hx => by rw [hx]; rfl
    rw [if_pos e, if_neg (show ¬ nI 1 = 0 by decide), x2, q_bd]
    rcases q_num A1 hB (-1) (fun _ _ => qM_ne (by
      have := ((q_tok3 A1).2 (by assumption)).2
      omega)) with ⟨h', k', v1, y1, y2, y3, A2, X2, M2⟩ | ⟨v, h', k', y1, y2, y3, X2, y5⟩
    · exact ⟨h1, _, h', k', x1, X1.2 8 (by omega) (by omega) (by omega) (by omega), X1.2 9 (by omega) (by omega) (by omega) (by omega), y1, qyAX_tr X1 X2, Or.inl ⟨_, v1, rfl, bs _ _ _ y2, A2, qyFM_tr M1 M2⟩⟩
    · exact ⟨h1, _, h', k', x1, X1.2 8 (by omega) (by omega) (by omega) (by omega), X1.2 9 (by omega) (by omega) (by omega) (by omega), y1, qyAX_tr X1 X2, Or.inr ⟨bs _ _ _ y2, y3, qyFE_tr M1.fe (qyFE_e y5)⟩⟩
  · obtain ⟨h1, k1, x1, x2, Bd, X1, M1⟩ := q_expN A (by omega) e
    have x2' : f_X11_errs 1 k = some (qM, k1) := x2
    rw [if_neg e, if_pos (show nI 0 = 0 from rfl), x2', q_bd]
    exact ⟨h1, _, h1, k1, x1, X1.2 8 (by omega) (by omega) (by omega) (by omega), X1.2 9 (by omega) (by omega) (by omega) (by omega), q_numB Bd.f _ _, X1, Or.inr ⟨rfl, Bd, qyFE_e M1⟩⟩
/-- a line is closed -/
theorem q_close {h k : zHp} {t : Nat → Nat} {n T i c : Nat} (A : qyAt h k t n T i) (hc : c < 16) (c2 : h 157 2 = nI c) (c0 : h 157 0 = 16) (a b x y : Int32) : ∃ h' k', f_X6_closeLine a b x y h = some h' ∧ qyFX h h' ∧ (∀ j, ¬(4 * c ≤ j ∧ j < 4 * c + 4) → h' 158 j = h 158 j) ∧ ((f_X11_readMark (nI 59) k = some (0, k') ∧ qyAt h' k' t n T (i + 1) ∧ qyFM k k' ∧ h' 157 2 = nI (c + 1) ∧ h' 158 (4 * c) = a ∧ h' 158 (4 * c + 1) = b ∧ h' 158 (4 * c + 2) = x ∧ h' 158 (4 * c + 3) = y) ∨ (f_X11_readMark (nI 59) k = some (qM, k') ∧ qyBad h' k' ∧ qyFE k k')) := by
  have isg := q_isSg A (w := 24) (by omega) (by omega)
  have isg' : f_X11_isSign (nI 59) k = some (nI (if qyK t n i = 24 then 1 else 0), k) := isg
  have z158 : zln wX (157 + 1) = 64 := by decide +kernel
  unfold f_X6_closeLine f_X11_readMark
  rw [isg', q_bd]
  dsimp only
  by_cases e : qyK t n i = 24
  · obtain ⟨h1, k1, x1, x2, A1, X1, M1⟩ := q_expY A (by omega) e
    have x1' : f_X6_expect 24 h = some h1 := x1
    have d2 : h1 157 2 = nI c := by rw [X1.1 157 (by omega)]; exact c2
    have d0 : h1 157 0 = 16 := by rw [X1.1 157 (by omega)]; exact c0
    have add : f_X2_add 157 a b x y h1 = some (zst (zst (zst (zst (zst h1 158 (4 * c) a) 158 (4 * c + 1) b) 158 (4 * c + 2) x) 158 (4 * c + 3) y) 157 2 (nI (c + 1))) := by
      unfold f_X2_add
      rw [d2, d0, if_pos (show nI c < (16 : Int32) from qlR 16 hc (by omega)), show (4 : Int32) = nI 4 from rfl, pk_mul, Nat.mul_comm c 4, q_lt, show (0 : Int32) = nI 0 from rfl, show (1 : Int32) = nI 1 from rfl, show (2 : Int32) = nI 2 from rfl, show (3 : Int32) = nI 3 from rfl, nI_add, nI_add, nI_add, nI_add, z158, q_ix (by omega) (by omega), q_lt, q_ix (by omega) (by omega), q_lt, q_ix (by omega) (by omega), q_lt, q_ix (by omega) (by omega), q_lt, q_lt, q_cl (by omega), q_cl (by omega), q_cl (by omega), q_cl (by omega), q_st_c (by omega), q_st_c (by omega), q_st_c (by omega), q_st_c (by omega), d2, nI_add]
      rfl
    have F : qyFX h1 (zst (zst (zst (zst (zst h1 158 (4 * c) a) 158 (4 * c + 1) b) 158 (4 * c + 2) x) 158 (4 * c + 3) y) 157 2 (nI (c + 1))) := ⟨fun z p q r s => by rw [q_st_c r, q_st_c s, q_st_c s, q_st_c s, q_st_c s], fun j _ _ _ _ => by rw [q_st_c (by omega), q_st_c (by omega), q_st_c (by omega), q_st_c (by omega), q_st_c (by omega)], by rw [q_st_i (by omega), q_st_c (by omega), q_st_c (by omega), q_st_c (by omega), q_st_c (by omega)]⟩
    refine ⟨_, k1, ?_, qyFX_tr X1.fx F, fun j hj => ?_, Or.inl ⟨?_, qyAt_h A1 (fun z p q => ?_), M1, q_st_s, ?_, ?_, ?_, ?_⟩⟩
    · rw [x1', q_bd, if_pos A1.2.2.2.1.1, add, q_bd]
    · rw [q_st_c (by omega), q_st_i (by omega), q_st_i (by omega), q_st_i (by omega), q_st_i (by omega), X1.1 158 (by omega)]
    · rw [if_pos e, if_neg (show ¬ nI 1 = 0 by decide), x2, q_bd]
    · rw [q_st_c (by omega), q_st_c (by omega), q_st_c (by omega), q_st_c (by omega), q_st_c (by omega)]
    · rw [q_st_c (by omega), q_st_i (by omega), q_st_i (by omega), q_st_i (by omega), q_st_s]
    · rw [q_st_c (by omega), q_st_i (by omega), q_st_i (by omega), q_st_s]
    · rw [q_st_c (by omega), q_st_i (by omega), q_st_s]
    · rw [q_st_c (by omega), q_st_s]
  · obtain ⟨h1, k1, x1, x2, Bd, X1, M1⟩ := q_expN A (by omega) e
    have x1' : f_X6_expect 24 h = some h1 := x1
    have x2' : f_X11_errs 1 k = some (qM, k1) := x2
    refine ⟨h1, k1, ?_, X1.fx, fun j _ => by rw [X1.1 158 (by omega)], Or.inr ⟨?_, Bd, qyFE_e M1⟩⟩
    · rw [x1', q_bd]; exact if_neg Bd.f
    · rw [if_neg e, if_pos (show nI 0 = 0 from rfl), x2', q_bd]
-- CALLS
theorem q_c57B {h : zHp} (F : qyF h) (a b c s : Int32) : f_X6_callsLine_57 a b c s h = some h := by
  unfold f_X6_callsLine_57 f_X6_callsLine_81
  rw [q_expB F, q_bd, q_numB F, q_bd, q_cloB F, q_cloB F]
  split <;> rfl
theorem q_cTailB {h : zHp} (F : qyF h) (a b : Int32) : (zlt (h 145 7) fun x5 => (if x5 < (18 : Int32) then f_X6_callsLine_57 a b x5 (18 : Int32) h else (if (21 : Int32) < x5 then f_X6_callsLine_57 a b x5 (18 : Int32) h else f_X6_callsLine_57 a b x5 x5 h))) = some h := by
  rw [q_lt]
  simp only [q_c57B F, ite_self]
def qyRowC (h k : zHp) (C P c : Nat) : Prop := ∃ m v p, m ≤ 999 ∧ v < 4 ∧ p < P ∧ h 158 (4 * c) = nI m ∧ k 17 (64 + 4 * c) = nI m ∧ h 158 (4 * c + 1) = nI (18 + v) ∧ k 17 (64 + 4 * c + 2) = nI v ∧ h 158 (4 * c + 2) = nI p ∧ k 17 (64 + 4 * c + 1) = nI p ∧ (v = 0 → ∃ x, x < C ∧ h 158 (4 * c + 3) = nI x ∧ k 17 (64 + 4 * c + 3) = nI x)
def qyFC (k k' : zHp) (b c : Nat) : Prop := ∀ a j, ¬(a = 0 ∧ ((13 ≤ j ∧ j ≤ 16) ∨ j = 30 ∨ j = 31)) → ¬(a = b ∧ c ≤ j) → k' a j = k a j
theorem qyFC_tr {k k' k'' : zHp} {b c : Nat} (x : qyFC k k' b c) (y : qyFC k' k'' b c) : qyFC k k'' b c := fun a j p q => (y a j p q).trans (x a j p q)
theorem qyFE.fc {k k' : zHp} {b c : Nat} (x : qyFE k k') : qyFC k k' b c := fun a j p _ => x a j p
theorem qyFC_st {k : zHp} {b c j : Nat} {v : Int32} (hj : c ≤ j) : qyFC k (zst k b j v) b c := fun a i _ q => by
  rw [q_st]
  by_cases z : a = b
  · rw [if_pos z, if_neg (by omega)]
  · rw [if_neg z]
theorem q_rw1 : ∀ κ, κ < 24 → ((18 ≤ qyRW κ ∧ qyRW κ ≤ 21) ↔ (18 ≤ κ ∧ κ ≤ 21)) ∧ (18 ≤ κ → qyRW κ = κ) := by decide
theorem q_nM (m : Nat) (h : m < 2147483648) : ¬ nI m = (-1 : Int32) := qM_ne h
theorem q_callLine {h k : zHp} {t : Nat → Nat} {n T i c C P : Nat} (A : qyAt h k t n T i) (hc : c < 16) (c2 : h 157 2 = nI c) (c0 : h 157 0 = 16) (x8 : h 145 8 = nI C) (x9 : h 145 9 = nI P) (k6 : k 0 6 = nI C) (k7 : k 0 7 = nI P) (hC : C ≤ 10) (hP : P ≤ 14) : ∃ h' k', f_X6_callsLine h = some h' ∧ qyFX h h' ∧ (∀ j, j < 4 * c → h' 158 j = h 158 j) ∧ qyFC k k' 17 (64 + 4 * c) ∧ ((f_X11_readCall (nI (64 + 4 * c)) k = some (0, k') ∧ (∃ i', qyAt h' k' t n T i') ∧ h' 157 2 = nI (c + 1) ∧ qyRowC h' k' C P c) ∨ (f_X11_readCall (nI (64 + 4 * c)) k = some (qM, k') ∧ qyBad h' k')) := by
  have l1 : (1 : Int32) = nI 1 := rfl
  have l2 : (2 : Int32) = nI 2 := rfl
  have l3 : (3 : Int32) = nI 3 := rfl
  unfold f_X6_callsLine f_X11_readCall
  rw [q_lin c2 hc]
  -- at, MINUTE
  obtain ⟨h1, v1, h2, k2, e1, -, -, e2, X1, R1⟩ := q_told A (w := 16) (B := 1000) (by omega) (by omega)
  have e1' : f_X6_expect 16 h = some h1 := e1
  have e2' : f_X6_expectNumber 999 (-1) h1 = some (v1, h2) := e2
  rw [e1', q_bd, e2', q_bd]
  dsimp only
  rcases R1 with ⟨m, m1, rfl, r1, A1, M1⟩ | ⟨r1, B1, M1⟩
  rotate_left
  · have r1' : f_X11_readTold 16 0 999 k = some (qM, k2) := r1
    refine ⟨h2, zst k2 17 (64 + 4 * c) qM, ?_, X1.fx, fun j _ => by rw [X1.1 158 (by omega)], qyFC_tr M1.fc (qyFC_st (Nat.le_refl _)), Or.inr ⟨?_, qyBad_st B1 (by omega)⟩⟩
    · rw [q_expB B1.f, q_bd, q_numB B1.f, q_bd]
      exact q_cTailB B1.f _ _
    · rw [r1', q_bd, q_ix (by omega) (by omega), q_lt, q_cl (by omega), q_ix (by omega) (by omega), q_st_s]
      exact if_pos rfl
  have r1' : f_X11_readTold 16 0 999 k = some (nI m, k2) := r1
  rw [r1', q_bd, q_ix (by omega) (by omega), q_lt, q_cl (by omega), q_ix (by omega) (by omega), q_st_s, if_neg (q_nM m (by omega))]
  -- person PERSON
  have A1' : qyAt h2 (zst k2 17 (64 + 4 * c) (nI m)) t n T (i + 2) := qyAt_st A1 (by omega)
  have y9 : h2 145 9 = nI P := by rw [X1.2 9 (by omega) (by omega) (by omega) (by omega)]; exact x9
  have y8 : h2 145 8 = nI C := by rw [X1.2 8 (by omega) (by omega) (by omega) (by omega)]; exact x8
  have F1 : qyFC k (zst k2 17 (64 + 4 * c) (nI m)) 17 (64 + 4 * c) := qyFC_tr M1.fe.fc (qyFC_st (Nat.le_refl _))
  have k7' : zst k2 17 (64 + 4 * c) (nI m) 0 7 = nI P := by rw [F1 0 7 (by omega) (by omega)]; exact k7
  obtain ⟨h3, v2, h4, k4, e3, e3b, e3c, e4, X2, R2⟩ := q_told A1' (w := 17) (B := P) (by omega) (by omega)
  have e3' : f_X6_expect 17 h2 = some h3 := e3
  have e4' : f_X6_expectNumber (h3 145 9 - 1) (-1) h3 = some (v2, h4) := by rw [e3c, y9]; exact e4
  rw [e3', q_bd, e4', q_bd, k7', l1, nI_add]
  dsimp only
  rcases R2 with ⟨p, p1, rfl, r2, A2, M2⟩ | ⟨r2, B2, M2⟩
  rotate_left
  · have r2' : f_X11_readTold 17 0 (nI P - nI 1) (zst k2 17 (64 + 4 * c) (nI m)) = some (qM, k4) := r2
    refine ⟨h4, zst k4 17 (64 + 4 * c + 1) qM, ?_, qyFX_tr X1.fx X2.fx, fun j _ => by rw [X2.1 158 (by omega), X1.1 158 (by omega)], qyFC_tr F1 (qyFC_tr M2.fc (qyFC_st (by omega))), Or.inr ⟨?_, qyBad_st B2 (by omega)⟩⟩
    · exact q_cTailB B2.f _ _
    · rw [r2', q_bd, q_ix (by omega) (by omega), q_lt, q_cl (by omega), q_ix (by omega) (by omega), q_st_s]
      exact if_pos rfl
  have r2' : f_X11_readTold 17 0 (nI P - nI 1) (zst k2 17 (64 + 4 * c) (nI m)) = some (nI p, k4) := r2
  rw [r2', q_bd, q_ix (by omega) (by omega), q_lt, q_lt, q_cl (by omega), q_ix (by omega) (by omega), q_st_s, if_neg (show ¬ nI p = -nI 1 from q_nM p (by omega))]
  obtain ⟨k5, hk5⟩ : ∃ k5, k5 = zst k4 17 (64 + 4 * c + 1) (nI p) := ⟨_, rfl⟩
  have A2' : qyAt h4 k5 t n T (i + 4) := by rw [hk5]; exact qyAt_st A2 (by omega)
  have F2 : qyFC k k5 17 (64 + 4 * c) := by rw [hk5]; exact qyFC_tr F1 (qyFC_tr M2.fe.fc (qyFC_st (by omega)))
  have g0 : k5 17 (64 + 4 * c) = nI m := by rw [hk5, q_st_i (by omega), M2 17 _ (by omega), q_st_s]
  have g1 : k5 17 (64 + 4 * c + 1) = nI p := by rw [hk5, q_st_s]
  have z8 : h4 145 8 = nI C := by rw [X2.2 8 (by omega) (by omega) (by omega) (by omega)]; exact y8
  have XX : qyFX h h4 := qyFX_tr X1.fx X2.fx
  have XL : ∀ j, h4 158 j = h 158 j := fun j => by rw [X2.1 158 (by omega), X1.1 158 (by omega)]
  have d2 : h4 157 2 = nI c := by rw [X2.1 157 (by omega), X1.1 157 (by omega)]; exact c2
  have d0 : h4 157 0 = 16 := by rw [X2.1 157 (by omega), X1.1 157 (by omega)]; exact c0
  rw [← hk5]
  have kK := qyK_le A2'
  have t2 := q_tok2 A2'
  rw [A2'.2.2.1]
  by_cases w : 18 ≤ qyK t n (i + 4) ∧ qyK t n (i + 4) ≤ 21
  rotate_left
  · -- none of the words
    obtain ⟨h5, k6', x1, x2, Bd, X3, M3⟩ := q_expN A2' (w := 18) (by omega) (by omega)
    have x2' : f_X11_errs 1 k5 = some (qM, k6') := x2
    have x1' : f_X6_expect 18 h4 = some h5 := x1
    have c57 : ∀ a, f_X6_callsLine_57 (nI m) (nI p) a 18 h4 = some h5 := fun a => by
      unfold f_X6_callsLine_57 f_X6_callsLine_81
      rw [x1', q_bd, q_numB Bd.f, q_bd, q_cloB Bd.f, q_cloB Bd.f]
      split <;> rfl
    refine ⟨h5, k6', ?_, qyFX_tr XX X3.fx, fun j _ => by rw [X3.1 158 (by omega), XL], qyFC_tr F2 (qyFE_e M3).fc, Or.inr ⟨?_, Bd⟩⟩
    · by_cases y : qyK t n (i + 4) < 18
      · rw [if_pos (show nI (qyK t n (i + 4)) < (18 : Int32) from qlR 18 y (by omega)), c57]
      · rw [if_neg (show ¬ nI (qyK t n (i + 4)) < (18 : Int32) from qnR 18 (by omega) (by omega)), if_pos (show (21 : Int32) < nI (qyK t n (i + 4)) from qlL 21 (by omega) (by omega)), c57]
    · by_cases y : qyK t n (i + 4) < 24
      · have rr := (q_rw1 _ y).1
        rw [if_pos (t2.1.mpr y), t2.2 y, show (18 : Int32) = nI 18 from rfl, show (21 : Int32) = nI 21 from rfl, q_inO (show qOut 18 21 (nI (qyRW (qyK t n (i + 4)))) by
          have := (q_iwF _ y).1
          unfold qOut
          by_cases x : qyRW (qyK t n (i + 4)) < 18
          · exact Or.inl (nI_lt x (by omega))
          · exact Or.inr (nI_lt (by omega) (by omega))), q_bd]
        dsimp only
        rw [if_pos (show nI 0 = 0 from rfl), ← l1, x2', q_bd]
      · rw [if_neg (fun q => y (t2.1.mp q)), ← l1, x2', q_bd]
  obtain ⟨κ, hκ⟩ : ∃ κ, κ = qyK t n (i + 4) := ⟨_, rfl⟩
  have w24 : qyK t n (i + 4) < 24 := by omega
  have rr := (q_rw1 _ w24).2 w.1
  -- the word is read
  have A3' : qyAt h4 (zst k5 17 (64 + 4 * c + 2) (nI (κ - 18))) t n T (i + 4) := qyAt_st A2' (by omega)
  obtain ⟨h5, k6', x1, x2, A4, X3, M3⟩ := q_expY A3' (w := κ) (by omega) hκ.symm
  rw [if_pos (t2.1.mpr w24), t2.2 w24, rr, show (18 : Int32) = nI 18 from rfl, show (21 : Int32) = nI 21 from rfl, q_inI w.1 w.2 (by omega), q_bd, ← hκ]
  dsimp only
  rw [if_neg (show ¬ nI 1 = 0 by decide), l2, nI_add, q_ix (by omega) (by omega), q_lt, q_cl (by omega), t2.2 w24, rr, ← hκ, q_sub (by omega), x2, q_bd, q_ix (by omega) (by omega)]
  rw [q_ifF (show ¬ nI κ < nI 18 from nI_nlt (by omega) (by omega)), q_ifF (show ¬ nI 21 < nI κ from nI_nlt (by omega) (by omega))]
  have g2 : k6' 17 (64 + 4 * c + 2) = nI (κ - 18) := by rw [M3 17 _ (by omega), q_st_s]
  have g0' : k6' 17 (64 + 4 * c) = nI m := by rw [M3 17 _ (by omega), q_st_i (by omega)]; exact g0
  have g1' : k6' 17 (64 + 4 * c + 1) = nI p := by rw [M3 17 _ (by omega), q_st_i (by omega)]; exact g1
  have F3 : qyFC k k6' 17 (64 + 4 * c) := qyFC_tr F2 (qyFC_tr (qyFC_st (by omega)) M3.fe.fc)
  have k6'' : k6' 0 6 = nI C := by rw [F3 0 6 (by omega) (by omega)]; exact k6
  have q8 : h5 145 8 = nI C := by rw [X3.2 8 (by omega) (by omega) (by omega) (by omega)]; exact z8
  have b2 : h5 157 2 = nI c := by rw [X3.1 157 (by omega)]; exact d2
  have b0 : h5 157 0 = 16 := by rw [X3.1 157 (by omega)]; exact d0
  unfold f_X6_callsLine_57 f_X6_callsLine_81
  rw [x1, q_bd]
  -- what closes it
  have fin : ∀ (hh kk : zHp) (y z : Int32) (i' : Nat), qyAt hh kk t n T i' → hh 157 2 = nI c → hh 157 0 = 16 → qyFX h hh → (∀ j, hh 158 j = h 158 j) → qyFC k kk 17 (64 + 4 * c) → kk 17 (64 + 4 * c) = nI m → kk 17 (64 + 4 * c + 1) = nI p → kk 17 (64 + 4 * c + 2) = nI (κ - 18) → ¬ z = (-1 : Int32) → (κ = 18 → ∃ x, x < C ∧ y = nI x ∧ z = nI x) → ∃ h' k', (f_X6_closeLine (nI m) (nI κ) (nI p) y hh).bind (fun x1 => some x1) = some h' ∧ qyFX h h' ∧ (∀ j, j < 4 * c → h' 158 j = h 158 j) ∧ qyFC k k' 17 (64 + 4 * c) ∧ ((f_X11_readCall_144 (nI (64 + 4 * c)) z (nI (64 + 4 * c + 3)) kk = some (0, k') ∧ (∃ i', qyAt h' k' t n T i') ∧ h' 157 2 = nI (c + 1) ∧ qyRowC h' k' C P c) ∨ (f_X11_readCall_144 (nI (64 + 4 * c)) z (nI (64 + 4 * c + 3)) kk = some (qM, k') ∧ qyBad h' k')) := by
    intro hh kk y z i' Ah n2 n0 FX FL FC v0 v1 v2 zn hk
    obtain ⟨h', k', s1, s2, s3, s4⟩ := q_close (k := zst kk 17 (64 + 4 * c + 3) z) (qyAt_st Ah (by omega)) hc n2 n0 (nI m) (nI κ) (nI p) y
    have rd : f_X11_readCall_144 (nI (64 + 4 * c)) z (nI (64 + 4 * c + 3)) kk = (f_X11_readMark (nI 59) (zst kk 17 (64 + 4 * c + 3) z)).bind fun x2 => some (x2.1, x2.2) := by
      unfold f_X11_readCall_144
      rw [q_ix (by omega) (by omega), q_lt, q_cl (by omega), l3, nI_add, q_ix (by omega) (by omega), q_cl (by omega), q_st_s, if_neg zn]; rfl
    rw [rd, s1]
    refine ⟨h', k', rfl, qyFX_tr FX s2, fun j hj => by rw [s3 j (by omega), FL], ?_, ?_⟩
    · rcases s4 with ⟨-, -, s6, -⟩ | ⟨-, -, s6⟩
      · exact qyFC_tr FC (qyFC_tr (qyFC_st (by omega)) s6.fe.fc)
      · exact qyFC_tr FC (qyFC_tr (qyFC_st (by omega)) s6.fc)
    · rcases s4 with ⟨s5, s6, s7, s8, s9, s10, s11, s12⟩ | ⟨s5, s6, -⟩
      · refine Or.inl ⟨by rw [s5]; rfl, ⟨_, s6⟩, s8, m, κ - 18, p, by omega, by omega, p1, s9, ?_, ?_, ?_, s11, ?_, fun h0 => ?_⟩
        · rw [s7 17 _ (by omega), q_st_i (by omega)]; exact v0
        · rw [s10, show 18 + (κ - 18) = κ by omega]
        · rw [s7 17 _ (by omega), q_st_i (by omega)]; exact v2
        · rw [s7 17 _ (by omega), q_st_i (by omega)]; exact v1
        · obtain ⟨x, hx1, hx2, hx3⟩ := hk (by omega)
          exact ⟨x, hx1, by rw [s12]; exact hx2, by rw [s7 17 _ (by omega), q_st_s]; exact hx3⟩
      · exact Or.inr ⟨by rw [s5]; rfl, s6⟩
  by_cases z18 : κ = 18
  · -- sit CHAIR
    rw [q_ifT (show nI κ = (18 : Int32) by rw [z18]; rfl), q_ifT (show k6' 17 (64 + 4 * c + 2) = 0 by rw [g2, z18]; rfl), k6'', q8]
    rcases q_num A4 (B := C) (by omega) (-1) (fun z _ => q_nM _ (by
      have := ((q_tok3 A4).2 z).2
      omega)) with ⟨h6, k8, v1, y1, y2, -, A5, X4, M4⟩ | ⟨v, h6, k8, y1, y2, Bd, X4, M4⟩
    · have y1' : f_X6_expectNumber (nI C - 1) (-1) h5 = some (nI (qyV t n (i + 4 + 1)), h6) := y1
      have y2' : f_X11_readNumber 0 (nI C - nI 1) k6' = some (nI (qyV t n (i + 4 + 1)), k8) := y2
      rw [y1', q_bd, y2', q_bd, l3, nI_add]
      dsimp only
      exact fin h6 k8 _ _ _ A5 (by rw [X4.1 157 (by omega)]; exact b2) (by rw [X4.1 157 (by omega)]; exact b0) (qyFX_tr XX (qyFX_tr X3.fx X4.fx)) (fun j => by rw [X4.1 158 (by omega), X3.1 158 (by omega), XL]) (qyFC_tr F3 M4.fe.fc) (by rw [M4 17 _ (by omega)]; exact g0') (by rw [M4 17 _ (by omega)]; exact g1') (by rw [M4 17 _ (by omega)]; exact g2) (q_nM _ (by omega)) (fun _ => ⟨_, v1, rfl, rfl⟩)
    · have y1' : f_X6_expectNumber (nI C - 1) (-1) h5 = some (v, h6) := y1
      have y2' : f_X11_readNumber 0 (nI C - nI 1) k6' = some (qM, k8) := y2
      rw [y1', q_bd, y2', q_bd, l3, nI_add]
      dsimp only
      refine ⟨h6, zst k8 17 (64 + 4 * c + 3) qM, ?_, qyFX_tr XX (qyFX_tr X3.fx X4.fx), fun j _ => by rw [X4.1 158 (by omega), X3.1 158 (by omega), XL], qyFC_tr F3 (qyFC_tr (qyFE_e M4).fc (qyFC_st (by omega))), Or.inr ⟨?_, qyBad_st Bd (by omega)⟩⟩
      · rw [q_cloB Bd.f, q_bd]
      · unfold f_X11_readCall_144
        rw [q_ix (by omega) (by omega), q_lt, q_cl (by omega), l3, nI_add, q_ix (by omega) (by omega), q_cl (by omega), q_st_s]
        exact if_pos rfl
  · rw [q_ifF (show ¬ nI κ = (18 : Int32) from fun q => z18 ((nI_eq (b := 18) (by omega) (by omega)).mp q)), q_ifF (show ¬ k6' 17 (64 + 4 * c + 2) = 0 by rw [g2]; exact nI_ne0 (by omega) (by omega)), l3, nI_add]
    exact fin h5 k6' _ _ _ A4 b2 b0 (qyFX_tr XX X3.fx) (fun j => by rw [X3.1 158 (by omega), XL]) F3 g0' g1' g2 (by decide) (fun q => absurd q z18)
end Qlines
