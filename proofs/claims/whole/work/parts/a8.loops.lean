/-! CALLS, HOUSE, KIN line by line: both -/
section Qloops
theorem qyAX_157 {h h' : zHp} (X : qyAX h h') (j : Nat) : h' 157 j = h 157 j := by rw [X.1 157 (by omega)]
/-- what a turn of the class's loop is -/
theorem q_63 {h k : zHp} {t : Nat → Nat} {n T i kd j : Nat} (A : qyAt h k t n T i) (hj : j < 400) (hk : kd < 4) (rec : Int32 × Int32 × Int32 × zHp → Option (Int32 × zHp)) : f_X6_read_63 rec (nI kd) 1 (nI j) h = if qyK t n i = 36 then f_X6_read_147 (nI kd) 1 h else ((if kd = 0 then f_X6_lawLine h else if kd = 1 then f_X6_callsLine h else if kd = 2 then f_X6_houseLine h else f_X6_kinLine h).bind fun x => rec (nI kd, 1, nI (j + 1), x)) := by
  unfold f_X6_read_63
  rw [if_pos (show nI j < (400 : Int32) from qlR 400 hj (by omega)), A.2.2.2.1.1, if_pos rfl]
  by_cases e : qyK t n i = 36
  · rw [if_pos e, if_pos (show h 145 7 = (36 : Int32) from (q_kne A (w := 36) (by omega)).mpr e)]
  · rw [if_neg e, if_neg (show ¬ h 145 7 = (36 : Int32) from fun q => e ((q_kne A (w := 36) (by omega)).mp q)), show nI j + (1 : Int32) = nI (j + 1) from nI_add j 1]
    rcases (show kd = 0 ∨ kd = 1 ∨ kd = 2 ∨ kd = 3 by omega) with rfl | rfl | rfl | rfl
    · rw [if_pos rfl, if_pos (show nI 0 = (0 : Int32) from rfl)]
    · rw [if_neg (show ¬ (1 : Nat) = 0 by decide), if_pos (show (1 : Nat) = 1 from rfl), if_neg (show ¬ nI 1 = (0 : Int32) by decide), if_pos (show nI 1 = (1 : Int32) from rfl)]
    · rw [if_neg (show ¬ (2 : Nat) = 0 by decide), if_neg (show ¬ (2 : Nat) = 1 by decide), if_pos (show (2 : Nat) = 2 from rfl), if_neg (show ¬ nI 2 = (0 : Int32) by decide), if_neg (show ¬ nI 2 = (1 : Int32) by decide), if_pos (show nI 2 = (2 : Int32) from rfl)]
    · rw [if_neg (show ¬ (3 : Nat) = 0 by decide), if_neg (show ¬ (3 : Nat) = 1 by decide), if_neg (show ¬ (3 : Nat) = 2 by decide), if_neg (show ¬ nI 3 = (0 : Int32) by decide), if_neg (show ¬ nI 3 = (1 : Int32) by decide), if_neg (show ¬ nI 3 = (2 : Int32) by decide)]
theorem q_63B {h : zHp} {kd j : Nat} (F : qyF h) (hk : kd < 4) (rec : Int32 × Int32 × Int32 × zHp → Option (Int32 × zHp)) : f_X6_read_63 rec (nI kd) 1 (nI j) h = some (-1, zst h 145 1 0) := by
  have e : f_X6_read_147 (nI kd) 1 h = some (-1, zst h 145 1 0) := by
    rw [q_147 kd hk, if_neg F]
  unfold f_X6_read_63
  rw [if_neg F, e, ite_self]
/-- a line that does not begin with its word, or the 17th -/
theorem q_lineN {h k : zHp} {t : Nat → Nat} {n T i w : Nat} (A : qyAt h k t n T i) (hw : w < 24) (e : qyK t n i ≠ w) : ∃ h' k', f_X6_expectLine (nI w) h = some h' ∧ f_X11_errs 1 k = some (qM, k') ∧ qyBad h' k' ∧ qyAX h h' ∧ qyFE k k' := by
  obtain ⟨h1, k1, x1, x2, Bd, X1, M1⟩ := q_expN A (by omega) e
  have bs : ∀ x : Option zHp, x.bind (fun y => some y) = x := fun x => by cases x <;> rfl
  refine ⟨h1, k1, ?_, x2, Bd, X1, qyFE_e M1⟩
  unfold f_X6_expectLine
  rw [if_neg (fun q => e ((q_kne A (by omega)).mp q)), bs, x1]
theorem q_line17 {h k : zHp} {t : Nat → Nat} {n T i w : Nat} (A : qyAt h k t n T i) (hw : w < 24) (e : qyK t n i = w) (c2 : h 157 2 = nI 16) : ∃ h' k', f_X6_expectLine (nI w) h = some h' ∧ f_X11_errs 3 k = some (qM, k') ∧ qyBad h' k' ∧ qyAX h h' ∧ qyFE k k' := by
  obtain ⟨h1, k1, x1, x2, Bd, X1, M1⟩ := q_failX A (f := 3) (by omega) (by omega)
  have x1' : f_X6_fail 3 h = some h1 := x1
  refine ⟨h1, k1, ?_, x2, Bd, X1, qyFE_e M1⟩
  unfold f_X6_expectLine
  rw [if_pos ((q_kne A (by omega)).mpr e), c2, if_neg (show ¬ nI 16 < (16 : Int32) by decide), x1', q_bd, q_expB Bd.f, q_bd]
-- with a fault a line is nothing
theorem q_callsB {h h1 : zHp} (F : qyF h1) (e : f_X6_expectLine 16 h = some h1) : f_X6_callsLine h = some h1 := by
  unfold f_X6_callsLine
  rw [e, q_bd, q_numB F, q_bd]
  dsimp only
  rw [q_expB F, q_bd, q_numB F, q_bd]
  exact q_cTailB F _ _
theorem q_houseB {h h1 : zHp} (F : qyF h1) (e : f_X6_expectLine 16 h = some h1) : f_X6_houseLine h = some h1 := by
  unfold f_X6_houseLine
  rw [e, q_bd, q_numB F, q_bd]
  exact q_hTailB F _
theorem q_kinB {h h1 : zHp} (F : qyF h1) (e : f_X6_expectLine 17 h = some h1) : f_X6_kinLine h = some h1 := by
  unfold f_X6_kinLine
  rw [e, q_bd, q_numB F, q_bd]
  dsimp only
  rw [q_expB F, q_bd, q_numB F, q_bd]
  dsimp only
  rw [q_cloB F, q_bd]
/-- all three: what a line is, what the reference asks first -/
theorem q_lines {h k : zHp} {t : Nat → Nat} {n T i0 kd w b d : Nat} {line : zHp → Option zHp} {ref : (Int32 × zHp → Option (Int32 × zHp)) → Int32 → zHp → Option (Int32 × zHp)} (Row : zHp → zHp → Nat → Prop) (hkd : kd = 1 ∨ kd = 2 ∨ kd = 3) (hw : w < 24)
    (eL : ∀ hh, (if kd = 0 then f_X6_lawLine hh else if kd = 1 then f_X6_callsLine hh else if kd = 2 then f_X6_houseLine hh else f_X6_kinLine hh) = line hh)
    (eB : ∀ hh h1, qyF h1 → f_X6_expectLine (nI w) hh = some h1 → line hh = some h1)
    (one : ∀ hh kk, ∃ rl : Option (Int32 × zHp), ∀ i c, c < 16 → qyAt hh kk t n T i → qyK t n i = w → hh 157 2 = nI c → qyFX h hh → qyFC k kk b d → Row hh kk c → (∀ rec, ref rec (nI c) kk = rl.bind fun x4 => if x4.1 = (-1 : Int32) then some (-1, x4.2) else rec (nI (c + 1), x4.2)) ∧ ∃ h' k', line hh = some h' ∧ qyFX hh h' ∧ qyFC kk k' b d ∧ ((rl = some (0, k') ∧ (∃ i', qyAt h' k' t n T i') ∧ h' 157 2 = nI (c + 1) ∧ Row h' k' (c + 1)) ∨ (rl = some (qM, k') ∧ qyBad h' k')))
    (non : ∀ hh kk i c, c ≤ 16 → qyAt hh kk t n T i → (qyK t n i ≠ w ∨ c = 16) → ∀ rec, ref rec (nI c) kk = if qyK t n i = 36 then some (nI c, kk) else if qyK t n i = w then f_X11_errs 3 kk else f_X11_errs 1 kk)
    (A : qyAt h k t n T i0) (c2 : h 157 2 = nI 0) (R0 : Row h k 0) : qyEnd h k b d Row (f_X6_read_63_lp zN (nI kd, 1, nI 0, h)) (zlp (fun rec v => ref rec v.1 v.2) zN (nI 0, k)) := by
  have hk4 : kd < 4 := by omega
  have bs : ∀ x : Option (Int32 × zHp), x.bind (fun y => some (y.1, y.2)) = x := fun x => by cases x <;> rfl
  unfold f_X6_read_63_lp
  refine q_exit3 (b1 := fun k63 v => f_X6_read_63 k63 v.1 v.2.1 v.2.2.1 v.2.2.2) (b2 := fun rec v => ref rec v.1 v.2) (I := fun j v w => ∃ hh kk i, v = (nI kd, 1, nI j, hh) ∧ w = (nI j, kk) ∧ qyAt hh kk t n T i ∧ hh 157 2 = nI j ∧ qyFX h hh ∧ qyFC k kk b d ∧ Row hh kk j) 16 (Q := fun x y => qyEnd h k b d Row x y) (fun j v u hj hI => ?_) _ _ ⟨h, k, i0, rfl, rfl, A, c2, qyFX_rf h, fun _ _ _ _ => rfl, R0⟩ zN zN (by rw [q_zN]; omega) (by rw [q_zN]; omega)
  obtain ⟨hh, kk, i, rfl, rfl, A1, n2, FX, FC, R1⟩ := hI
  have turn := fun rec => q_63 (j := j) A1 (by omega) hk4 rec
  have p13 : hh 145 13 = h 145 13 := by rw [A1.2.2.2.1.2, A.2.2.2.1.2]
  by_cases e36 : qyK t n i = 36
  · -- the end
    refine Or.inr ⟨_, _, Or.inl (fun rec => (turn rec).trans (if_pos e36)), fun rec => (non hh kk i j hj A1 (Or.inl (by omega)) rec).trans (if_pos e36), hh, kk, FX, FC, Or.inl ⟨j, hj, ?_, rfl, A1.2.2.2.1.1, p13, n2, R1⟩⟩
    rw [q_147 kd hk4, if_pos A1.2.2.2.1.1, if_neg (by omega), n2]
  · have turn2 : ∀ rec, f_X6_read_63 rec (nI kd) 1 (nI j) hh = (line hh).bind fun x => rec (nI kd, 1, nI (j + 1), x) := fun rec => by rw [turn rec, if_neg e36, eL]
    have bad : ∀ h1 k1, line hh = some h1 → qyBad h1 k1 → qyFX hh h1 → qyFC kk k1 b d → (∀ rec, ref rec (nI j) kk = some (qM, k1)) → ∃ r s, ((∀ rec, f_X6_read_63 rec (nI kd) 1 (nI j) hh = r) ∨ ∃ v', (∀ rec : Int32 × Int32 × Int32 × zHp → Option (Int32 × zHp), f_X6_read_63 rec (nI kd) 1 (nI j) hh = rec v') ∧ ∀ rec, f_X6_read_63 rec v'.1 v'.2.1 v'.2.2.1 v'.2.2.2 = r) ∧ (∀ rec, ref rec (nI j) kk = s) ∧ qyEnd h k b d Row r s := by
      intro h1 k1 eh Bd X1 C1 er
      exact ⟨some (-1, zst h1 145 1 0), some (qM, k1), Or.inr ⟨(nI kd, 1, nI (j + 1), h1), fun rec => by rw [turn2 rec, eh, q_bd], fun rec => q_63B Bd.f hk4 rec⟩, er, h1, k1, qyFX_tr FX X1, qyFC_tr FC C1, Or.inr ⟨rfl, rfl, Bd⟩⟩
    by_cases ew : qyK t n i = w
    · by_cases j16 : j = 16
      · -- the 17th
        subst j16
        obtain ⟨h1, k1, x1, x2, Bd, X1, M1⟩ := q_line17 A1 hw ew n2
        exact Or.inr (bad h1 k1 (eB hh h1 Bd.f x1) Bd X1.fx M1.fc (fun rec => by rw [non hh kk i 16 (by omega) A1 (Or.inr rfl) rec, if_neg e36, if_pos ew, x2]))
      · obtain ⟨rl, hrl⟩ := one hh kk
        obtain ⟨er, h', k', eh, X1, C1, out⟩ := hrl i j (by omega) A1 ew n2 FX FC R1
        rcases out with ⟨r0, ⟨i', A2⟩, n2', R2⟩ | ⟨r0, Bd⟩
        · refine Or.inl ⟨by omega, (nI kd, 1, nI (j + 1), h'), (nI (j + 1), k'), fun rec => by rw [turn2 rec, eh, q_bd], fun rec => ?_, h', k', i', rfl, rfl, A2, n2', qyFX_tr FX X1, qyFC_tr FC C1, R2⟩
          rw [er rec, r0, q_bd]; exact if_neg (show ¬ (0 : Int32) = -1 by decide)
        · refine Or.inr (bad h' k' eh Bd X1 C1 (fun rec => ?_))
          rw [er rec, r0, q_bd]; exact if_pos rfl
    · obtain ⟨h1, k1, x1, x2, Bd, X1, M1⟩ := q_lineN A1 hw ew
      exact Or.inr (bad h1 k1 (eB hh h1 Bd.f x1) Bd X1.fx M1.fc (fun rec => by rw [non hh kk i j hj A1 (Or.inl ew) rec, if_neg e36, if_neg ew, x2]))
theorem q_end11 {k : zHp} {x : Option (Int32 × zHp)} (h : x = f_X11_errs 1 k) : (x.bind fun y => some (y.1, y.2)) = f_X11_errs 1 k := by
  rw [h]; cases f_X11_errs 1 k <;> rfl
theorem q_bs2 (x : Option (Int32 × zHp)) : (x.bind fun y => some (y.1, y.2)) = x := by cases x <;> rfl
theorem q_readCalls {h k : zHp} {t : Nat → Nat} {n T i0 C P : Nat} (A : qyAt h k t n T i0) (c2 : h 157 2 = nI 0) (c0 : h 157 0 = 16) (x8 : h 145 8 = nI C) (x9 : h 145 9 = nI P) (k6 : k 0 6 = nI C) (k7 : k 0 7 = nI P) (hC : C ≤ 10) (hP : P ≤ 14) : qyEnd h k 17 64 (fun h k c => ∀ x, x < c → qyRowC h k C P x) (f_X6_read_63_lp zN (nI 1, 1, nI 0, h)) (f_X11_readCalls k) := by
  refine q_lines (kd := 1) (w := 16) (line := f_X6_callsLine) (ref := fun rec v h => f_X11_readCalls_2 rec v h) (fun h k c => ∀ x, x < c → qyRowC h k C P x) (Or.inl rfl) (by omega) (fun hh => by rw [if_neg (by decide), if_pos rfl]) (fun hh h1 F e => q_callsB F e) (fun hh kk => ⟨f_X11_readCall (((64 : Int32) + ((4 : Int32) * hh 157 2))) kk, fun i c hc A1 ew n2 FX FC R1 => ⟨fun rec => ?_, ?_⟩⟩) (fun hh kk i c hc A1 hn rec => ?_) A c2 (fun x hx => absurd hx (Nat.not_lt_zero x))
  · have w16 : f_X11_isWord 16 kk = some (nI (if qyK t n i = 16 then 1 else 0), kk) := q_isWd A1 (w := 16) (by omega)
    show f_X11_readCalls_2 rec (nI c) kk = _
    unfold f_X11_readCalls_2
    rw [w16, q_bd, if_pos ew, n2]
    dsimp only
    rw [if_neg (show ¬ nI 1 = 0 by decide), if_neg (show ¬ nI c = (16 : Int32) from fun q => by have := (nI_eq (b := 16) (by omega) (by omega)).mp q; omega), show nI c + (1 : Int32) = nI (c + 1) from nI_add c 1]
    rfl
  · obtain ⟨h', k', s1, s2, s3, s4, s5⟩ := q_callLine A1 hc n2 (by rw [FX.2.2]; exact c0) (by rw [FX.2.1 8 (by omega) (by omega) (by omega) (by omega)]; exact x8) (by rw [FX.2.1 9 (by omega) (by omega) (by omega) (by omega)]; exact x9) (by rw [FC 0 6 (by omega) (by omega)]; exact k6) (by rw [FC 0 7 (by omega) (by omega)]; exact k7) hC hP
    have ea : (64 : Int32) + (4 : Int32) * hh 157 2 = nI (64 + 4 * c) := by rw [n2, show (4 : Int32) = nI 4 from rfl, pk_mul, show (64 : Int32) = nI 64 from rfl, nI_add]
    rw [ea]
    refine ⟨h', k', s1, s2, fun a j p q => s4 a j p (by omega), ?_⟩
    rcases s5 with ⟨r1, r2, r3, r4⟩ | r
    · refine Or.inl ⟨r1, r2, r3, fun x hx => ?_⟩
      by_cases z : x = c
      · rw [z]; exact r4
      · obtain ⟨m, v, p, y1, y2, y3, y4, y5, y6, y7, y8, y9, y10⟩ := R1 x (by omega)
        refine ⟨m, v, p, y1, y2, y3, ?_, ?_, ?_, ?_, ?_, ?_, fun h0 => ?_⟩
        · rw [s3 _ (by omega)]; exact y4
        · rw [s4 17 _ (by omega) (by omega)]; exact y5
        · rw [s3 _ (by omega)]; exact y6
        · rw [s4 17 _ (by omega) (by omega)]; exact y7
        · rw [s3 _ (by omega)]; exact y8
        · rw [s4 17 _ (by omega) (by omega)]; exact y9
        · rw [s3 _ (by omega), s4 17 _ (by omega) (by omega)]; exact y10 h0
    · exact Or.inr r
  · have w16 : f_X11_isWord 16 kk = some (nI (if qyK t n i = 16 then 1 else 0), kk) := q_isWd A1 (w := 16) (by omega)
    have t0 := q_tok0 A1
    show f_X11_readCalls_2 rec (nI c) kk = _
    unfold f_X11_readCalls_2
    rw [w16, q_bd]
    dsimp only
    by_cases e : qyK t n i = 16
    · have ec : c = 16 := by omega
      rw [if_pos e, if_neg (show ¬ nI 1 = 0 by decide), if_pos (show nI c = (16 : Int32) by rw [ec]; rfl), if_neg (by omega), if_pos e, q_bs2]
    · rw [if_neg e, if_pos (show nI 0 = 0 from rfl), if_neg e, q_bs2]
      by_cases z : qyK t n i = 36
      · rw [if_pos z, if_pos (t0.mpr z)]
      · rw [if_neg z, if_neg (fun q => z (t0.mp q))]
theorem q_readHouse {h k : zHp} {t : Nat → Nat} {n T i0 C : Nat} (A : qyAt h k t n T i0) (c2 : h 157 2 = nI 0) (c0 : h 157 0 = 16) (x8 : h 145 8 = nI C) (k6 : k 0 6 = nI C) (hC : C ≤ 10) : qyEnd h k 18 48 (fun h k c => ∀ x, x < c → qyRowH h k C x) (f_X6_read_63_lp zN (nI 2, 1, nI 0, h)) (f_X11_readHouse k) := by
  refine q_lines (kd := 2) (w := 16) (line := f_X6_houseLine) (ref := fun rec v h => f_X11_readHouse_2 rec v h) (fun h k c => ∀ x, x < c → qyRowH h k C x) (Or.inr (Or.inl rfl)) (by omega) (fun hh => by rw [if_neg (by decide), if_neg (by decide), if_pos rfl]) (fun hh h1 F e => q_houseB F e) (fun hh kk => ⟨f_X11_readHouseLine (((48 : Int32) + ((3 : Int32) * hh 157 2))) kk, fun i c hc A1 ew n2 FX FC R1 => ⟨fun rec => ?_, ?_⟩⟩) (fun hh kk i c hc A1 hn rec => ?_) A c2 (fun x hx => absurd hx (Nat.not_lt_zero x))
  · have w16 : f_X11_isWord 16 kk = some (nI (if qyK t n i = 16 then 1 else 0), kk) := q_isWd A1 (w := 16) (by omega)
    show f_X11_readHouse_2 rec (nI c) kk = _
    unfold f_X11_readHouse_2
    rw [w16, q_bd, if_pos ew, n2]
    dsimp only
    rw [if_neg (show ¬ nI 1 = 0 by decide), if_neg (show ¬ nI c = (16 : Int32) from fun q => by have := (nI_eq (b := 16) (by omega) (by omega)).mp q; omega), show nI c + (1 : Int32) = nI (c + 1) from nI_add c 1]
    rfl
  · obtain ⟨h', k', s1, s2, s3, s4, s5⟩ := q_houseLine A1 hc n2 (by rw [FX.2.2]; exact c0) (by rw [FX.2.1 8 (by omega) (by omega) (by omega) (by omega)]; exact x8) (by rw [FC 0 6 (by omega) (by omega)]; exact k6) hC
    have ea : (48 : Int32) + (3 : Int32) * hh 157 2 = nI (48 + 3 * c) := by rw [n2, show (3 : Int32) = nI 3 from rfl, pk_mul, show (48 : Int32) = nI 48 from rfl, nI_add]
    rw [ea]
    refine ⟨h', k', s1, s2, fun a j p q => s4 a j p (by omega), ?_⟩
    rcases s5 with ⟨r1, r2, r3, r4⟩ | r
    · refine Or.inl ⟨r1, r2, r3, fun x hx => ?_⟩
      by_cases z : x = c
      · rw [z]; exact r4
      · obtain ⟨m, y1, y2, y3, y4⟩ := R1 x (by omega)
        refine ⟨m, y1, ?_, ?_, ?_⟩
        · rw [s3 _ (by omega)]; exact y2
        · rw [s4 18 _ (by omega) (by omega)]; exact y3
        · rw [s3 _ (by omega), s3 _ (by omega), s3 _ (by omega), s4 18 _ (by omega) (by omega), s4 18 _ (by omega) (by omega)]; exact y4
    · exact Or.inr r
  · have w16 : f_X11_isWord 16 kk = some (nI (if qyK t n i = 16 then 1 else 0), kk) := q_isWd A1 (w := 16) (by omega)
    have t0 := q_tok0 A1
    show f_X11_readHouse_2 rec (nI c) kk = _
    unfold f_X11_readHouse_2
    rw [w16, q_bd]
    dsimp only
    by_cases e : qyK t n i = 16
    · have ec : c = 16 := by omega
      rw [if_pos e, if_neg (show ¬ nI 1 = 0 by decide), if_pos (show nI c = (16 : Int32) by rw [ec]; rfl), if_neg (by omega), if_pos e, q_bs2]
    · rw [if_neg e, if_pos (show nI 0 = 0 from rfl), if_neg e, q_bs2]
      by_cases z : qyK t n i = 36
      · rw [if_pos z, if_pos (t0.mpr z)]
      · rw [if_neg z, if_neg (fun q => z (t0.mp q))]
theorem q_readKin {h k : zHp} {t : Nat → Nat} {n T i0 P : Nat} (A : qyAt h k t n T i0) (c2 : h 157 2 = nI 0) (c0 : h 157 0 = 16) (x9 : h 145 9 = nI P) (k7 : k 0 7 = nI P) (hP : P ≤ 14) : qyEnd h k 19 14 (fun h k c => qyMk h k P c) (f_X6_read_63_lp zN (nI 3, 1, nI 0, h)) (f_X11_readKin k) := by
  -- the draft's sets are empty at first
  have zero : ∃ k1, f_X11_readKin k = f_X11_readKin_26_lp zN (nI 0, k1) ∧ (∀ a, a ≠ 19 → k1 a = k a) ∧ (∀ j, j < 14 → k1 19 j = k 19 j) ∧ ∀ p, p < 14 → k1 19 (14 + p) = 0 := by
    unfold f_X11_readKin f_X11_readKin_2_lp
    refine q_exit (b := fun k2 v => f_X11_readKin_2 k2 v.1 v.2) (I := fun j v => ∃ k1, v = (nI j, k1) ∧ (∀ a, a ≠ 19 → k1 a = k a) ∧ (∀ j, j < 14 → k1 19 j = k 19 j) ∧ ∀ p, p < j → k1 19 (14 + p) = 0) 14 (Q := fun x => ∃ k1, x = f_X11_readKin_26_lp zN (nI 0, k1) ∧ (∀ a, a ≠ 19 → k1 a = k a) ∧ (∀ j, j < 14 → k1 19 j = k 19 j) ∧ ∀ p, p < 14 → k1 19 (14 + p) = 0) (fun j v hj hI => Or.inl ?_) (fun v hI => ?_) _ ⟨k, rfl, fun _ _ => rfl, fun _ _ => rfl, fun p hp => absurd hp (Nat.not_lt_zero p)⟩ zN (by rw [q_zN]; omega)
    · obtain ⟨k1, rfl, g1, g3, g2⟩ := hI
      refine ⟨(nI (j + 1), zst k1 19 (14 + j) 0), fun rec => ?_, _, rfl, fun a ha => by rw [q_st_c ha]; exact g1 a ha, fun x hx => by rw [q_st_i (by omega)]; exact g3 x hx, fun p hp => ?_⟩
      · simp only [f_X11_readKin_2]
        rw [q_ifT (qlR 14 hj (by omega)), show (14 : Int32) = nI 14 from rfl, nI_add, q_ix (by omega) (by omega), q_lt, q_cl (by omega), show (1 : Int32) = nI 1 from rfl, nI_add]
      · by_cases z : p = j
        · rw [z, q_st_s]
        · rw [q_st_i (by omega)]; exact g2 p (by omega)
    · obtain ⟨k1, rfl, g1, g3, g2⟩ := hI
      refine ⟨_, fun rec => ?_, k1, rfl, g1, g3, g2⟩
      simp only [f_X11_readKin_2]
      exact if_neg (qnR 14 (Nat.le_refl 14) (by omega))
  obtain ⟨k1, e1, F1, F2, Z1⟩ := zero
  have FC1 : qyFC k k1 19 14 := fun a j _ q => by
    by_cases z : a = 19
    · rw [z]; exact F2 j (by omega)
    · rw [F1 a z]
  have A' : qyAt h k1 t n T i0 := qyAt_k A (fun j _ => by rw [F1 0 (by omega)]) (F1 7 (by omega)) (F1 8 (by omega))
  have main : qyEnd h k1 19 14 (fun h k c => qyMk h k P c) (f_X6_read_63_lp zN (nI 3, 1, nI 0, h)) (f_X11_readKin_26_lp zN (nI 0, k1)) := by
    refine q_lines (kd := 3) (w := 17) (line := f_X6_kinLine) (ref := fun rec v h => f_X11_readKin_26 rec v h) (fun h k c => qyMk h k P c) (Or.inr (Or.inr rfl)) (by omega) (fun hh => by rw [if_neg (by decide), if_neg (by decide), if_neg (by decide)]) (fun hh h1 F e => q_kinB F e) (fun hh kk => ⟨f_X11_readKinOne kk, fun i c hc A1 ew n2 FX FC R1 => ⟨fun rec => ?_, ?_⟩⟩) (fun hh kk i c hc A1 hn rec => ?_) A' c2 ⟨fun x hx => absurd hx (Nat.not_lt_zero x), fun p hp => Z1 p hp⟩
    · have w17 : f_X11_isWord 17 kk = some (nI (if qyK t n i = 17 then 1 else 0), kk) := q_isWd A1 (w := 17) (by omega)
      show f_X11_readKin_26 rec (nI c) kk = _
      unfold f_X11_readKin_26
      rw [w17, q_bd, if_pos ew]
      dsimp only
      rw [if_neg (show ¬ nI 1 = 0 by decide), if_neg (show ¬ nI c = (16 : Int32) from fun q => by have := (nI_eq (b := 16) (by omega) (by omega)).mp q; omega), show nI c + (1 : Int32) = nI (c + 1) from nI_add c 1]
      rfl
    · exact q_kinLine A1 hc n2 (by rw [FX.2.2]; exact c0) (by rw [FX.2.1 9 (by omega) (by omega) (by omega) (by omega)]; exact x9) (by rw [FC 0 7 (by omega) (by omega), F1 0 (by omega)]; exact k7) hP R1
    · have w17 : f_X11_isWord 17 kk = some (nI (if qyK t n i = 17 then 1 else 0), kk) := q_isWd A1 (w := 17) (by omega)
      have t0 := q_tok0 A1
      show f_X11_readKin_26 rec (nI c) kk = _
      unfold f_X11_readKin_26
      rw [w17, q_bd]
      dsimp only
      by_cases e : qyK t n i = 17
      · have ec : c = 16 := by omega
        rw [if_pos e, if_neg (show ¬ nI 1 = 0 by decide), if_pos (show nI c = (16 : Int32) by rw [ec]; rfl), if_neg (by omega), if_pos e, q_bs2]
      · rw [if_neg e, if_pos (show nI 0 = 0 from rfl), if_neg e, q_bs2]
        by_cases z : qyK t n i = 36
        · rw [if_pos z, if_pos (t0.mpr z)]
        · rw [if_neg z, if_neg (fun q => z (t0.mp q))]
  rw [e1]
  obtain ⟨h', k', m1, m2, m3⟩ := main
  exact ⟨h', k', m1, qyFC_tr FC1 m2, m3⟩
end Qloops
