/-! THE LAW's lines: one line -/
section Qline2
theorem qyL_rx {h k : zHp} {t : Nat → Nat} {n T i s : Nat} (L : qyL h k t n T i s) {x j : Nat} (v : Int32) (hx : 151 ≤ x ∧ x ≤ 154) : qyL (zst h x j v) k t n T i s :=
  ⟨qyAt_h L.1 (fun a p q => q_st_c (by omega)), by rw [q_st_c (by omega)]; exact L.2.1, L.2.2.1, fun u hu => by rw [q_st_c (by omega)]; exact L.2.2.2 u hu⟩
theorem qyL_rm {h k : zHp} {t : Nat → Nat} {n T i s : Nat} (L : qyL h k t n T i s) {y m : Nat} (w : Int32) (hy : 10 ≤ y ∧ y ≤ 13) : qyL h (zst k y m w) t n T i s :=
  ⟨qyAt_k L.1 (fun j _ => by rw [q_st_c (by omega)]) (by rw [q_st_c (by omega)]) (by rw [q_st_c (by omega)]), L.2.1, by rw [q_st_c (by omega)]; exact L.2.2.1, fun u hu => by rw [q_st_c (by omega), q_st_c (by omega)]; exact L.2.2.2 u hu⟩
theorem q_rw3 : ∀ κ, κ < 24 → (qyRW κ ≤ 2 ↔ κ < 3) ∧ (κ < 3 → qyRW κ = κ) := by decide
theorem q_lineWd {h k : zHp} {t : Nat → Nat} {n T i : Nat} (A : qyAt h k t n T i) : f_X11_isLineWord k = some (nI (if qyK t n i < 3 then 1 else 0), k) := by
  have t2 := q_tok2 A
  unfold f_X11_isLineWord
  by_cases w : qyK t n i < 24
  · have R := q_rw3 _ w
    have R24 := (q_iwF _ w).1
    rw [if_pos (t2.1.mpr w), t2.2 w, show (0 : Int32) = nI 0 from rfl, show (2 : Int32) = nI 2 from rfl]
    by_cases y : qyK t n i < 3
    · rw [q_inI (Nat.zero_le _) (R.1.mpr y) (by omega), if_pos y]; rfl
    · rw [q_inO (show qOut 0 2 (nI (qyRW (qyK t n i))) from Or.inr (nI_lt (by omega) (by omega))), if_neg y]; rfl
  · rw [if_neg (fun q => w (t2.1.mp q)), if_neg (show ¬ qyK t n i < 3 by omega)]; rfl
/-- the end of a line -/
theorem q_law92 {h k : zHp} {t : Nat → Nat} {n T i s l : Nat} (L : qyL h k t n T i s) (hl : l < 16) (e7 : h 150 7 = nI l) : (∃ h' k', f_X6_lawLine_83 h = some h' ∧ (∀ rec, f_X11_readLaw_92 rec (nI l) (nI (32 + l)) k = rec (nI (l + 1), k')) ∧ qyL h' k' t n T (i + 1) s ∧ h' 150 7 = nI (l + 1) ∧ h' 154 l = nI s ∧ k' 13 (32 + l) = nI s ∧ (∀ a, a ≠ 145 → a ≠ 150 → a ≠ 154 → h' a = h a) ∧ qyGL h h' s l ∧ (∀ a j, ¬(a = 0 ∧ 13 ≤ j ∧ j ≤ 16) → ¬(a = 13 ∧ j = 32 + l) → k' a j = k a j)) ∨ (∃ h' k', f_X6_lawLine_83 h = some h' ∧ (∀ rec, f_X11_readLaw_92 rec (nI l) (nI (32 + l)) k = some (qM, k')) ∧ qyBad h' k' ∧ qyGL h h' s l ∧ qyKL k k' s l) := by
  have l1 : (1 : Int32) = nI 1 := rfl
  have L1 := qyL_rm (m := 32 + l) L (y := 13) (nI s) (by omega)
  have s59 : f_X11_isSign 59 (zst k 13 (32 + l) (nI s)) = some (nI (if qyK t n i = 24 then 1 else 0), zst k 13 (32 + l) (nI s)) := q_isSg L1.1 (w := 24) (by omega) (by omega)
  have eM : ∀ rec, f_X11_readLaw_92 rec (nI l) (nI (32 + l)) k = (if qyK t n i = 24 then (f_X11_reads (zst k 13 (32 + l) (nI s))).bind fun x4 => rec (nI (l + 1), x4) else (f_X11_errs 1 (zst k 13 (32 + l) (nI s))).bind fun x3 => some (x3.1, x3.2)) := fun rec => by
    unfold f_X11_readLaw_92
    rw [q_ix (by omega) (by omega), q_lt, q_cl (by omega), L.2.2.1, s59, q_bd]
    dsimp only
    by_cases z : qyK t n i = 24
    · rw [if_pos z, if_neg (show ¬ nI 1 = 0 by decide), if_pos z, l1, nI_add]; rfl
    · rw [if_neg z, if_pos (show nI 0 = 0 from rfl), if_neg z]
  have kM := qyKL_st k s (l := l) (x := 13) (nI s) (by omega)
  by_cases z : qyK t n i = 24
  · obtain ⟨h1, k1, x1, x2, A1, X, M⟩ := q_expY L1.1 (w := 24) (by omega) z
    have x1' : f_X6_expect 24 h = some h1 := x1
    have e71 : h1 150 7 = nI l := by rw [X.1 150 (by omega)]; exact e7
    have e61 : h1 150 6 = nI s := by rw [X.1 150 (by omega)]; exact L.2.1
    have L2 : qyL h1 k1 t n T (i + 1) s := ⟨A1, qyCo_ax L1.2 X M.fe⟩
    refine Or.inl ⟨zst (zst h1 154 l (nI s)) 150 7 (nI (l + 1)), k1, ?_, fun rec => by rw [eM, if_pos z, x2, q_bd], ?_, q_st_s, by rw [q_st_c (by omega), q_st_s], by rw [M 13 _ (by omega), q_st_s], fun a p q r => by rw [q_st_c q, q_st_c r, X.1 a p], ?_, fun a j p q => ?_⟩
    · unfold f_X6_lawLine_83
      rw [x1', q_bd, if_pos A1.2.2.2.1.1]
      unfold f_X1_close
      rw [e71, if_pos (show nI l < (16 : Int32) from qlR 16 hl (by omega)), q_ix (by omega) (by omega), q_lt, q_lt, q_cl (by omega), e61, q_st_c (show (150 : Nat) ≠ 150 + 4 by omega), e71, l1, nI_add]; rfl
    · have L3 := qyL_rx (j := l) L2 (x := 154) (nI s) (by omega)
      exact ⟨qyAt_h L3.1 (fun a p q => q_st_c (by omega)), by rw [q_st_i (by omega)]; exact L3.2.1, L3.2.2.1, fun u hu => by rw [q_st_c (by omega)]; exact L3.2.2.2 u hu⟩
    · refine ⟨fun a p q => by rw [q_st_c (by omega), q_st_c (by omega), X.1 a p], fun j p q r u => by rw [q_st_c (by omega), q_st_c (by omega)]; exact X.2 j p q r u, fun a j p q r => ?_, fun u hu => by rw [q_st_c (by omega), q_st_c (by omega), X.1 155 (by omega)]⟩
      rw [q_st_c (by omega), (qyGL_st h1 s (l := l) (x := 154) (nI s) (by omega)).2.2.1 a j p q r, X.1 a (by omega)]
    · rw [M a j p, q_st]
      by_cases y : a = 13
      · rw [if_pos y, if_neg (by omega), y]
      · rw [if_neg y]
  · obtain ⟨h1, k1, x1, x2, B, X, M⟩ := q_expN L1.1 (w := 24) (by omega) z
    have x1' : f_X6_expect 24 h = some h1 := x1
    have x2' : f_X11_errs 1 (zst k 13 (32 + l) (nI s)) = some (qM, k1) := x2
    refine Or.inr ⟨h1, k1, ?_, fun rec => by rw [eM, if_neg z, x2']; rfl, B, (X.gx s).gl l, qyKL_tr kM (((qyFE_e M).fw s).kl l) (Nat.le_refl s)⟩
    unfold f_X6_lawLine_83
    rw [x1', q_bd, if_neg B.f]
theorem q_lawLine {h k : zHp} {t : Nat → Nat} {n T i s l : Nat} (L : qyL h k t n T i s) (hs : s ≤ i) (hl : l < 16) (e7 : h 150 7 = nI l) (e27 : k 0 27 = nI 0) (z3 : qyK t n i < 3) : (∃ h' k' i' s', f_X6_lawLine h = some h' ∧ (∀ rec, f_X11_readLaw_2 rec (nI l) k = rec (nI (l + 1), k')) ∧ qyL h' k' t n T i' s' ∧ i < i' ∧ s' ≤ i' ∧ s ≤ s' ∧ h' 150 7 = nI (l + 1) ∧ k' 0 27 = nI 0 ∧ qyRowL h' k' s' l ∧ qyGL h h' s l ∧ qyKL k k' s l) ∨ (∃ h' k', f_X6_lawLine h = some h' ∧ (∀ rec, f_X11_readLaw_2 rec (nI l) k = some (qM, k')) ∧ qyBad h' k' ∧ qyGL h h' s l ∧ qyKL k k' s l) := by
  have A := L.1
  have T1 := A.2.2.2.2.1.1
  have iT := A.1
  have l1 : (1 : Int32) = nI 1 := rfl
  have bs : ∀ x : Option zHp, x.bind (fun y => some y) = x := fun x => by cases x <;> rfl
  have lit : qyK t n i < T + 36 := by omega
  have k16 : k 0 16 = nI (qyK t n i) := by rw [(q_tok2 A).2 (by omega), (q_rw3 _ (by omega)).2 z3]
  -- the word
  have L0 := qyL_rx (j := l) (qyL_rx (j := l) (qyL_rm (m := 32 + l) L (y := 10) (nI (qyK t n i)) (by omega)) (x := 151) (nI (qyK t n i)) (by omega)) (x := 152) (nI s) (by omega)
  obtain ⟨h1, k1, x1, x2, L1, X1, M1⟩ := qyL_adv L0 (by omega)
  have iT1 := L1.1.1
  have eB : f_X1_begin 150 (h 145 7) h = some (zst (zst h 151 l (nI (qyK t n i))) 152 l (nI s)) := by
    unfold f_X1_begin
    rw [e7, if_pos (show nI l < (16 : Int32) from qlR 16 hl (by omega)), q_ix (by omega) (by omega), q_lt, q_cl (by omega), q_st_c (show (150 : Nat) ≠ 150 + 1 by omega), e7, q_ix (by omega) (by omega), q_lt, q_cl (by omega), L.2.1, A.2.2.1]
  have gX1 : qyGL h h1 s l := qyGL_tr (qyGL_tr (qyGL_st h s (l := l) (x := 151) (nI (qyK t n i)) (by omega)) (qyGL_st _ s (l := l) (x := 152) (nI s) (by omega)) (Nat.le_refl s)) ((X1.gx s).gl l) (Nat.le_refl s)
  have gM1 : qyKL k (zst k1 11 (32 + l) (nI s)) s l := qyKL_tr (qyKL_tr (qyKL_st k s (l := l) (x := 10) (nI (qyK t n i)) (by omega)) ((M1.fe.fw s).kl l) (Nat.le_refl s)) (qyKL_st k1 s (l := l) (x := 11) (nI s) (by omega)) (Nat.le_refl s)
  have L1' := qyL_rm (m := 32 + l) L1 (y := 11) (nI s) (by omega)
  have e71 : h1 150 7 = nI l := by rw [X1.1 150 (by omega), q_st_c (by omega), q_st_c (by omega)]; exact e7
  have eC : f_X6_lawLine h = (f_X6_sumOf h1).bind fun x4 => (f_X1_middle 150 x4).bind fun x5 => (if (x5 145 12) = 0 then (if (x5 145 7) = (12 : Int32) then (f_X6_advance x5).bind fun x6 => (f_X6_condition (0 : Int32) x6).bind fun x7 => f_X6_lawLine_83 x7 else f_X6_lawLine_83 x5) else f_X6_lawLine_83 x5) := by
    unfold f_X6_lawLine
    rw [if_neg (show ¬ (2 : Int32) < h 145 7 by rw [A.2.2.1]; exact qnL 2 (by omega) (by omega)), if_pos (show h 150 7 < (16 : Int32) by rw [e7]; exact qlR 16 hl (by omega)), eB, q_bd, x1, q_bd]
  have eM : ∀ rec, f_X11_readLaw_2 rec (nI l) k = (f_X11_readSum (zst k1 11 (32 + l) (nI s))).bind fun x8 => (if x8.1 = (-1 : Int32) then some ((-1 : Int32), x8.2) else zix (nI (32 + l)) 48 (zlt (zst x8.2 12 (nI (32 + l)).toNatClampNeg (x8.2 0 26)) fun h9 => (f_X11_isWord (3 : Int32) h9).bind fun x10 => (if x10.1 = 0 then f_X11_readLaw_92 rec (nI l) (nI (32 + l)) x10.2 else (f_X11_reads x10.2).bind fun x11 => (f_X11_readAny x11).bind fun x12 => (if x12.1 = (-1 : Int32) then some ((-1 : Int32), x12.2) else f_X11_readLaw_92 rec (nI l) (nI (32 + l)) x12.2)))) := fun rec => by
    unfold f_X11_readLaw_2
    rw [q_lineWd A, q_bd]
    dsimp only
    rw [if_pos z3, if_neg (show ¬ nI 1 = 0 by decide), if_neg (show ¬ nI l = 16 from fun q => by
      have := (nI_eq (b := 16) (by omega) (by omega)).mp q
      omega), show (32 : Int32) = nI 32 from rfl, nI_add, q_lt, q_ix (by omega) (by omega), q_lt, q_cl (by omega), k16, x2, q_bd, q_ix (by omega) (by omega), q_lt, L1.2.2.1]
  rcases q_sumW L1' (by omega) (by omega) (Nat.le_of_ble_eq_true rfl) (qyTy_0 _ s []) with ⟨h2, k2, i2, s2, g1, g2, L2, g4, g5, Y2, g7, g8⟩ | ⟨h2, k2, g1, g2, g3, g4, g5⟩
  · have iT2 := L2.1.1
    have e72 : h2 150 7 = nI l := by rw [g7.2.2.1 7 (by omega)]; exact e71
    have L3 := qyL_rx (j := l) (qyL_rm (m := 32 + l) L2 (y := 12) (nI s2) (by omega)) (x := 153) (nI s2) (by omega)
    have e73 : zst h2 153 l (nI s2) 150 7 = nI l := by rw [q_st_c (by omega)]; exact e72
    have eMid : f_X1_middle 150 h2 = some (zst h2 153 l (nI s2)) := by
      unfold f_X1_middle
      rw [e72, if_pos (show nI l < (16 : Int32) from qlR 16 hl (by omega)), q_ix (by omega) (by omega), q_lt, q_cl (by omega), L2.2.1]
    have gX3 : qyGL h (zst h2 153 l (nI s2)) s l := qyGL_tr (qyGL_tr gX1 (g7.gl l) (Nat.le_refl s)) (qyGL_st h2 s (l := l) (x := 153) (nI s2) (by omega)) (Nat.le_refl s)
    have gM3 : qyKL k (zst k2 12 (32 + l) (nI s2)) s l := qyKL_tr (qyKL_tr gM1 (g8.fw.kl l) (Nat.le_refl s)) (qyKL_st k2 s (l := l) (x := 12) (nI s2) (by omega)) (Nat.le_refl s)
    have w3 : f_X11_isWord 3 (zst k2 12 (32 + l) (nI s2)) = some (nI (if qyK t n i2 = 12 then 1 else 0), zst k2 12 (32 + l) (nI s2)) := q_isWd L3.1 (w := 12) (by omega)
    have eC2 : f_X6_lawLine h = (if qyK t n i2 = 12 then (f_X6_advance (zst h2 153 l (nI s2))).bind fun x6 => (f_X6_condition (0 : Int32) x6).bind fun x7 => f_X6_lawLine_83 x7 else f_X6_lawLine_83 (zst h2 153 l (nI s2))) := by
      rw [eC, g1, q_bd, eMid, q_bd, if_pos L3.1.2.2.2.1.1]
      by_cases z : qyK t n i2 = 12
      · rw [if_pos z, if_pos (show zst h2 153 l (nI s2) 145 7 = 12 from (q_kne L3.1 (w := 12) (by omega)).mpr z)]
      · rw [if_neg z, if_neg (show ¬ zst h2 153 l (nI s2) 145 7 = 12 from fun q => z ((q_kne L3.1 (w := 12) (by omega)).mp q))]
    have eM2 : ∀ rec, f_X11_readLaw_2 rec (nI l) k = (if qyK t n i2 = 12 then (f_X11_reads (zst k2 12 (32 + l) (nI s2))).bind fun x11 => (f_X11_readAny x11).bind fun x12 => (if x12.1 = (-1 : Int32) then some ((-1 : Int32), x12.2) else f_X11_readLaw_92 rec (nI l) (nI (32 + l)) x12.2) else f_X11_readLaw_92 rec (nI l) (nI (32 + l)) (zst k2 12 (32 + l) (nI s2))) := fun rec => by
      rw [eM, g2, q_bd]
      dsimp only
      rw [if_neg (show ¬ (0 : Int32) = -1 by decide), q_ix (by omega) (by omega), q_lt, q_cl (by omega), L2.2.2.1, w3, q_bd]
      dsimp only
      by_cases z : qyK t n i2 = 12
      · rw [if_pos z, if_neg (show ¬ nI 1 = 0 by decide), if_pos z]
      · rw [if_neg z, if_pos (show nI 0 = 0 from rfl), if_neg z]
    have e273 : zst k2 12 (32 + l) (nI s2) 0 27 = nI 0 := by rw [q_st_c (by omega), g8 0 27 (by omega) (by omega) (by omega), q_st_c (by omega), M1 0 27 (by omega), q_st_c (by omega)]; exact e27
    have Y3 : qyTy (zst k2 12 (32 + l) (nI s2)) s [] [false] s2 := qyTy_c Y2 (fun j _ => by rw [q_st_c (by omega), q_st_c (by omega)]; exact ⟨rfl, rfl⟩)
    -- the cells of the row
    have c1 : zst h2 153 l (nI s2) 151 l = nI (qyK t n i) := by rw [q_st_c (by omega), g7.1 151 (by omega) (by omega) (by omega), X1.1 151 (by omega), q_st_c (by omega), q_st_s]
    have c2 : zst h2 153 l (nI s2) 152 l = nI s := by rw [q_st_c (by omega), g7.1 152 (by omega) (by omega) (by omega), X1.1 152 (by omega), q_st_s]
    have d1 : zst k2 12 (32 + l) (nI s2) 10 (32 + l) = nI (qyK t n i) := by rw [q_st_c (by omega), g8 10 _ (by omega) (by omega) (by omega), q_st_c (by omega), M1 10 _ (by omega), q_st_s]
    have d2 : zst k2 12 (32 + l) (nI s2) 11 (32 + l) = nI s := by rw [q_st_c (by omega), g8 11 _ (by omega) (by omega) (by omega), q_st_s]
    by_cases z12 : qyK t n i2 = 12
    · obtain ⟨h4, k4, y1, y2, L4, X4, M4⟩ := qyL_adv L3 (by omega)
      have iT4 := L4.1.1
      rcases q_condW L4 (by omega) (by rw [M4 0 27 (by omega)]; exact e273) with ⟨h5, k5, i5, s5, j1, j2, L5, j4, j5, j6, j7, Y5, j8, j9⟩ | ⟨h5, k5, j1, j2, j3, j4, j5⟩
      · have e75 : h5 150 7 = nI l := by rw [j8.2.2.1 7 (by omega), X4.1 150 (by omega)]; exact e73
        have gX5 : qyGL h h5 s l := qyGL_tr gX3 (qyGL_tr ((X4.gx s2).gl l) (j8.gl l) (Nat.le_refl s2)) (by omega)
        have gM5 : qyKL k k5 s l := qyKL_tr gM3 (qyKL_tr ((M4.fe.fw s2).kl l) (j9.kl l) (Nat.le_refl s2)) (by omega)
        rcases q_law92 L5 hl e75 with ⟨h6, k6, m1, m2, L6, m4, m5, m6, m7, m8, m9⟩ | ⟨h6, k6, m1, m2, m3, m4, m5⟩
        · have hx : ∀ a, a ≠ 145 → a ≠ 150 → a ≠ 154 → a ≠ 155 → h6 a = zst h2 153 l (nI s2) a := fun a p q r u => by rw [m7 a p q r, j8.1 a p q u, X4.1 a p]
          have kx : ∀ a, 10 ≤ a → a ≤ 12 → k6 a (32 + l) = zst k2 12 (32 + l) (nI s2) a (32 + l) := fun a p q => by rw [m9 a _ (by omega) (by omega), j9 a _ (by omega) (by omega) (by omega), M4 a _ (by omega)]
          have co : ∀ j, k6 14 (800 + j) = k5 14 (800 + j) ∧ k6 15 (800 + j) = k5 15 (800 + j) := fun j => ⟨m9 14 _ (by omega) (by omega), m9 15 _ (by omega) (by omega)⟩
          have co2 : ∀ j, j < s2 → k6 14 (800 + j) = zst k2 12 (32 + l) (nI s2) 14 (800 + j) ∧ k6 15 (800 + j) = zst k2 12 (32 + l) (nI s2) 15 (800 + j) := fun j hj => ⟨by rw [(co j).1, j9 14 _ (by omega) (by omega) (by omega), M4 14 _ (by omega)], by rw [(co j).2, j9 15 _ (by omega) (by omega) (by omega), M4 15 _ (by omega)]⟩
          refine Or.inl ⟨h6, k6, i5 + 1, s5, ?_, fun rec => ?_, L6, by omega, by omega, by omega, m4, by rw [m9 0 27 (by omega) (by omega)]; exact j7, ⟨qyK t n i, s, s2, s5, z3, Nat.le_refl _, by rw [hx 151 (by omega) (by omega) (by omega) (by omega)]; exact c1, by rw [kx 10 (by omega) (by omega)]; exact d1, by rw [hx 152 (by omega) (by omega) (by omega) (by omega)]; exact c2, by rw [kx 11 (by omega) (by omega)]; exact d2, by rw [hx 153 (by omega) (by omega) (by omega) (by omega), q_st_s], by rw [kx 12 (by omega) (by omega), q_st_s], m5, m6, qyTy_c Y3 (fun j hj => co2 j hj), Or.inr (qyTy_c Y5 (fun j _ => co j))⟩, qyGL_tr gX5 m8 (by omega), qyKL_tr gM5 (fun a j p q r u => m9 a j (by omega) (by omega) : qyKL k5 k6 s5 l) (by omega)⟩
          · rw [eC2, if_pos z12, y1, q_bd, j1, q_bd]; exact m1
          · rw [eM2, if_pos z12, y2, q_bd, j2, q_bd]
            dsimp only
            rw [if_neg (show ¬ (0 : Int32) = -1 by decide)]; exact m2 rec
        · refine Or.inr ⟨h6, k6, ?_, fun rec => ?_, m3, qyGL_tr gX5 m4 (by omega), qyKL_tr gM5 m5 (by omega)⟩
          · rw [eC2, if_pos z12, y1, q_bd, j1, q_bd]; exact m1
          · rw [eM2, if_pos z12, y2, q_bd, j2, q_bd]
            dsimp only
            rw [if_neg (show ¬ (0 : Int32) = -1 by decide)]; exact m2 rec
      · refine Or.inr ⟨h5, k5, ?_, fun rec => ?_, j3, qyGL_tr gX3 (qyGL_tr ((X4.gx s2).gl l) (j4.gl l) (Nat.le_refl s2)) (by omega), qyKL_tr gM3 (qyKL_tr ((M4.fe.fw s2).kl l) (j5.kl l) (Nat.le_refl s2)) (by omega)⟩
        · rw [eC2, if_pos z12, y1, q_bd, j1, q_bd]; exact q_law83F j3.f
        · rw [eM2, if_pos z12, y2, q_bd, j2, q_bd]; rfl
    · rcases q_law92 L3 hl e73 with ⟨h6, k6, m1, m2, L6, m4, m5, m6, m7, m8, m9⟩ | ⟨h6, k6, m1, m2, m3, m4, m5⟩
      · refine Or.inl ⟨h6, k6, i2 + 1, s2, by rw [eC2, if_neg z12]; exact m1, fun rec => by rw [eM2, if_neg z12]; exact m2 rec, L6, by omega, by omega, by omega, m4, by rw [m9 0 27 (by omega) (by omega)]; exact e273, ⟨qyK t n i, s, s2, s2, z3, Nat.le_refl _, by rw [m7 151 (by omega) (by omega) (by omega)]; exact c1, by rw [m9 10 _ (by omega) (by omega)]; exact d1, by rw [m7 152 (by omega) (by omega) (by omega)]; exact c2, by rw [m9 11 _ (by omega) (by omega)]; exact d2, by rw [m7 153 (by omega) (by omega) (by omega), q_st_s], by rw [m9 12 _ (by omega) (by omega), q_st_s], m5, m6, qyTy_c Y3 (fun j hj => ⟨m9 14 _ (by omega) (by omega), m9 15 _ (by omega) (by omega)⟩), Or.inl rfl⟩, qyGL_tr gX3 m8 (by omega), qyKL_tr gM3 (fun a j p q r u => m9 a j (by omega) (by omega) : qyKL _ k6 s2 l) (by omega)⟩
      · exact Or.inr ⟨h6, k6, by rw [eC2, if_neg z12]; exact m1, fun rec => by rw [eM2, if_neg z12]; exact m2 rec, m3, qyGL_tr gX3 m4 (by omega), qyKL_tr gM3 m5 (by omega)⟩
  · have e72 : h2 150 7 = nI l := by rw [g4.2.2.1 7 (by omega)]; exact e71
    have F2 : qyF (zst h2 153 l (h2 150 6)) := show ¬ zst h2 153 l (h2 150 6) 145 12 = 0 by rw [q_st_c (by omega)]; exact g3.1.f
    refine Or.inr ⟨zst h2 153 l (h2 150 6), k2, ?_, fun rec => by rw [eM, g2, q_bd]; rfl, qyBad_45 g3.1 (q_st_c (by omega)), qyGL_tr (qyGL_tr gX1 (g4.gl l) (Nat.le_refl s)) (qyGL_st h2 s (l := l) (x := 153) (h2 150 6) (by omega)) (Nat.le_refl s), qyKL_tr gM1 (g5.fw.kl l) (Nat.le_refl s)⟩
    rw [eC, g1, q_bd]
    unfold f_X1_middle
    rw [e72, if_pos (show nI l < (16 : Int32) from qlR 16 hl (by omega)), q_ix (by omega) (by omega), q_lt, q_cl (by omega), q_bd, if_neg F2, q_law83F F2]
end Qline2
