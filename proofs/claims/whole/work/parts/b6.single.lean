/-! THE LAW's conditions: one part -/
section Qsingle
def qySg (t : Nat → Nat) (n T a : Nat) (st0 : List Bool) (i : Nat) : Prop := ∀ (s : Nat) (h k : zHp) (D P r v1 G N : Nat) (st : List Bool), qyL h k t n T i s → k 0 29 = nI (P + r) → k 0 27 = nI (D + r) → D + r ≤ 8 → P + r ≤ 3 * (D + r) + 2 → 19 ≤ N + 2 * (D + r) → st.length ≤ 2 * (D + r) + 2 → s + (P + r) + 1 ≤ i → 1000 ≤ G + i → v1 ≤ D + r → (∀ j, P ≤ j → j < P + r → k 16 j = nI 9) → (P = 0 ∨ ¬ k 16 (P - 1) = nI 9) → qyTy k a st0 st s →
  (∃ h1 h' k' i' s' G', (f_X6_rc N).1 (nI (D + r)) h = some h1 ∧ qAddN (nI 15 ^^^ (-1 : Int32)) r h1 = some h' ∧ f_X11_readAny_9_lp G (nI v1, 1, k) = f_X11_readAny_9_lp G' (nI v1, 0, k') ∧ qyL h' k' t n T i' s' ∧ i < i' ∧ s' + P + 1 ≤ i' ∧ s ≤ s' ∧ k' 0 29 = nI P ∧ k' 0 27 = nI D ∧ (∀ j, j < P → k' 16 j = k 16 j) ∧ 1000 ≤ G' + i' ∧ qyTy k' a st0 (true :: st) s' ∧ qyGX h h' s ∧ qyFW k k' s) ∨
  (∃ h' k', (f_X6_rc N).1 (nI (D + r)) h = some h' ∧ f_X11_readAny_9_lp G (nI v1, 1, k) = some (qM, k') ∧ qyBS h' k' s ∧ qyGX h h' s ∧ qyFW k k' s)
def qyCd (t : Nat → Nat) (n T a : Nat) (st0 : List Bool) (i : Nat) : Prop := ∀ (s : Nat) (h k : zHp) (d P v2 v3 c v1 G F N : Nat) (st : List Bool), v2 ≤ 1 → v3 ≤ 1 → qyL h k t n T i s → k 0 29 = nI (P + v3 + v2) → k 0 27 = nI d → d ≤ 8 → P ≤ 3 * d → 19 ≤ N + 2 * d → st.length ≤ 2 * d → s + (P + v3 + v2) + 1 ≤ i → c + 1 ≤ i → 1000 ≤ F + i → 1000 ≤ G + i → v1 ≤ d → (v3 = 1 → k 16 P = nI 11) → (v2 = 1 → k 16 (P + v3) = nI 10) → (P = 0 ∨ k 16 (P - 1) = nI 12) → qyTy k a st0 (List.replicate (v3 + v2) true ++ st) s →
  (∃ h1 k' k'' i' s' G', f_X6_condition_7_lp (f_X6_rc N).1 (f_X6_rc N).2 F (nI d, nI v2, nI v3, nI c, h) = some h1 ∧ f_X11_readAny_9_lp G (nI v1, 1, k) = f_X11_readAny_9_lp G' (nI v1, 0, k') ∧ (f_X11_settles 10 k').bind (f_X11_settles 11) = some k'' ∧ qyAt h1 k' t n T i' ∧ qyL h1 k'' t n T i' s' ∧ i < i' ∧ qyK t n i' ≠ 13 ∧ qyK t n i' ≠ 14 ∧ s' + P + 1 ≤ i' ∧ s ≤ s' ∧ k'' 0 29 = nI P ∧ k'' 0 27 = nI d ∧ (∀ j, j < P → k'' 16 j = k 16 j) ∧ 1000 ≤ G' + i' ∧ qyTy k'' a st0 (true :: st) s' ∧ qyGX h h1 s ∧ qyFW k k'' s) ∨
  (∃ h' k', f_X6_condition_7_lp (f_X6_rc N).1 (f_X6_rc N).2 F (nI d, nI v2, nI v3, nI c, h) = some h' ∧ f_X11_readAny_9_lp G (nI v1, 1, k) = some (qM, k') ∧ qyBS h' k' s ∧ qyGX h h' s ∧ qyFW k k' s)
theorem q_rc2 (N : Nat) (x : Int32) (y : zHp) : (f_X6_rc (N + 1)).2 x y = f_X6_condition_7_lp (f_X6_rc N).1 (f_X6_rc N).2 zN (x, nI 0, nI 0, nI 0, y) := by
  have z0 : nI 0 = 0 := rfl
  rw [z0]
  have e : f_X6_rc (N + 1) = (fun a h => f_X6_single_b (f_X6_rc N).1 (f_X6_rc N).2 a h, fun a h => f_X6_condition_b (f_X6_rc N).1 (f_X6_rc N).2 a h) := rfl
  rw [e]
  dsimp only
  unfold f_X6_condition_b
  rfl
theorem q_sgStep {t : Nat → Nat} {n T a i : Nat} {st0 : List Bool} (hS : qySg t n T a st0 (i + 1)) (hC : qyCd t n T a st0 (i + 1)) : qySg t n T a st0 i := by
  intro s h k D P r v1 G N st L e29 e27 hd hp hN hl hs hG hv top base Y
  have A := L.1
  have T1 := A.2.2.2.2.1.1
  have i400 : i ≤ 400 := Nat.le_trans A.1 T1
  have kK := qyK_le A
  have kk := A.2.2.1
  have l1 : (1 : Int32) = nI 1 := rfl
  have R := r_any1 A (G := G) (by omega) (nI v1)
  obtain ⟨N1, rfl⟩ : ∃ N1, N = N1 + 1 := ⟨N - 1, by omega⟩
  have eN : ∀ x y, (f_X6_rc (N1 + 1)).1 x y = f_X6_single_b (f_X6_rc N1).1 (f_X6_rc N1).2 x y := fun _ _ => rfl
  have bs : ∀ x : Option zHp, x.bind (fun y => some y) = x := fun x => by cases x <;> rfl
  have l16 : (-16 : Int32) = nI 15 ^^^ (-1 : Int32) := by decide
  rw [eN]
  -- it is open too deep
  have deep : ∀ v2 : Int32, D + r = 8 → f_X6_single_b (f_X6_rc N1).1 (f_X6_rc N1).2 (nI (D + r)) h = f_X6_single_70 (f_X6_rc N1).1 (f_X6_rc N1).2 (nI (D + r)) v2 h → ∀ v3, f_X11_readAny_9_lp G (nI v1, 1, k) = f_X11_readAny_33 (f_X11_readAny_9_lp (G - 1)) (nI v1) 1 v3 k → (∃ h' k', f_X6_single_b (f_X6_rc N1).1 (f_X6_rc N1).2 (nI (D + r)) h = some h' ∧ f_X11_readAny_9_lp G (nI v1, 1, k) = some (qM, k') ∧ qyBS h' k' s ∧ qyGX h h' s ∧ qyFW k k' s) := by
    intro v2 z eC v3 eM
    obtain ⟨h', k', x1, x2, x3, x4, x5⟩ := q_failX A (f := 3) (by omega) (by omega)
    have x1' : f_X6_fail 3 h = some h' := x1
    have x2' : f_X11_errs 3 k = some (qM, k') := x2
    refine ⟨h', k', ?_, ?_, ⟨x3, s, by rw [x4.1 150 (by omega)]; exact L.2.1, Nat.le_refl s, by omega⟩, x4.gx s, (qyFE_e x5).fw s⟩
    · rw [eC]
      unfold f_X6_single_70
      rw [if_neg (show ¬ nI (D + r) < (8 : Int32) from qnR 8 (by omega) (by omega)), x1', q_bd]
    · rw [eM]
      unfold f_X11_readAny_33
      rw [if_pos (show k 0 27 = 8 by rw [e27, z]; rfl), x2']; rfl
  by_cases z15 : qyK t n i = 15
  · have eC : f_X6_single_b (f_X6_rc N1).1 (f_X6_rc N1).2 (nI (D + r)) h = f_X6_single_70 (f_X6_rc N1).1 (f_X6_rc N1).2 (nI (D + r)) (nI 15) h := by
      unfold f_X6_single_b
      rw [q_lt, kk, z15, if_pos (show nI 15 = 15 from rfl)]
    have eM := R.2.1 z15
    by_cases z8 : D + r = 8
    · exact Or.inr (deep _ z8 eC _ eM)
    obtain ⟨h1, k2, x1, x2, L2, y29, y27, y16, y16', X, M⟩ := q_open 9 L (by omega) e29 (by omega) e27
    have eM2 : f_X11_readAny_9_lp G (nI v1, 1, k) = f_X11_readAny_9_lp (G - 1) (nI v1, 1, k2) := by
      rw [eM, ← x2 (fun x => f_X11_readAny_9_lp (G - 1) (nI v1, 1, x))]
      unfold f_X11_readAny_33
      rw [if_neg (show ¬ k 0 27 = 8 from fun q => z8 ((nI_eq (b := 8) (by omega) (by omega)).mp (e27.symm.trans q))), q_lt, if_neg (show ¬ nI 1 = 0 by decide)]
      unfold f_X11_readAny_66
      rw [if_neg (show ¬ nI 1 = 0 by decide)]; rfl
    have eC2 : f_X6_single_b (f_X6_rc N1).1 (f_X6_rc N1).2 (nI (D + r)) h = ((f_X6_rc N1).1 (nI (D + (r + 1))) h1).bind fun x2 => f_X1_add 150 (nI 15 ^^^ (-1 : Int32)) x2 := by
      rw [eC]
      unfold f_X6_single_70
      simp only [bs]
      rw [if_pos (show nI (D + r) < (8 : Int32) from qlR 8 (by omega) (by omega)), x1, q_bd, if_pos (show nI 15 = 15 from rfl), l1, nI_add, l16]; rfl
    rcases hS s h1 k2 D P (r + 1) v1 (G - 1) N1 st L2 y29 y27 (by omega) (by omega) (by omega) (by omega) (by omega) (by omega) (by omega) (fun j u v => by
        by_cases z : j = P + r
        · rw [z]; exact y16
        · rw [y16' j z]; exact top j u (by omega)) (by
          rcases base with b | b
          · exact Or.inl b
          · by_cases z : P = 0
            · exact Or.inl z
            · exact Or.inr (by rw [y16' _ (by omega)]; exact b)) (qyTy_fw Y M) with ⟨h2, h', k', i', s', G', g1, g2, g3, g4, g5, g6, g7, g8, g9, g10, g11, g12, g13, g14⟩ | ⟨h', k', g1, g2, g3, g4, g5⟩
    · have g2' : (f_X1_add 150 (nI 15 ^^^ (-1 : Int32)) h2).bind (fun x => qAddN (nI 15 ^^^ (-1 : Int32)) r x) = some h' := g2
      cases ea : f_X1_add 150 (nI 15 ^^^ (-1 : Int32)) h2 with
      | none =>
        rw [ea] at g2'
        cases g2'
      | some h3 =>
        rw [ea, q_bd] at g2'
        exact Or.inl ⟨h3, h', k', i', s', G', by rw [eC2, g1, q_bd]; exact ea, g2', eM2.trans g3, g4, by omega, g6, g7, g8, g9, fun j hj => (g10 j hj).trans (y16' j (by omega)), g11, g12, qyGX_tr (X.gx s) g13 (Nat.le_refl s), qyFW_tr M g14 (Nat.le_refl s)⟩
    · obtain ⟨q1, s1, q2, q3, q4⟩ := g3
      obtain ⟨h3, s2, w1, w2, w3, w4, w5, w6⟩ := q_addF q2 q4 (nI 15 ^^^ (-1 : Int32))
      exact Or.inr ⟨h3, k', by rw [eC2, g1, q_bd]; exact w1, eM2.trans g2, ⟨qyBad_45 q1 w6, s2, w2, by omega, w4⟩, qyGX_tr (X.gx s) (qyGX_tr g4 w5 q3) (Nat.le_refl s), qyFW_tr M g5 (Nat.le_refl s)⟩
  by_cases z29 : qyK t n i = 29
  · have eC : f_X6_single_b (f_X6_rc N1).1 (f_X6_rc N1).2 (nI (D + r)) h = f_X6_single_70 (f_X6_rc N1).1 (f_X6_rc N1).2 (nI (D + r)) (nI 29) h := by
      unfold f_X6_single_b
      rw [q_lt, kk, z29, if_neg (show ¬ nI 29 = 15 by decide), if_pos (show nI 29 = 29 from rfl)]
    have eM := R.2.2 z29
    by_cases z8 : D + r = 8
    · exact Or.inr (deep _ z8 eC _ eM)
    obtain ⟨h1, k2, x1, x2, L2, y29, y27, y16, y16', X, M⟩ := q_open 12 L (by omega) e29 (by omega) e27
    have eM2 : f_X11_readAny_9_lp G (nI v1, 1, k) = f_X11_readAny_9_lp (G - 1) (nI (v1 + 1), 1, k2) := by
      rw [eM, ← x2 (fun x => f_X11_readAny_9_lp (G - 1) (nI (v1 + 1), 1, x))]
      unfold f_X11_readAny_33
      rw [if_neg (show ¬ k 0 27 = 8 from fun q => z8 ((nI_eq (b := 8) (by omega) (by omega)).mp (e27.symm.trans q))), q_lt, if_pos (show nI 0 = 0 from rfl), q_lt]
      unfold f_X11_readAny_66
      rw [if_pos (show nI 0 = 0 from rfl), l1, nI_add]; rfl
    obtain ⟨N2, rfl⟩ : ∃ N2, N1 = N2 + 1 := ⟨N1 - 1, by omega⟩
    have eC2 : f_X6_single_b (f_X6_rc (N2 + 1)).1 (f_X6_rc (N2 + 1)).2 (nI (D + r)) h = (f_X6_condition_7_lp (f_X6_rc N2).1 (f_X6_rc N2).2 zN (nI (D + r + 1), nI 0, nI 0, nI 0, h1)).bind fun x4 => f_X6_expect (nI 30) x4 := by
      rw [eC]
      unfold f_X6_single_70
      simp only [bs]
      rw [if_pos (show nI (D + r) < (8 : Int32) from qlR 8 (by omega) (by omega)), x1, q_bd, if_neg (show ¬ nI 29 = 15 by decide), l1, nI_add, q_rc2]
      have z30 : (30 : Int32) = nI 30 := rfl
      rw [z30]
    have zn := q_zN
    rcases hC s h1 k2 (D + r + 1) (P + r + 1) 0 0 0 (v1 + 1) (G - 1) zN N2 st (by omega) (by omega) L2 y29 y27 (by omega) (by omega) (by omega) (by omega) (by omega) (by omega) (by omega) (by omega) (by omega) (fun q => by omega) (fun q => by omega) (Or.inr y16) (qyTy_fw Y M) with ⟨h2, k', k'', i', s', G', g1, g2, g3, g4, g5, g6, g7, g8, g9, g10, g11, g12, g13, g14, g15, g16, g17⟩ | ⟨h', k', g1, g2, g3, g4, g5⟩
    · have T3 := g5.1.1
      have sA : f_X11_isSign 41 k'' = some (nI (if qyK t n i' = 30 then 1 else 0), k'') := q_isSg g5.1 (w := 30) (by omega) (by omega)
      have gX : qyGX h h2 s := qyGX_tr (X.gx s) g16 (Nat.le_refl s)
      have gM : qyFW k k'' s := qyFW_tr M g17 (Nat.le_refl s)
      obtain ⟨kx, s1, s2⟩ : ∃ kx, f_X11_settles 10 k' = some kx ∧ f_X11_settles 11 kx = some k'' := by
        cases ee : f_X11_settles 10 k' with
        | none => rw [ee] at g3; cases g3
        | some kx => rw [ee, q_bd] at g3; exact ⟨kx, rfl, g3⟩
      have eM3 := (r_any0 g4 (G := G') (by omega) (nI (v1 + 1))).2.2 g7 g8
      rw [s1, q_bd, s2, q_bd, if_neg (show ¬ nI (v1 + 1) = 0 from nI_ne0 (by omega) (by omega)), sA, q_bd] at eM3
      dsimp only at eM3
      by_cases z30 : qyK t n i' = 30
      · rw [if_pos z30, if_neg (show ¬ nI 1 = 0 by decide), g11, l1, q_sub (by omega), q_st_i (by omega), g12, q_sub (by omega), q_sub (by omega), show P + r + 1 - 1 = P + r by omega, show D + r + 1 - 1 = D + r by omega, show v1 + 1 - 1 = v1 by omega] at eM3
        have fr : ∀ b j, ¬(b = 0 ∧ (j = 27 ∨ j = 29)) → zst (zst k'' 0 29 (nI (P + r))) 0 27 (nI (D + r)) b j = k'' b j := fun b j u => by
          rw [q_st]
          by_cases z : b = 0
          · rw [if_pos z, if_neg (by omega), z, q_st_i (by omega)]
          · rw [if_neg z, q_st_c (by omega)]
        have C3 : ∀ hh, qyCo hh k'' s' → qyCo hh (zst (zst k'' 0 29 (nI (P + r))) 0 27 (nI (D + r))) s' := fun hh Ch => ⟨Ch.1, (fr 0 26 (by omega)).trans Ch.2.1, fun j hj => by
          rw [fr 14 _ (by omega), fr 15 _ (by omega)]; exact Ch.2.2 j hj⟩
        have t16 : ∀ j, j < P + r → zst (zst k'' 0 29 (nI (P + r))) 0 27 (nI (D + r)) 16 j = k 16 j := fun j hj => by rw [fr 16 j (by omega), g13 j (by omega)]; exact y16' j (by omega)
        have top3 : ∀ j, P ≤ j → j < P + r → zst (zst k'' 0 29 (nI (P + r))) 0 27 (nI (D + r)) 16 j = nI 9 := fun j u v => (t16 j v).trans (top j u v)
        have c29 : zst (zst k'' 0 29 (nI (P + r))) 0 27 (nI (D + r)) 0 29 = nI (P + r) := by rw [q_st_i (by omega), q_st_s]
        have base3 : P = 0 ∨ ¬ zst (zst k'' 0 29 (nI (P + r))) 0 27 (nI (D + r)) 16 (P - 1) = nI 9 := by
          rcases base with b | b
          · exact Or.inl b
          · by_cases z : P = 0
            · exact Or.inl z
            · exact Or.inr (by rw [t16 (P - 1) (by omega)]; exact b)
        obtain ⟨ha, k4, a1, a2, a3, a4, a5, a6, a7, a8, a9⟩ := q_settle (x := 15) (w := 9) (Or.inl ⟨rfl, rfl⟩) r P D s' h2 _ zN (C3 h2 g5.2) c29 (fun _ => q_st_s) top3 base3 (by omega) (by omega) (by omega) (by omega)
        have A4 : qyAt h2 k4 t n T i' := a9.at (qyAt_k g5.1 (fun j hj => fr 0 j (by omega)) (funext fun j => fr 7 j (by omega)) (funext fun j => fr 8 j (by omega)))
        obtain ⟨h3, k5, b1, b2, A5, X5, M5⟩ := q_expY A4 (w := 30) (by omega) z30
        obtain ⟨h', k4', c1, c2, c3, c4, c5, c6, c7, c8, c9⟩ := q_settle (x := 15) (w := 9) (Or.inl ⟨rfl, rfl⟩) r P D s' h3 _ zN (C3 h3 (qyCo_ax g5.2 X5 (fun _ _ _ => rfl))) c29 (fun _ => q_st_s) top3 base3 (by omega) (by omega) (by omega) (by omega)
        have ek : k4' = k4 := Option.some.inj (c2.symm.trans a2)
        rw [ek] at c3
        have fr5 : ∀ b j, ¬(b = 0 ∧ ((13 ≤ j ∧ j ≤ 16) ∨ j = 26 ∨ j = 27 ∨ j = 29)) → ¬((b = 14 ∨ b = 15) ∧ 800 + s' ≤ j) → k5 b j = k'' b j := fun b j u v => (M5 b j (by omega)).trans ((a9 b j (by omega) (by omega)).trans (fr b j (by omega)))
        have Y4 : qyTy k4 a st0 (true :: st) s' := qyTy_c g15 (fun j hj => ⟨(a9 14 _ (by omega) (by omega)).trans (fr 14 _ (by omega)), (a9 15 _ (by omega) (by omega)).trans (fr 15 _ (by omega))⟩)
        have Y5 := qyTy_fl (qyTy_nots Y4 r (fun j u v => a7 j u v)) (M5.fe.fl (s' + r)) (Nat.le_refl _)
        refine Or.inl ⟨h3, h', k5, i' + 1, s' + r, G' - 1, by rw [eC2, g1, q_bd]; exact b1, c1, ?_, ⟨c8.at A5, qyCo_ax c3 (qyAX_rf h') M5.fe⟩, by omega, by omega, by omega, (M5 0 29 (by omega)).trans a4, (M5 0 27 (by omega)).trans (a5 rfl), fun j hj => (M5 16 j (by omega)).trans ((a9 16 j (by omega) (by omega)).trans (t16 j (by omega))), by omega, Y5, qyGX_tr gX (qyGX_tr (X5.gx s') c8.gx (Nat.le_refl s')) (by omega), qyFW_tr gM (fun b j u v w => fr5 b j (by omega) v) (by omega)⟩
        rw [eM2, g2, eM3]
        have a2' : f_X11_settles 9 (zst (zst k'' 0 29 (nI (P + r))) 0 27 (nI (D + r))) = some k4 := a2
        rw [a2', q_bd, b2, q_bd]
      · rw [if_neg z30, if_pos (show nI 0 = 0 from rfl)] at eM3
        obtain ⟨h3, k3, b1, b2, b3, b4, b5⟩ := q_expN g5.1 (w := 30) (by omega) z30
        refine Or.inr ⟨h3, k3, by rw [eC2, g1, q_bd]; exact b1, ?_, ⟨b3, s', by rw [b4.1 150 (by omega)]; exact g5.2.1, g10, by omega⟩, qyGX_tr gX (b4.gx s') g10, qyFW_tr gM ((qyFE_e b5).fw s') g10⟩
        rw [eM2, g2, eM3, show f_X11_errs 1 k'' = some (qM, k3) from b2]; rfl
    · refine Or.inr ⟨h', k', by rw [eC2, g1, q_bd]; exact q_expB g3.1.f _, eM2.trans g2, g3, qyGX_tr (X.gx s) g4 (Nat.le_refl s), qyFW_tr M g5 (Nat.le_refl s)⟩
  · have eM := R.1 z15 z29
    rcases q_cmp (f_X6_rc N1).1 (f_X6_rc N1).2 (nI (D + r)) L (by omega) (by omega) Y z15 z29 with ⟨h1, k1, i1, s1, e1, e2, L1, e4, e5, Y1, e7, e8⟩ | ⟨h1, k1, e1, e2, e3, e4, e5⟩
    · have T3 := L1.1.1
      rw [e2, q_bd] at eM
      dsimp only at eM
      rw [if_neg (show ¬ (0 : Int32) = -1 by decide)] at eM
      have zn := q_zN
      have f16 : ∀ j, k1 16 j = k 16 j := fun j => e8 16 j (by omega) (by omega) (by omega)
      obtain ⟨h', k4, a1, a2, a3, a4, a5, a6, a7, a8, a9⟩ := q_settle (x := 15) (w := 9) (Or.inl ⟨rfl, rfl⟩) r P D s1 h1 k1 zN L1.2 ((e8 0 29 (by omega) (by omega) (by omega)).trans e29) (fun _ => (e8 0 27 (by omega) (by omega) (by omega)).trans e27) (fun j u v => (f16 j).trans (top j u v)) (by rw [f16]; exact base) (by omega) (by omega) (by omega) (by omega)
      have a2' : f_X11_settles 9 k1 = some k4 := a2
      rw [a2', q_bd] at eM
      exact Or.inl ⟨h1, h', k4, i1, s1 + r, G - 1, e1, a1, eM, ⟨a8.at (a9.at L1.1), a3⟩, e4, by omega, by omega, a4, a5 rfl, fun j hj => (a9 16 j (by omega) (by omega)).trans (f16 j), by omega, qyTy_nots (qyTy_fs Y1 a9) r a7, qyGX_tr e7 a8.gx (by omega), qyFW_tr e8.fw a9.fw (by omega)⟩
    · exact Or.inr ⟨h1, k1, e1, by rw [eM, e2, q_bd]; rfl, e3, e4, e5.fw⟩
end Qsingle
