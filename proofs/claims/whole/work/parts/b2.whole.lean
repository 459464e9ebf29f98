/-! THE LAW's sums: whole ones -/
section Qsum2
theorem q_sumS {t : Nat → Nat} {n T a : Nat} {st0 st : List Bool} (hl : st.length + 3 ≤ 26) : ∀ m i s h k F G c, T - i ≤ m → qyL h k t n T i s → s ≤ i → c + 1 ≤ i → 1000 ≤ F + i → 1000 ≤ G + i → qyTy k a st0 (false :: st) s → (∃ h' k' i' s', f_X6_sumOf_116 (f_X6_sumOf_8_lp F) 35 (nI c) h = some h' ∧ f_X11_readSum_10_lp G k = some (0, k') ∧ qyL h' k' t n T i' s' ∧ i ≤ i' ∧ s' + i = s + i' ∧ qyTy k' a st0 (false :: st) s' ∧ qyGX h h' s ∧ qyFL k k' s) ∨ (∃ h' k', f_X6_sumOf_116 (f_X6_sumOf_8_lp F) 35 (nI c) h = some h' ∧ f_X11_readSum_10_lp G k = some (qM, k') ∧ qyBS h' k' s ∧ qyGX h h' s ∧ qyFL k k' s) := by
  intro m
  induction m with
  | zero =>
    intro i s h k F G c hm L hs hc hF hG Y
    have A := L.1
    have T1 := A.2.2.2.2.1.1
    have iT : i = T := by have := A.1; omega
    have k36 : qyK t n i = 36 := by rw [iT]; exact qyK_T A.2.2.2.2.1
    refine Or.inl ⟨h, k, i, s, ?_, ?_, L, Nat.le_refl i, rfl, Y, qyGX_rf h s, qyFL_rf k s⟩
    · unfold f_X6_sumOf_116
      rw [A.2.2.1, k36, if_neg (show ¬ nI 36 = 25 by decide), if_neg (show ¬ nI 36 = 26 by decide)]; rfl
    · unfold f_X11_readSum_10_lp
      refine q_lp1 (by omega) (fun rec => ?_)
      unfold f_X11_readSum_10
      have s1 : f_X11_isSign 43 k = some (nI (if qyK t n i = 25 then 1 else 0), k) := q_isSg A (w := 25) (by omega) (by omega)
      have s2 : f_X11_isSign 45 k = some (nI (if qyK t n i = 26 then 1 else 0), k) := q_isSg A (w := 26) (by omega) (by omega)
      rw [s1, q_bd]
      dsimp only
      rw [if_neg (show ¬ qyK t n i = 25 by omega), if_pos (show nI 0 = 0 from rfl), s2, q_bd]
      dsimp only
      rw [if_neg (show ¬ qyK t n i = 26 by omega), if_pos (show nI 0 = 0 from rfl)]
  | succ m ih =>
    intro i s h k F G c hm L hs hc hF hG Y
    have A := L.1
    have T1 := A.2.2.2.2.1.1
    have i400 : i ≤ 400 := Nat.le_trans A.1 T1
    have s1 : f_X11_isSign 43 k = some (nI (if qyK t n i = 25 then 1 else 0), k) := q_isSg A (w := 25) (by omega) (by omega)
    have s2 : f_X11_isSign 45 k = some (nI (if qyK t n i = 26 then 1 else 0), k) := q_isSg A (w := 26) (by omega) (by omega)
    have kk := A.2.2.1
    have l1 : (1 : Int32) = nI 1 := rfl
    have hG0 : 0 < G := by omega
    have hF0 : 0 < F := by omega
    have kg := q_sg16 A
    by_cases zz : qyK t n i = 25 ∨ qyK t n i = 26
    · obtain ⟨x, y, hx, hxy⟩ : ∃ x y, qyK t n i = x ∧ (x = 25 ∧ y = 2 ∨ x = 26 ∧ y = 3) := by
        rcases zz with z | z
        · exact ⟨25, 2, z, Or.inl ⟨rfl, rfl⟩⟩
        · exact ⟨26, 3, z, Or.inr ⟨rfl, rfl⟩⟩
      obtain ⟨h1, k1, x1, x2, L1, X1, M1⟩ := qyL_adv L (by omega)
      have i1 := L1.1.1
      have mem : (x, y) ∈ [(25, 2), (26, 3), (27, 4), (28, 5), (31, 6), (32, 7), (33, 8), (15, 9), (14, 10), (13, 11)] := by rcases hxy with ⟨z, w⟩ | ⟨z, w⟩ <;> rw [z, w] <;> decide
      have n35 : ¬ nI x = 35 := by rcases hxy with ⟨z, -⟩ | ⟨z, -⟩ <;> rw [z] <;> decide
      have eC : f_X6_sumOf_116 (f_X6_sumOf_8_lp F) 35 (nI c) h = f_X6_sumOf_8 (f_X6_sumOf_8_lp (F - 1)) 35 (nI x) (nI (c + 1)) h1 := by
        have e143 : f_X6_sumOf_143 (f_X6_sumOf_8_lp F) 35 (nI c) (nI x) h = f_X6_sumOf_8 (f_X6_sumOf_8_lp (F - 1)) 35 (nI x) (nI (c + 1)) h1 := by
          unfold f_X6_sumOf_143 f_X6_sumOf_151
          rw [if_neg n35, A.2.2.2.1.1, if_pos rfl, x1, q_bd, l1, nI_add]
          unfold f_X6_sumOf_8_lp
          rw [q_lpS hF0]
        unfold f_X6_sumOf_116
        rw [kk, hx]
        rcases hxy with ⟨z, -⟩ | ⟨z, -⟩
        · rw [if_pos (show nI x = 25 by rw [z]; rfl)]; exact e143
        · rw [if_neg (show ¬ nI x = 25 by rw [z]; decide), if_pos (show nI x = 26 by rw [z]; rfl)]; exact e143
      have eM : f_X11_readSum_10_lp G k = (f_X11_readProduct k1).bind fun x2 => (if x2.1 = (-1 : Int32) then some ((-1 : Int32), x2.2) else (f_X11_emits (nI y) 0 x2.2).bind fun x3 => f_X11_readSum_10_lp (G - 1) x3) := by
        have e28 : f_X11_readSum_28 (f_X11_readSum_10_lp (G - 1)) k = (f_X11_readProduct k1).bind fun x2 => (if x2.1 = (-1 : Int32) then some ((-1 : Int32), x2.2) else (f_X11_emits (nI y) 0 x2.2).bind fun x3 => f_X11_readSum_10_lp (G - 1) x3) := by
          have k16 := kg (by omega) (by omega)
          unfold f_X11_readSum_28 f_X11_readSum_42
          rcases hxy with ⟨z, w⟩ | ⟨z, w⟩
          · rw [if_pos (show k 0 16 = 43 by rw [k16, hx, z]; rfl), x2, q_bd, w]; rfl
          · rw [if_neg (show ¬ k 0 16 = 43 by rw [k16, hx, z]; decide), x2, q_bd, w]; rfl
        rw [← e28]
        unfold f_X11_readSum_10_lp
        rw [q_lpS hG0]
        show f_X11_readSum_10 _ k = _
        unfold f_X11_readSum_10
        rw [s1, q_bd]
        dsimp only
        rcases hxy with ⟨z, w⟩ | ⟨z, w⟩
        · rw [if_pos (show qyK t n i = 25 by omega), if_neg (show ¬ nI 1 = 0 by decide)]
        · rw [if_neg (show ¬ qyK t n i = 25 by omega), if_pos (show nI 0 = 0 from rfl), s2, q_bd]
          dsimp only
          rw [if_pos (show qyK t n i = 26 by omega), if_neg (show ¬ nI 1 = 0 by decide)]
      have Y1 := qyTy_fl Y (M1.fe.fl s) (Nat.le_refl s)
      rcases q_sumT (F := F - 1) L1 (show s < 400 by omega) (show c + 1 < 400 by omega) (by omega) 35 (nI x) (fun q => absurd q (by decide)) with ⟨h2, k2, e1, e2, L2, e4, e5, e6, e7⟩ | ⟨h', k2, e1, e2, e3, e4, e5⟩
      · have Y2 := qyTy_num (qyTy_fl Y1 e7 (Nat.le_refl s)) e4 (show (false :: st).length < 26 by rw [List.length_cons]; omega)
        have gX : qyGX h h2 s := qyGX_tr (X1.gx s) e6 (Nat.le_refl s)
        have gM : qyFL k k2 s := qyFL_tr (M1.fe.fl s) e7 (Nat.le_refl s)
        have eC2 : f_X6_sumOf_116 (f_X6_sumOf_8_lp F) 35 (nI c) h = f_X6_sumOf_66 (f_X6_sumOf_8_lp (F - 1)) (nI x) (nI (c + 1)) h2 := by
          rw [eC, e1, if_pos (show (35 : Int32) = 35 from rfl)]
        have eP : f_X11_readProduct k1 = f_X11_readProduct_10_lp zN k2 := by
          unfold f_X11_readProduct
          rw [e2, q_bd]
          dsimp only
          rw [if_neg (show ¬ (0 : Int32) = -1 by decide)]
        rcases q_prodU (st := false :: st) (nI x) (by rw [List.length_cons]; omega) (T - (i + 1 + 1)) (i + 1 + 1) (s + 1) h2 k2 (F - 1) zN (c + 1) (Nat.le_refl _) L2 (by omega) (by omega) (by omega) (by rw [q_zN]; omega) Y2 with ⟨h3, k3, i3, s3, F3, c3, g1, g2, L3, g4, g5, g6, g7, g8, g9, Y3, g11, g12⟩ | ⟨h', k', g1, g2, g3, g4, g5⟩
        · have i3T := L3.1.1
          have lt3 : s3 < 400 := by omega
          obtain ⟨h4, k4, f1, f2, L4, f4, f5, f6⟩ := q_op L3 lt3 mem
          have Y4 := qyTy_opr (qyTy_fl Y3 f6 (Nat.le_refl _)) f4 (by rcases hxy with ⟨-, w⟩ | ⟨-, w⟩ <;> omega)
          have gX4 : qyGX h h4 s := qyGX_tr gX (qyGX_tr g11 f5 (by omega)) (by omega)
          have gM4 : qyFL k k4 s := qyFL_tr gM (qyFL_tr g12 f6 (by omega)) (by omega)
          have eC4 : f_X6_sumOf_116 (f_X6_sumOf_8_lp F) 35 (nI c) h = f_X6_sumOf_116 (f_X6_sumOf_8_lp F3) 35 (nI c3) h4 := by
            rw [eC2, g1]
            have kk3 := L3.1.2.2.1
            have kK3 := qyK_le L3.1
            have n1 : ¬ h3 145 7 = 27 := by rw [kk3]; exact fun q => g6 ((nI_eq (b := 27) (by omega) (by omega)).mp q)
            have n2 : ¬ h3 145 7 = 28 := by rw [kk3]; exact fun q => g7 ((nI_eq (b := 28) (by omega) (by omega)).mp q)
            unfold f_X6_sumOf_66
            rw [if_neg n1, if_neg n2]
            unfold f_X6_sumOf_93
            rw [if_pos (show (35 : Int32) = 35 from rfl), if_neg n35, f1, q_bd]
          have eM4 : f_X11_readSum_10_lp G k = f_X11_readSum_10_lp (G - 1) k4 := by
            rw [eM, eP, g2, q_bd]
            dsimp only
            rw [if_neg (show ¬ (0 : Int32) = -1 by decide), f2, q_bd]
          rcases ih i3 (s3 + 1) h4 k4 F3 (G - 1) c3 (by omega) L4 (by omega) g8 g9 (by omega) Y4 with ⟨h', k', i', s', j1, j2, j3, j4, j5, j6, j7, j8⟩ | ⟨h', k', j1, j2, j3, j4, j5⟩
          · exact Or.inl ⟨h', k', i', s', eC4.trans j1, eM4.trans j2, j3, by omega, by omega, j6, qyGX_tr gX4 j7 (by omega), qyFL_tr gM4 j8 (by omega)⟩
          · exact Or.inr ⟨h', k', eC4.trans j1, eM4.trans j2, j3.w (by omega), qyGX_tr gX4 j4 (by omega), qyFL_tr gM4 j5 (by omega)⟩
        · refine Or.inr ⟨h', k', eC2.trans g1, ?_, g3.w (by omega), qyGX_tr gX g4 (by omega), qyFL_tr gM g5 (by omega)⟩
          rw [eM, eP, g2, q_bd]; rfl
      · refine Or.inr ⟨h', k2, eC.trans e1, ?_, e3, qyGX_tr (X1.gx s) e4 (Nat.le_refl s), qyFL_tr (M1.fe.fl s) e5 (Nat.le_refl s)⟩
        rw [eM]
        unfold f_X11_readProduct
        rw [e2, q_bd]; rfl
    · refine Or.inl ⟨h, k, i, s, ?_, ?_, L, Nat.le_refl i, rfl, Y, qyGX_rf h s, qyFL_rf k s⟩
      · have kK := qyK_le A
        unfold f_X6_sumOf_116
        rw [kk, if_neg (show ¬ nI (qyK t n i) = 25 from fun q => by
          have := (nI_eq (b := 25) (by omega) (by omega)).mp q
          omega), if_neg (show ¬ nI (qyK t n i) = 26 from fun q => by
          have := (nI_eq (b := 26) (by omega) (by omega)).mp q
          omega)]; rfl
      · unfold f_X11_readSum_10_lp
        refine q_lp1 (by omega) (fun rec => ?_)
        unfold f_X11_readSum_10
        rw [s1, q_bd]
        dsimp only
        rw [if_neg (show ¬ qyK t n i = 25 by omega), if_pos (show nI 0 = 0 from rfl), s2, q_bd]
        dsimp only
        rw [if_neg (show ¬ qyK t n i = 26 by omega), if_pos (show nI 0 = 0 from rfl)]
/-- a sum -/
theorem q_sumW {t : Nat → Nat} {n T a i s : Nat} {h k : zHp} {st0 st : List Bool} (L : qyL h k t n T i s) (hs : s ≤ i) (hs4 : s < 400) (hl : st.length + 3 ≤ 26) (Y : qyTy k a st0 st s) : (∃ h' k' i' s', f_X6_sumOf h = some h' ∧ f_X11_readSum k = some (0, k') ∧ qyL h' k' t n T i' s' ∧ i < i' ∧ s' + i = s + i' ∧ qyTy k' a st0 (false :: st) s' ∧ qyGX h h' s ∧ qyFL k k' s) ∨ (∃ h' k', f_X6_sumOf h = some h' ∧ f_X11_readSum k = some (qM, k') ∧ qyBS h' k' s ∧ qyGX h h' s ∧ qyFL k k' s) := by
  have eC : f_X6_sumOf h = f_X6_sumOf_8 (f_X6_sumOf_8_lp (zN - 1)) 35 35 (nI 0) h := by
    have : ∀ F, 0 < F → f_X6_sumOf_8_lp F (35, 35, 0, h) = f_X6_sumOf_8 (f_X6_sumOf_8_lp (F - 1)) 35 35 (nI 0) h := fun F hF => by
      unfold f_X6_sumOf_8_lp
      rw [q_lpS hF]; rfl
    exact this zN (by rw [q_zN]; omega)
  rcases q_sumT (F := zN - 1) (c := 0) L hs4 (by omega) (by rw [q_zN]; omega) 35 35 (fun q => absurd q (by decide)) with ⟨h2, k2, e1, e2, L2, e4, e5, e6, e7⟩ | ⟨h', k2, e1, e2, e3, e4, e5⟩
  · have Y2 := qyTy_num (qyTy_fl Y e7 (Nat.le_refl s)) e4 (by omega)
    have eP : f_X11_readProduct k = f_X11_readProduct_10_lp zN k2 := by
      unfold f_X11_readProduct
      rw [e2, q_bd]
      dsimp only
      rw [if_neg (show ¬ (0 : Int32) = -1 by decide)]
    have eC2 : f_X6_sumOf h = f_X6_sumOf_66 (f_X6_sumOf_8_lp (zN - 1)) 35 (nI 0) h2 := by
      rw [eC, e1, if_pos (show (35 : Int32) = 35 from rfl)]
    rcases q_prodU (st := st) 35 (by omega) (T - (i + 1)) (i + 1) (s + 1) h2 k2 (zN - 1) zN 0 (Nat.le_refl _) L2 (by omega) (by omega) (by rw [q_zN]; omega) (by rw [q_zN]; omega) Y2 with ⟨h3, k3, i3, s3, F3, c3, g1, g2, L3, g4, g5, g6, g7, g8, g9, Y3, g11, g12⟩ | ⟨h', k', g1, g2, g3, g4, g5⟩
    · have eC4 : f_X6_sumOf h = f_X6_sumOf_116 (f_X6_sumOf_8_lp F3) 35 (nI c3) h3 := by
        rw [eC2, g1]
        have kk3 := L3.1.2.2.1
        have kK3 := qyK_le L3.1
        have n1 : ¬ h3 145 7 = 27 := by rw [kk3]; exact fun q => g6 ((nI_eq (b := 27) (by omega) (by omega)).mp q)
        have n2 : ¬ h3 145 7 = 28 := by rw [kk3]; exact fun q => g7 ((nI_eq (b := 28) (by omega) (by omega)).mp q)
        unfold f_X6_sumOf_66
        rw [if_neg n1, if_neg n2]
        unfold f_X6_sumOf_93
        rw [if_pos (show (35 : Int32) = 35 from rfl), if_pos (show (35 : Int32) = 35 from rfl)]
      have eM4 : f_X11_readSum k = f_X11_readSum_10_lp zN k3 := by
        unfold f_X11_readSum
        rw [eP, g2, q_bd]
        dsimp only
        rw [if_neg (show ¬ (0 : Int32) = -1 by decide)]
      rcases q_sumS hl (T - i3) i3 s3 h3 k3 F3 zN c3 (Nat.le_refl _) L3 (by omega) g8 g9 (by rw [q_zN]; omega) Y3 with ⟨h', k', i', s', j1, j2, j3, j4, j5, j6, j7, j8⟩ | ⟨h', k', j1, j2, j3, j4, j5⟩
      · exact Or.inl ⟨h', k', i', s', eC4.trans j1, eM4.trans j2, j3, by omega, by omega, j6, qyGX_tr e6 (qyGX_tr g11 j7 (by omega)) (by omega), qyFL_tr e7 (qyFL_tr g12 j8 (by omega)) (by omega)⟩
      · exact Or.inr ⟨h', k', eC4.trans j1, eM4.trans j2, j3.w (by omega), qyGX_tr e6 (qyGX_tr g11 j4 (by omega)) (by omega), qyFL_tr e7 (qyFL_tr g12 j5 (by omega)) (by omega)⟩
    · refine Or.inr ⟨h', k', eC2.trans g1, ?_, g3.w (by omega), qyGX_tr e6 g4 (by omega), qyFL_tr e7 g5 (by omega)⟩
      unfold f_X11_readSum
      rw [eP, g2, q_bd]; rfl
  · refine Or.inr ⟨h', k2, eC.trans e1, ?_, e3, e4, e5⟩
    unfold f_X11_readSum f_X11_readProduct
    rw [e2, q_bd]; rfl
end Qsum2
