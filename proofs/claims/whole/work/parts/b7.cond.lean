/-! THE LAW's conditions: whole ones -/
section Qcond
theorem q_addN1 (p : Int32) (h : zHp) : qAddN p 1 h = f_X1_add 150 p h := by
  show (f_X1_add 150 p h).bind (fun x => some x) = _
  cases f_X1_add 150 p h <;> rfl
theorem q_cdStep {t : Nat → Nat} {n T a i : Nat} {st0 : List Bool} (hS : qySg t n T a st0 i) (hC : ∀ j, i < j → qyCd t n T a st0 j) : qyCd t n T a st0 i := by
  intro s h k d P v2 v3 c v1 G F N st hv2 hv3 L e29 e27 hd hp hN hl hs hc hF hG hv t11 t10 base Y
  have A := L.1
  have T1 := A.2.2.2.2.1.1
  have i400 : i ≤ 400 := Nat.le_trans A.1 T1
  have l1 : (1 : Int32) = nI 1 := rfl
  have zn := q_zN
  have l15 : (-15 : Int32) = nI 14 ^^^ (-1 : Int32) := by decide
  have l14 : (-14 : Int32) = nI 13 ^^^ (-1 : Int32) := by decide
  have n9 : ¬ nI 10 = nI 9 := by decide
  have n9b : ¬ nI 11 = nI 9 := by decide
  have n9c : ¬ nI 12 = nI 9 := by decide
  have eC : f_X6_condition_7_lp (f_X6_rc N).1 (f_X6_rc N).2 F (nI d, nI v2, nI v3, nI c, h) = ((f_X6_rc N).1 (nI d) h).bind fun x1 => (if nI v2 = 0 then f_X6_condition_40 (f_X6_rc N).1 (f_X6_rc N).2 (f_X6_condition_7_lp (f_X6_rc N).1 (f_X6_rc N).2 (F - 1)) (nI d) (nI v3) (nI c) x1 else (f_X1_add 150 (-15 : Int32) x1).bind fun x2 => f_X6_condition_40 (f_X6_rc N).1 (f_X6_rc N).2 (f_X6_condition_7_lp (f_X6_rc N).1 (f_X6_rc N).2 (F - 1)) (nI d) (nI v3) (nI c) x2) := by
    generalize (f_X6_rc N).1 = ks
    generalize (f_X6_rc N).2 = kc
    unfold f_X6_condition_7_lp
    rw [q_lpS (by omega)]
    show f_X6_condition_7 ks kc _ (nI d) (nI v2) (nI v3) (nI c) h = _
    unfold f_X6_condition_7
    rw [if_pos (show nI c < (400 : Int32) from qlR 400 (by omega) (by omega)), if_pos A.2.2.2.1.1]
  have bse : P + v3 + v2 = 0 ∨ ¬ k 16 (P + v3 + v2 - 1) = nI 9 := by
    by_cases z2 : v2 = 1
    · right
      rw [show P + v3 + v2 - 1 = P + v3 by omega, t10 z2]; exact n9
    · by_cases z3 : v3 = 1
      · right
        rw [show P + v3 + v2 - 1 = P by omega, t11 z3]; exact n9b
      · rcases base with b | b
        · left; omega
        · by_cases z : P = 0
          · left; omega
          · right
            rw [show P + v3 + v2 - 1 = P - 1 by omega, b]; exact n9c
  rcases hS s h k d (P + v3 + v2) 0 v1 G N (List.replicate (v3 + v2) true ++ st) L e29 e27 hd (by omega) hN (by rw [List.length_append, List.length_replicate]; omega) (by omega) hG hv (fun j u v => by omega) bse Y with ⟨h0, h1, k1, i1, s1, G1, g1, g2, g3, L1, g5, g6, g7, g8, g9, g10, g11, Y1, g13, g14⟩ | ⟨h', k', g1, g2, g3, g4, g5⟩
  · have eh : h0 = h1 := Option.some.inj g2
    rw [eh, Nat.add_zero] at g1
    have A1 := L1.1
    have T2 := A1.1
    -- AND
    obtain ⟨hA, kA, a1, a2, a3, a4, a5, a6, a7, a8, a9⟩ := q_settle (x := 14) (w := 10) (Or.inr (Or.inl ⟨rfl, rfl⟩)) v2 (P + v3) 0 s1 h1 k1 zN L1.2 g8 (fun q => absurd q (by decide)) (fun j u v => by rw [g10 j (by omega), show j = P + v3 by omega]; exact t10 (by omega)) (by
      by_cases z3 : v3 = 1
      · right
        rw [g10 _ (by omega), show P + v3 - 1 = P by omega, t11 z3]; decide
      · rcases base with b | b
        · left; omega
        · by_cases z : P = 0
          · left; omega
          · right
            rw [g10 _ (by omega), show P + v3 - 1 = P - 1 by omega, b]; decide) (by omega) (by omega) (by omega) (by omega)
    have a2' : f_X11_settles 10 k1 = some kA := a2
    have LA : qyL hA kA t n T i1 (s1 + v2) := ⟨a8.at (a9.at A1), a3⟩
    have YA : qyTy kA a st0 (true :: (List.replicate v3 true ++ st)) (s1 + v2) := by
      have y := qyTy_fs Y1 a9
      rcases Nat.lt_or_ge v2 1 with z | z
      · have z0 : v2 = 0 := by omega
        rw [z0] at y ⊢; exact y
      · have z0 : v2 = 1 := by omega
        have y7 := a7 s1 (Nat.le_refl _) (by omega)
        rw [z0] at y ⊢
        exact qyTy_and y y7 (Or.inl rfl)
    have f16 : ∀ j, j < P + v3 + v2 → kA 16 j = k 16 j := fun j hj => (a9 16 j (by omega) (by omega)).trans (g10 j hj)
    have eC2 : f_X6_condition_7_lp (f_X6_rc N).1 (f_X6_rc N).2 F (nI d, nI v2, nI v3, nI c, h) = f_X6_condition_40 (f_X6_rc N).1 (f_X6_rc N).2 (f_X6_condition_7_lp (f_X6_rc N).1 (f_X6_rc N).2 (F - 1)) (nI d) (nI v3) (nI c) hA := by
      rw [eC, g1, q_bd]
      rcases Nat.lt_or_ge v2 1 with z | z
      · have z0 : v2 = 0 := by omega
        rw [z0] at a1
        rw [if_pos (show nI v2 = 0 by rw [z0]; rfl), Option.some.inj (show some h1 = some hA from a1)]
      · have z0 : v2 = 1 := by omega
        rw [z0, q_addN1, ← l15] at a1
        rw [if_neg (show ¬ nI v2 = 0 by rw [z0]; decide), a1, q_bd]
    have gXA : qyGX h hA s := qyGX_tr g13 a8.gx g7
    have gMA : qyFW k kA s := qyFW_tr g14 a9.fw g7
    have kkA := LA.1.2.2.1
    have kK := qyK_le A1
    by_cases z14 : qyK t n i1 = 14
    · obtain ⟨hD, kD, x1, x2, LD, y29, y27, y16, y16', XD, MD⟩ := q_wait 10 LA (by omega) a4 (by omega)
      have eC3 : f_X6_condition_7_lp (f_X6_rc N).1 (f_X6_rc N).2 F (nI d, nI v2, nI v3, nI c, h) = f_X6_condition_7_lp (f_X6_rc N).1 (f_X6_rc N).2 (F - 1) (nI d, nI 1, nI v3, nI (c + 1), hD) := by
        rw [eC2]
        generalize (f_X6_rc N).1 = ks
        generalize (f_X6_rc N).2 = kc
        unfold f_X6_condition_40
        rw [kkA, z14, if_pos (show nI 14 = 14 from rfl)]
        unfold f_X6_condition_54
        rw [if_neg (show ¬ (1 : Int32) = 0 by decide)]
        unfold f_X6_condition_72
        rw [kkA, z14, if_neg (show ¬ nI 14 = 13 by decide), if_neg (show ¬ (1 : Int32) = 0 by decide)]
        unfold f_X6_condition_94
        rw [if_pos LA.1.2.2.2.1.1, if_neg (show ¬ (1 : Int32) = 0 by decide), x1, q_bd, if_neg (show ¬ (1 : Int32) = 0 by decide), l1, nI_add]
        rcases Nat.lt_or_ge v3 1 with z | z
        · have z0 : v3 = 0 := by omega
          rw [if_pos (show nI v3 = 0 by rw [z0]; rfl), z0]; rfl
        · have z0 : v3 = 1 := by omega
          rw [if_neg (show ¬ nI v3 = 0 by rw [z0]; decide), z0, if_pos LA.1.2.2.2.1.1]; rfl
      have eM : f_X11_readAny_9_lp G (nI v1, 1, k) = f_X11_readAny_9_lp (G1 - 1) (nI v1, 1, kD) := by
        rw [g3, (r_any0 A1 (G := G1) (by omega) (nI v1)).1 z14, a2', q_bd]
        exact x2 (fun x => f_X11_readAny_9_lp (G1 - 1) (nI v1, 1, x))
      rcases hC (i1 + 1) (by omega) (s1 + v2) hD kD d P 1 v3 (c + 1) v1 (G1 - 1) (F - 1) N st (by omega) hv3 LD y29 (y27.trans ((a6 (by decide)).trans g9)) hd hp hN hl (by omega) (by omega) (by omega) (by omega) hv (fun q => (y16' P (by omega)).trans ((f16 P (by omega)).trans (t11 q))) (fun _ => y16) (by
        rcases base with b | b
        · exact Or.inl b
        · by_cases z : P = 0
          · exact Or.inl z
          · exact Or.inr ((y16' _ (by omega)).trans ((f16 _ (by omega)).trans b))) (qyTy_fw YA MD) with ⟨h2, k', k'', i', s', G', j1, j2, j3, j4, j5, j6, j7, j8, j9, j10, j11, j12, j13, j14, j15, j16, j17⟩ | ⟨h', k', j1, j2, j3, j4, j5⟩
      · exact Or.inl ⟨h2, k', k'', i', s', G', eC3.trans j1, eM.trans j2, j3, j4, j5, by omega, j7, j8, j9, by omega, j11, j12, fun j hj => (j13 j hj).trans ((y16' j (by omega)).trans (f16 j (by omega))), j14, j15, qyGX_tr gXA (qyGX_tr (XD.gx (s1 + v2)) j16 (Nat.le_refl _)) (by omega), qyFW_tr gMA (qyFW_tr MD j17 (Nat.le_refl _)) (by omega)⟩
      · exact Or.inr ⟨h', k', eC3.trans j1, eM.trans j2, j3.w (by omega), qyGX_tr gXA (qyGX_tr (XD.gx (s1 + v2)) j4 (Nat.le_refl _)) (by omega), qyFW_tr gMA (qyFW_tr MD j5 (Nat.le_refl _)) (by omega)⟩
    -- OR
    obtain ⟨hB, kB, b1, b2, b3, b4, b5, b6, b7, b8, b9⟩ := q_settle (x := 13) (w := 11) (Or.inr (Or.inr ⟨rfl, rfl⟩)) v3 P 0 (s1 + v2) hA kA zN LA.2 a4 (fun q => absurd q (by decide)) (fun j u v => by rw [f16 j (by omega), show j = P by omega]; exact t11 (by omega)) (by
      rcases base with b | b
      · exact Or.inl b
      · by_cases z : P = 0
        · exact Or.inl z
        · exact Or.inr (by rw [f16 _ (by omega), b]; decide)) (by omega) (by omega) (by omega) (by omega)
    have b2' : f_X11_settles 11 kA = some kB := b2
    have LB : qyL hB kB t n T i1 (s1 + v2 + v3) := ⟨b8.at (b9.at LA.1), b3⟩
    have YB : qyTy kB a st0 (true :: st) (s1 + v2 + v3) := by
      have y := qyTy_fs YA b9
      rcases Nat.lt_or_ge v3 1 with z | z
      · have z0 : v3 = 0 := by omega
        rw [z0] at y ⊢; exact y
      · have z0 : v3 = 1 := by omega
        have y7 := b7 (s1 + v2) (Nat.le_refl _) (by omega)
        rw [z0] at y ⊢
        exact qyTy_and y y7 (Or.inr rfl)
    have f16B : ∀ j, j < P + v3 + v2 → kB 16 j = k 16 j := fun j hj => (b9 16 j (by omega) (by omega)).trans (f16 j hj)
    have gXB : qyGX h hB s := qyGX_tr gXA b8.gx (by omega)
    have gMB : qyFW k kB s := qyFW_tr gMA b9.fw (by omega)
    have kkB := LB.1.2.2.1
    have eC3 : f_X6_condition_7_lp (f_X6_rc N).1 (f_X6_rc N).2 F (nI d, nI v2, nI v3, nI c, h) = f_X6_condition_72 (f_X6_rc N).1 (f_X6_rc N).2 (f_X6_condition_7_lp (f_X6_rc N).1 (f_X6_rc N).2 (F - 1)) (nI d) 0 (nI v3) (nI c) hB := by
      rw [eC2]
      generalize (f_X6_rc N).1 = ks
      generalize (f_X6_rc N).2 = kc
      unfold f_X6_condition_40
      rw [kkA, if_neg (show ¬ nI (qyK t n i1) = 14 from fun q => z14 ((nI_eq (b := 14) (by omega) (by omega)).mp q))]
      unfold f_X6_condition_54
      rw [if_pos (show (0 : Int32) = 0 from rfl)]
      rcases Nat.lt_or_ge v3 1 with z | z
      · have z0 : v3 = 0 := by omega
        rw [z0] at b1
        rw [if_pos (show nI v3 = 0 by rw [z0]; rfl), Option.some.inj (show some hA = some hB from b1)]
      · have z0 : v3 = 1 := by omega
        rw [z0, q_addN1, ← l14] at b1
        rw [if_neg (show ¬ nI v3 = 0 by rw [z0]; decide), b1, q_bd]
    by_cases z13 : qyK t n i1 = 13
    · obtain ⟨hD, kD, x1, x2, LD, y29, y27, y16, y16', XD, MD⟩ := q_wait 11 LB (by omega) b4 (by omega)
      have eC4 : f_X6_condition_7_lp (f_X6_rc N).1 (f_X6_rc N).2 F (nI d, nI v2, nI v3, nI c, h) = f_X6_condition_7_lp (f_X6_rc N).1 (f_X6_rc N).2 (F - 1) (nI d, nI 0, nI 1, nI (c + 1), hD) := by
        rw [eC3]
        generalize (f_X6_rc N).1 = ks
        generalize (f_X6_rc N).2 = kc
        unfold f_X6_condition_72
        rw [kkB, z13, if_pos (show nI 13 = 13 from rfl)]
        unfold f_X6_condition_94
        rw [if_pos LB.1.2.2.2.1.1, if_pos (show (0 : Int32) = 0 from rfl), if_neg (show ¬ (1 : Int32) = 0 by decide), x1, q_bd, l1, nI_add]; rfl
      have eM : f_X11_readAny_9_lp G (nI v1, 1, k) = f_X11_readAny_9_lp (G1 - 1) (nI v1, 1, kD) := by
        rw [g3, (r_any0 A1 (G := G1) (by omega) (nI v1)).2.1 z13, a2', q_bd, b2', q_bd]
        exact x2 (fun x => f_X11_readAny_9_lp (G1 - 1) (nI v1, 1, x))
      rcases hC (i1 + 1) (by omega) (s1 + v2 + v3) hD kD d P 0 1 (c + 1) v1 (G1 - 1) (F - 1) N st (by omega) (by omega) LD y29 (y27.trans ((b6 (by decide)).trans ((a6 (by decide)).trans g9))) hd hp hN hl (by omega) (by omega) (by omega) (by omega) hv (fun _ => y16) (fun q => by omega) (by
        rcases base with b | b
        · exact Or.inl b
        · by_cases z : P = 0
          · exact Or.inl z
          · exact Or.inr ((y16' _ (by omega)).trans ((f16B _ (by omega)).trans b))) (qyTy_fw YB MD) with ⟨h2, k', k'', i', s', G', j1, j2, j3, j4, j5, j6, j7, j8, j9, j10, j11, j12, j13, j14, j15, j16, j17⟩ | ⟨h', k', j1, j2, j3, j4, j5⟩
      · exact Or.inl ⟨h2, k', k'', i', s', G', eC4.trans j1, eM.trans j2, j3, j4, j5, by omega, j7, j8, j9, by omega, j11, j12, fun j hj => (j13 j hj).trans ((y16' j (by omega)).trans (f16B j (by omega))), j14, j15, qyGX_tr gXB (qyGX_tr (XD.gx (s1 + v2 + v3)) j16 (Nat.le_refl _)) (by omega), qyFW_tr gMB (qyFW_tr MD j17 (Nat.le_refl _)) (by omega)⟩
      · exact Or.inr ⟨h', k', eC4.trans j1, eM.trans j2, j3.w (by omega), qyGX_tr gXB (qyGX_tr (XD.gx (s1 + v2 + v3)) j4 (Nat.le_refl _)) (by omega), qyFW_tr gMB (qyFW_tr MD j5 (Nat.le_refl _)) (by omega)⟩
    · refine Or.inl ⟨hB, k1, kB, i1, s1 + v2 + v3, G1, ?_, g3, by rw [a2', q_bd]; exact b2', b8.at (a8.at A1), LB, g5, z13, z14, by omega, by omega, b4, (b6 (by decide)).trans ((a6 (by decide)).trans g9), fun j hj => f16B j (by omega), g11, YB, gXB, gMB⟩
      rw [eC3]
      generalize (f_X6_rc N).1 = ks
      generalize (f_X6_rc N).2 = kc
      unfold f_X6_condition_72
      rw [kkB, if_neg (show ¬ nI (qyK t n i1) = 13 from fun q => z13 ((nI_eq (b := 13) (by omega) (by omega)).mp q)), if_pos (show (0 : Int32) = 0 from rfl)]
      unfold f_X6_condition_94
      rw [if_pos LB.1.2.2.2.1.1, if_pos (show (0 : Int32) = 0 from rfl), if_pos (show (0 : Int32) = 0 from rfl)]
  · rw [Nat.add_zero] at g1
    have Fh := g3.1.f
    have e40 : ∀ x, qyF x → qySz x s → qyGX h x s → qyBad x k' → ∃ h2, f_X6_condition_40 (f_X6_rc N).1 (f_X6_rc N).2 (f_X6_condition_7_lp (f_X6_rc N).1 (f_X6_rc N).2 (F - 1)) (nI d) (nI v3) (nI c) x = some h2 ∧ qyBS h2 k' s ∧ qyGX h h2 s := by
      intro x Fx Zx gx Bx
      obtain ⟨h2, y1, y2, y3, y4⟩ := q_cond40F (f_X6_rc N).1 (f_X6_rc N).2 (f_X6_condition_7_lp (f_X6_rc N).1 (f_X6_rc N).2 (F - 1)) (nI d) (nI v3) (nI c) Fx Zx
      exact ⟨h2, y1, ⟨qyBad_45 Bx y3, y4⟩, qyGX_tr gx y2 (Nat.le_refl s)⟩
    rw [eC, g1, q_bd]
    by_cases z : nI v2 = 0
    · rw [if_pos z]
      obtain ⟨h2, y1, y2, y3⟩ := e40 h' Fh g3.2 g4 g3.1
      exact Or.inr ⟨h2, k', y1, g2, y2, y3, g5⟩
    · rw [if_neg z]
      obtain ⟨q1, s2, q2, q3, q4⟩ := g3
      obtain ⟨h3, s3, w1, w2, w3, w4, w5, w6⟩ := q_addF q2 q4 (-15 : Int32)
      obtain ⟨h2, y1, y2, y3⟩ := e40 h3 (show ¬ h3 145 12 = 0 by rw [w6]; exact Fh) ⟨s3, w2, by omega, w4⟩ (qyGX_tr g4 w5 q3) (qyBad_45 q1 w6)
      exact Or.inr ⟨h2, k', by rw [w1, q_bd]; exact y1, g2, y2, y3, g5⟩
theorem q_condAll {t : Nat → Nat} {n T a : Nat} {st0 : List Bool} : ∀ m i, T + 1 - i ≤ m → qySg t n T a st0 i ∧ qyCd t n T a st0 i := by
  intro m
  induction m with
  | zero =>
    intro i hm
    refine ⟨fun s h k D P r v1 G N st L => ?_, fun s h k d P v2 v3 c v1 G F N st _ _ L => ?_⟩
    · exact absurd L.1.1 (by omega)
    · exact absurd L.1.1 (by omega)
  | succ m ih =>
    intro i hm
    by_cases z : T < i
    · exact ⟨fun s h k D P r v1 G N st L => absurd L.1.1 (by omega), fun s h k d P v2 v3 c v1 G F N st _ _ L => absurd L.1.1 (by omega)⟩
    · have S := q_sgStep (ih (i + 1) (by omega)).1 (ih (i + 1) (by omega)).2
      exact ⟨S, q_cdStep S (fun j hj => (ih j (by omega)).2)⟩
end Qcond
