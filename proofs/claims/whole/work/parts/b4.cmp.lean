/-! THE LAW's conditions: one comparison -/
section Qcmp
theorem q_cmp {t : Nat → Nat} {n T a i s : Nat} {h k : zHp} {st0 st : List Bool} (ks kc : Int32 → zHp → Option zHp) (dp : Int32) (L : qyL h k t n T i s) (hs : s + 1 ≤ i) (hl : st.length + 4 ≤ 26) (Y : qyTy k a st0 st s) (n15 : qyK t n i ≠ 15) (n29 : qyK t n i ≠ 29) : (∃ h' k' i' s', f_X6_single_b ks kc dp h = some h' ∧ f_X11_readCompared k = some (0, k') ∧ qyL h' k' t n T i' s' ∧ i < i' ∧ s' + i = s + i' ∧ qyTy k' a st0 (true :: st) s' ∧ qyGX h h' s ∧ qyFL k k' s) ∨ (∃ h' k', f_X6_single_b ks kc dp h = some h' ∧ f_X11_readCompared k = some (qM, k') ∧ qyBS h' k' s ∧ qyGX h h' s ∧ qyFL k k' s) := by
  have A := L.1
  have T1 := A.2.2.2.2.1.1
  have i400 : i ≤ 400 := Nat.le_trans A.1 T1
  have kK := qyK_le A
  have bs : ∀ x : Option zHp, x.bind (fun y => some y) = x := fun x => by cases x <;> rfl
  have st1 : f_X6_single_b ks kc dp h = (f_X6_sumOf h).bind fun x2 => (if x2 145 7 = (31 : Int32) then f_X6_single_45 ks kc (x2 145 7) (x2 145 7) x2 else (if x2 145 7 = (33 : Int32) then f_X6_single_45 ks kc (x2 145 7) (x2 145 7) x2 else f_X6_single_45 ks kc (x2 145 7) (32 : Int32) x2)) := by
    unfold f_X6_single_b
    rw [q_lt, A.2.2.1, if_neg (show ¬ nI (qyK t n i) = 15 from fun q => n15 ((nI_eq (b := 15) (by omega) (by omega)).mp q)), if_neg (show ¬ nI (qyK t n i) = 29 from fun q => n29 ((nI_eq (b := 29) (by omega) (by omega)).mp q))]; rfl
  have f45 : ∀ (v s0 : Int32) (x : zHp), f_X6_single_45 ks kc v s0 x = (f_X6_expect s0 x).bind fun x1 => (if (x1 145 12) = 0 then (f_X6_sumOf x1).bind fun x2 => f_X1_add 150 (v ^^^ (-1 : Int32)) x2 else some x1) := fun v s0 x => by
    unfold f_X6_single_45
    simp only [bs]
  rcases q_sumW L (by omega) (by omega) (by omega) Y with ⟨h1, k1, i1, s1, e1, e2, L1, e4, e5, Y1, e7, e8⟩ | ⟨h1, k1, e1, e2, e3, e4, e5⟩
  · have A1 := L1.1
    have T2 := A1.1
    have kK1 := qyK_le A1
    have s31 : f_X11_isSign 60 k1 = some (nI (if qyK t n i1 = 31 then 1 else 0), k1) := q_isSg A1 (w := 31) (by omega) (by omega)
    have s32 : f_X11_isSign 61 k1 = some (nI (if qyK t n i1 = 32 then 1 else 0), k1) := q_isSg A1 (w := 32) (by omega) (by omega)
    have s33 : f_X11_isSign 62 k1 = some (nI (if qyK t n i1 = 33 then 1 else 0), k1) := q_isSg A1 (w := 33) (by omega) (by omega)
    have kk1 := A1.2.2.1
    have eM : f_X11_readCompared k = if qyK t n i1 = 31 ∨ qyK t n i1 = 32 ∨ qyK t n i1 = 33 then f_X11_readCompared_43 k1 else (f_X11_errs 1 k1).bind fun x5 => some (x5.1, x5.2) := by
      unfold f_X11_readCompared
      rw [e2, q_bd]
      dsimp only
      rw [if_neg (show ¬ (0 : Int32) = -1 by decide), s31, q_bd]
      dsimp only
      by_cases z31 : qyK t n i1 = 31
      · rw [if_pos z31, if_neg (show ¬ nI 1 = 0 by decide), if_pos (Or.inl z31)]
      rw [if_neg z31, if_pos (show nI 0 = 0 from rfl), s32, q_bd]
      dsimp only
      by_cases z32 : qyK t n i1 = 32
      · rw [if_pos z32, if_neg (show ¬ nI 1 = 0 by decide), if_pos (Or.inr (Or.inl z32))]
      rw [if_neg z32, if_pos (show nI 0 = 0 from rfl), s33, q_bd]
      dsimp only
      by_cases z33 : qyK t n i1 = 33
      · rw [if_pos z33, if_neg (show ¬ nI 1 = 0 by decide), if_pos (Or.inr (Or.inr z33))]
      rw [if_neg z33, if_pos (show nI 0 = 0 from rfl), if_neg (show ¬(qyK t n i1 = 31 ∨ qyK t n i1 = 32 ∨ qyK t n i1 = 33) by omega)]
    have ne : ∀ w, w < 100 → qyK t n i1 ≠ w → ¬ h1 145 7 = nI w := fun w hw q p => q ((q_kne A1 hw).mp p)
    by_cases zz : qyK t n i1 = 31 ∨ qyK t n i1 = 32 ∨ qyK t n i1 = 33
    · obtain ⟨x, y, hx, hxy⟩ : ∃ x y, qyK t n i1 = x ∧ (x = 31 ∧ y = 6 ∨ x = 32 ∧ y = 7 ∨ x = 33 ∧ y = 8) := by
        rcases zz with z | z | z
        · exact ⟨31, 6, z, Or.inl ⟨rfl, rfl⟩⟩
        · exact ⟨32, 7, z, Or.inr (Or.inl ⟨rfl, rfl⟩)⟩
        · exact ⟨33, 8, z, Or.inr (Or.inr ⟨rfl, rfl⟩)⟩
      have mem : (x, y) ∈ [(25, 2), (26, 3), (27, 4), (28, 5), (31, 6), (32, 7), (33, 8), (15, 9), (14, 10), (13, 11)] := by rcases hxy with ⟨z, w⟩ | ⟨z, w⟩ | ⟨z, w⟩ <;> rw [z, w] <;> decide
      obtain ⟨h2, k2, x1, x2, A2, X2, M2⟩ := q_expY A1 (w := x) (by omega) hx
      have L2 : qyL h2 k2 t n T (i1 + 1) s1 := ⟨A2, qyCo_ax L1.2 X2 M2.fe⟩
      have T3 := A2.1
      have eC : f_X6_single_b ks kc dp h = (f_X6_sumOf h2).bind fun x2 => f_X1_add 150 (nI x ^^^ (-1 : Int32)) x2 := by
        have f : f_X6_single_45 ks kc (nI x) (nI x) h1 = (f_X6_sumOf h2).bind fun x2 => f_X1_add 150 (nI x ^^^ (-1 : Int32)) x2 := by
          rw [f45, x1, q_bd, if_pos A2.2.2.2.1.1]
        rw [st1, e1, q_bd, kk1, hx]
        rcases hxy with ⟨z, -⟩ | ⟨z, -⟩ | ⟨z, -⟩
        · rw [if_pos (show nI x = 31 by rw [z]; rfl)]; exact f
        · rw [if_neg (show ¬ nI x = 31 by rw [z]; decide), if_neg (show ¬ nI x = 33 by rw [z]; decide)]
          rw [z] at f ⊢
          exact f
        · rw [if_neg (show ¬ nI x = 31 by rw [z]; decide), if_pos (show nI x = 33 by rw [z]; rfl)]; exact f
      have k16 := q_sg16 A1 (by omega) (by omega)
      have eM2 : f_X11_readCompared k = (f_X11_readSum k2).bind fun x2 => (if x2.1 = (-1 : Int32) then some ((-1 : Int32), x2.2) else (f_X11_emits (nI y) 0 x2.2).bind fun x3 => some ((0 : Int32), x3)) := by
        rw [eM, if_pos zz]
        unfold f_X11_readCompared_43 f_X11_readCompared_73
        rcases hxy with ⟨z, w⟩ | ⟨z, w⟩ | ⟨z, w⟩
        · rw [if_pos (show k1 0 16 = 60 by rw [k16, hx, z]; rfl), x2, q_bd, w]; rfl
        · rw [if_neg (show ¬ k1 0 16 = 60 by rw [k16, hx, z]; decide), if_pos (show k1 0 16 = 61 by rw [k16, hx, z]; rfl), x2, q_bd, w]; rfl
        · rw [if_neg (show ¬ k1 0 16 = 60 by rw [k16, hx, z]; decide), if_neg (show ¬ k1 0 16 = 61 by rw [k16, hx, z]; decide), x2, q_bd, w]; rfl
      have Y2 := qyTy_fl Y1 (M2.fe.fl s1) (Nat.le_refl s1)
      have gX : qyGX h h2 s := qyGX_tr e7 (X2.gx s1) (by omega)
      have gM : qyFL k k2 s := qyFL_tr e8 (M2.fe.fl s1) (by omega)
      rcases q_sumW L2 (by omega) (by omega) (by rw [List.length_cons]; omega) Y2 with ⟨h3, k3, i3, s3, c1, c2, L3, c4, c5, Y3, c7, c8⟩ | ⟨h3, k3, c1, c2, c3, c4, c5⟩
      · have T4 := L3.1.1
        obtain ⟨h4, k4, d1, d2, L4, d4, d5, d6⟩ := q_op L3 (by omega) mem
        refine Or.inl ⟨h4, k4, i3, s3 + 1, by rw [eC, c1, q_bd]; exact d1, ?_, L4, by omega, by omega, qyTy_cmp (qyTy_fl Y3 d6 (Nat.le_refl _)) d4 (by omega), qyGX_tr gX (qyGX_tr c7 d5 (by omega)) (by omega), qyFL_tr gM (qyFL_tr c8 d6 (by omega)) (by omega)⟩
        rw [eM2, c2, q_bd]
        dsimp only
        rw [if_neg (show ¬ (0 : Int32) = -1 by decide), d2, q_bd]
      · obtain ⟨s3, hb1, hb3, hb2⟩ := c3.2
        obtain ⟨h', s', y1, y2, y3, y4, y5, y6⟩ := q_addF hb1 hb2 (nI x ^^^ (-1 : Int32))
        refine Or.inr ⟨h', k3, by rw [eC, c1, q_bd]; exact y1, by rw [eM2, c2, q_bd]; rfl, ⟨qyBad_45 c3.1 y6, s', y2, by omega, y4⟩, qyGX_tr gX (qyGX_tr c4 y5 (by omega)) (by omega), qyFL_tr gM c5 (by omega)⟩
    · rw [if_neg zz] at eM
      obtain ⟨h2, k2, x1, x2, Bd, X2, M2⟩ := q_expN A1 (w := 32) (by omega) (fun q => zz (Or.inr (Or.inl q)))
      have x1' : f_X6_expect 32 h1 = some h2 := x1
      refine Or.inr ⟨h2, k2, ?_, by rw [eM, show f_X11_errs 1 k1 = some (qM, k2) from x2]; rfl, ⟨Bd, s1, by rw [X2.1 150 (by omega)]; exact L1.2.1, by omega, by omega⟩, qyGX_tr e7 (X2.gx s1) (by omega), qyFL_tr e8 ((qyFE_e M2).fl s1) (by omega)⟩
      rw [st1, e1, q_bd, if_neg (show ¬ h1 145 7 = 31 from ne 31 (by omega) (by omega)), if_neg (show ¬ h1 145 7 = 33 from ne 33 (by omega) (by omega)), f45, x1', q_bd, if_neg Bd.f]
  · refine Or.inr ⟨h1, k1, ?_, by unfold f_X11_readCompared; rw [e2, q_bd]; rfl, e3, e4, e5⟩
    have f : ∀ v s0, f_X6_single_45 ks kc v s0 h1 = some h1 := fun v s0 => by rw [f45, q_expB e3.1.f, q_bd, if_neg e3.1.f]
    rw [st1, e1, q_bd, f, f, ite_self, ite_self]
end Qcmp
