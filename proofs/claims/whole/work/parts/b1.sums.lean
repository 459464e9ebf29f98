/-! THE LAW's sums: products and sums -/
section Qsums
theorem q_sg16 {h k : zHp} {t : Nat → Nat} {n T i : Nat} (A : qyAt h k t n T i) (z : 24 ≤ qyK t n i) (y : qyK t n i ≤ 33) : k 0 16 = nI (qySn.getD (qyK t n i - 24) 0) := by
  rcases A.2.2.2.2.2.2.2.2 with ⟨z, y1, y2⟩ | ⟨z1, z2, y1, y2⟩ | ⟨z, y1, y2⟩ | ⟨z, y1⟩ | ⟨z, y1⟩
  · omega
  · exact y2
  · omega
  · omega
  · omega
/-- a number or a word in a sum -/
theorem q_sumT {h k : zHp} {t : Nat → Nat} {n T i s c F : Nat} (L : qyL h k t n T i s) (hs : s < 400) (hc : c < 400) (hF : 0 < F) (near far : Int32) (hn : near = 28 → qyK t n i = 34 ∧ qyV t n i ≠ 0) : (∃ h2 k2, f_X6_sumOf_8 (f_X6_sumOf_8_lp F) near far (nI c) h = (if near = 35 then f_X6_sumOf_66 (f_X6_sumOf_8_lp F) far (nI c) h2 else (f_X1_add 150 (near ^^^ (-1 : Int32)) h2).bind fun x2 => f_X6_sumOf_66 (f_X6_sumOf_8_lp F) far (nI c) x2) ∧ f_X11_readUnit k = some (0, k2) ∧ qyL h2 k2 t n T (i + 1) (s + 1) ∧ (k2 14 (800 + s) = 0 ∨ k2 14 (800 + s) = 1) ∧ (near = 28 → k2 14 (800 + s) = 0 ∧ k2 15 (800 + s) ≠ 0) ∧ qyGX h h2 s ∧ qyFL k k2 s) ∨ (∃ h' k2, f_X6_sumOf_8 (f_X6_sumOf_8_lp F) near far (nI c) h = some h' ∧ f_X11_readUnit k = some (qM, k2) ∧ qyBS h' k2 s ∧ qyGX h h' s ∧ qyFL k k2 s) := by
  have A := L.1
  have T1 := A.2.2.2.2.1.1
  have i400 : i ≤ 400 := Nat.le_trans A.1 T1
  have st : f_X6_sumOf_8 (f_X6_sumOf_8_lp F) near far (nI c) h = (f_X6_expectUnit h).bind fun x2 => f_X6_sumOf_47 (f_X6_sumOf_8_lp F) near far (nI c) x2.1 x2.2 := by
    unfold f_X6_sumOf_8
    rw [if_pos (show nI c < (400 : Int32) from qlR 400 hc (by omega)), if_pos A.2.2.2.1.1]
    by_cases z : near = 28
    · rw [if_pos z, (q_numU A).1 (hn z).1 (hn z).2]
    · rw [if_neg z]
  rcases q_unit L hs with ⟨p, h1, h2, k2, e1, e2, e3, e4, e5, e6, e7, e8⟩ | ⟨p, h1, k2, e1, e2, e3, e4, e5⟩
  · refine Or.inl ⟨h2, k2, ?_, e3, e4, e5, fun z => ?_, e7, e8⟩
    · rw [st, e1, q_bd]
      unfold f_X6_sumOf_47
      dsimp only
      rw [e2, q_bd]
    · have q := e6 (hn z).1
      have v2 := ((q_tok3 A).2 (hn z).1).2
      exact ⟨q.1, by rw [q.2]; exact nI_ne0 (by have := (hn z).2; omega) (by omega)⟩
  · obtain ⟨h', x1, x2, x3, x4⟩ := q_sumF4 hF near far (nI c) p e3.f (show h1 150 6 = nI s by rw [e4.1 150 (by omega)]; exact L.2.1) (by omega)
    exact Or.inr ⟨h', k2, by rw [st, e1, q_bd]; exact x1, e2, ⟨qyBad_45 e3 x3, x4⟩, qyGX_tr (e4.gx s) x2 (Nat.le_refl s), e5.fl s⟩
/-- one code more, at once -/
theorem q_op {h k : zHp} {t : Nat → Nat} {n T i s x y : Nat} (L : qyL h k t n T i s) (hs : s < 400) (m : (x, y) ∈ [(25, 2), (26, 3), (27, 4), (28, 5), (31, 6), (32, 7), (33, 8), (15, 9), (14, 10), (13, 11)]) : ∃ h' k', f_X1_add 150 (nI x ^^^ (-1 : Int32)) h = some h' ∧ f_X11_emits (nI y) 0 k = some k' ∧ qyL h' k' t n T i (s + 1) ∧ k' 14 (800 + s) = nI y ∧ qyGX h h' s ∧ qyFL k k' s := by
  obtain ⟨h', k', e1, e2, e3, e4, e5, e6, e7, e8⟩ := q_emitL L hs (Or.inr (Or.inr ⟨x, y, m, rfl, rfl⟩))
  exact ⟨h', k', e1, e2, e3, e4, e6, e7⟩
theorem q_p74a (rec : zHp → Option (Int32 × zHp)) (k : zHp) : f_X11_readProduct_74 rec 0 k = ((f_X11_readUnit k).bind fun x1 => (if x1.1 = (-1 : Int32) then some ((-1 : Int32), x1.2) else (f_X11_emits (nI 5) 0 x1.2).bind fun x2 => rec x2)) := by
  unfold f_X11_readProduct_74
  cases f_X11_readUnit k with
  | none => rfl
  | some x => rw [q_bd, q_bd, if_pos (show (0 : Int32) = 0 from rfl)]; rfl
theorem q_p74b (rec : zHp → Option (Int32 × zHp)) (k : zHp) : f_X11_readProduct_74 rec (nI 1) k = ((f_X11_readUnit k).bind fun x1 => (if x1.1 = (-1 : Int32) then some ((-1 : Int32), x1.2) else (f_X11_emits (nI 4) 0 x1.2).bind fun x2 => rec x2)) := by
  unfold f_X11_readProduct_74
  cases f_X11_readUnit k with
  | none => rfl
  | some x => rw [q_bd, q_bd, if_neg (show ¬ nI 1 = 0 by decide)]; rfl
theorem q_prodU {t : Nat → Nat} {n T a : Nat} {st0 st : List Bool} (far : Int32) (hl : st.length + 2 ≤ 26) : ∀ m i s h k F G c, T - i ≤ m → qyL h k t n T i s → s ≤ i → c + 1 ≤ i → 1000 ≤ F + i → 1000 ≤ G + i → qyTy k a st0 (false :: st) s → (∃ h' k' i' s' F' c', f_X6_sumOf_66 (f_X6_sumOf_8_lp F) far (nI c) h = f_X6_sumOf_66 (f_X6_sumOf_8_lp F') far (nI c') h' ∧ f_X11_readProduct_10_lp G k = some (0, k') ∧ qyL h' k' t n T i' s' ∧ i ≤ i' ∧ s' + i = s + i' ∧ qyK t n i' ≠ 27 ∧ qyK t n i' ≠ 28 ∧ c' + 1 ≤ i' ∧ 1000 ≤ F' + i' ∧ qyTy k' a st0 (false :: st) s' ∧ qyGX h h' s ∧ qyFL k k' s) ∨ (∃ h' k', f_X6_sumOf_66 (f_X6_sumOf_8_lp F) far (nI c) h = some h' ∧ f_X11_readProduct_10_lp G k = some (qM, k') ∧ qyBS h' k' s ∧ qyGX h h' s ∧ qyFL k k' s) := by
  intro m
  induction m with
  | zero =>
    intro i s h k F G c hm L hs hc hF hG Y
    have A := L.1
    have T1 := A.2.2.2.2.1.1
    have iT : i = T := by have := A.1; omega
    have k36 : qyK t n i = 36 := by rw [iT]; exact qyK_T A.2.2.2.2.1
    refine Or.inl ⟨h, k, i, s, F, c, rfl, ?_, L, Nat.le_refl i, rfl, by omega, by omega, hc, hF, Y, qyGX_rf h s, qyFL_rf k s⟩
    unfold f_X11_readProduct_10_lp
    refine q_lp1 (by omega) (fun rec => ?_)
    unfold f_X11_readProduct_10
    have s1 : f_X11_isSign 42 k = some (nI (if qyK t n i = 27 then 1 else 0), k) := q_isSg A (w := 27) (by omega) (by omega)
    have s2 : f_X11_isSign 47 k = some (nI (if qyK t n i = 28 then 1 else 0), k) := q_isSg A (w := 28) (by omega) (by omega)
    rw [s1, q_bd]
    dsimp only
    rw [if_neg (show ¬ qyK t n i = 27 by omega), if_pos (show nI 0 = 0 from rfl), s2, q_bd]
    dsimp only
    rw [if_neg (show ¬ qyK t n i = 28 by omega), if_pos (show nI 0 = 0 from rfl)]
  | succ m ih =>
    intro i s h k F G c hm L hs hc hF hG Y
    have A := L.1
    have T1 := A.2.2.2.2.1.1
    have i400 : i ≤ 400 := Nat.le_trans A.1 T1
    have s1 : f_X11_isSign 42 k = some (nI (if qyK t n i = 27 then 1 else 0), k) := q_isSg A (w := 27) (by omega) (by omega)
    have s2 : f_X11_isSign 47 k = some (nI (if qyK t n i = 28 then 1 else 0), k) := q_isSg A (w := 28) (by omega) (by omega)
    have kk := A.2.2.1
    have l1 : (1 : Int32) = nI 1 := rfl
    have hG0 : 0 < G := by omega
    have hF0 : 0 < F := by omega
    -- after the sign and the unit behind it
    have tail : ∀ (h1 k1 : zHp) (x y : Nat) (near : Int32), near = nI x → x = 27 ∧ y = 4 ∨ x = 28 ∧ y = 5 → qyK t n i ≠ 36 → qyL h1 k1 t n T (i + 1) s → qyAX h h1 → qyFM k k1 → (near = 28 → qyK t n (i + 1) = 34 ∧ qyV t n (i + 1) ≠ 0) → f_X6_sumOf_66 (f_X6_sumOf_8_lp F) far (nI c) h = f_X6_sumOf_8 (f_X6_sumOf_8_lp (F - 1)) near far (nI (c + 1)) h1 → f_X11_readProduct_10_lp G k = ((f_X11_readUnit k1).bind fun x1 => (if x1.1 = (-1 : Int32) then some ((-1 : Int32), x1.2) else (f_X11_emits (nI y) 0 x1.2).bind fun x2 => f_X11_readProduct_10_lp (G - 1) x2)) → (∃ h' k' i' s' F' c', f_X6_sumOf_66 (f_X6_sumOf_8_lp F) far (nI c) h = f_X6_sumOf_66 (f_X6_sumOf_8_lp F') far (nI c') h' ∧ f_X11_readProduct_10_lp G k = some (0, k') ∧ qyL h' k' t n T i' s' ∧ i ≤ i' ∧ s' + i = s + i' ∧ qyK t n i' ≠ 27 ∧ qyK t n i' ≠ 28 ∧ c' + 1 ≤ i' ∧ 1000 ≤ F' + i' ∧ qyTy k' a st0 (false :: st) s' ∧ qyGX h h' s ∧ qyFL k k' s) ∨ (∃ h' k', f_X6_sumOf_66 (f_X6_sumOf_8_lp F) far (nI c) h = some h' ∧ f_X11_readProduct_10_lp G k = some (qM, k') ∧ qyBS h' k' s ∧ qyGX h h' s ∧ qyFL k k' s) := by
      intro h1 k1 x y near hnr hxy h36 L1 X1 M1 hn eC eM
      have i1 := L1.1.1
      have n35 : ¬ near = 35 := by rw [hnr]; rcases hxy with ⟨z, -⟩ | ⟨z, -⟩ <;> rw [z] <;> decide
      have Y1 := qyTy_fl Y (M1.fe.fl s) (Nat.le_refl s)
      rcases q_sumT L1 (show s < 400 by omega) (show c + 1 < 400 by omega) (show 0 < F - 1 by omega) near far hn with ⟨h2, k2, e1, e2, L2, e4, e5, e6, e7⟩ | ⟨h', k2, e1, e2, e3, e4, e5⟩
      · have mem : (x, y) ∈ [(25, 2), (26, 3), (27, 4), (28, 5), (31, 6), (32, 7), (33, 8), (15, 9), (14, 10), (13, 11)] := by rcases hxy with ⟨z, w⟩ | ⟨z, w⟩ <;> rw [z, w] <;> decide
        have s1400 : s + 1 < 400 := by
          have := L2.1.1
          omega
        obtain ⟨h3, k3, f1, f2, L3, f4, f5, f6⟩ := q_op L2 s1400 mem
        have Y2 := qyTy_num (qyTy_fl Y1 e7 (Nat.le_refl s)) e4 (show (false :: st).length < 26 by rw [List.length_cons]; omega)
        have Y3 := qyTy_fl Y2 f6 (Nat.le_refl _)
        have Y4 : qyTy k3 a st0 (false :: st) (s + 1 + 1) := by
          rcases hxy with ⟨zx, zy⟩ | ⟨zx, zy⟩
          · exact qyTy_opr Y3 (o := 4) (by rw [f4, zy]) (by omega)
          · have q := e5 (by rw [hnr, zx]; rfl)
            exact qyTy_div Y3 (by rw [f4, zy]) (by rw [f6 14 _ (by omega) (by omega) (by omega)]; exact q.1) (by rw [f6 15 _ (by omega) (by omega) (by omega)]; exact q.2)
        have eC2 : f_X6_sumOf_66 (f_X6_sumOf_8_lp F) far (nI c) h = f_X6_sumOf_66 (f_X6_sumOf_8_lp (F - 1)) far (nI (c + 1)) h3 := by
          rw [eC, e1, if_neg n35, hnr, f1, q_bd]
        have eM2 : f_X11_readProduct_10_lp G k = f_X11_readProduct_10_lp (G - 1) k3 := by
          rw [eM, e2, q_bd]
          dsimp only
          rw [if_neg (by decide), f2, q_bd]
        have gX : qyGX h h3 s := qyGX_tr (X1.gx s) (qyGX_tr e6 f5 (by omega)) (Nat.le_refl s)
        have gM : qyFL k k3 s := qyFL_tr (M1.fe.fl s) (qyFL_tr e7 f6 (by omega)) (Nat.le_refl s)
        rcases ih (i + 1 + 1) (s + 1 + 1) h3 k3 (F - 1) (G - 1) (c + 1) (by omega) L3 (by omega) (by omega) (by omega) (by omega) Y4 with ⟨h', k', i', s', F', c', g1, g2, g3, g4, g5, g6, g7, g8, g9, g10, g11, g12⟩ | ⟨h', k', g1, g2, g3, g4, g5⟩
        · exact Or.inl ⟨h', k', i', s', F', c', eC2.trans g1, eM2.trans g2, g3, by omega, by omega, g6, g7, g8, g9, g10, qyGX_tr gX g11 (by omega), qyFL_tr gM g12 (by omega)⟩
        · exact Or.inr ⟨h', k', eC2.trans g1, eM2.trans g2, g3.w (by omega), qyGX_tr gX g4 (by omega), qyFL_tr gM g5 (by omega)⟩
      · refine Or.inr ⟨h', k2, eC.trans e1, ?_, e3, qyGX_tr (X1.gx s) e4 (Nat.le_refl s), qyFL_tr (M1.fe.fl s) e5 (Nat.le_refl s)⟩
        rw [eM, e2, q_bd]; rfl
    -- the class, as far as the unit
    have cls : ∀ (x : Nat) (h1 : zHp), qyK t n i = x → x = 27 ∨ x = 28 → f_X6_advance h = some h1 → f_X6_sumOf_66 (f_X6_sumOf_8_lp F) far (nI c) h = f_X6_sumOf_8 (f_X6_sumOf_8_lp (F - 1)) (nI x) far (nI (c + 1)) h1 := by
      intro x h1 ex hx ea
      have e93 : f_X6_sumOf_93 (f_X6_sumOf_8_lp F) far (nI c) (nI x) h = f_X6_sumOf_8 (f_X6_sumOf_8_lp (F - 1)) (nI x) far (nI (c + 1)) h1 := by
        unfold f_X6_sumOf_93 f_X6_sumOf_151
        rw [if_neg (show ¬ nI x = 35 by rcases hx with z | z <;> rw [z] <;> decide), A.2.2.2.1.1, if_pos rfl, ea, q_bd, l1, nI_add]
        unfold f_X6_sumOf_8_lp
        rw [q_lpS hF0]
      unfold f_X6_sumOf_66
      rw [kk, ex]
      rcases hx with z | z
      · rw [if_pos (show nI x = 27 by rw [z]; rfl)]; exact e93
      · rw [if_neg (show ¬ nI x = 27 by rw [z]; decide), if_pos (show nI x = 28 by rw [z]; rfl)]; exact e93
    by_cases z27 : qyK t n i = 27
    · obtain ⟨h1, k1, x1, x2, L1, X1, M1⟩ := qyL_adv L (by omega)
      refine tail h1 k1 27 4 (nI 27) rfl (Or.inl ⟨rfl, rfl⟩) (by omega) L1 X1 M1 (fun q => absurd q (by decide)) (cls 27 h1 z27 (Or.inl rfl) x1) ?_
      unfold f_X11_readProduct_10_lp
      rw [q_lpS hG0]
      show f_X11_readProduct_10 _ k = _
      unfold f_X11_readProduct_10
      rw [s1, q_bd]
      dsimp only
      rw [if_pos z27, if_neg (show ¬ nI 1 = 0 by decide)]
      unfold f_X11_readProduct_28
      rw [s1, q_bd]
      dsimp only
      rw [if_pos z27, x2, q_bd, if_neg (show ¬ nI 1 = 0 by decide)]
      unfold f_X11_readProduct_57
      rw [if_neg (show ¬ nI 1 = 0 by decide)]
      exact q_p74b _ _
    · by_cases z28 : qyK t n i = 28
      · obtain ⟨h1, k1, x1, x2, L1, X1, M1⟩ := qyL_adv L (by omega)
        have t3 := q_tok3 L1.1
        have i1 := L1.1.1
        have eC := cls 28 h1 z28 (Or.inr rfl) x1
        have hd : f_X11_readProduct_10_lp G k = (if (k1 0 15) = (3 : Int32) then f_X11_readProduct_57 (f_X11_readProduct_10_lp (G - 1)) 0 k1 else (f_X11_errs (1 : Int32) k1).bind fun x3 => some (x3.1, x3.2)) := by
          unfold f_X11_readProduct_10_lp
          rw [q_lpS hG0]
          show f_X11_readProduct_10 _ k = _
          unfold f_X11_readProduct_10
          rw [s1, q_bd]
          dsimp only
          rw [if_neg z27, if_pos (show nI 0 = 0 from rfl), s2, q_bd]
          dsimp only
          rw [if_pos z28, if_neg (show ¬ nI 1 = 0 by decide)]
          unfold f_X11_readProduct_28
          rw [s1, q_bd]
          dsimp only
          rw [if_neg z27, x2, q_bd, if_pos (show nI 0 = 0 from rfl)]; rfl
        have e8 : f_X6_sumOf_8 (f_X6_sumOf_8_lp (F - 1)) (nI 28) far (nI (c + 1)) h1 = (f_X6_expectNumber 9999 0 h1).bind fun x1 => f_X6_sumOf_47 (f_X6_sumOf_8_lp (F - 1)) (nI 28) far (nI (c + 1)) x1.1 x1.2 := by
          unfold f_X6_sumOf_8
          rw [if_pos (show nI (c + 1) < (400 : Int32) from qlR 400 (by omega) (by omega)), if_pos L1.1.2.2.2.1.1, if_pos (show nI 28 = 28 from rfl)]
        have bad : ∀ f, f ≠ 0 → f < 100 → (∃ v, f_X6_expectNumber 9999 0 h1 = (f_X6_fail (nI f) h1).bind fun x => some (v, x)) → f_X11_readProduct_10_lp G k = ((f_X11_errs (nI f) k1).bind fun x3 => some (x3.1, x3.2)) → ∃ h' k', f_X6_sumOf_66 (f_X6_sumOf_8_lp F) far (nI c) h = some h' ∧ f_X11_readProduct_10_lp G k = some (qM, k') ∧ qyBS h' k' s ∧ qyGX h h' s ∧ qyFL k k' s := by
          intro f f0 f1 ⟨v, ev⟩ eM
          obtain ⟨h2, k2, g1, g2, g3, g4, g5⟩ := q_failX L1.1 f0 f1
          obtain ⟨h', y1, y2, y3, y4⟩ := q_sumF4 (F := F - 1) (by omega) (nI 28) far (nI (c + 1)) v g3.f (show h2 150 6 = nI s by rw [g4.1 150 (by omega)]; exact L1.2.1) (by omega)
          exact ⟨h', k2, by rw [eC, e8, ev, g1, q_bd, q_bd]; exact y1, by rw [eM, g2]; rfl, ⟨qyBad_45 g3 y3, y4⟩, qyGX_tr (X1.gx s) (qyGX_tr (g4.gx s) y2 (Nat.le_refl s)) (Nat.le_refl s), qyFL_tr (M1.fe.fl s) ((qyFE_e g5).fl s) (Nat.le_refl s)⟩
        by_cases z34 : qyK t n (i + 1) = 34
        · obtain ⟨v1, v2⟩ := t3.2 z34
          rw [if_pos (t3.1.mpr z34)] at hd
          unfold f_X11_readProduct_57 at hd
          rw [if_pos rfl, v1] at hd
          by_cases z0 : qyV t n (i + 1) = 0
          · rw [if_pos (show nI (qyV t n (i + 1)) = 0 by rw [z0]; rfl)] at hd
            exact Or.inr (bad 2 (by omega) (by omega) ((q_numU L1.1).2.1 z34 z0) hd)
          · rw [if_neg (show ¬ nI (qyV t n (i + 1)) = 0 from nI_ne0 (by omega) (by omega))] at hd
            refine tail h1 k1 28 5 (nI 28) rfl (Or.inr ⟨rfl, rfl⟩) (by omega) L1 X1 M1 (fun _ => ⟨z34, z0⟩) eC ?_
            rw [hd]
            exact q_p74a _ _
        · rw [if_neg (fun q => z34 (t3.1.mp q))] at hd
          exact Or.inr (bad 1 (by omega) (by omega) ((q_numU L1.1).2.2 z34) hd)
      · refine Or.inl ⟨h, k, i, s, F, c, rfl, ?_, L, Nat.le_refl i, rfl, z27, z28, hc, hF, Y, qyGX_rf h s, qyFL_rf k s⟩
        unfold f_X11_readProduct_10_lp
        refine q_lp1 hG0 (fun rec => ?_)
        unfold f_X11_readProduct_10
        rw [s1, q_bd]
        dsimp only
        rw [if_neg z27, if_pos (show nI 0 = 0 from rfl), s2, q_bd]
        dsimp only
        rw [if_neg z28, if_pos (show nI 0 = 0 from rfl)]
end Qsums
