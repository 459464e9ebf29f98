/-! LINES of HOUSE and KIN: both -/
section Qhouse2
theorem q_h39B {h : zHp} (F : qyF h) (a b s : Int32) : f_X6_houseLine_39 a b s h = some h := by
  have e63 : ∀ x, f_X6_houseLine_63 a b x h = some h := fun x => by
    unfold f_X6_houseLine_63 f_X6_houseLine_81
    rw [q_numB F, q_bd, q_cloB F, q_bd, ite_self]
  unfold f_X6_houseLine_39
  rw [q_expB F, q_bd, q_numB F, q_bd, e63, e63, ite_self]
theorem q_hTailB {h : zHp} (F : qyF h) (a : Int32) : (zlt (h 145 7) fun x3 => (if x3 = (9 : Int32) then f_X6_houseLine_39 a x3 x3 h else (if x3 = (23 : Int32) then f_X6_houseLine_39 a x3 x3 h else f_X6_houseLine_39 a x3 (22 : Int32) h))) = some h := by
  rw [q_lt]
  simp only [q_h39B F, ite_self]
def qyRowH (h k : zHp) (C c : Nat) : Prop := ∃ m, m ≤ 999 ∧ h 158 (4 * c) = nI m ∧ k 18 (48 + 3 * c) = nI m ∧
    ((∃ x, x < C ∧ h 158 (4 * c + 1) = 22 ∧ k 18 (48 + 3 * c + 1) = 0 ∧ h 158 (4 * c + 2) = nI x ∧ k 18 (48 + 3 * c + 2) = nI x) ∨
     (∃ d, d ≤ 9 ∧ h 158 (4 * c + 1) = 9 ∧ k 18 (48 + 3 * c + 1) = 1 ∧ h 158 (4 * c + 3) = nI d ∧ k 18 (48 + 3 * c + 2) = nI d) ∨
     (h 158 (4 * c + 1) = 23 ∧ k 18 (48 + 3 * c + 1) = 2))
theorem q_houseLine {h k : zHp} {t : Nat → Nat} {n T i c C : Nat} (A : qyAt h k t n T i) (hc : c < 16) (c2 : h 157 2 = nI c) (c0 : h 157 0 = 16) (x8 : h 145 8 = nI C) (k6 : k 0 6 = nI C) (hC : C ≤ 10) : ∃ h' k', f_X6_houseLine h = some h' ∧ qyFX h h' ∧ (∀ j, j < 4 * c → h' 158 j = h 158 j) ∧ qyFC k k' 18 (48 + 3 * c) ∧ ((f_X11_readHouseLine (nI (48 + 3 * c)) k = some (0, k') ∧ (∃ i', qyAt h' k' t n T i') ∧ h' 157 2 = nI (c + 1) ∧ qyRowH h' k' C c) ∨ (f_X11_readHouseLine (nI (48 + 3 * c)) k = some (qM, k') ∧ qyBad h' k')) := by
  have l1 : (1 : Int32) = nI 1 := rfl
  have l2 : (2 : Int32) = nI 2 := rfl
  unfold f_X6_houseLine f_X11_readHouseLine
  rw [q_lin c2 hc]
  obtain ⟨h1, v1, h2, k2, e1, -, -, e2, X1, R1⟩ := q_told A (w := 16) (B := 1000) (by omega) (by omega)
  have e1' : f_X6_expect 16 h = some h1 := e1
  have e2' : f_X6_expectNumber 999 (-1) h1 = some (v1, h2) := e2
  rw [e1', q_bd, e2', q_bd]
  dsimp only
  rcases R1 with ⟨m, m1, rfl, r1, A1, M1⟩ | ⟨r1, B1, M1⟩
  rotate_left
  · have r1' : f_X11_readTold 16 0 999 k = some (qM, k2) := r1
    refine ⟨h2, zst k2 18 (48 + 3 * c) qM, ?_, X1.fx, fun j _ => by rw [X1.1 158 (by omega)], qyFC_tr M1.fc (qyFC_st (Nat.le_refl _)), Or.inr ⟨?_, qyBad_st B1 (by omega)⟩⟩
    · exact q_hTailB B1.f _
    · rw [r1', q_bd, q_ix (by omega) (by omega), q_lt, q_cl (by omega), q_ix (by omega) (by omega), q_st_s]
      exact if_pos rfl
  have r1' : f_X11_readTold 16 0 999 k = some (nI m, k2) := r1
  rw [r1', q_bd, q_ix (by omega) (by omega), q_lt, q_lt, q_cl (by omega), q_ix (by omega) (by omega), q_st_s, if_neg (q_nM m (by omega))]
  obtain ⟨k5, hk5⟩ : ∃ k5, k5 = zst k2 18 (48 + 3 * c) (nI m) := ⟨_, rfl⟩
  have A2 : qyAt h2 k5 t n T (i + 2) := by rw [hk5]; exact qyAt_st A1 (by omega)
  have F2 : qyFC k k5 18 (48 + 3 * c) := by rw [hk5]; exact qyFC_tr M1.fe.fc (qyFC_st (Nat.le_refl _))
  have g0 : k5 18 (48 + 3 * c) = nI m := by rw [hk5, q_st_s]
  rw [← hk5, A2.2.2.1]
  have z8 : h2 145 8 = nI C := by rw [X1.2 8 (by omega) (by omega) (by omega) (by omega)]; exact x8
  have d2 : h2 157 2 = nI c := by rw [X1.1 157 (by omega)]; exact c2
  have d0 : h2 157 0 = 16 := by rw [X1.1 157 (by omega)]; exact c0
  have XL : ∀ j, h2 158 j = h 158 j := fun j => by rw [X1.1 158 (by omega)]
  have kK := qyK_le A2
  have w22 : f_X11_isWord 22 k5 = some (nI (if qyK t n (i + 2) = 22 then 1 else 0), k5) := q_isWd A2 (w := 22) (by omega)
  have w13 : f_X11_isWord 13 k5 = some (nI (if qyK t n (i + 2) = 9 then 1 else 0), k5) := q_isWd A2 (w := 9) (by omega)
  have w23 : f_X11_isWord 23 k5 = some (nI (if qyK t n (i + 2) = 23 then 1 else 0), k5) := q_isWd A2 (w := 23) (by omega)
  obtain ⟨κ, hκ⟩ : ∃ κ, κ = qyK t n (i + 2) := ⟨_, rfl⟩
  rw [← hκ] at w22 w13 w23 kK ⊢
  have kne : ∀ x, x < 100 → κ ≠ x → ¬ nI κ = nI x := fun x hx hn q => hn ((nI_eq (by omega) (by omega)).mp q)
  -- what closes it
  have fin : ∀ (hh kk : zHp) (y z s : Int32) (i' : Nat), qyAt hh kk t n T i' → hh 157 2 = nI c → hh 157 0 = 16 → qyFX h hh → (∀ j, hh 158 j = h 158 j) → qyFC k kk 18 (48 + 3 * c) → kk 18 (48 + 3 * c) = nI m → ¬ z = (-1 : Int32) → ((κ = 22 ∧ kk 18 (48 + 3 * c + 1) = 0 ∧ ∃ x, x < C ∧ s = nI x ∧ z = nI x) ∨ (κ = 9 ∧ kk 18 (48 + 3 * c + 1) = 1 ∧ ∃ d, d ≤ 9 ∧ y = nI d ∧ z = nI d) ∨ (κ = 23 ∧ kk 18 (48 + 3 * c + 1) = 2)) → ∃ h' k', (f_X6_closeLine (nI m) (nI κ) s y hh).bind (fun x1 => some x1) = some h' ∧ qyFX h h' ∧ (∀ j, j < 4 * c → h' 158 j = h 158 j) ∧ qyFC k k' 18 (48 + 3 * c) ∧ ((f_X11_readHouseLine_129 (nI (48 + 3 * c)) z (nI (48 + 3 * c + 2)) kk = some (0, k') ∧ (∃ i', qyAt h' k' t n T i') ∧ h' 157 2 = nI (c + 1) ∧ qyRowH h' k' C c) ∨ (f_X11_readHouseLine_129 (nI (48 + 3 * c)) z (nI (48 + 3 * c + 2)) kk = some (qM, k') ∧ qyBad h' k')) := by
    intro hh kk y z s i' Ah n2 n0 FX FL FC v0 zn hk
    obtain ⟨h', k', s1, s2, s3, s4⟩ := q_close (k := zst kk 18 (48 + 3 * c + 2) z) (qyAt_st Ah (by omega)) hc n2 n0 (nI m) (nI κ) s y
    have rd : f_X11_readHouseLine_129 (nI (48 + 3 * c)) z (nI (48 + 3 * c + 2)) kk = (f_X11_readMark (nI 59) (zst kk 18 (48 + 3 * c + 2) z)).bind fun x2 => some (x2.1, x2.2) := by
      unfold f_X11_readHouseLine_129
      rw [q_ix (by omega) (by omega), q_lt, q_cl (by omega), l2, nI_add, q_ix (by omega) (by omega), q_cl (by omega), q_st_s, if_neg zn]; rfl
    rw [rd, s1]
    refine ⟨h', k', rfl, qyFX_tr FX s2, fun j hj => by rw [s3 j (by omega), FL], ?_, ?_⟩
    · rcases s4 with ⟨-, -, s6, -⟩ | ⟨-, -, s6⟩
      · exact qyFC_tr FC (qyFC_tr (qyFC_st (by omega)) s6.fe.fc)
      · exact qyFC_tr FC (qyFC_tr (qyFC_st (by omega)) s6.fc)
    · rcases s4 with ⟨s5, s6, s7, s8, s9, s10, s11, s12⟩ | ⟨s5, s6, -⟩
      · refine Or.inl ⟨by rw [s5]; rfl, ⟨_, s6⟩, s8, m, by omega, s9, by rw [s7 18 _ (by omega), q_st_i (by omega)]; exact v0, ?_⟩
        have e2 : k' 18 (48 + 3 * c + 2) = z := by rw [s7 18 _ (by omega), q_st_s]
        have e1 : k' 18 (48 + 3 * c + 1) = kk 18 (48 + 3 * c + 1) := by rw [s7 18 _ (by omega), q_st_i (by omega)]
        rcases hk with ⟨q1, q2, x, q3, q4, q5⟩ | ⟨q1, q2, d, q3, q4, q5⟩ | ⟨q1, q2⟩
        · exact Or.inl ⟨x, q3, by rw [s10, q1]; rfl, e1.trans q2, s11.trans q4, e2.trans q5⟩
        · exact Or.inr (Or.inl ⟨d, q3, by rw [s10, q1]; rfl, e1.trans q2, s12.trans q4, e2.trans q5⟩)
        · exact Or.inr (Or.inr ⟨by rw [s10, q1]; rfl, e1.trans q2⟩)
      · exact Or.inr ⟨by rw [s5]; rfl, s6⟩
  -- a number behind the word
  have num : ∀ (hh kk : zHp) (i' B : Nat) (f : Int32 → zHp → Option zHp), B < 100000 → qyAt hh kk t n T i' → hh 157 2 = nI c → hh 157 0 = 16 → qyFX h hh → (∀ j, hh 158 j = h 158 j) → qyFC k kk 18 (48 + 3 * c) → kk 18 (48 + 3 * c) = nI m → (∀ x q, qyF q → f x q = some q) → (∀ x h3 k3, x < B → qyAt h3 k3 t n T (i' + 1) → qyAX hh h3 → qyFM kk k3 → ∃ h' k', f (nI x) h3 = some h' ∧ qyFX h h' ∧ (∀ j, j < 4 * c → h' 158 j = h 158 j) ∧ qyFC k k' 18 (48 + 3 * c) ∧ ((f_X11_readHouseLine_129 (nI (48 + 3 * c)) (nI x) (nI (48 + 3 * c + 2)) k3 = some (0, k') ∧ (∃ i', qyAt h' k' t n T i') ∧ h' 157 2 = nI (c + 1) ∧ qyRowH h' k' C c) ∨ (f_X11_readHouseLine_129 (nI (48 + 3 * c)) (nI x) (nI (48 + 3 * c + 2)) k3 = some (qM, k') ∧ qyBad h' k'))) → ∃ h' k', ((f_X6_expectNumber (nI B - 1) (-1) hh).bind fun x1 => f x1.1 x1.2) = some h' ∧ qyFX h h' ∧ (∀ j, j < 4 * c → h' 158 j = h 158 j) ∧ qyFC k k' 18 (48 + 3 * c) ∧ ((((f_X11_readNumber 0 (nI B - 1) kk).bind fun x5 => f_X11_readHouseLine_129 (nI (48 + 3 * c)) x5.1 (nI (48 + 3 * c + 2)) x5.2) = some (0, k') ∧ (∃ i', qyAt h' k' t n T i') ∧ h' 157 2 = nI (c + 1) ∧ qyRowH h' k' C c) ∨ (((f_X11_readNumber 0 (nI B - 1) kk).bind fun x5 => f_X11_readHouseLine_129 (nI (48 + 3 * c)) x5.1 (nI (48 + 3 * c + 2)) x5.2) = some (qM, k') ∧ qyBad h' k')) := by
    intro hh kk i' B f hB Ah n2 n0 FX FL FC v0 fB fY
    rcases q_num Ah hB (-1) (fun z _ => q_nM _ (by
      have := ((q_tok3 Ah).2 z).2
      omega)) with ⟨h6, k8, v1, y1, y2, -, A5, X4, M4⟩ | ⟨v, h6, k8, y1, y2, Bd, X4, M4⟩
    · have y2' : f_X11_readNumber 0 (nI B - 1) kk = some (nI (qyV t n i'), k8) := y2
      rw [y1, q_bd, y2', q_bd]
      exact fY _ h6 k8 v1 A5 X4 M4
    · have y2' : f_X11_readNumber 0 (nI B - 1) kk = some (qM, k8) := y2
      rw [y1, q_bd, y2', q_bd]
      refine ⟨h6, zst k8 18 (48 + 3 * c + 2) qM, fB _ _ Bd.f, qyFX_tr FX X4.fx, fun j _ => by rw [X4.1 158 (by omega), FL], qyFC_tr FC (qyFC_tr (qyFE_e M4).fc (qyFC_st (by omega))), Or.inr ⟨?_, qyBad_st Bd (by omega)⟩⟩
      unfold f_X11_readHouseLine_129
      rw [q_ix (by omega) (by omega), q_lt, q_cl (by omega), l2, nI_add, q_ix (by omega) (by omega), q_cl (by omega), q_st_s]
      exact if_pos rfl
  -- the word is read
  have rd : ∀ (s : Nat), κ < 36 → ∃ h5 k6', f_X6_expect (nI κ) h2 = some h5 ∧ f_X11_reads k5 = some k6' ∧ qyAt h5 (zst k6' 18 (48 + 3 * c + 1) (nI s)) t n T (i + 3) ∧ h5 157 2 = nI c ∧ h5 157 0 = 16 ∧ h5 145 8 = nI C ∧ qyFX h h5 ∧ (∀ j, h5 158 j = h 158 j) ∧ qyFC k (zst k6' 18 (48 + 3 * c + 1) (nI s)) 18 (48 + 3 * c) ∧ zst k6' 18 (48 + 3 * c + 1) (nI s) 18 (48 + 3 * c) = nI m := by
    intro s h36
    obtain ⟨h5, k6', x1, x2, A4, X3, M3⟩ := q_expY A2 (w := κ) h36 hκ.symm
    exact ⟨h5, k6', x1, x2, qyAt_st A4 (by omega), by rw [X3.1 157 (by omega)]; exact d2, by rw [X3.1 157 (by omega)]; exact d0, by rw [X3.2 8 (by omega) (by omega) (by omega) (by omega)]; exact z8, qyFX_tr X1.fx X3.fx, fun j => by rw [X3.1 158 (by omega), XL], qyFC_tr F2 (qyFC_tr M3.fe.fc (qyFC_st (by omega))), by rw [q_st_i (by omega), M3 18 _ (by omega)]; exact g0⟩
  rw [w22, q_bd]
  dsimp only
  by_cases a22 : κ = 22
  · -- cat CHAIR
    obtain ⟨h5, k6', x1, x2, A4, b2, b0, b8, FX, FL, FC, v0⟩ := rd 0 (by omega)
    have c6 : zst k6' 18 (48 + 3 * c + 1) (nI 0) 0 6 = nI C := by rw [FC 0 6 (by omega) (by omega)]; exact k6
    have x1' : f_X6_expect 22 h2 = some h5 := by rw [← x1, a22]; rfl
    have cl : ∀ x h3, f_X6_houseLine_63 (nI m) (nI κ) x h3 = (f_X6_closeLine (nI m) (nI κ) x 0 h3).bind fun x1 => some x1 := fun x h3 => by
      unfold f_X6_houseLine_63 f_X6_houseLine_81
      rw [if_neg (show ¬ nI κ = (9 : Int32) from kne 9 (by omega) (by omega))]
    rw [if_pos a22, q_ifF (show ¬ nI κ = (9 : Int32) from kne 9 (by omega) (by omega)), q_ifF (show ¬ nI κ = (23 : Int32) from kne 23 (by omega) (by omega)), if_neg (show ¬ nI 1 = 0 by decide)]
    unfold f_X6_houseLine_39 f_X11_readHouseLine_68
    rw [x1', q_bd, q_ifT (show nI κ = (22 : Int32) by rw [a22]; rfl), if_neg (show ¬ (0 : Int32) = -1 by decide), x2, q_bd, l1, nI_add, q_ix (by omega) (by omega), q_lt, q_cl (by omega), if_neg (show ¬ (0 : Int32) = 2 by decide), if_pos rfl, l2, nI_add, b8]
    have nm := num h5 (zst k6' 18 (48 + 3 * c + 1) (nI 0)) (i + 3) C (fun x q => f_X6_houseLine_63 (nI m) (nI κ) x q) (by omega) A4 b2 b0 FX FL FC v0 (fun x q F => by rw [cl, q_cloB F, q_bd]) (fun x h3 k3 hx A5 X4 M4 => by
      rw [cl]
      exact fin h3 k3 0 (nI x) (nI x) _ A5 (by rw [X4.1 157 (by omega)]; exact b2) (by rw [X4.1 157 (by omega)]; exact b0) (qyFX_tr FX X4.fx) (fun j => by rw [X4.1 158 (by omega), FL]) (qyFC_tr FC M4.fe.fc) (by rw [M4 18 _ (by omega)]; exact v0) (q_nM x (by omega)) (Or.inl ⟨a22, by rw [M4 18 _ (by omega), q_st_s]; rfl, x, hx, rfl, rfl⟩))
    rw [show zst k6' 18 (48 + 3 * c + 1) (0 : Int32) 0 6 = nI C from c6]
    exact nm
  rw [if_neg a22, if_pos (show nI 0 = 0 from rfl), w13, q_bd]
  dsimp only
  by_cases a9 : κ = 9
  · -- draught N
    obtain ⟨h5, k6', x1, x2, A4, b2, b0, b8, FX, FL, FC, v0⟩ := rd 1 (by omega)
    have cl : ∀ x y h3, f_X6_houseLine_81 (nI m) (nI κ) x y h3 = (f_X6_closeLine (nI m) (nI κ) x y h3).bind fun x1 => some x1 := fun x y h3 => rfl
    rw [if_pos a9, q_ifT (show nI κ = (9 : Int32) by rw [a9]; rfl), if_neg (show ¬ nI 1 = 0 by decide)]
    unfold f_X6_houseLine_39 f_X11_readHouseLine_68 f_X6_houseLine_63
    rw [x1, q_bd, q_ifF (show ¬ nI κ = (22 : Int32) from kne 22 (by omega) (by omega)), q_ifT (show nI κ = (9 : Int32) by rw [a9]; rfl), if_neg (show ¬ (1 : Int32) = -1 by decide), x2, q_bd, show nI (48 + 3 * c) + (1 : Int32) = nI (48 + 3 * c + 1) from nI_add _ 1, q_ix (by omega) (by omega), q_lt, q_cl (by omega), if_neg (show ¬ (1 : Int32) = 2 by decide), if_neg (show ¬ (1 : Int32) = 0 by decide), show nI (48 + 3 * c) + (2 : Int32) = nI (48 + 3 * c + 2) from nI_add _ 2]
    exact num h5 (zst k6' 18 (48 + 3 * c + 1) (nI 1)) (i + 3) 10 (fun x q => f_X6_houseLine_81 (nI m) (nI κ) (-1) x q) (by omega) A4 b2 b0 FX FL FC v0 (fun x q F => by
      show f_X6_houseLine_81 (nI m) (nI κ) (-1) x q = some q
      rw [cl, q_cloB F, q_bd]) (fun x h3 k3 hx A5 X4 M4 => fin h3 k3 (nI x) (nI x) (-1) _ A5 (by rw [X4.1 157 (by omega)]; exact b2) (by rw [X4.1 157 (by omega)]; exact b0) (qyFX_tr FX X4.fx) (fun j => by rw [X4.1 158 (by omega), FL]) (qyFC_tr FC M4.fe.fc) (by rw [M4 18 _ (by omega)]; exact v0) (q_nM x (by omega)) (Or.inr (Or.inl ⟨a9, by rw [M4 18 _ (by omega), q_st_s]; rfl, x, by omega, rfl, rfl⟩)))
  rw [if_neg a9, if_pos (show nI 0 = 0 from rfl), w23, q_bd]
  dsimp only
  rw [q_ifF (show ¬ nI κ = (9 : Int32) from kne 9 (by omega) a9)]
  by_cases a23 : κ = 23
  · -- hush
    obtain ⟨h5, k6', x1, x2, A4, b2, b0, b8, FX, FL, FC, v0⟩ := rd 2 (by omega)
    rw [if_pos a23, q_ifT (show nI κ = (23 : Int32) by rw [a23]; rfl), if_neg (show ¬ nI 1 = 0 by decide)]
    unfold f_X6_houseLine_39 f_X11_readHouseLine_68 f_X6_houseLine_63 f_X6_houseLine_81
    rw [x1, q_bd, q_ifF (show ¬ nI κ = (22 : Int32) from kne 22 (by omega) (by omega)), q_ifF (show ¬ nI κ = (9 : Int32) from kne 9 (by omega) a9), if_neg (show ¬ (2 : Int32) = -1 by decide), x2, q_bd, show nI (48 + 3 * c) + (1 : Int32) = nI (48 + 3 * c + 1) from nI_add _ 1, q_ix (by omega) (by omega), q_lt, q_cl (by omega), if_pos (show (2 : Int32) = 2 from rfl), show nI (48 + 3 * c) + (2 : Int32) = nI (48 + 3 * c + 2) from nI_add _ 2]
    exact fin h5 (zst k6' 18 (48 + 3 * c + 1) (nI 2)) 0 0 (-1) _ A4 b2 b0 FX FL FC v0 (by decide) (Or.inr (Or.inr ⟨a23, by rw [q_st_s]; rfl⟩))
  · rw [if_neg a23, q_ifF (show ¬ nI κ = (23 : Int32) from kne 23 (by omega) a23), if_pos (show nI 0 = 0 from rfl)]
    obtain ⟨h5, k6', x1, x2, Bd, X3, M3⟩ := q_expN A2 (w := 22) (by omega) (by rw [← hκ]; exact a22)
    have x1' : f_X6_expect 22 h2 = some h5 := x1
    have x2' : f_X11_errs 1 k5 = some (qM, k6') := x2
    unfold f_X6_houseLine_39 f_X11_readHouseLine_68 f_X6_houseLine_63 f_X6_houseLine_81
    rw [x1', q_bd, q_ifF (show ¬ nI κ = (22 : Int32) from kne 22 (by omega) a22), q_ifF (show ¬ nI κ = (9 : Int32) from kne 9 (by omega) a9), q_cloB Bd.f, q_bd, if_pos rfl, x2', q_bd]
    exact ⟨h5, k6', rfl, qyFX_tr X1.fx X3.fx, fun j _ => by rw [X3.1 158 (by omega), XL], qyFC_tr F2 (qyFE_e M3).fc, Or.inr ⟨rfl, Bd⟩⟩
end Qhouse2
