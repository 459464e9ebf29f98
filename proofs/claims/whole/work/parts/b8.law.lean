/-! THE LAW's lines -/
section Qlawl
/-- line l of both drafts -/
def qyRowL (h k : zHp) (s l : Nat) : Prop := ∃ wd a b c, wd < 3 ∧ c ≤ s ∧ h 151 l = nI wd ∧ k 10 (32 + l) = nI wd ∧ h 152 l = nI a ∧ k 11 (32 + l) = nI a ∧ h 153 l = nI b ∧ k 12 (32 + l) = nI b ∧ h 154 l = nI c ∧ k 13 (32 + l) = nI c ∧ qyTy k a [] [false] b ∧ (b = c ∨ qyTy k b [] [true] c)
/-- what a line leaves -/
def qyGL (h h' : zHp) (s l : Nat) : Prop := (∀ a, a ≠ 145 → ¬(150 ≤ a ∧ a ≤ 155) → h' a = h a) ∧ (∀ j, j ≠ 6 → j ≠ 7 → j ≠ 12 → j ≠ 13 → h' 145 j = h 145 j) ∧ (∀ a j, 151 ≤ a → a ≤ 154 → j ≠ l → h' a j = h a j) ∧ ∀ i, i < s → h' 155 i = h 155 i
def qyKL (k k' : zHp) (s l : Nat) : Prop := ∀ a j, ¬(a = 0 ∧ ((13 ≤ j ∧ j ≤ 16) ∨ (26 ≤ j ∧ j ≤ 31))) → ¬((a = 14 ∨ a = 15) ∧ 800 + s ≤ j) → a ≠ 16 → ¬(10 ≤ a ∧ a ≤ 13 ∧ j = 32 + l) → k' a j = k a j
theorem qyGL_rf (h : zHp) (s l : Nat) : qyGL h h s l := ⟨fun _ _ _ => rfl, fun _ _ _ _ _ => rfl, fun _ _ _ _ _ => rfl, fun _ _ => rfl⟩
theorem qyGL_tr {h h' h'' : zHp} {s s' l : Nat} (a : qyGL h h' s l) (b : qyGL h' h'' s' l) (hs : s ≤ s') : qyGL h h'' s l := ⟨fun x p q => (b.1 x p q).trans (a.1 x p q), fun j p q r z => (b.2.1 j p q r z).trans (a.2.1 j p q r z), fun x j p q r => (b.2.2.1 x j p q r).trans (a.2.2.1 x j p q r), fun i hi => (b.2.2.2 i (by omega)).trans (a.2.2.2 i hi)⟩
theorem qyGX.gl {h h' : zHp} {s : Nat} (a : qyGX h h' s) (l : Nat) : qyGL h h' s l := ⟨fun x p q => a.1 x p (by omega) (by omega), a.2.1, fun x j p q _ => by rw [a.1 x (by omega) (by omega) (by omega)], a.2.2.2⟩
theorem qyGL_st (h : zHp) (s : Nat) {l x : Nat} (v : Int32) (hx : 151 ≤ x ∧ x ≤ 154) : qyGL h (zst h x l v) s l := ⟨fun a p q => q_st_c (by omega), fun j _ _ _ _ => by rw [q_st_c (by omega)], fun a j p q r => by
  rw [q_st]
  by_cases z : a = x
  · rw [if_pos z, if_neg r]
  · rw [if_neg z], fun i _ => by rw [q_st_c (by omega)]⟩
theorem qyKL_tr {k k' k'' : zHp} {s s' l : Nat} (x : qyKL k k' s l) (y : qyKL k' k'' s' l) (hs : s ≤ s') : qyKL k k'' s l := fun a j p q r u => (y a j p (by omega) r u).trans (x a j p q r u)
theorem qyFW.kl {k k' : zHp} {s : Nat} (x : qyFW k k' s) (l : Nat) : qyKL k k' s l := fun a j p q r _ => x a j p q r
theorem qyKL_st (k : zHp) (s : Nat) {l x : Nat} (v : Int32) (hx : 10 ≤ x ∧ x ≤ 13) : qyKL k (zst k x (32 + l) v) s l := fun a j _ _ _ u => by
  rw [q_st]
  by_cases z : a = x
  · rw [if_pos z, if_neg (by omega)]
  · rw [if_neg z]
/-- a row put in on both sides -/
theorem qyL_row {h k : zHp} {t : Nat → Nat} {n T i s : Nat} (L : qyL h k t n T i s) {x y j m : Nat} (v w : Int32) (hx : 151 ≤ x ∧ x ≤ 154) (hy : 10 ≤ y ∧ y ≤ 13) : qyL (zst h x j v) (zst k y m w) t n T i s :=
  ⟨qyAt_h (qyAt_k L.1 (fun j _ => by rw [q_st_c (by omega)]) (by rw [q_st_c (by omega)]) (by rw [q_st_c (by omega)])) (fun a p q => q_st_c (by omega)), by rw [q_st_c (by omega)]; exact L.2.1, by rw [q_st_c (by omega)]; exact L.2.2.1, fun u hu => by rw [q_st_c (by omega), q_st_c (by omega), q_st_c (by omega)]; exact L.2.2.2 u hu⟩
theorem qyTy_kl {k k' : zHp} {a s s' l : Nat} {st0 st : List Bool} (Y : qyTy k a st0 st s) (F : qyKL k k' s' l) (hs : s ≤ s') : qyTy k' a st0 st s :=
  qyTy_c Y (fun i hi => ⟨F 14 _ (by omega) (by omega) (by omega) (by omega), F 15 _ (by omega) (by omega) (by omega) (by omega)⟩)
theorem qyRowL_c {h h' k k' : zHp} {s s' l m : Nat} (R : qyRowL h k s l) (X : qyGL h h' s m) (M : qyKL k k' s m) (hl : l ≠ m) (hs : s ≤ s') : qyRowL h' k' s' l := by
  obtain ⟨wd, a, b, c, r1, r2, r3, r4, r5, r6, r7, r8, r9, r10, r11, r12⟩ := R
  have bc : b ≤ c := by rcases r12 with z | z; omega; exact z.1
  refine ⟨wd, a, b, c, r1, by omega, by rw [X.2.2.1 151 l (by omega) (by omega) hl]; exact r3, by rw [M 10 _ (by omega) (by omega) (by omega) (by omega)]; exact r4, by rw [X.2.2.1 152 l (by omega) (by omega) hl]; exact r5, by rw [M 11 _ (by omega) (by omega) (by omega) (by omega)]; exact r6, by rw [X.2.2.1 153 l (by omega) (by omega) hl]; exact r7, by rw [M 12 _ (by omega) (by omega) (by omega) (by omega)]; exact r8, by rw [X.2.2.1 154 l (by omega) (by omega) hl]; exact r9, by rw [M 13 _ (by omega) (by omega) (by omega) (by omega)]; exact r10, qyTy_kl r11 M (by omega), ?_⟩
  rcases r12 with z | z
  · exact Or.inl z
  · exact Or.inr (qyTy_kl z M (by omega))
theorem q_law83F {h : zHp} (F : qyF h) : f_X6_lawLine_83 h = some h := by
  unfold f_X6_lawLine_83
  rw [q_expB F, q_bd, if_neg F]
/-- a whole condition -/
theorem q_condW {h k : zHp} {t : Nat → Nat} {n T i s : Nat} (L : qyL h k t n T i s) (hs : s + 1 ≤ i) (e27 : k 0 27 = nI 0) : (∃ h' k' i' s', f_X6_condition 0 h = some h' ∧ f_X11_readAny k = some (0, k') ∧ qyL h' k' t n T i' s' ∧ i < i' ∧ s' + 1 ≤ i' ∧ s ≤ s' ∧ k' 0 27 = nI 0 ∧ qyTy k' s [] [true] s' ∧ qyGX h h' s ∧ qyFW k k' s) ∨ (∃ h' k', f_X6_condition 0 h = some h' ∧ f_X11_readAny k = some (qM, k') ∧ qyBad h' k' ∧ qyGX h h' s ∧ qyFW k k' s) := by
  have zn := q_zN
  have z0 : (0 : Int32) = nI 0 := rfl
  have T1 := L.1.2.2.2.2.1.1
  have fr : ∀ b j, ¬(b = 0 ∧ j = 29) → zst k 0 29 (nI 0) b j = k b j := fun b j u => by
    rw [q_st]
    by_cases z : b = 0
    · rw [if_pos z, if_neg (by omega), z]
    · rw [if_neg z]
  have L0 : qyL h (zst k 0 29 (nI 0)) t n T i s := ⟨qyAt_k L.1 (fun j hj => fr 0 j (by omega)) (funext fun j => fr 7 j (by omega)) (funext fun j => fr 8 j (by omega)), L.2.1, (fr 0 26 (by omega)).trans L.2.2.1, fun j hj => by rw [fr 14 _ (by omega), fr 15 _ (by omega)]; exact L.2.2.2 j hj⟩
  have g0 : qyFW k (zst k 0 29 (nI 0)) s := fun a j p q r => fr a j (by omega)
  have eC : f_X6_condition 0 h = f_X6_condition_7_lp (f_X6_rc 19).1 (f_X6_rc 19).2 zN (nI 0, nI 0, nI 0, nI 0, h) := q_rc2 19 0 h
  have eM : f_X11_readAny k = f_X11_readAny_9_lp zN (nI 0, 1, zst k 0 29 (nI 0)) := by
    unfold f_X11_readAny
    rw [q_lt, z0]
  rcases (q_condAll (a := s) (st0 := []) (T + 1 - i) i (Nat.le_refl _)).2 s h _ 0 0 0 0 0 0 zN zN 19 [] (by omega) (by omega) L0 q_st_s ((fr 0 27 (by omega)).trans e27) (by omega) (by omega) (by omega) (Nat.le_refl _) (by omega) (by omega) (by omega) (by omega) (by omega) (fun q => by omega) (fun q => by omega) (Or.inl rfl) (qyTy_0 _ s []) with ⟨h2, k', k'', i', s', G', g1, g2, g3, g4, g5, g6, g7, g8, g9, g10, g11, g12, g13, g14, g15, g16, g17⟩ | ⟨h', k', g1, g2, g3, g4, g5⟩
  · refine Or.inl ⟨h2, k'', i', s', eC.trans g1, ?_, g5, g6, by omega, g10, g12, g15, g16, qyFW_tr g0 g17 (Nat.le_refl s)⟩
    have T3 := g5.1.1
    rw [eM, g2, (r_any0 g4 (G := G') (by omega) (nI 0)).2.2 g7 g8]
    cases ee : f_X11_settles 10 k' with
    | none => rw [ee] at g3; cases g3
    | some kx =>
      rw [ee, q_bd] at g3
      rw [q_bd, g3, q_bd, if_pos (show nI 0 = 0 from rfl)]
  · exact Or.inr ⟨h', k', eC.trans g1, eM.trans g2, g3.1, g4, qyFW_tr g0 g5 (Nat.le_refl s)⟩
end Qlawl
