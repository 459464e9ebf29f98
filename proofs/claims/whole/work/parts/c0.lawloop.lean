/-! THE LAW line by line: both -/
section Qlawloop
def qyGZ (h h' : zHp) : Prop := (∀ a, a ≠ 145 → ¬(150 ≤ a ∧ a ≤ 155) → h' a = h a) ∧ ∀ j, j ≠ 6 → j ≠ 7 → j ≠ 12 → j ≠ 13 → h' 145 j = h 145 j
def qyKZ (k k' : zHp) : Prop := ∀ a j, ¬(a = 0 ∧ ((13 ≤ j ∧ j ≤ 16) ∨ (26 ≤ j ∧ j ≤ 31))) → ¬((a = 14 ∨ a = 15) ∧ 800 ≤ j) → a ≠ 16 → ¬(10 ≤ a ∧ a ≤ 13 ∧ 32 ≤ j) → k' a j = k a j
theorem qyGZ_tr {h h' h'' : zHp} (a : qyGZ h h') (b : qyGZ h' h'') : qyGZ h h'' := ⟨fun x p q => (b.1 x p q).trans (a.1 x p q), fun j p q r z => (b.2 j p q r z).trans (a.2 j p q r z)⟩
theorem qyKZ_tr {k k' k'' : zHp} (x : qyKZ k k') (y : qyKZ k' k'') : qyKZ k k'' := fun a j p q r u => (y a j p q r u).trans (x a j p q r u)
theorem qyGL.z {h h' : zHp} {s l : Nat} (a : qyGL h h' s l) : qyGZ h h' := ⟨a.1, a.2.1⟩
theorem qyKL.z {k k' : zHp} {s l : Nat} (a : qyKL k k' s l) : qyKZ k k' := fun x j p q r u => a x j p (by omega) r (by omega)
theorem qyAX.z {h h' : zHp} (a : qyAX h h') : qyGZ h h' := ⟨fun x p _ => a.1 x p, a.2⟩
theorem qyFE.z {k k' : zHp} (x : qyFE k k') : qyKZ k k' := fun a j p _ _ _ => x a j (by omega)
def qyEndL (h k : zHp) (x y : Option (Int32 × zHp)) : Prop := ∃ h' k', qyGZ h h' ∧ qyKZ k k' ∧ ((∃ n s, n ≤ 16 ∧ s ≤ 400 ∧ x = some (nI n, zst h' 145 1 0) ∧ y = some (nI n, k') ∧ h' 145 12 = 0 ∧ h' 145 13 = h 145 13 ∧ h' 150 7 = nI n ∧ qyCo h' k' s ∧ ∀ l, l < n → qyRowL h' k' s l) ∨ (x = some (-1, zst h' 145 1 0) ∧ y = some (qM, k') ∧ qyBad h' k'))
theorem q_readLaw {h k : zHp} {t : Nat → Nat} {n T : Nat} (L : qyL h k t n T 0 0) (e7 : h 150 7 = nI 0) (e27 : k 0 27 = nI 0) : qyEndL h k (f_X6_read_63_lp zN (nI 0, 1, nI 0, h)) (f_X11_readLaw k) := by
  have eM : f_X11_readLaw k = zlp (fun rec v => f_X11_readLaw_2 rec v.1 v.2) zN (nI 0, k) := rfl
  rw [eM]
  unfold f_X6_read_63_lp
  refine q_exit3 (b1 := fun k63 v => f_X6_read_63 k63 v.1 v.2.1 v.2.2.1 v.2.2.2) (b2 := fun rec v => f_X11_readLaw_2 rec v.1 v.2) (I := fun j v w => ∃ hh kk i s, v = (nI 0, 1, nI j, hh) ∧ w = (nI j, kk) ∧ qyL hh kk t n T i s ∧ s ≤ i ∧ hh 150 7 = nI j ∧ kk 0 27 = nI 0 ∧ qyGZ h hh ∧ qyKZ k kk ∧ ∀ l, l < j → qyRowL hh kk s l) 16 (Q := fun x y => qyEndL h k x y) (fun j v u hj hI => ?_) _ _ ⟨h, k, 0, 0, rfl, rfl, L, Nat.le_refl 0, e7, e27, ⟨fun _ _ _ => rfl, fun _ _ _ _ _ => rfl⟩, fun _ _ _ _ _ _ => rfl, fun l q => by omega⟩ zN zN (by rw [q_zN]; omega) (by rw [q_zN]; omega)
  obtain ⟨hh, kk, i, s, rfl, rfl, L1, si, n7, n27, FX, FC, R1⟩ := hI
  have A1 := L1.1
  have T1 := A1.2.2.2.2.1.1
  have iT := A1.1
  have turn := fun rec => q_63 (j := j) A1 (by omega) (show 0 < 4 by omega) rec
  have p13 : hh 145 13 = h 145 13 := by rw [A1.2.2.2.1.2, L.1.2.2.2.1.2]
  have kK := qyK_le A1
  have kk1 := A1.2.2.1
  have bad : ∀ h1 k1, qyK t n i ≠ 36 → f_X6_lawLine hh = some h1 → qyBad h1 k1 → qyGZ hh h1 → qyKZ kk k1 → (∀ rec, f_X11_readLaw_2 rec (nI j) kk = some (qM, k1)) → ∃ r s, ((∀ rec, f_X6_read_63 rec (nI 0) 1 (nI j) hh = r) ∨ ∃ v', (∀ rec : Int32 × Int32 × Int32 × zHp → Option (Int32 × zHp), f_X6_read_63 rec (nI 0) 1 (nI j) hh = rec v') ∧ ∀ rec, f_X6_read_63 rec v'.1 v'.2.1 v'.2.2.1 v'.2.2.2 = r) ∧ (∀ rec, f_X11_readLaw_2 rec (nI j) kk = s) ∧ qyEndL h k r s := by
    intro h1 k1 e36 eh Bd X1 C1 er
    exact ⟨some (-1, zst h1 145 1 0), some (qM, k1), Or.inr ⟨(nI 0, 1, nI (j + 1), h1), fun rec => by rw [turn rec, if_neg e36, if_pos rfl, eh, q_bd], fun rec => q_63B Bd.f (show 0 < 4 by omega) rec⟩, er, h1, k1, qyGZ_tr FX X1, qyKZ_tr FC C1, Or.inr ⟨rfl, rfl, Bd⟩⟩
  have ref : ∀ rec, f_X11_readLaw_2 rec (nI j) kk = (if qyK t n i < 3 then f_X11_readLaw_2 rec (nI j) kk else if qyK t n i = 36 then some (nI j, kk) else (f_X11_errs 1 kk).bind fun x2 => some (x2.1, x2.2)) := fun rec => by
    by_cases z : qyK t n i < 3
    · rw [if_pos z]
    · rw [if_neg z]
      unfold f_X11_readLaw_2
      rw [q_lineWd A1, q_bd]
      dsimp only
      rw [if_neg z, if_pos (show nI 0 = 0 from rfl)]
      by_cases y : qyK t n i = 36
      · rw [if_pos y, if_pos ((q_tok0 A1).mpr y)]
      · rw [if_neg y, if_neg (fun q => y ((q_tok0 A1).mp q))]
  by_cases e36 : qyK t n i = 36
  · refine Or.inr ⟨_, _, Or.inl (fun rec => (turn rec).trans (if_pos e36)), fun rec => (ref rec).trans ((if_neg (by omega)).trans (if_pos e36)), hh, kk, FX, FC, Or.inl ⟨j, s, hj, by omega, ?_, rfl, A1.2.2.2.1.1, p13, n7, L1.2, R1⟩⟩
    rw [q_147 0 (by omega), if_pos A1.2.2.2.1.1, if_pos rfl, n7]
  by_cases z3 : qyK t n i < 3
  · by_cases j16 : j = 16
    · -- the 17th
      subst j16
      obtain ⟨h1, k1, x1, x2, Bd, X1, M1⟩ := q_failX A1 (f := 3) (by omega) (by omega)
      have x1' : f_X6_fail 3 hh = some h1 := x1
      have x2' : f_X11_errs 3 kk = some (qM, k1) := x2
      refine Or.inr (bad h1 k1 e36 ?_ Bd X1.z (qyFE_e M1).z (fun rec => ?_))
      · unfold f_X6_lawLine
        rw [if_neg (show ¬ (2 : Int32) < hh 145 7 by rw [kk1]; exact qnL 2 (by omega) (by omega)), if_neg (show ¬ hh 150 7 < (16 : Int32) by rw [n7]; decide), x1', q_bd]
      · unfold f_X11_readLaw_2
        rw [q_lineWd A1, q_bd]
        dsimp only
        rw [if_pos z3, if_neg (show ¬ nI 1 = 0 by decide), if_pos (show nI 16 = 16 from rfl), x2']; rfl
    · rcases q_lawLine L1 si (show j < 16 by omega) n7 n27 z3 with ⟨h', k', i', s', g1, g2, g3, g4, g5, g6, g7, g8, g9, g10, g11⟩ | ⟨h', k', g1, g2, g3, g4, g5⟩
      · refine Or.inl ⟨by omega, (nI 0, 1, nI (j + 1), h'), (nI (j + 1), k'), fun rec => by rw [turn rec, if_neg e36, if_pos rfl, g1, q_bd], fun rec => g2 rec, h', k', i', s', rfl, rfl, g3, g5, g7, g8, qyGZ_tr FX g10.z, qyKZ_tr FC g11.z, fun l hl => ?_⟩
        by_cases z : l = j
        · rw [z]; exact g9
        · exact qyRowL_c (R1 l (by omega)) g10 g11 z g6
      · exact Or.inr (bad h' k' e36 g1 g3 g4.z g5.z g2)
  · obtain ⟨h1, k1, x1, x2, Bd, X1, M1⟩ := q_failX A1 (f := 1) (by omega) (by omega)
    have x1' : f_X6_fail 1 hh = some h1 := x1
    have x2' : f_X11_errs 1 kk = some (qM, k1) := x2
    refine Or.inr (bad h1 k1 e36 ?_ Bd X1.z (qyFE_e M1).z (fun rec => ?_))
    · unfold f_X6_lawLine
      rw [if_pos (show (2 : Int32) < hh 145 7 by rw [kk1]; exact qlL 2 (by omega) (by omega)), x1', q_bd]
    · rw [ref rec, if_neg z3, if_neg e36, x2']; rfl
end Qlawloop
