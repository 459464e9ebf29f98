/-! THE TAPE's tokens, reference -/
section Qreads
def qyTapeM (k : zHp) (t : Nat → Nat) (n : Nat) : Prop := n ≤ 400 ∧ k 0 12 = nI n ∧ (∀ i, i < n → t i < 256 ∧ k 7 i = nI (t i)) ∧ ∀ i, i < 124 → k 8 i = qWords.getD i 0
theorem q_raw {k : zHp} {t : Nat → Nat} {n x : Nat} (A : qyTapeM k t n) (hx : x ≤ n) : f_X11_raw (nI x) k = some (if x < n then nI (t x) else qM, k) := by
  obtain ⟨A1, A2, A3, -⟩ := A
  unfold f_X11_raw
  rw [A2]
  by_cases z : x < n
  · rw [q_ifT (nI_lt z (by omega)), q_ix (by omega) (by omega), q_cl (by omega), (A3 x z).2, if_pos z]
  · rw [q_ifF (nI_nlt (by omega) (by omega)), if_neg z]; rfl
theorem q_isLet {c : Nat} (hc : c < 256) (k : zHp) : f_X11_isLetter (nI c) k = some (nI (if qSo c = 1 then 1 else 0), k) := by
  unfold f_X11_isLetter
  rw [show (97 : Int32) = nI 97 from rfl, show (122 : Int32) = nI 122 from rfl, show (65 : Int32) = nI 65 from rfl, show (90 : Int32) = nI 90 from rfl]
  by_cases z : 97 ≤ c ∧ c ≤ 122
  · have e : qSo c = 1 := by
      unfold qSo
      rw [if_neg (by omega), if_pos (Or.inl z)]
    rw [q_inI z.1 z.2 (by omega), q_bd]
    dsimp only
    rw [if_neg (show ¬ nI 1 = 0 by decide), if_pos e]; rfl
  · rw [q_inO (by unfold qOut; by_cases y : c < 97
                  · exact Or.inl (nI_lt y (by omega))
                  · exact Or.inr (nI_lt (by omega) (by omega))), q_bd]
    dsimp only
    rw [if_pos (show nI 0 = 0 from rfl)]
    by_cases y : 65 ≤ c ∧ c ≤ 90
    · have e : qSo c = 1 := by
        unfold qSo
        rw [if_neg (by omega), if_pos (Or.inr y)]
      rw [q_inI y.1 y.2 (by omega), q_bd]
      dsimp only
      rw [if_neg (show ¬ nI 1 = 0 by decide), if_pos e]; rfl
    · have e : ¬ qSo c = 1 := by
        unfold qSo
        split
        · omega
        rw [if_neg (by omega)]
        split <;> omega
      rw [q_inO (by unfold qOut; by_cases y2 : c < 65
                    · exact Or.inl (nI_lt y2 (by omega))
                    · exact Or.inr (nI_lt (by omega) (by omega))), q_bd]
      dsimp only
      rw [if_pos (show nI 0 = 0 from rfl), if_neg e]; rfl
theorem q_isLetM (k : zHp) : f_X11_isLetter qM k = some (nI 0, k) := by
  unfold f_X11_isLetter
  rw [show (97 : Int32) = nI 97 from rfl, show (122 : Int32) = nI 122 from rfl, show (65 : Int32) = nI 65 from rfl, show (90 : Int32) = nI 90 from rfl, q_inO (Or.inl (by decide)), q_bd]
  dsimp only
  rw [if_pos (show nI 0 = 0 from rfl), q_inO (Or.inl (by decide)), q_bd]; rfl
theorem q_dig {c : Nat} (hc : c < 256) (k : zHp) : f_X11_isDigit (nI c) k = some (nI (if qSo c = 2 then 1 else 0), k) := by
  unfold f_X11_isDigit
  rw [show (48 : Int32) = nI 48 from rfl, show (57 : Int32) = nI 57 from rfl]
  by_cases z : 48 ≤ c ∧ c ≤ 57
  · have e : qSo c = 2 := by
      unfold qSo
      rw [if_neg (by omega), if_neg (by omega), if_pos z]
    rw [q_inI z.1 z.2 (by omega), q_bd, if_pos e]; rfl
  · have e : ¬ qSo c = 2 := by
      unfold qSo
      split
      · omega
      split
      · omega
      omega
    rw [q_inO (by unfold qOut; by_cases y2 : c < 48
                  · exact Or.inl (nI_lt y2 (by omega))
                  · exact Or.inr (nI_lt (by omega) (by omega))), q_bd, if_neg e]; rfl
theorem q_digM (k : zHp) : f_X11_isDigit qM k = some (nI 0, k) := by
  unfold f_X11_isDigit
  rw [show (48 : Int32) = nI 48 from rfl, show (57 : Int32) = nI 57 from rfl, q_inO (Or.inl (by decide)), q_bd]; rfl
def qySn : List Nat := [59, 43, 45, 42, 47, 40, 41, 60, 61, 62]
theorem q_sgF : ∀ c, c < 256 → (qSg c < 10 → qySn.getD (qSg c) 0 = c) ∧ ((c = 59 ∨ c = 43 ∨ c = 45 ∨ c = 42 ∨ c = 47 ∨ c = 40 ∨ c = 41 ∨ c = 60 ∨ c = 61 ∨ c = 62) ↔ qSg c < 10) := by decide +kernel
theorem q_mark {c : Nat} (hc : c < 256) (k : zHp) : f_X11_isMarkSign (nI c) k = some (nI (if qSg c < 10 then 1 else 0), k) := by
  have hF := (q_sgF c hc).2
  have lit : ∀ x, x < 2147483648 → (nI c = nI x ↔ c = x) := fun x hx => nI_eq (by omega) hx
  unfold f_X11_isMarkSign
  by_cases z : qSg c < 10
  · have := hF.mpr z
    rw [if_pos z]
    rcases this with rfl | rfl | rfl | rfl | rfl | rfl | rfl | rfl | rfl | rfl <;> rfl
  · have n := fun q => z (hF.mp q)
    rw [if_neg z, if_neg (show ¬ nI c = (59 : Int32) from fun q => n (by have := (lit 59 (by omega)).mp q; omega)), if_neg (show ¬ nI c = (43 : Int32) from fun q => n (by have := (lit 43 (by omega)).mp q; omega)), if_neg (show ¬ nI c = (45 : Int32) from fun q => n (by have := (lit 45 (by omega)).mp q; omega)), if_neg (show ¬ nI c = (42 : Int32) from fun q => n (by have := (lit 42 (by omega)).mp q; omega)), if_neg (show ¬ nI c = (47 : Int32) from fun q => n (by have := (lit 47 (by omega)).mp q; omega)), if_neg (show ¬ nI c = (40 : Int32) from fun q => n (by have := (lit 40 (by omega)).mp q; omega)), if_neg (show ¬ nI c = (41 : Int32) from fun q => n (by have := (lit 41 (by omega)).mp q; omega)), if_neg (show ¬ nI c = (60 : Int32) from fun q => n (by have := (lit 60 (by omega)).mp q; omega)), if_neg (show ¬ nI c = (61 : Int32) from fun q => n (by have := (lit 61 (by omega)).mp q; omega)), if_neg (show ¬ nI c = (62 : Int32) from fun q => n (by have := (lit 62 (by omega)).mp q; omega))]; rfl
-- words
def qyRS : List Nat := [1, 8, 14, 20, 25, 28, 32, 36, 40, 46, 51, 57, 64, 68, 76, 81, 88, 91, 98, 102, 107, 110, 115, 119, 124]
def qyRs (r : Nat) : Nat := qyRS.getD r 0
/-- the class's number of the reference's word r, and back -/
def qyIW (r : Nat) : Nat := ([0, 1, 2, 12, 13, 14, 15, 3, 4, 5, 6, 7, 8, 9, 10, 11, 16, 17, 18, 19, 20, 21, 22, 23] : List Nat).getD r 0
def qyRW (w : Nat) : Nat := ([0, 1, 2, 7, 8, 9, 10, 11, 12, 13, 14, 15, 3, 4, 5, 6, 16, 17, 18, 19, 20, 21, 22, 23] : List Nat).getD w 0
theorem q_rwF : ∀ r, r < 24 → qyIW r < 24 ∧ qyRW (qyIW r) = r ∧ qyRs (r + 1) = qyRs r + qWl (qyIW r) + 1 ∧ qyRs r + qWl (qyIW r) ≤ 123 ∧ 1 ≤ qyRs r ∧ qWords.getD (qyRs r + qWl (qyIW r)) 0 = 32 ∧ ∀ j, j < 8 → j < qWl (qyIW r) → qWords.getD (qyRs r + j) 0 = qWb (qCs (qyIW r) + j) ∧ ¬ qWords.getD (qyRs r + j) 0 = 32 := by decide +kernel
theorem q_iwF : ∀ w, w < 24 → qyRW w < 24 ∧ qyIW (qyRW w) = w := by decide
theorem q_wOne : ∀ w, w < 24 → ∀ v, v < 24 → qWl w = qWl v → (∀ j, j < 8 → j < qWl w → qWb (qCs w + j) = qWb (qCs v + j)) → w = v := by decide +kernel
theorem qSm_t {t : Nat → Nat} {p e st : Nat} : ∀ m, qSm t p e st m = true ↔ ∀ j, j < m → p + j < e ∧ nI (t (p + j)) = qWb (st + j)
  | 0 => by
    constructor
    · intro _ j hj; omega
    · intro _; rfl
  | m + 1 => by
    have ih := qSm_t (t := t) (p := p) (e := e) (st := st) m
    rw [qSm, Bool.and_eq_true, Bool.and_eq_true, decide_eq_true_eq, decide_eq_true_eq, ih]
    constructor
    · rintro ⟨h1, h2⟩ j hj
      by_cases z : j = m
      · rw [z]; exact h2
      · exact h1 j (by omega)
    · intro h
      exact ⟨fun j hj => h j (by omega), h m (by omega)⟩
theorem qWmt_one {t : Nat → Nat} {p e w v : Nat} (hw : w < 24) (hv : v < 24) (h1 : qWmt t p e w = true) (h2 : qWmt t p e v = true) : w = v := by
  unfold qWmt at *
  rw [Bool.and_eq_true, decide_eq_true_eq, qSm_t] at h1 h2
  have el : qWl w = qWl v := by omega
  exact q_wOne w hw v hv el (fun j _ hj => by rw [← (h1.1 j hj).2, ← (h2.1 j (by omega)).2])
theorem q_wordM {k : zHp} {t : Nat → Nat} {n p e : Nat} (A : qyTapeM k t n) (he : e ≤ n) (hp : p ≤ e) (L : ∀ i, p ≤ i → i < e → t i ≠ 32) : f_X11_wordAt (nI p) (nI e) k = some (if qWrd t p e < 24 then nI (qyRW (qWrd t p e)) else qM, k) := by
  obtain ⟨A1, A2, A3, A4⟩ := A
  have l1 : (1 : Int32) = nI 1 := rfl
  have np1 : ∀ r, nI r - 1 + nI 1 = nI r := fun r => by rw [l1, Int32.sub_add_cancel]
  unfold f_X11_wordAt f_X11_wordAt_5_lp
  refine q_exit (b := fun k5 v => f_X11_wordAt_5 k5 v.1 v.2.1 v.2.2.1 v.2.2.2.1 v.2.2.2.2) (I := fun r v => v = (nI p, nI e, nI r - 1, nI (qyRs r - 1), k) ∧ ∀ x, x < r → qWmt t p e (qyIW x) = false) 24 (Q := fun x => x = some (if qWrd t p e < 24 then nI (qyRW (qWrd t p e)) else qM, k)) (fun r v hr hI => ?_) (fun v hI => ?_) _ ⟨rfl, fun x hx => absurd hx (Nat.not_lt_zero x)⟩ zN (by rw [q_zN]; omega)
  · obtain ⟨rfl, k4⟩ := hI
    obtain ⟨c1, c2, c3, c4, c5, c6, c7⟩ := q_rwF r hr
    have w8 := q_wl8 _ c1
    -- how many letters fit
    obtain ⟨M, M1, M2, M3⟩ := q_least (fun j => ¬(p + j < e ∧ qWords.getD (qyRs r + j) 0 = nI (t (p + j)))) (qWl (qyIW r))
    have M2' : ∀ j, j < M → p + j < e ∧ qWords.getD (qyRs r + j) 0 = nI (t (p + j)) := fun j hj => Classical.not_not.mp (M2 j hj)
    have M3' : ¬(p + M < e ∧ qWords.getD (qyRs r + M) 0 = nI (t (p + M))) := by
      by_cases z : M < qWl (qyIW r)
      · exact M3 z
      · have em : M = qWl (qyIW r) := by omega
        rintro ⟨q1, q2⟩
        rw [em, c6] at q2
        have := L (p + M) (by omega) q1
        rw [em] at this
        have t256 := (A3 (p + qWl (qyIW r)) (by omega)).1
        exact this ((nI_eq (a := 32) (by omega) (by omega)).mp q2).symm
    have in19 : ∀ rec : Int32 × Int32 × Int32 × Int32 × zHp → Option (Int32 × zHp), f_X11_wordAt_19_lp rec zN (nI p, nI e, nI r, nI (qyRs r - 1), nI 0, k) = f_X11_wordAt_60 rec (nI p) (nI e) (nI r) (nI (qyRs r - 1)) (nI M) k := by
      intro rec
      unfold f_X11_wordAt_19_lp
      refine q_for (S := fun j => (nI p, nI e, nI r, nI (qyRs r - 1), nI j, k)) M (fun j hj rec2 => ?_) (fun rec2 => ?_) zN (by rw [q_zN]; omega)
      · obtain ⟨x1, x2⟩ := M2' j hj
        have x3 := (A3 (p + j) (by omega)).2
        simp only [f_X11_wordAt_19]
        rw [l1, nI_add, nI_add, nI_add, nI_add, q_ifT (nI_lt x1 (by omega)), q_ix (by omega) (by omega), q_ix (by omega) (by omega), q_cl (by omega), q_cl (by omega), show qyRs r - 1 + 1 + j = qyRs r + j by omega, q_ifT (show k 8 (qyRs r + j) = k 7 (p + j) by rw [A4 _ (by omega), x3]; exact x2), q_lt]
      · simp only [f_X11_wordAt_19]
        rw [nI_add]
        by_cases z : p + M < e
        · have x3 := (A3 (p + M) (by omega)).2
          rw [q_ifT (nI_lt z (by omega)), l1, nI_add, nI_add, q_ix (by omega) (by omega), q_ix (by omega) (by omega), q_cl (by omega), q_cl (by omega), show qyRs r - 1 + 1 + M = qyRs r + M by omega, q_ifF (show ¬ k 8 (qyRs r + M) = k 7 (p + M) by rw [A4 _ (by omega), x3]; exact fun q => M3' ⟨z, q⟩)]
        · rw [q_ifF (nI_nlt (by omega) (by omega))]
    have skip : ∀ rec : Int32 × Int32 × Int32 × Int32 × zHp → Option (Int32 × zHp), f_X11_wordAt_93_lp rec zN (nI p, nI e, nI r, nI (qyRs r), k) = rec (nI p, nI e, nI r, nI (qyRs r + qWl (qyIW r)), k) := by
      intro rec
      unfold f_X11_wordAt_93_lp
      refine q_for (S := fun j => (nI p, nI e, nI r, nI (qyRs r + j), k)) (qWl (qyIW r)) (fun j hj rec2 => ?_) (fun rec2 => ?_) zN (by rw [q_zN]; omega)
      · simp only [f_X11_wordAt_93]
        rw [q_ix (by omega) (by omega), q_cl (by omega), q_ifF (show ¬ k 8 (qyRs r + j) = (32 : Int32) by rw [A4 _ (by omega)]; exact (c7 j (by omega) hj).2), q_lt, l1, nI_add, Nat.add_assoc]
      · simp only [f_X11_wordAt_93]
        rw [q_ix (by omega) (by omega), q_cl (by omega), q_ifT (show k 8 (qyRs r + qWl (qyIW r)) = (32 : Int32) by rw [A4 _ (by omega)]; exact c6)]
    have first : ∀ rec : Int32 × Int32 × Int32 × Int32 × zHp → Option (Int32 × zHp), f_X11_wordAt_5 rec (nI p) (nI e) (nI r - 1) (nI (qyRs r - 1)) k = f_X11_wordAt_60 rec (nI p) (nI e) (nI r) (nI (qyRs r - 1)) (nI M) k := by
      intro rec
      simp only [f_X11_wordAt_5]
      rw [q_ifT (qlR 123 (show qyRs r - 1 < 123 by omega) (by omega)), q_lt, show nI r - 1 + (1 : Int32) = nI r from np1 r]
      exact in19 rec
    by_cases hm : qWmt t p e (qyIW r) = true
    · -- it is this one
      have hm' := hm
      unfold qWmt at hm'
      rw [Bool.and_eq_true, decide_eq_true_eq, qSm_t] at hm'
      have eM : M = qWl (qyIW r) := by
        rcases Nat.lt_or_ge M (qWl (qyIW r)) with z | z
        · exfalso
          obtain ⟨q1, q2⟩ := hm'.1 M z
          exact M3' ⟨q1, by rw [(c7 M (by omega) z).1, q2]⟩
        · omega
      refine Or.inr ⟨some (nI r, k), fun rec => (first rec).trans ?_, ?_⟩
      · unfold f_X11_wordAt_60
        rw [nI_add, q_ifeq (by omega), l1, nI_add, nI_add, q_ix (by omega) (by omega), q_cl (by omega), show qyRs r - 1 + 1 + M = qyRs r + M by omega, q_ifT (show k 8 (qyRs r + M) = (32 : Int32) by rw [A4 _ (by omega), eM]; exact c6)]
      · have y := fa_first_le (fun w => qWmt t p e w) 24
        have lt : qWrd t p e < 24 := by
          rcases Nat.lt_or_ge (qWrd t p e) 24 with z | z
          · exact z
          · have := fa_first_no (fun w => qWmt t p e w) 24 (qyIW r) (by unfold qWrd at z; omega)
            rw [hm] at this; cases this
        have yes := fa_first_yes (fun w => qWmt t p e w) 24 lt
        have e1 : qWrd t p e = qyIW r := qWmt_one lt c1 yes hm
        rw [if_pos lt, e1, c2]
    · have hm2 : qWmt t p e (qyIW r) = false := by simpa using hm
      have nxt : ∀ rec : Int32 × Int32 × Int32 × Int32 × zHp → Option (Int32 × zHp), (zlt (nI (qyRs r - 1) + (1 : Int32)) fun x2 => f_X11_wordAt_93_lp rec zN (nI p, nI e, nI r, x2, k)) = rec (nI p, nI e, nI (r + 1) - 1, nI (qyRs (r + 1) - 1), k) := by
        intro rec
        rw [q_lt, l1, nI_add, show qyRs r - 1 + 1 = qyRs r by omega, skip, c3, show qyRs r + qWl (qyIW r) + 1 - 1 = qyRs r + qWl (qyIW r) by omega, q_sub (by omega), Nat.add_sub_cancel]
      refine Or.inl ⟨_, fun rec => (first rec).trans (Eq.trans ?_ (nxt rec)), rfl, fun x hx => ?_⟩
      · unfold f_X11_wordAt_60
        rw [nI_add]
        by_cases z : p + M = e
        · rw [q_ifeq z, l1, nI_add, nI_add, q_ix (by omega) (by omega), q_cl (by omega), show qyRs r - 1 + 1 + M = qyRs r + M by omega]
          have n32 : ¬ k 8 (qyRs r + M) = (32 : Int32) := by
            rw [A4 _ (by omega)]
            by_cases y : M < qWl (qyIW r)
            · exact (c7 M (by omega) y).2
            · exfalso
              have eM : M = qWl (qyIW r) := by omega
              have : qWmt t p e (qyIW r) = true := by
                unfold qWmt
                rw [Bool.and_eq_true, decide_eq_true_eq, qSm_t]
                refine ⟨fun j hj => ?_, by omega⟩
                obtain ⟨q1, q2⟩ := M2' j (by omega)
                exact ⟨q1, by rw [← q2]; exact (c7 j (by omega) hj).1⟩
              rw [hm2] at this; cases this
          rw [q_ifF n32]
        · rw [q_ifne z (by omega) (by omega)]
      · by_cases z : x = r
        · rw [z]; exact hm2
        · exact k4 x (by omega)
  · obtain ⟨rfl, k4⟩ := hI
    have no : ¬ qWrd t p e < 24 := fun z => by
      have yes := fa_first_yes (fun w => qWmt t p e w) 24 z
      obtain ⟨i1, i2⟩ := q_iwF _ z
      have := k4 _ i1
      rw [i2] at this
      unfold qWrd at this
      rw [yes] at this; cases this
    refine ⟨some (qM, k), fun rec => ?_, by rw [if_neg no]⟩
    simp only [f_X11_wordAt_5]
    rw [q_ifF (show ¬ nI (qyRs 24 - 1) < (123 : Int32) from qnR 123 (by decide) (by decide))]; rfl
end Qreads
