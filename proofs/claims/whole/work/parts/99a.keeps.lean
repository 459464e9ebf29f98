/-! THE IMAGE, reference: number by number -/
section Qkeeps
theorem q_posA {a i : Nat} (h : 37 ≤ a) : qPos a i = none := by
  unfold qPos
  repeat rw [if_neg (by omega)]
theorem q_posI6 {a i : Nat} (h : 600 ≤ i) : qPos a i = none := by
  by_cases z : a = 0
  · subst z
    obtain ⟨j, rfl⟩ : ∃ j, i = j + 600 := ⟨i - 600, by omega⟩
    rfl
  · unfold qPos
    simp only [if_neg z, if_neg (show ¬ i < 77 by omega), if_neg (show ¬ i < 14 by omega), if_neg (show ¬ i < 10 by omega), if_neg (show ¬ i < 64 by omega), if_neg (show ¬ i < 48 by omega), if_neg (show ¬ i < 4 by omega), if_neg (show ¬ i < 8 by omega), if_neg (show ¬ i < 36 by omega), if_neg (show ¬ i < 9 by omega), if_neg (show ¬ i < 6 by omega), if_neg (show ¬ i < 600 by omega), if_neg (show ¬ i < 16 by omega), if_neg (show ¬ i < 400 by omega), if_neg (show ¬ i = 0 by omega), ite_self]
theorem q_posB {a i p : Nat} (h : qPos a i = some p) : a < 37 ∧ i < 600 := by
  refine ⟨?_, ?_⟩
  · rcases Nat.lt_or_ge a 37 with z | z
    · exact z
    · rw [q_posA z] at h; cases h
  · rcases Nat.lt_or_ge i 600 with z | z
    · exact z
    · rw [q_posI6 z] at h; cases h
def qCl (p : Nat) : Nat × Nat :=
  if p < 77 then (1, p) else if p < 88 then (0, [6, 7, 34, 36, 38, 42, 45, 49, 56, 60, 62].getD (p - 77) 0)
  else if p < 116 then ([5, 19].getD ((p - 88) % 2) 0, (p - 88) / 2) else if p < 156 then ([4, 24, 25, 35].getD ((p - 116) % 4) 0, (p - 116) / 4)
  else if p < 220 then (17, p - 156) else if p < 268 then (18, p - 220) else if p < 276 then ([22, 23].getD ((p - 268) % 2) 0, (p - 268) / 2)
  else if p < 292 then ([27, 28].getD ((p - 276) % 2) 0, (p - 276) / 2) else if p < 328 then (29, p - 292) else if p < 337 then (32, p - 328)
  else if p < 343 then (36, p - 337) else if p < 943 then (6, p - 343) else if p < 944 then (9, 0)
  else if p < 1008 then ([10, 11, 12, 13].getD ((p - 944) % 4) 0, (p - 944) / 4) else ([14, 15].getD ((p - 1008) % 2) 0, (p - 1008) / 2)
def qClOk (a i : Nat) : Bool := match qPos a i with
  | none => true
  | some p => Nat.beq (qCl p).1 a && (Nat.beq (qCl p).2 i && Nat.blt p 1808)
theorem q_clOk : ∀ a, a < 37 → ∀ i, i < 600 → qClOk a i = true := by decide +kernel
theorem q_posC {a i p : Nat} (h : qPos a i = some p) : qCl p = (a, i) ∧ p < 1808 := by
  obtain ⟨h1, h2⟩ := q_posB h
  have := q_clOk a h1 i h2
  unfold qClOk at this
  rw [h] at this
  simp only [Bool.and_eq_true] at this
  obtain ⟨a1, a2, a3⟩ := this
  exact ⟨Prod.ext (Nat.eq_of_beq_eq_true a1) (Nat.eq_of_beq_eq_true a2), by have := a3; simp [Nat.blt] at this; omega⟩
theorem q_posI {a i b j p : Nat} (h : qPos a i = some p) (h' : qPos b j = some p) : a = b ∧ i = j := by
  have e := (q_posC h).1.symm.trans (q_posC h').1
  exact ⟨congrArg Prod.fst e, congrArg Prod.snd e⟩
theorem q_pos38 (i : Nat) : qPos 38 i = none := rfl
theorem q_pos067 : qPos 0 67 = none := rfl
theorem q_pos065 : qPos 0 65 = none := rfl
/-- p numbers are kept (t 1), or put back (t 0) -/
def qKK (t : Nat) (k0 : zHp) (p : Nat) (k' : zHp) : Prop := k' 0 67 = nI p ∧ k' 0 65 = nI t ∧ ((t = 1 ∧ (∀ a i, a ≠ 38 → ¬(a = 0 ∧ i = 67) → k' a i = k0 a i) ∧ ∀ a i q, qPos a i = some q → q < p → k' 38 q = k0 a i) ∨ (t = 0 ∧ (∀ a i, ¬(a = 0 ∧ i = 67) → (∀ q, qPos a i = some q → p ≤ q) → k' a i = k0 a i) ∧ ∀ a i q, qPos a i = some q → q < p → k' a i = k0 38 q))
theorem q_kstep {t p a i : Nat} {k0 k' : zHp} (K : qKK t k0 p k') (hp : qPos a i = some p) : ∃ x k1, f_X11_keeps (k' a i) k' = some (x, k1) ∧ qKK t k0 (p + 1) (zst k1 a i x) := by
  obtain ⟨K1, K2, K3⟩ := K
  obtain ⟨-, p18⟩ := q_posC hp
  have na : a ≠ 38 := fun e => by rw [e, q_pos38] at hp; cases hp
  have n67 : ¬(a = 0 ∧ i = 67) := fun e => by rw [e.1, e.2, q_pos067] at hp; cases hp
  have n65 : ¬(a = 0 ∧ i = 65) := fun e => by rw [e.1, e.2, q_pos065] at hp; cases hp
  have l1 : (1 : Int32) = nI 1 := rfl
  have c67 : ∀ (h : zHp) (x : Int32), zst h a i x 0 67 = h 0 67 := fun h x => by
    rw [q_st]
    by_cases e : 0 = a
    · rw [if_pos e, if_neg (fun q => n67 ⟨e.symm, q.symm⟩)]
    · rw [if_neg e]
  have c65 : ∀ (h : zHp) (x : Int32), zst h a i x 0 65 = h 0 65 := fun h x => by
    rw [q_st]
    by_cases e : 0 = a
    · rw [if_pos e, if_neg (fun q => n65 ⟨e.symm, q.symm⟩)]
    · rw [if_neg e]
  rcases K3 with ⟨rfl, K4, K5⟩ | ⟨rfl, K4, K5⟩
  · refine ⟨k' a i, zst (zst k' 0 67 (nI (p + 1))) 38 p (k' a i), ?_, ?_, ?_, Or.inl ⟨rfl, fun b j hb hj => ?_, fun b j q hq hlt => ?_⟩⟩
    · unfold f_X11_keeps
      rw [K1, l1, nI_add, q_lt, q_st_i (by omega), K2, q_ifF (by decide), q_st_s, q_sub (by omega), Nat.add_sub_cancel, q_ix (by omega) (by omega), q_lt, q_cl (by omega)]
    · rw [c67, q_st_c (by omega), q_st_s]
    · rw [c65, q_st_c (by omega), q_st_i (by omega)]; exact K2
    · rw [q_st]
      by_cases e : b = a
      · rw [if_pos e]
        by_cases f : j = i
        · rw [if_pos f, e, f]; exact K4 a i na n67
        · rw [if_neg f, q_st_c hb, q_st]
          by_cases g : b = 0
          · rw [if_pos g, if_neg (fun q => hj ⟨g, q⟩)]; exact K4 b j hb hj
          · rw [if_neg g]; exact K4 b j hb hj
      · rw [if_neg e, q_st_c hb, q_st]
        by_cases g : b = 0
        · rw [if_pos g, if_neg (fun q => hj ⟨g, q⟩)]; exact K4 b j hb hj
        · rw [if_neg g]; exact K4 b j hb hj
    · rw [q_st_c (show 38 ≠ a from fun e => na e.symm)]
      by_cases e : q = p
      · subst e
        obtain ⟨e1, e2⟩ := q_posI hq hp
        rw [q_st_s, e1, e2]; exact K4 a i na n67
      · rw [q_st_i e, q_st_c (by omega)]; exact K5 b j q hq (by omega)
  · refine ⟨k' 38 p, zst k' 0 67 (nI (p + 1)), ?_, ?_, ?_, Or.inr ⟨rfl, fun b j hj hq => ?_, fun b j q hq hlt => ?_⟩⟩
    · unfold f_X11_keeps
      rw [K1, l1, nI_add, q_lt, q_st_i (by omega), K2, q_ifT (show nI 0 = 0 from rfl), q_st_s, q_sub (by omega), Nat.add_sub_cancel, q_ix (by omega) (by omega), q_cl (by omega), q_st_c (by omega)]
    · rw [c67, q_st_s]
    · rw [c65, q_st_i (by omega)]; exact K2
    · rw [q_st]
      by_cases e : b = a ∧ j = i
      · have := hq p (by rw [e.1, e.2]; exact hp)
        omega
      · have r : k' b j = k0 b j := K4 b j hj (fun q hq2 => by have := hq q hq2; omega)
        by_cases g : b = a
        · rw [if_pos g, if_neg (fun q => e ⟨g, q⟩), q_st]
          by_cases f : b = 0
          · rw [if_pos f, if_neg (fun q => hj ⟨f, q⟩)]; exact r
          · rw [if_neg f]; exact r
        · rw [if_neg g, q_st]
          by_cases f : b = 0
          · rw [if_pos f, if_neg (fun q => hj ⟨f, q⟩)]; exact r
          · rw [if_neg f]; exact r
    · rw [q_st]
      by_cases e : b = a ∧ j = i
      · have e3 : q = p := by
          rw [e.1, e.2, hp] at hq
          exact (Option.some.inj hq).symm
        rw [if_pos e.1, if_pos e.2, e3]
        exact K4 38 p (by omega) (fun q hq => by rw [q_pos38] at hq; cases hq)
      · have e3 : q ≠ p := fun z => by
          subst z
          exact e (q_posI hq hp)
        have nb : ¬(b = 0 ∧ j = 67) := fun z => by rw [z.1, z.2, q_pos067] at hq; cases hq
        have r : k' b j = k0 38 q := K5 b j q hq (by omega)
        by_cases g : b = a
        · rw [if_pos g, if_neg (fun q => e ⟨g, q⟩), q_st]
          by_cases f : b = 0
          · rw [if_pos f, if_neg (fun q => nb ⟨f, q⟩)]; exact r
          · rw [if_neg f]; exact r
        · rw [if_neg g, q_st]
          by_cases f : b = 0
          · rw [if_pos f, if_neg (fun q => nb ⟨f, q⟩)]; exact r
          · rw [if_neg f]; exact r
theorem q_kkeepsTold_469 {t : Nat} {k0 k' : zHp} (K : qKK t k0 337 k') : ∃ k2, f_X11_keepsTold_469_lp zN (nI 0, k') = some k2 ∧ qKK t k0 343 k2 := by
  unfold f_X11_keepsTold_469_lp
  refine q_exit (b := fun κ v => f_X11_keepsTold_469 κ v.1 v.2) (I := fun j v => ∃ k2, v = (nI j, k2) ∧ qKK t k0 (337 + j) k2) 6 (Q := fun x => ∃ k2, x = some k2 ∧ qKK t k0 343 k2) (fun j v hj hI => Or.inl ?_) (fun v hI => ?_) _ ⟨k', rfl, K⟩ zN (by rw [q_zN]; omega)
  · obtain ⟨k2, rfl, K2⟩ := hI
    obtain ⟨x0, m0, e0, M0⟩ := q_kstep (a := 36) (i := j) K2 (by simp [qPos, hj])
    refine ⟨(nI (j + 1), zst m0 36 j x0), fun rec => ?_, _, rfl, by rw [show 337 + (j + 1) = 337 + j + 1 by omega]; exact M0⟩
    simp only [f_X11_keepsTold_469]
    rw [q_ifT (qlR 6 hj (by omega))]
    rw [q_ix (by omega) (by omega), q_cl (by omega), e0, q_bd]
    dsimp only
    rw [q_ix (by omega) (by omega), q_lt]
    rw [show (1 : Int32) = nI 1 from rfl, nI_add]
  · obtain ⟨k2, rfl, K2⟩ := hI
    refine ⟨some k2, fun rec => ?_, k2, rfl, K2⟩
    simp only [f_X11_keepsTold_469]
    exact if_neg (nI_nlt (a := 6) (b := 6) (Nat.le_refl 6) (by omega))
theorem q_kkeepsTold_439 {t : Nat} {k0 k' : zHp} (K : qKK t k0 328 k') : ∃ k2, f_X11_keepsTold_439_lp zN (nI 0, k') = some k2 ∧ qKK t k0 343 k2 := by
  unfold f_X11_keepsTold_439_lp
  refine q_exit (b := fun κ v => f_X11_keepsTold_439 κ v.1 v.2) (I := fun j v => ∃ k2, v = (nI j, k2) ∧ qKK t k0 (328 + j) k2) 9 (Q := fun x => ∃ k2, x = some k2 ∧ qKK t k0 343 k2) (fun j v hj hI => Or.inl ?_) (fun v hI => ?_) _ ⟨k', rfl, K⟩ zN (by rw [q_zN]; omega)
  · obtain ⟨k2, rfl, K2⟩ := hI
    obtain ⟨x0, m0, e0, M0⟩ := q_kstep (a := 32) (i := j) K2 (by simp [qPos, hj])
    refine ⟨(nI (j + 1), zst m0 32 j x0), fun rec => ?_, _, rfl, by rw [show 328 + (j + 1) = 328 + j + 1 by omega]; exact M0⟩
    simp only [f_X11_keepsTold_439]
    rw [q_ifT (qlR 9 hj (by omega))]
    rw [q_ix (by omega) (by omega), q_cl (by omega), e0, q_bd]
    dsimp only
    rw [q_ix (by omega) (by omega), q_lt]
    rw [show (1 : Int32) = nI 1 from rfl, nI_add]
  · obtain ⟨k2, rfl, K2⟩ := hI
    refine ⟨f_X11_keepsTold_469_lp zN (nI 0, k2), fun rec => ?_, q_kkeepsTold_469 K2⟩
    simp only [f_X11_keepsTold_439]
    exact if_neg (nI_nlt (a := 9) (b := 9) (Nat.le_refl 9) (by omega))
theorem q_kkeepsTold_409 {t : Nat} {k0 k' : zHp} (K : qKK t k0 292 k') : ∃ k2, f_X11_keepsTold_409_lp zN (nI 0, k') = some k2 ∧ qKK t k0 343 k2 := by
  unfold f_X11_keepsTold_409_lp
  refine q_exit (b := fun κ v => f_X11_keepsTold_409 κ v.1 v.2) (I := fun j v => ∃ k2, v = (nI j, k2) ∧ qKK t k0 (292 + j) k2) 36 (Q := fun x => ∃ k2, x = some k2 ∧ qKK t k0 343 k2) (fun j v hj hI => Or.inl ?_) (fun v hI => ?_) _ ⟨k', rfl, K⟩ zN (by rw [q_zN]; omega)
  · obtain ⟨k2, rfl, K2⟩ := hI
    obtain ⟨x0, m0, e0, M0⟩ := q_kstep (a := 29) (i := j) K2 (by simp [qPos, hj])
    refine ⟨(nI (j + 1), zst m0 29 j x0), fun rec => ?_, _, rfl, by rw [show 292 + (j + 1) = 292 + j + 1 by omega]; exact M0⟩
    simp only [f_X11_keepsTold_409]
    rw [q_ifT (qlR 36 hj (by omega))]
    rw [q_ix (by omega) (by omega), q_cl (by omega), e0, q_bd]
    dsimp only
    rw [q_ix (by omega) (by omega), q_lt]
    rw [show (1 : Int32) = nI 1 from rfl, nI_add]
  · obtain ⟨k2, rfl, K2⟩ := hI
    refine ⟨f_X11_keepsTold_439_lp zN (nI 0, k2), fun rec => ?_, q_kkeepsTold_439 K2⟩
    simp only [f_X11_keepsTold_409]
    exact if_neg (nI_nlt (a := 36) (b := 36) (Nat.le_refl 36) (by omega))
theorem q_kkeepsTold_363 {t : Nat} {k0 k' : zHp} (K : qKK t k0 276 k') : ∃ k2, f_X11_keepsTold_363_lp zN (nI 0, k') = some k2 ∧ qKK t k0 343 k2 := by
  unfold f_X11_keepsTold_363_lp
  refine q_exit (b := fun κ v => f_X11_keepsTold_363 κ v.1 v.2) (I := fun j v => ∃ k2, v = (nI j, k2) ∧ qKK t k0 (276 + 2 * j) k2) 8 (Q := fun x => ∃ k2, x = some k2 ∧ qKK t k0 343 k2) (fun j v hj hI => Or.inl ?_) (fun v hI => ?_) _ ⟨k', rfl, K⟩ zN (by rw [q_zN]; omega)
  · obtain ⟨k2, rfl, K2⟩ := hI
    obtain ⟨x0, m0, e0, M0⟩ := q_kstep (a := 27) (i := j) K2 (by simp [qPos, hj])
    obtain ⟨x1, m1, e1, M1⟩ := q_kstep (a := 28) (i := j) M0 (by simp [qPos, hj])
    refine ⟨(nI (j + 1), zst m1 28 j x1), fun rec => ?_, _, rfl, by rw [show 276 + 2 * (j + 1) = 276 + 2 * j + 1 + 1 by omega]; exact M1⟩
    simp only [f_X11_keepsTold_363]
    rw [q_ifT (qlR 8 hj (by omega))]
    rw [q_ix (by omega) (by omega), q_cl (by omega), e0, q_bd]
    dsimp only
    rw [q_ix (by omega) (by omega), q_lt]
    rw [q_ix (by omega) (by omega), e1, q_bd]
    dsimp only
    rw [q_ix (by omega) (by omega), q_lt]
    rw [show (1 : Int32) = nI 1 from rfl, nI_add]
  · obtain ⟨k2, rfl, K2⟩ := hI
    refine ⟨f_X11_keepsTold_409_lp zN (nI 0, k2), fun rec => ?_, q_kkeepsTold_409 K2⟩
    simp only [f_X11_keepsTold_363]
    exact if_neg (nI_nlt (a := 8) (b := 8) (Nat.le_refl 8) (by omega))
theorem q_kkeepsTold_318 {t : Nat} {k0 k' : zHp} (K : qKK t k0 268 k') : ∃ k2, f_X11_keepsTold_318_lp zN (nI 0, k') = some k2 ∧ qKK t k0 343 k2 := by
  unfold f_X11_keepsTold_318_lp
  refine q_exit (b := fun κ v => f_X11_keepsTold_318 κ v.1 v.2) (I := fun j v => ∃ k2, v = (nI j, k2) ∧ qKK t k0 (268 + 2 * j) k2) 4 (Q := fun x => ∃ k2, x = some k2 ∧ qKK t k0 343 k2) (fun j v hj hI => Or.inl ?_) (fun v hI => ?_) _ ⟨k', rfl, K⟩ zN (by rw [q_zN]; omega)
  · obtain ⟨k2, rfl, K2⟩ := hI
    obtain ⟨x0, m0, e0, M0⟩ := q_kstep (a := 22) (i := j) K2 (by simp [qPos, hj])
    obtain ⟨x1, m1, e1, M1⟩ := q_kstep (a := 23) (i := j) M0 (by simp [qPos, hj])
    refine ⟨(nI (j + 1), zst m1 23 j x1), fun rec => ?_, _, rfl, by rw [show 268 + 2 * (j + 1) = 268 + 2 * j + 1 + 1 by omega]; exact M1⟩
    simp only [f_X11_keepsTold_318]
    rw [q_ifT (qlR 4 hj (by omega))]
    rw [q_ix (by omega) (by omega), q_cl (by omega), e0, q_bd]
    dsimp only
    rw [q_ix (by omega) (by omega), q_lt]
    rw [q_ix (by omega) (by omega), e1, q_bd]
    dsimp only
    rw [q_ix (by omega) (by omega), q_lt]
    rw [show (1 : Int32) = nI 1 from rfl, nI_add]
  · obtain ⟨k2, rfl, K2⟩ := hI
    refine ⟨f_X11_keepsTold_363_lp zN (nI 0, k2), fun rec => ?_, q_kkeepsTold_363 K2⟩
    simp only [f_X11_keepsTold_318]
    exact if_neg (nI_nlt (a := 4) (b := 4) (Nat.le_refl 4) (by omega))
theorem q_kkeepsTold_288 {t : Nat} {k0 k' : zHp} (K : qKK t k0 220 k') : ∃ k2, f_X11_keepsTold_288_lp zN (nI 0, k') = some k2 ∧ qKK t k0 343 k2 := by
  unfold f_X11_keepsTold_288_lp
  refine q_exit (b := fun κ v => f_X11_keepsTold_288 κ v.1 v.2) (I := fun j v => ∃ k2, v = (nI j, k2) ∧ qKK t k0 (220 + j) k2) 48 (Q := fun x => ∃ k2, x = some k2 ∧ qKK t k0 343 k2) (fun j v hj hI => Or.inl ?_) (fun v hI => ?_) _ ⟨k', rfl, K⟩ zN (by rw [q_zN]; omega)
  · obtain ⟨k2, rfl, K2⟩ := hI
    obtain ⟨x0, m0, e0, M0⟩ := q_kstep (a := 18) (i := j) K2 (by simp [qPos, hj])
    refine ⟨(nI (j + 1), zst m0 18 j x0), fun rec => ?_, _, rfl, by rw [show 220 + (j + 1) = 220 + j + 1 by omega]; exact M0⟩
    simp only [f_X11_keepsTold_288]
    rw [q_ifT (qlR 48 hj (by omega))]
    rw [q_ix (by omega) (by omega), q_cl (by omega), e0, q_bd]
    dsimp only
    rw [q_ix (by omega) (by omega), q_lt]
    rw [show (1 : Int32) = nI 1 from rfl, nI_add]
  · obtain ⟨k2, rfl, K2⟩ := hI
    refine ⟨f_X11_keepsTold_318_lp zN (nI 0, k2), fun rec => ?_, q_kkeepsTold_318 K2⟩
    simp only [f_X11_keepsTold_288]
    exact if_neg (nI_nlt (a := 48) (b := 48) (Nat.le_refl 48) (by omega))
theorem q_kkeepsTold_258 {t : Nat} {k0 k' : zHp} (K : qKK t k0 156 k') : ∃ k2, f_X11_keepsTold_258_lp zN (nI 0, k') = some k2 ∧ qKK t k0 343 k2 := by
  unfold f_X11_keepsTold_258_lp
  refine q_exit (b := fun κ v => f_X11_keepsTold_258 κ v.1 v.2) (I := fun j v => ∃ k2, v = (nI j, k2) ∧ qKK t k0 (156 + j) k2) 64 (Q := fun x => ∃ k2, x = some k2 ∧ qKK t k0 343 k2) (fun j v hj hI => Or.inl ?_) (fun v hI => ?_) _ ⟨k', rfl, K⟩ zN (by rw [q_zN]; omega)
  · obtain ⟨k2, rfl, K2⟩ := hI
    obtain ⟨x0, m0, e0, M0⟩ := q_kstep (a := 17) (i := j) K2 (by simp [qPos, hj])
    refine ⟨(nI (j + 1), zst m0 17 j x0), fun rec => ?_, _, rfl, by rw [show 156 + (j + 1) = 156 + j + 1 by omega]; exact M0⟩
    simp only [f_X11_keepsTold_258]
    rw [q_ifT (qlR 64 hj (by omega))]
    rw [q_ix (by omega) (by omega), q_cl (by omega), e0, q_bd]
    dsimp only
    rw [q_ix (by omega) (by omega), q_lt]
    rw [show (1 : Int32) = nI 1 from rfl, nI_add]
  · obtain ⟨k2, rfl, K2⟩ := hI
    refine ⟨f_X11_keepsTold_288_lp zN (nI 0, k2), fun rec => ?_, q_kkeepsTold_288 K2⟩
    simp only [f_X11_keepsTold_258]
    exact if_neg (nI_nlt (a := 64) (b := 64) (Nat.le_refl 64) (by omega))
theorem q_kkeepsTold_180 {t : Nat} {k0 k' : zHp} (K : qKK t k0 116 k') : ∃ k2, f_X11_keepsTold_180_lp zN (nI 0, k') = some k2 ∧ qKK t k0 343 k2 := by
  unfold f_X11_keepsTold_180_lp
  refine q_exit (b := fun κ v => f_X11_keepsTold_180 κ v.1 v.2) (I := fun j v => ∃ k2, v = (nI j, k2) ∧ qKK t k0 (116 + 4 * j) k2) 10 (Q := fun x => ∃ k2, x = some k2 ∧ qKK t k0 343 k2) (fun j v hj hI => Or.inl ?_) (fun v hI => ?_) _ ⟨k', rfl, K⟩ zN (by rw [q_zN]; omega)
  · obtain ⟨k2, rfl, K2⟩ := hI
    obtain ⟨x0, m0, e0, M0⟩ := q_kstep (a := 4) (i := j) K2 (by simp [qPos, hj])
    obtain ⟨x1, m1, e1, M1⟩ := q_kstep (a := 24) (i := j) M0 (by simp [qPos, hj])
    obtain ⟨x2, m2, e2, M2⟩ := q_kstep (a := 25) (i := j) M1 (by simp [qPos, hj])
    obtain ⟨x3, m3, e3, M3⟩ := q_kstep (a := 35) (i := j) M2 (by simp [qPos, hj])
    refine ⟨(nI (j + 1), zst m3 35 j x3), fun rec => ?_, _, rfl, by rw [show 116 + 4 * (j + 1) = 116 + 4 * j + 1 + 1 + 1 + 1 by omega]; exact M3⟩
    simp only [f_X11_keepsTold_180]
    rw [q_ifT (qlR 10 hj (by omega))]
    rw [q_ix (by omega) (by omega), q_cl (by omega), e0, q_bd]
    dsimp only
    rw [q_ix (by omega) (by omega), q_lt]
    rw [q_ix (by omega) (by omega), e1, q_bd]
    dsimp only
    rw [q_ix (by omega) (by omega), q_lt]
    rw [q_ix (by omega) (by omega), e2, q_bd]
    dsimp only
    rw [q_ix (by omega) (by omega), q_lt]
    rw [q_ix (by omega) (by omega), e3, q_bd]
    dsimp only
    rw [q_ix (by omega) (by omega), q_lt]
    rw [show (1 : Int32) = nI 1 from rfl, nI_add]
  · obtain ⟨k2, rfl, K2⟩ := hI
    refine ⟨f_X11_keepsTold_258_lp zN (nI 0, k2), fun rec => ?_, q_kkeepsTold_258 K2⟩
    simp only [f_X11_keepsTold_180]
    exact if_neg (nI_nlt (a := 10) (b := 10) (Nat.le_refl 10) (by omega))
theorem q_kkeepsTold_134 {t : Nat} {k0 k' : zHp} (K : qKK t k0 88 k') : ∃ k2, f_X11_keepsTold_134_lp zN (nI 0, k') = some k2 ∧ qKK t k0 343 k2 := by
  unfold f_X11_keepsTold_134_lp
  refine q_exit (b := fun κ v => f_X11_keepsTold_134 κ v.1 v.2) (I := fun j v => ∃ k2, v = (nI j, k2) ∧ qKK t k0 (88 + 2 * j) k2) 14 (Q := fun x => ∃ k2, x = some k2 ∧ qKK t k0 343 k2) (fun j v hj hI => Or.inl ?_) (fun v hI => ?_) _ ⟨k', rfl, K⟩ zN (by rw [q_zN]; omega)
  · obtain ⟨k2, rfl, K2⟩ := hI
    obtain ⟨x0, m0, e0, M0⟩ := q_kstep (a := 5) (i := j) K2 (by simp [qPos, hj])
    obtain ⟨x1, m1, e1, M1⟩ := q_kstep (a := 19) (i := j) M0 (by simp [qPos, hj])
    refine ⟨(nI (j + 1), zst m1 19 j x1), fun rec => ?_, _, rfl, by rw [show 88 + 2 * (j + 1) = 88 + 2 * j + 1 + 1 by omega]; exact M1⟩
    simp only [f_X11_keepsTold_134]
    rw [q_ifT (qlR 14 hj (by omega))]
    rw [q_ix (by omega) (by omega), q_cl (by omega), e0, q_bd]
    dsimp only
    rw [q_ix (by omega) (by omega), q_lt]
    rw [q_ix (by omega) (by omega), e1, q_bd]
    dsimp only
    rw [q_ix (by omega) (by omega), q_lt]
    rw [show (1 : Int32) = nI 1 from rfl, nI_add]
  · obtain ⟨k2, rfl, K2⟩ := hI
    refine ⟨f_X11_keepsTold_180_lp zN (nI 0, k2), fun rec => ?_, q_kkeepsTold_180 K2⟩
    simp only [f_X11_keepsTold_134]
    exact if_neg (nI_nlt (a := 14) (b := 14) (Nat.le_refl 14) (by omega))
theorem q_kTold {t : Nat} {k0 k' : zHp} (K : qKK t k0 77 k') : ∃ k2, f_X11_keepsTold k' = some k2 ∧ qKK t k0 343 k2 := by
  obtain ⟨x0, m0, e0, M0⟩ := q_kstep (a := 0) (i := 6) K rfl
  obtain ⟨x1, m1, e1, M1⟩ := q_kstep (a := 0) (i := 7) M0 rfl
  obtain ⟨x2, m2, e2, M2⟩ := q_kstep (a := 0) (i := 34) M1 rfl
  obtain ⟨x3, m3, e3, M3⟩ := q_kstep (a := 0) (i := 36) M2 rfl
  obtain ⟨x4, m4, e4, M4⟩ := q_kstep (a := 0) (i := 38) M3 rfl
  obtain ⟨x5, m5, e5, M5⟩ := q_kstep (a := 0) (i := 42) M4 rfl
  obtain ⟨x6, m6, e6, M6⟩ := q_kstep (a := 0) (i := 45) M5 rfl
  obtain ⟨x7, m7, e7, M7⟩ := q_kstep (a := 0) (i := 49) M6 rfl
  obtain ⟨x8, m8, e8, M8⟩ := q_kstep (a := 0) (i := 56) M7 rfl
  obtain ⟨x9, m9, e9, M9⟩ := q_kstep (a := 0) (i := 60) M8 rfl
  obtain ⟨x10, m10, e10, M10⟩ := q_kstep (a := 0) (i := 62) M9 rfl
  obtain ⟨k2, g1, g2⟩ := q_kkeepsTold_134 M10
  refine ⟨k2, ?_, g2⟩
  unfold f_X11_keepsTold
  rw [e0, q_bd, q_lt]
  dsimp only
  rw [e1, q_bd, q_lt]
  dsimp only
  rw [e2, q_bd, q_lt]
  dsimp only
  rw [e3, q_bd, q_lt]
  dsimp only
  rw [e4, q_bd, q_lt]
  dsimp only
  rw [e5, q_bd, q_lt]
  dsimp only
  rw [e6, q_bd, q_lt]
  dsimp only
  rw [e7, q_bd, q_lt]
  dsimp only
  rw [e8, q_bd, q_lt]
  dsimp only
  rw [e9, q_bd, q_lt]
  dsimp only
  rw [e10, q_bd, q_lt]
  dsimp only
  exact g1
theorem q_kkeepsLaw_96 {t : Nat} {k0 k' : zHp} (K : qKK t k0 1008 k') : ∃ k2, f_X11_keepsLaw_96_lp zN (nI 0, k') = some k2 ∧ qKK t k0 1808 k2 := by
  unfold f_X11_keepsLaw_96_lp
  refine q_exit (b := fun κ v => f_X11_keepsLaw_96 κ v.1 v.2) (I := fun j v => ∃ k2, v = (nI j, k2) ∧ qKK t k0 (1008 + 2 * j) k2) 400 (Q := fun x => ∃ k2, x = some k2 ∧ qKK t k0 1808 k2) (fun j v hj hI => Or.inl ?_) (fun v hI => ?_) _ ⟨k', rfl, K⟩ zN (by rw [q_zN]; omega)
  · obtain ⟨k2, rfl, K2⟩ := hI
    obtain ⟨x0, m0, e0, M0⟩ := q_kstep (a := 14) (i := j) K2 (by simp [qPos, hj])
    obtain ⟨x1, m1, e1, M1⟩ := q_kstep (a := 15) (i := j) M0 (by simp [qPos, hj])
    refine ⟨(nI (j + 1), zst m1 15 j x1), fun rec => ?_, _, rfl, by rw [show 1008 + 2 * (j + 1) = 1008 + 2 * j + 1 + 1 by omega]; exact M1⟩
    simp only [f_X11_keepsLaw_96]
    rw [q_ifT (qlR 400 hj (by omega))]
    rw [q_ix (by omega) (by omega), q_cl (by omega), e0, q_bd]
    dsimp only
    rw [q_ix (by omega) (by omega), q_lt]
    rw [q_ix (by omega) (by omega), e1, q_bd]
    dsimp only
    rw [q_ix (by omega) (by omega), q_lt]
    rw [show (1 : Int32) = nI 1 from rfl, nI_add]
  · obtain ⟨k2, rfl, K2⟩ := hI
    refine ⟨some k2, fun rec => ?_, k2, rfl, K2⟩
    simp only [f_X11_keepsLaw_96]
    exact if_neg (nI_nlt (a := 400) (b := 400) (Nat.le_refl 400) (by omega))
theorem q_kkeepsLaw_18 {t : Nat} {k0 k' : zHp} (K : qKK t k0 944 k') : ∃ k2, f_X11_keepsLaw_18_lp zN (nI 0, k') = some k2 ∧ qKK t k0 1808 k2 := by
  unfold f_X11_keepsLaw_18_lp
  refine q_exit (b := fun κ v => f_X11_keepsLaw_18 κ v.1 v.2) (I := fun j v => ∃ k2, v = (nI j, k2) ∧ qKK t k0 (944 + 4 * j) k2) 16 (Q := fun x => ∃ k2, x = some k2 ∧ qKK t k0 1808 k2) (fun j v hj hI => Or.inl ?_) (fun v hI => ?_) _ ⟨k', rfl, K⟩ zN (by rw [q_zN]; omega)
  · obtain ⟨k2, rfl, K2⟩ := hI
    obtain ⟨x0, m0, e0, M0⟩ := q_kstep (a := 10) (i := j) K2 (by simp [qPos, hj])
    obtain ⟨x1, m1, e1, M1⟩ := q_kstep (a := 11) (i := j) M0 (by simp [qPos, hj])
    obtain ⟨x2, m2, e2, M2⟩ := q_kstep (a := 12) (i := j) M1 (by simp [qPos, hj])
    obtain ⟨x3, m3, e3, M3⟩ := q_kstep (a := 13) (i := j) M2 (by simp [qPos, hj])
    refine ⟨(nI (j + 1), zst m3 13 j x3), fun rec => ?_, _, rfl, by rw [show 944 + 4 * (j + 1) = 944 + 4 * j + 1 + 1 + 1 + 1 by omega]; exact M3⟩
    simp only [f_X11_keepsLaw_18]
    rw [q_ifT (qlR 16 hj (by omega))]
    rw [q_ix (by omega) (by omega), q_cl (by omega), e0, q_bd]
    dsimp only
    rw [q_ix (by omega) (by omega), q_lt]
    rw [q_ix (by omega) (by omega), e1, q_bd]
    dsimp only
    rw [q_ix (by omega) (by omega), q_lt]
    rw [q_ix (by omega) (by omega), e2, q_bd]
    dsimp only
    rw [q_ix (by omega) (by omega), q_lt]
    rw [q_ix (by omega) (by omega), e3, q_bd]
    dsimp only
    rw [q_ix (by omega) (by omega), q_lt]
    rw [show (1 : Int32) = nI 1 from rfl, nI_add]
  · obtain ⟨k2, rfl, K2⟩ := hI
    refine ⟨f_X11_keepsLaw_96_lp zN (nI 0, k2), fun rec => ?_, q_kkeepsLaw_96 K2⟩
    simp only [f_X11_keepsLaw_18]
    exact if_neg (nI_nlt (a := 16) (b := 16) (Nat.le_refl 16) (by omega))
theorem q_kLaw {t : Nat} {k0 k' : zHp} (K : qKK t k0 943 k') : ∃ k2, f_X11_keepsLaw k' = some k2 ∧ qKK t k0 1808 k2 := by
  obtain ⟨x0, m0, e0, M0⟩ := q_kstep (a := 9) (i := 0) K rfl
  obtain ⟨k2, g1, g2⟩ := q_kkeepsLaw_18 M0
  refine ⟨k2, ?_, g2⟩
  unfold f_X11_keepsLaw
  rw [qix0 (by omega) (by omega), show (0 : Int32).toNatClampNeg = 0 from rfl, e0, q_bd, qix0 (by omega) (by omega), q_lt]
  exact g1
theorem q_kimage_69 {t : Nat} {k0 k' : zHp} (K : qKK t k0 343 k') : ∃ k2, qKK t k0 1808 k2 ∧ f_X11_image_69_lp zN (nI t, nI 0, k') = some (1, if t = 0 then zst k2 0 3 0 else k2) := by
  have ht : t = 1 ∨ t = 0 := by
    rcases K.2.2 with ⟨z, -⟩ | ⟨z, -⟩
    · exact Or.inl z
    · exact Or.inr z
  unfold f_X11_image_69_lp
  refine q_exit (b := fun κ v => f_X11_image_69 κ v.1 v.2.1 v.2.2) (I := fun j v => ∃ k2, v = (nI t, nI j, k2) ∧ qKK t k0 (343 + j) k2) 600 (Q := fun x => ∃ k2, qKK t k0 1808 k2 ∧ x = some (1, if t = 0 then zst k2 0 3 0 else k2)) (fun j v hj hI => Or.inl ?_) (fun v hI => ?_) _ ⟨k', rfl, K⟩ zN (by rw [q_zN]; omega)
  · obtain ⟨k2, rfl, K2⟩ := hI
    obtain ⟨x0, m0, e0, M0⟩ := q_kstep (a := 6) (i := j) K2 (by simp [qPos, hj])
    refine ⟨(nI t, nI (j + 1), zst m0 6 j x0), fun rec => ?_, _, rfl, M0⟩
    simp only [f_X11_image_69]
    rw [q_ifT (qlR 600 hj (by omega)), q_ix (by omega) (by omega), q_cl (by omega), e0, q_bd]
    dsimp only
    rw [q_ix (by omega) (by omega), q_lt, show (1 : Int32) = nI 1 from rfl, nI_add]
  · obtain ⟨k2, rfl, K2⟩ := hI
    obtain ⟨k3, g1, g2⟩ := q_kLaw K2
    refine ⟨some (1, if t = 0 then zst k3 0 3 0 else k3), fun rec => ?_, k3, g2, rfl⟩
    simp only [f_X11_image_69]
    rw [q_ifF (qnR 600 (Nat.le_refl 600) (by omega)), g1, q_bd]
    rcases ht with rfl | rfl
    · rw [q_ifF (by decide), if_neg (by decide)]
    · rw [q_ifT (show nI 0 = 0 from rfl), if_pos rfl, q_lt]
theorem q_kimage_35 {t : Nat} {k0 k' : zHp} (K : qKK t k0 0 k') : ∃ k2, qKK t k0 1808 k2 ∧ f_X11_image_35_lp zN (nI t, nI 0, k') = some (1, if t = 0 then zst k2 0 3 0 else k2) := by
  unfold f_X11_image_35_lp
  refine q_exit (b := fun κ v => f_X11_image_35 κ v.1 v.2.1 v.2.2) (I := fun j v => ∃ k2, v = (nI t, nI j, k2) ∧ qKK t k0 j k2) 77 (Q := fun x => ∃ k2, qKK t k0 1808 k2 ∧ x = some (1, if t = 0 then zst k2 0 3 0 else k2)) (fun j v hj hI => Or.inl ?_) (fun v hI => ?_) _ ⟨k', rfl, K⟩ zN (by rw [q_zN]; omega)
  · obtain ⟨k2, rfl, K2⟩ := hI
    obtain ⟨x0, m0, e0, M0⟩ := q_kstep (a := 1) (i := j) K2 (by simp [qPos, hj])
    refine ⟨(nI t, nI (j + 1), zst m0 1 j x0), fun rec => ?_, _, rfl, M0⟩
    simp only [f_X11_image_35]
    rw [q_ifT (qlR 77 hj (by omega)), q_ix (by omega) (by omega), q_cl (by omega), e0, q_bd]
    dsimp only
    rw [q_ix (by omega) (by omega), q_lt, show (1 : Int32) = nI 1 from rfl, nI_add]
  · obtain ⟨k2, rfl, K2⟩ := hI
    obtain ⟨k3, g1, g2⟩ := q_kTold K2
    obtain ⟨k4, g3, g4⟩ := q_kimage_69 g2
    refine ⟨_, fun rec => ?_, k4, g3, rfl⟩
    simp only [f_X11_image_35]
    rw [q_ifF (qnR 77 (Nat.le_refl 77) (by omega)), g1, q_bd]
    exact g4
end Qkeeps
