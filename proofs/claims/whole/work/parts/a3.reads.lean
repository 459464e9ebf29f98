section Qreads2
/-- the reference's token, of the class's kind and number -/
def qyTV (tok val : Int32) (κ ν : Nat) : Prop := (κ < 24 ∧ tok = 2 ∧ val = nI (qyRW κ)) ∨ (24 ≤ κ ∧ κ ≤ 33 ∧ tok = 4 ∧ val = nI (qySn.getD (κ - 24) 0)) ∨ (κ = 34 ∧ tok = 3 ∧ val = nI ν ∧ ν ≤ 9999) ∨ (κ = 35 ∧ tok = 1) ∨ (κ = 36 ∧ tok = 0)
def qyFM (k k' : zHp) : Prop := ∀ a j, ¬(a = 0 ∧ 13 ≤ j ∧ j ≤ 16) → k' a j = k a j
theorem qyFM_rf (k : zHp) : qyFM k k := fun _ _ _ => rfl
theorem qyFM_tr {k k' k'' : zHp} (a : qyFM k k') (b : qyFM k' k'') : qyFM k k'' := fun x j q => (b x j q).trans (a x j q)
theorem qyFM_st {k k' : zHp} {j : Nat} {v : Int32} (F : qyFM k k') (hj : 13 ≤ j ∧ j ≤ 16) : qyFM k (zst k' 0 j v) := fun a i q => by
  rw [q_st]
  by_cases z : a = 0
  · rw [if_pos z, if_neg (by omega)]; exact F a i q
  · rw [if_neg z]; exact F a i q
theorem qyTapeM_c {k k' : zHp} {t : Nat → Nat} {n : Nat} (A : qyTapeM k t n) (F : qyFM k k') : qyTapeM k' t n := by
  obtain ⟨A1, A2, A3, A4⟩ := A
  refine ⟨A1, by rw [F 0 12 (by omega)]; exact A2, fun i hi => ?_, fun i hi => ?_⟩
  · rw [F 7 i (by omega)]; exact A3 i hi
  · rw [F 8 i (by omega)]; exact A4 i hi
def qyCv (t : Nat → Nat) (p : Nat) : Nat → Nat
  | 0 => 0
  | m + 1 => if qyCv t p m < 10000 then 10 * qyCv t p m + (t (p + m) - 48) else qyCv t p m
theorem qyCv_le {t : Nat → Nat} {p : Nat} : ∀ m, (∀ i, i < m → t (p + i) ≤ 57) → qyCv t p m < 100010
  | 0, _ => by show 0 < 100010; decide
  | m + 1, D => by
    have ih := qyCv_le m (fun i hi => D i (by omega))
    have := D m (by omega)
    show (if qyCv t p m < 10000 then 10 * qyCv t p m + (t (p + m) - 48) else qyCv t p m) < 100010
    split <;> omega
theorem qyCv_4 {t : Nat → Nat} {p : Nat} : ∀ m, m ≤ 4 → (∀ i, i < m → t (p + i) ≤ 57) → qyCv t p m = qDgt t p m ∧ qDgt t p m < 10 ^ m
  | 0, _, _ => ⟨rfl, by show 0 < 1; decide⟩
  | m + 1, hm, D => by
    obtain ⟨h1, h2⟩ := qyCv_4 m (by omega) (fun i hi => D i (by omega))
    have d := D m (by omega)
    have p4 : 10 ^ m ≤ 10 ^ 3 := Nat.pow_le_pow_right (by decide) (by omega)
    have e1 : qyCv t p (m + 1) = if qyCv t p m < 10000 then 10 * qyCv t p m + (t (p + m) - 48) else qyCv t p m := rfl
    have e2 : qDgt t p (m + 1) = 10 * qDgt t p m + (t (p + m) - 48) := rfl
    rw [e1, e2, h1, if_pos (by omega), Nat.pow_succ]
    exact ⟨rfl, by omega⟩
/-- letters as many as stand together -/
theorem q_runL {k : zHp} {t : Nat → Nat} {n p : Nat} (A : qyTapeM k t n) (hp : p < n) (h1 : qSo (t p) = 1) (e13 : k 0 13 = nI (p + 1)) (e14 : k 0 14 = nI p) (e15 : k 0 15 = 1) : ∃ k', f_X11_reads_95_lp zN k = some k' ∧ qyFM k k' ∧ k' 0 13 = nI (qLxE t n p) ∧ k' 0 14 = nI p ∧ ((qWrd t p (qLxE t n p) < 24 ∧ k' 0 15 = 2 ∧ k' 0 16 = nI (qyRW (qWrd t p (qLxE t n p)))) ∨ (¬ qWrd t p (qLxE t n p) < 24 ∧ k' 0 15 = 1)) := by
  have hE := qLxE_le (t := t) (n := n) hp
  have n3 : qSo (t p) ≠ 3 := by omega
  have l1 : (1 : Int32) = nI 1 := rfl
  unfold f_X11_reads_95_lp
  refine q_exit (b := fun k95 v => f_X11_reads_95 k95 v) (I := fun j v => v 0 13 = nI (p + 1 + j) ∧ ∀ a i, ¬(a = 0 ∧ i = 13) → v a i = k a i) (qLxE t n p - (p + 1)) (Q := fun x => ∃ k', x = some k' ∧ qyFM k k' ∧ k' 0 13 = nI (qLxE t n p) ∧ k' 0 14 = nI p ∧ ((qWrd t p (qLxE t n p) < 24 ∧ k' 0 15 = 2 ∧ k' 0 16 = nI (qyRW (qWrd t p (qLxE t n p)))) ∨ (¬ qWrd t p (qLxE t n p) < 24 ∧ k' 0 15 = 1))) (fun j v hj hI => Or.inl ?_) (fun v hI => ?_) _ ⟨e13, fun _ _ _ => rfl⟩ zN (by rw [q_zN]; have := A.1; omega)
  · obtain ⟨g1, g2⟩ := hI
    have F : qyFM k v := fun a i q => g2 a i (by omega)
    have A' := qyTapeM_c A F
    have es := qLxE_in (t := t) (n := n) n3 (show p ≤ p + 1 + j by omega) (show p + 1 + j < qLxE t n p by omega)
    have t256 := (A.2.2.1 (p + 1 + j) (by omega)).1
    refine ⟨zst v 0 13 (nI (p + 1 + (j + 1))), fun rec => ?_, q_st_s, fun a i q => ?_⟩
    · simp only [f_X11_reads_95]
      rw [g1, q_raw A' (by omega), if_pos (by omega), q_bd]
      dsimp only
      rw [q_isLet t256, es, h1, if_pos rfl, q_bd]
      dsimp only
      rw [q_ifF (show ¬ nI 1 = 0 by decide), q_lt, g1, l1, nI_add, Nat.add_assoc]
    · rw [q_st]
      by_cases z : a = 0
      · rw [if_pos z, if_neg (by omega)]; exact g2 a i q
      · rw [if_neg z]; exact g2 a i q
  · obtain ⟨g1, g2⟩ := hI
    rw [show p + 1 + (qLxE t n p - (p + 1)) = qLxE t n p by omega] at g1
    have F : qyFM k v := fun a i q => g2 a i (by omega)
    have A' := qyTapeM_c A F
    have w := q_wordM A' hE.2 (show p ≤ qLxE t n p by omega) (fun i i1 i2 => by
      have := qLxE_in (t := t) (n := n) n3 i1 i2
      rw [h1] at this
      intro q
      rw [q] at this
      exact absurd this (by decide))
    have g14 : v 0 14 = nI p := (g2 0 14 (by omega)).trans e14
    have g15 : v 0 15 = 1 := (g2 0 15 (by omega)).trans e15
    have off : f_X11_isLetter (if qLxE t n p < n then nI (t (qLxE t n p)) else qM) v = some (nI 0, v) := by
      by_cases z : qLxE t n p < n
      · have := qLxE_out (t := t) (n := n) n3 hp z
        rw [if_pos z, q_isLet (A.2.2.1 _ z).1, if_neg (by omega)]
      · rw [if_neg z]; exact q_isLetM v
    have base : ∀ rec, f_X11_reads_95 rec v = (if (if qWrd t p (qLxE t n p) < 24 then nI (qyRW (qWrd t p (qLxE t n p))) else qM) = (-1 : Int32) then some (zst v 0 16 (if qWrd t p (qLxE t n p) < 24 then nI (qyRW (qWrd t p (qLxE t n p))) else qM)) else some (zst (zst v 0 16 (if qWrd t p (qLxE t n p) < 24 then nI (qyRW (qWrd t p (qLxE t n p))) else qM)) 0 15 2)) := by
      intro rec
      unfold f_X11_reads_95
      rw [g1, q_raw A' hE.2, q_bd]
      dsimp only
      rw [off, q_bd]
      dsimp only
      rw [q_ifT (show nI 0 = 0 from rfl), g14, g1, w, q_bd, q_lt, q_st_s, q_lt]
    by_cases z : qWrd t p (qLxE t n p) < 24
    · rw [if_pos z] at base
      have ne : ¬ nI (qyRW (qWrd t p (qLxE t n p))) = (-1 : Int32) := qM_ne (by have := (q_iwF _ z).1; omega)
      refine ⟨_, fun rec => (base rec).trans (if_neg ne), _, rfl, qyFM_st (qyFM_st F (by omega)) (by omega), ?_, ?_, Or.inl ⟨z, q_st_s, ?_⟩⟩
      · rw [q_st_i (by omega), q_st_i (by omega)]; exact g1
      · rw [q_st_i (by omega), q_st_i (by omega)]; exact g14
      · rw [q_st_i (by omega), q_st_s]
    · rw [if_neg z] at base
      refine ⟨_, fun rec => (base rec).trans (if_pos rfl), _, rfl, qyFM_st F (by omega), ?_, ?_, Or.inr ⟨z, ?_⟩⟩
      · rw [q_st_i (by omega)]; exact g1
      · rw [q_st_i (by omega)]; exact g14
      · rw [q_st_i (by omega)]; exact g15
/-- digits as many as stand together -/
theorem q_runD {k : zHp} {t : Nat → Nat} {n p : Nat} (A : qyTapeM k t n) (hp : p < n) (h1 : qSo (t p) = 2) (e13 : k 0 13 = nI (p + 1)) (e14 : k 0 14 = nI p) (e15 : k 0 15 = 1) (e16 : k 0 16 = nI (t p - 48)) : ∃ k', f_X11_reads_171_lp zN k = some k' ∧ qyFM k k' ∧ k' 0 13 = nI (qLxE t n p) ∧ k' 0 14 = nI p ∧ ((qLxE t n p - p ≤ 4 ∧ k' 0 15 = 3 ∧ k' 0 16 = nI (qDgt t p (qLxE t n p - p)) ∧ qDgt t p (qLxE t n p - p) ≤ 9999) ∨ (¬ qLxE t n p - p ≤ 4 ∧ k' 0 15 = 1)) := by
  have hE := qLxE_le (t := t) (n := n) hp
  have n3 : qSo (t p) ≠ 3 := by omega
  have hn := A.1
  have l1 : (1 : Int32) = nI 1 := rfl
  have D : ∀ i, p ≤ i → i < qLxE t n p → 48 ≤ t i ∧ t i ≤ 57 := by
    intro i i1 i2
    have := qLxE_in n3 i1 i2
    rw [h1] at this
    unfold qSo at this
    split at this
    · cases this
    split at this
    · cases this
    split at this
    · assumption
    · cases this
  have cv : ∀ m, m ≤ qLxE t n p - p → qyCv t p m < 100010 := fun m hm => qyCv_le m (fun i hi => (D (p + i) (by omega) (by omega)).2)
  unfold f_X11_reads_171_lp
  refine q_exit (b := fun k171 v => f_X11_reads_171 k171 v) (I := fun j v => v 0 13 = nI (p + 1 + j) ∧ v 0 16 = nI (qyCv t p (j + 1)) ∧ ∀ a i, ¬(a = 0 ∧ (i = 13 ∨ i = 16)) → v a i = k a i) (qLxE t n p - (p + 1)) (Q := fun x => ∃ k', x = some k' ∧ qyFM k k' ∧ k' 0 13 = nI (qLxE t n p) ∧ k' 0 14 = nI p ∧ ((qLxE t n p - p ≤ 4 ∧ k' 0 15 = 3 ∧ k' 0 16 = nI (qDgt t p (qLxE t n p - p)) ∧ qDgt t p (qLxE t n p - p) ≤ 9999) ∨ (¬ qLxE t n p - p ≤ 4 ∧ k' 0 15 = 1))) (fun j v hj hI => Or.inl ?_) (fun v hI => ?_) _ ⟨e13, e16.trans (congrArg nI (show t p - 48 = 10 * 0 + (t (p + 0) - 48) by simp)), fun _ _ _ => rfl⟩ zN (by rw [q_zN]; omega)
  · obtain ⟨g1, g3, g2⟩ := hI
    have F : qyFM k v := fun a i q => g2 a i (by omega)
    have A' := qyTapeM_c A F
    have es := qLxE_in (t := t) (n := n) n3 (show p ≤ p + 1 + j by omega) (show p + 1 + j < qLxE t n p by omega)
    have t256 := (A.2.2.1 (p + 1 + j) (by omega)).1
    have d := D (p + 1 + j) (by omega) (by omega)
    have c1 := cv (j + 1) (by omega)
    have e223 : ∀ (rec : zHp → Option zHp) (x : Int32), f_X11_reads_223 rec x v = rec (zst (zst v 0 16 x) 0 13 (nI (p + 1 + (j + 1)))) := by
      intro rec x
      unfold f_X11_reads_223
      rw [q_lt, q_lt, q_st_i (by omega), g1, l1, nI_add, Nat.add_assoc]
    refine ⟨zst (zst v 0 16 (nI (qyCv t p (j + 1 + 1)))) 0 13 (nI (p + 1 + (j + 1))), fun rec => ?_, q_st_s, by rw [q_st_i (by omega), q_st_s], fun a i q => ?_⟩
    · simp only [f_X11_reads_171]
      rw [g1, q_raw A' (by omega), if_pos (by omega), q_bd]
      dsimp only
      rw [q_dig t256, es, h1, if_pos rfl, q_bd]
      dsimp only
      have ec : qyCv t p (j + 1 + 1) = if qyCv t p (j + 1) < 10000 then 10 * qyCv t p (j + 1) + (t (p + (j + 1)) - 48) else qyCv t p (j + 1) := rfl
      rw [q_ifF (show ¬ nI 1 = 0 by decide), ec]
      by_cases z : qyCv t p (j + 1) < 10000
      · rw [q_ifT (show v 0 16 < (10000 : Int32) by rw [g3]; exact qlR 10000 z (by omega)), g1, q_raw A' (by omega), if_pos (by omega), q_bd]
        dsimp only
        rw [g3, show (10 : Int32) = nI 10 from rfl, pk_mul, nI_add, show (48 : Int32) = nI 48 from rfl, q_sub (by omega), e223, if_pos z, show p + 1 + j = p + (j + 1) by omega, show 10 * qyCv t p (j + 1) + t (p + (j + 1)) - 48 = 10 * qyCv t p (j + 1) + (t (p + (j + 1)) - 48) by
          have := D (p + (j + 1)) (by omega) (by omega)
          omega]
      · rw [q_ifF (show ¬ v 0 16 < (10000 : Int32) by rw [g3]; exact qnR 10000 (by omega) (by omega)), g3, e223, if_neg z]
    · rw [q_st]
      by_cases z : a = 0
      · rw [if_pos z, if_neg (by omega), q_st, if_pos z, if_neg (by omega)]; exact g2 a i q
      · rw [if_neg z, q_st_c z]; exact g2 a i q
  · obtain ⟨g1, g3, g2⟩ := hI
    rw [show p + 1 + (qLxE t n p - (p + 1)) = qLxE t n p by omega] at g1
    rw [show qLxE t n p - (p + 1) + 1 = qLxE t n p - p by omega] at g3
    have F : qyFM k v := fun a i q => g2 a i (by omega)
    have A' := qyTapeM_c A F
    have g14 : v 0 14 = nI p := (g2 0 14 (by omega)).trans e14
    have g15 : v 0 15 = 1 := (g2 0 15 (by omega)).trans e15
    have off : f_X11_isDigit (if qLxE t n p < n then nI (t (qLxE t n p)) else qM) v = some (nI 0, v) := by
      by_cases z : qLxE t n p < n
      · have := qLxE_out (t := t) (n := n) n3 hp z
        rw [if_pos z, q_dig (A.2.2.1 _ z).1, if_neg (by omega)]
      · rw [if_neg z]; exact q_digM v
    have e5 : v 0 13 - v 0 14 = nI (qLxE t n p - p) := by rw [g1, g14, q_sub (by omega)]
    have base : ∀ rec, f_X11_reads_171 rec v = if qLxE t n p - p ≤ 4 then some (zst v 0 15 3) else some v := by
      intro rec
      unfold f_X11_reads_171
      rw [g1, q_raw A' hE.2, q_bd]
      dsimp only
      rw [off, q_bd]
      dsimp only
      rw [q_ifT (show nI 0 = 0 from rfl)]
      by_cases z : qLxE t n p - p ≤ 4
      · rw [q_ifT (show v 0 13 - v 0 14 < (5 : Int32) by rw [e5]; exact qlR 5 (by omega) (by omega)), if_pos z, q_lt]
      · rw [q_ifF (show ¬ v 0 13 - v 0 14 < (5 : Int32) by rw [e5]; exact qnR 5 (by omega) (by omega)), if_neg z]
    by_cases z : qLxE t n p - p ≤ 4
    · obtain ⟨y1, y2⟩ := qyCv_4 (t := t) (p := p) (qLxE t n p - p) z (fun i hi => (D (p + i) (by omega) (by omega)).2)
      have p4 : 10 ^ (qLxE t n p - p) ≤ 10 ^ 4 := Nat.pow_le_pow_right (by decide) z
      refine ⟨_, fun rec => (base rec).trans (if_pos z), _, rfl, qyFM_st F (by omega), ?_, ?_, Or.inl ⟨z, q_st_s, ?_, by omega⟩⟩
      · rw [q_st_i (by omega)]; exact g1
      · rw [q_st_i (by omega)]; exact g14
      · rw [q_st_i (by omega), g3, y1]
    · exact ⟨_, fun rec => (base rec).trans (if_neg z), _, rfl, F, g1, g14, Or.inr ⟨z, g15⟩⟩
theorem q_so32 {c : Nat} : qSo c = 0 ↔ c = 32 ∨ c = 10 := by
  unfold qSo
  constructor
  · intro h
    split at h
    · assumption
    split at h
    · cases h
    split at h <;> cases h
  · intro h
    rw [if_pos h]
/-- the next token is read -/
theorem q_reads {k : zHp} {t : Nat → Nat} {n s : Nat} (A : qyTapeM k t n) (hs : s ≤ n) (e13 : k 0 13 = nI s) : ∃ k', f_X11_reads k = some k' ∧ qyFM k k' ∧ k' 0 13 = nI (qTkN t n (qLxP t n s)) ∧ k' 0 14 = nI (qLxP t n s) ∧ qyTV (k' 0 15) (k' 0 16) (qTkK t n (qLxP t n s)) (qTkV t n (qLxP t n s)) := by
  have hn := A.1
  have hP := qLxP_le (t := t) (n := n) hs
  have l1 : (1 : Int32) = nI 1 := rfl
  unfold f_X11_reads f_X11_reads_0_lp
  refine q_exit (b := fun k0 v => f_X11_reads_0 k0 v) (I := fun j v => v 0 13 = nI (s + j) ∧ ∀ a i, ¬(a = 0 ∧ i = 13) → v a i = k a i) (qLxP t n s - s) (Q := fun x => ∃ k', x = some k' ∧ qyFM k k' ∧ k' 0 13 = nI (qTkN t n (qLxP t n s)) ∧ k' 0 14 = nI (qLxP t n s) ∧ qyTV (k' 0 15) (k' 0 16) (qTkK t n (qLxP t n s)) (qTkV t n (qLxP t n s))) (fun j v hj hI => Or.inl ?_) (fun v hI => ?_) _ ⟨e13, fun _ _ _ => rfl⟩ zN (by rw [q_zN]; omega)
  · obtain ⟨g1, g2⟩ := hI
    have F : qyFM k v := fun a i q => g2 a i (by omega)
    have A' := qyTapeM_c A F
    have b := q_so32.mp (qLxP_blank (t := t) (n := n) (show s ≤ s + j by omega) (show s + j < qLxP t n s by omega))
    have e26 : ∀ rec : zHp → Option zHp, f_X11_reads_26 rec v = rec (zst v 0 13 (nI (s + (j + 1)))) := by
      intro rec
      unfold f_X11_reads_26
      rw [q_lt, g1, l1, nI_add, Nat.add_assoc]
    refine ⟨zst v 0 13 (nI (s + (j + 1))), fun rec => ?_, q_st_s, fun a i q => ?_⟩
    · simp only [f_X11_reads_0]
      rw [g1, q_raw A' (by omega), if_pos (by omega), q_bd]
      dsimp only
      rcases b with b | b
      · rw [b, q_ifT (show nI 32 = (32 : Int32) from rfl), e26]
      · rw [b, q_ifF (show ¬ nI 10 = (32 : Int32) by decide), g1, q_raw A' (by omega), if_pos (by omega), q_bd, b]
        dsimp only
        rw [q_ifT (show nI 10 = (10 : Int32) from rfl), e26]
    · rw [q_st]
      by_cases z : a = 0
      · rw [if_pos z, if_neg (by omega)]; exact g2 a i q
      · rw [if_neg z]; exact g2 a i q
  · obtain ⟨g1, g2⟩ := hI
    rw [show s + (qLxP t n s - s) = qLxP t n s by omega] at g1
    have F : qyFM k v := fun a i q => g2 a i (by omega)
    have A' := qyTapeM_c A F
    obtain ⟨p, hp⟩ : ∃ p, p = qLxP t n s := ⟨_, rfl⟩
    have hat : p < n → qSo (t p) ≠ 0 := fun q => by rw [hp] at q ⊢; exact qLxP_at q hs
    rw [← hp] at g1 hP ⊢
    -- what stands when the blanks are passed
    obtain ⟨h4, hh4⟩ : ∃ h4, h4 = zst (zst v 0 14 (nI p)) 0 15 1 := ⟨_, rfl⟩
    have F4 : qyFM k h4 := by rw [hh4]; exact qyFM_st (qyFM_st F (by omega)) (by omega)
    have A4 := qyTapeM_c A F4
    have h413 : h4 0 13 = nI p := by rw [hh4, q_st_i (by omega), q_st_i (by omega)]; exact g1
    have h414 : h4 0 14 = nI p := by rw [hh4, q_st_i (by omega), q_st_s]
    have h415 : h4 0 15 = 1 := by rw [hh4, q_st_s]
    obtain ⟨x, hx⟩ : ∃ x, x = if p < n then nI (t p) else qM := ⟨_, rfl⟩
    have n32 : ¬ x = (32 : Int32) ∧ ¬ x = (10 : Int32) := by
      rw [hx]
      by_cases z : p < n
      · have t256 := (A.2.2.1 p z).1
        have nb := hat z
        rw [if_pos z]
        exact ⟨fun q => nb (q_so32.mpr (Or.inl ((nI_eq (b := 32) (by omega) (by omega)).mp q))), fun q => nb (q_so32.mpr (Or.inr ((nI_eq (b := 10) (by omega) (by omega)).mp q)))⟩
      · rw [if_neg z]; exact ⟨by decide, by decide⟩
    have base : ∀ rec, f_X11_reads_0 rec v = if x = (-1 : Int32) then some (zst h4 0 15 0) else (f_X11_isLetter x (zst (zst h4 0 13 (nI (p + 1))) 0 16 x)).bind fun x9 => (if x9.1 = 0 then (f_X11_isDigit x x9.2).bind fun x10 => (if x10.1 = 0 then (f_X11_isMarkSign x x10.2).bind fun x11 => (if x11.1 = 0 then some x11.2 else zlt (zst x11.2 0 15 (4 : Int32)) fun h12 => some h12) else zlt (zst x10.2 0 16 (x - (48 : Int32))) fun h13 => f_X11_reads_171_lp zN h13) else f_X11_reads_95_lp zN x9.2) := by
      intro rec
      unfold f_X11_reads_0
      rw [g1, q_raw A' hP.2, q_bd, ← hx]
      dsimp only
      rw [q_ifF n32.1, g1, q_raw A' hP.2, q_bd, ← hx]
      dsimp only
      rw [q_ifF n32.2, q_lt, q_lt, g1, ← hh4, h413, q_raw A4 hP.2, q_bd, ← hx]
      dsimp only
      rw [q_lt, q_lt, q_lt, h413, l1, nI_add]
    by_cases z : p < n
    · have t256 := (A.2.2.1 p z).1
      have nb := hat z
      have s3 := qSo_le (t p)
      have np : ¬ n ≤ p := by omega
      rw [if_pos z] at hx
      have xM : ¬ x = (-1 : Int32) := by rw [hx]; exact qM_ne (by omega)
      obtain ⟨h8, hh8⟩ : ∃ h8, h8 = zst (zst h4 0 13 (nI (p + 1))) 0 16 x := ⟨_, rfl⟩
      rw [if_neg xM, ← hh8] at base
      have F8 : qyFM k h8 := by rw [hh8]; exact qyFM_st (qyFM_st F4 (by omega)) (by omega)
      have A8 := qyTapeM_c A F8
      have h813 : h8 0 13 = nI (p + 1) := by rw [hh8, q_st_i (by omega), q_st_s]
      have h814 : h8 0 14 = nI p := by rw [hh8, q_st_i (by omega), q_st_i (by omega)]; exact h414
      have h815 : h8 0 15 = 1 := by rw [hh8, q_st_i (by omega), q_st_i (by omega)]; exact h415
      have h816 : h8 0 16 = nI (t p) := by rw [hh8, q_st_s, hx]
      have eN : qTkN t n p = qLxE t n p := by unfold qTkN; rw [if_neg np]
      by_cases c1 : qSo (t p) = 1
      · obtain ⟨k', r1, r2, r3, r4, r5⟩ := q_runL A8 z c1 h813 h814 h815
        have eK : qTkK t n p = if qWrd t p (qLxE t n p) < 24 then qWrd t p (qLxE t n p) else 35 := by
          unfold qTkK
          rw [if_neg np, if_pos c1]
        refine ⟨some k', fun rec => (base rec).trans ?_, k', rfl, qyFM_tr F8 r2, by rw [eN]; exact r3, r4, ?_⟩
        · rw [hx, q_isLet t256, c1, if_pos rfl, q_bd]
          dsimp only
          rw [q_ifF (show ¬ nI 1 = 0 by decide)]; exact r1
        · rw [eK]
          rcases r5 with ⟨y1, y2, y3⟩ | ⟨y1, y2⟩
          · rw [if_pos y1]; exact Or.inl ⟨y1, y2, y3⟩
          · rw [if_neg y1]; exact Or.inr (Or.inr (Or.inr (Or.inl ⟨rfl, y2⟩)))
      · by_cases c2 : qSo (t p) = 2
        · have d48 : 48 ≤ t p := by
            have := c2
            unfold qSo at this
            split at this
            · cases this
            split at this
            · cases this
            split at this
            · rename_i q; exact q.1
            · cases this
          have F9 : qyFM k (zst h8 0 16 (nI (t p - 48))) := qyFM_st F8 (by omega)
          obtain ⟨k', r1, r2, r3, r4, r5⟩ := q_runD (qyTapeM_c A F9) z c2 (by rw [q_st_i (by omega)]; exact h813) (by rw [q_st_i (by omega)]; exact h814) (by rw [q_st_i (by omega)]; exact h815) q_st_s
          have eK : qTkK t n p = if qLxE t n p - p ≤ 4 then 34 else 35 := by
            unfold qTkK
            rw [if_neg np, if_neg c1, if_pos c2]
          have eV : qTkV t n p = qDgt t p (min (qLxE t n p - p) 4) := by
            unfold qTkV
            rw [if_neg np, if_pos c2]
          refine ⟨some k', fun rec => (base rec).trans ?_, k', rfl, qyFM_tr F9 r2, by rw [eN]; exact r3, r4, ?_⟩
          · rw [hx, q_isLet t256, if_neg c1, q_bd]
            dsimp only
            rw [q_ifT (show nI 0 = 0 from rfl), q_dig t256, c2, if_pos rfl, q_bd]
            dsimp only
            rw [q_ifF (show ¬ nI 1 = 0 by decide), q_lt, show (48 : Int32) = nI 48 from rfl, q_sub d48]; exact r1
          · rw [eK, eV]
            rcases r5 with ⟨y1, y2, y3, y4⟩ | ⟨y1, y2⟩
            · rw [if_pos y1, Nat.min_eq_left y1]; exact Or.inr (Or.inr (Or.inl ⟨rfl, y2, y3, y4⟩))
            · rw [if_neg y1]; exact Or.inr (Or.inr (Or.inr (Or.inl ⟨rfl, y2⟩)))
        · have c3 : qSo (t p) = 3 := by omega
          have eE : qLxE t n p = p + 1 := by unfold qLxE; rw [if_pos c3]
          have eK : qTkK t n p = if qSg (t p) < 10 then 24 + qSg (t p) else 35 := by
            unfold qTkK
            rw [if_neg np, if_neg c1, if_neg c2]
          by_cases y : qSg (t p) < 10
          · refine ⟨some (zst h8 0 15 4), fun rec => (base rec).trans ?_, _, rfl, qyFM_st F8 (by omega), by rw [eN, eE, q_st_i (by omega)]; exact h813, by rw [q_st_i (by omega)]; exact h814, ?_⟩
            · rw [hx, q_isLet t256, if_neg c1, q_bd]
              dsimp only
              rw [q_ifT (show nI 0 = 0 from rfl), q_dig t256, if_neg c2, q_bd]
              dsimp only
              rw [q_ifT (show nI 0 = 0 from rfl), q_mark t256, if_pos y, q_bd]
              dsimp only
              rw [q_ifF (show ¬ nI 1 = 0 by decide), q_lt]
            · rw [eK, if_pos y]
              refine Or.inr (Or.inl ⟨by omega, by omega, q_st_s, ?_⟩)
              rw [q_st_i (by omega), h816, Nat.add_sub_cancel_left, (q_sgF _ t256).1 y]
          · refine ⟨some h8, fun rec => (base rec).trans ?_, _, rfl, F8, by rw [eN, eE]; exact h813, h814, ?_⟩
            · rw [hx, q_isLet t256, if_neg c1, q_bd]
              dsimp only
              rw [q_ifT (show nI 0 = 0 from rfl), q_dig t256, if_neg c2, q_bd]
              dsimp only
              rw [q_ifT (show nI 0 = 0 from rfl), q_mark t256, if_neg y, q_bd]
              dsimp only
              rw [q_ifT (show nI 0 = 0 from rfl)]
            · rw [eK, if_neg y]
              exact Or.inr (Or.inr (Or.inr (Or.inl ⟨rfl, h815⟩)))
    · have ep : p = n := by omega
      rw [if_neg z] at hx
      have eK : qTkK t n p = 36 := by unfold qTkK; rw [if_pos (by omega)]
      have eN : qTkN t n p = p := by unfold qTkN; rw [if_pos (by omega), ep]
      refine ⟨_, fun rec => (base rec).trans (if_pos (by rw [hx]; rfl)), _, rfl, qyFM_st F4 (by omega), by rw [eN, q_st_i (by omega)]; exact h413, by rw [q_st_i (by omega)]; exact h414, ?_⟩
      rw [eK]
      exact Or.inr (Or.inr (Or.inr (Or.inr ⟨rfl, q_st_s⟩)))
end Qreads2
