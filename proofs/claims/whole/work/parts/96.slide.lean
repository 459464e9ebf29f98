/-! SLIDE -/
section Qslide
theorem q_zst2 {h : zHp} {c i : Nat} {a b : Int32} : zst (zst h c i a) c i b = zst h c i b := by
  funext x j
  rw [q_st, q_st, q_st]
  by_cases e : x = c
  · rw [if_pos e, if_pos e, if_pos e]
    by_cases f : j = i
    · rw [if_pos f, if_pos f]
    · rw [if_neg f, if_neg f, if_neg f]
  · rw [if_neg e, if_neg e, if_neg e]
theorem q_zst0 {h : zHp} {c i : Nat} {a : Int32} (e : h c i = a) : zst h c i a = h := by
  funext x j
  rw [q_st]
  by_cases f : x = c
  · rw [if_pos f]
    by_cases g : j = i
    · rw [if_pos g, f, g, e]
    · rw [if_neg g]
  · rw [if_neg f]
/-- r is the first n coins in order -/
def qSrt (c : Nat → Nat) (n : Nat) (r : Nat → Nat) : Prop := (∀ p q, p < q → q < n → r p < r q) ∧ (∀ p, p < n → ∃ a, a < n ∧ r p = c a) ∧ ∀ a, a < n → ∃ p, p < n ∧ r p = c a
theorem qSrt_one {c r s : Nat → Nat} {n : Nat} (R : qSrt c n r) (S : qSrt c n s) : ∀ p, p < n → r p = s p := by
  have le : ∀ (r s : Nat → Nat), qSrt c n r → qSrt c n s → ∀ p, p < n → (∀ j, j < p → r j = s j) → s p ≤ r p := by
    intro r s R S p hp ih
    obtain ⟨a, a1, a2⟩ := R.2.1 p hp
    obtain ⟨q, q1, q2⟩ := S.2.2 a a1
    rcases Nat.lt_trichotomy q p with z | z | z
    · have e := ih q z
      have := R.1 q p z hp
      omega
    · subst z; omega
    · have := S.1 p q z q1
      omega
  intro p
  induction p using Nat.strongRecOn with
  | _ p ih =>
    intro hp
    have h1 := le r s R S p hp (fun j hj => ih j hj (by omega))
    have h2 := le s r S R p hp (fun j hj => (ih j hj (by omega)).symm)
    omega
def qPut (r : Nat → Nat) (t v q : Nat) : Nat := if q < t then r q else if q = t then v else r (q - 1)
theorem qSrt_put {c r : Nat → Nat} {i t : Nat} (R : qSrt c i r) (ht : t ≤ i) (h1 : ∀ j, j < t → r j < c i) (h2 : ∀ j, t ≤ j → j < i → c i < r j) : qSrt c (i + 1) (qPut r t (c i)) := by
  refine ⟨fun p q hpq hq => ?_, fun p hp => ?_, fun a ha => ?_⟩
  · unfold qPut
    by_cases p1 : p < t
    · rw [if_pos p1]
      by_cases q1 : q < t
      · rw [if_pos q1]; exact R.1 p q hpq (by omega)
      · rw [if_neg q1]
        by_cases q2 : q = t
        · rw [if_pos q2]; exact h1 p p1
        · rw [if_neg q2]
          have := h1 p p1
          have := h2 (q - 1) (by omega) (by omega)
          omega
    · rw [if_neg p1, if_neg (show ¬ q < t by omega), if_neg (show ¬ q = t by omega)]
      by_cases p2 : p = t
      · rw [if_pos p2]; exact h2 (q - 1) (by omega) (by omega)
      · rw [if_neg p2]; exact R.1 (p - 1) (q - 1) (by omega) (by omega)
  · unfold qPut
    by_cases p1 : p < t
    · rw [if_pos p1]
      obtain ⟨a, a1, a2⟩ := R.2.1 p (by omega)
      exact ⟨a, by omega, a2⟩
    · rw [if_neg p1]
      by_cases p2 : p = t
      · rw [if_pos p2]; exact ⟨i, by omega, rfl⟩
      · rw [if_neg p2]
        obtain ⟨a, a1, a2⟩ := R.2.1 (p - 1) (by omega)
        exact ⟨a, by omega, a2⟩
  · by_cases z : a = i
    · refine ⟨t, by omega, ?_⟩
      unfold qPut
      rw [if_neg (by omega), if_pos rfl, z]
    · obtain ⟨p, p1, p2⟩ := R.2.2 a (by omega)
      by_cases y : p < t
      · refine ⟨p, by omega, ?_⟩
        unfold qPut
        rw [if_pos y]; exact p2
      · refine ⟨p + 1, by omega, ?_⟩
        unfold qPut
        rw [if_neg (by omega), if_neg (by omega), Nat.add_sub_cancel]; exact p2
-- the class sorts
def qSh (h : zHp) (i : Nat) : Nat → zHp
  | 0 => h
  | m + 1 => zst (qSh h i m) 162 (i - m) (qSh h i m 162 (i - m - 1))
theorem qSh_at (h : zHp) (i : Nat) : ∀ m, m ≤ i → (∀ a, a ≠ 162 → qSh h i m a = h a) ∧ (∀ q, q ≤ i - m → qSh h i m 162 q = h 162 q) ∧ ∀ q, i - m < q → q ≤ i → qSh h i m 162 q = h 162 (q - 1)
  | 0, _ => ⟨fun _ _ => rfl, fun _ _ => rfl, fun q h1 h2 => by omega⟩
  | m + 1, hm => by
    obtain ⟨h1, h2, h3⟩ := qSh_at h i m (by omega)
    refine ⟨fun a ha => by rw [qSh, q_st_c ha]; exact h1 a ha, fun q hq => by rw [qSh, q_st_i (by omega)]; exact h2 q (by omega), fun q q1 q2 => ?_⟩
    by_cases z : q = i - m
    · rw [qSh, z, q_st_s]; exact h2 _ (by omega)
    · rw [qSh, q_st_i z]; exact h3 q (by omega) q2
theorem q_sort28 {h : zHp} {n i v t : Nat} {r : Nat → Nat} (k2 : Int32 × Int32 × zHp → Option zHp) (hi : i < 6) (hv : v ≤ 40) (hr : ∀ q, q < i → r q ≤ 40 ∧ h 162 q = nI (r q)) (ht : t ≤ i) (h1 : ∀ j, j < t → r j < v) (h2 : ∀ j, t ≤ j → j < i → v < r j) : f_X5_sortCoins_28_lp k2 zN (nI n, nI i, nI v, nI i, h) = k2 (nI n, nI (i + 1), zst (qSh h i (i - t)) 162 t (nI v)) := by
  unfold f_X5_sortCoins_28_lp
  refine q_for (S := fun m => (nI n, nI i, nI v, nI (i - m), qSh h i m)) (i - t) (fun m hm rec => ?_) (fun rec => ?_) zN (by rw [q_zN]; omega)
  · obtain ⟨a1, a2, a3⟩ := qSh_at h i m (by omega)
    obtain ⟨r1, r2⟩ := hr (i - m - 1) (by omega)
    have e1 : qSh h i m 162 (i - m - 1) = nI (r (i - m - 1)) := (a2 _ (by omega)).trans r2
    simp only [f_X5_sortCoins_28]
    rw [q_ifT (qlL 0 (b := i - m) (by omega) (by omega)), show (1 : Int32) = nI 1 from rfl, q_sub (by omega), q_ix (by omega) (by omega), q_cl (by omega), e1, q_ifT (nI_lt (h2 _ (by omega) (by omega)) (by omega)), q_ix (by omega) (by omega), q_ix (by omega) (by omega), q_lt, q_cl (by omega)]
    rw [show i - m = i - (m + 1) + 1 by omega, show nI (i - (m + 1) + 1) + -nI 1 = nI (i - (m + 1)) from pk_m1 _]
    rw [show qSh h i (m + 1) = zst (qSh h i m) 162 (i - m) (qSh h i m 162 (i - m - 1)) from rfl, e1, show i - m = i - (m + 1) + 1 by omega]
  · obtain ⟨a1, a2, a3⟩ := qSh_at h i (i - t) (by omega)
    have et : i - (i - t) = t := by omega
    simp only [f_X5_sortCoins_28, f_X5_sortCoins_68]
    rw [et]
    have fin : zix (nI t) 10 (zlt (zst (qSh h i (i - t)) 162 (nI t).toNatClampNeg (nI v)) fun h1 => k2 (nI n, nI i + 1, h1)) = k2 (nI n, nI (i + 1), zst (qSh h i (i - t)) 162 t (nI v)) := by
      rw [q_ix (by omega) (by omega), q_lt, q_cl (by omega), show (1 : Int32) = nI 1 from rfl, nI_add]
    rcases Nat.eq_zero_or_pos t with z | z
    · rw [q_ifF (by rw [z]; decide)]; exact fin
    · obtain ⟨r1, r2⟩ := hr (t - 1) (by omega)
      have e1 : qSh h i (i - t) 162 (t - 1) = nI (r (t - 1)) := (a2 _ (by omega)).trans r2
      have := h1 (t - 1) (by omega)
      rw [q_ifT (qlL 0 z (by omega)), show (1 : Int32) = nI 1 from rfl, q_sub (by omega), q_ix (by omega) (by omega), q_cl (by omega), q_ifF (show ¬ nI v < qSh h i (i - t) 162 (t - 1) by rw [e1]; exact nI_nlt (by omega) (by omega))]
      exact fin
theorem q_sortX {h : zHp} {n : Nat} {c : Nat → Nat} (hn : n ≤ 6) (hc : h 37 1 = nI n) (H : ∀ i, i < n → c i ≤ 40 ∧ h 38 i = nI (c i)) (D : ∀ i j, i < n → j < n → c i = c j → i = j) : ∃ h' r, f_X5_sortCoins (nI n) h = some h' ∧ (∀ a, a ≠ 162 → h' a = h a) ∧ (∀ q, q < n → h' 162 q = nI (r q)) ∧ qSrt c n r := by
  have hz : zln wX 38 = 6 := by decide +kernel
  unfold f_X5_sortCoins f_X5_sortCoins_2_lp
  refine q_exit (b := fun k2 v => f_X5_sortCoins_2 k2 v.1 v.2.1 v.2.2) (I := fun i v => ∃ h' r, v = (nI n, nI i, h') ∧ (∀ a, a ≠ 162 → h' a = h a) ∧ (∀ q, q < i → h' 162 q = nI (r q)) ∧ qSrt c i r) n (Q := fun x => ∃ h' r, x = some h' ∧ (∀ a, a ≠ 162 → h' a = h a) ∧ (∀ q, q < n → h' 162 q = nI (r q)) ∧ qSrt c n r) (fun i v hi hI => Or.inl ?_) (fun v hI => ?_) _ ⟨h, fun _ => 0, rfl, fun _ _ => rfl, fun q hq => by omega, fun p q h1 h2 => by omega, fun p hp => by omega, fun a ha => by omega⟩ zN (by rw [q_zN]; omega)
  · obtain ⟨h', r, rfl, g1, g2, g3⟩ := hI
    obtain ⟨a1, a2⟩ := H i hi
    have b1 : h' 37 1 = nI n := by rw [g1 37 (by omega)]; exact hc
    have b2 : h' 38 i = nI (c i) := by rw [g1 38 (by omega)]; exact a2
    have hg := q_get (N := 6) (o := 37) b1 hz hn (by omega) hi b2
    obtain ⟨t, t1, t2, t3⟩ := q_least (fun t => c i < r t) i
    have hb : ∀ q, q < i → r q ≤ 40 ∧ r q ≠ c i := by
      intro q hq
      obtain ⟨a, x1, x2⟩ := g3.2.1 q hq
      refine ⟨by rw [x2]; exact (H a (by omega)).1, fun e => ?_⟩
      have := D a i (by omega) hi (x2.symm.trans e)
      omega
    have u1 : ∀ j, j < t → r j < c i := by
      intro j hj
      have := t2 j hj
      have := (hb j (by omega)).2
      omega
    have u2 : ∀ j, t ≤ j → j < i → c i < r j := by
      intro j j1 j2
      have := t3 (by omega)
      rcases Nat.lt_or_ge t j with z | z
      · have := g3.1 t j z j2; omega
      · rw [show j = t by omega]; exact this
    obtain ⟨s1, s2, s3⟩ := qSh_at h' i (i - t) (by omega)
    refine ⟨(nI n, nI (i + 1), zst (qSh h' i (i - t)) 162 t (nI (c i))), fun rec => ?_, zst (qSh h' i (i - t)) 162 t (nI (c i)), qPut r t (c i), rfl, fun a ha => by rw [q_st_c ha, s1 a ha]; exact g1 a ha, fun q hq => ?_, qSrt_put g3 t1 u1 u2⟩
    · simp only [f_X5_sortCoins_2]
      rw [q_ifT (nI_lt hi (by omega)), q_ifT (show nI i < (10 : Int32) from nI_lt (b := 10) (by omega) (by omega)), hg, q_bd]
      exact q_sort28 rec (by omega) a1 (fun q hq => ⟨(hb q hq).1, g2 q hq⟩) t1 u1 u2
    · unfold qPut
      by_cases z : q = t
      · rw [z, q_st_s, if_neg (by omega), if_pos rfl]
      · rw [q_st_i z]
        by_cases y : q < t
        · rw [if_pos y, s2 q (by omega)]; exact g2 q (by omega)
        · rw [if_neg y, if_neg z, s3 q (by omega) (by omega)]; exact g2 _ (by omega)
  · obtain ⟨h', r, rfl, g1, g2, g3⟩ := hI
    refine ⟨some h', fun rec => ?_, h', r, rfl, g1, g2, g3⟩
    simp only [f_X5_sortCoins_2]
    exact if_neg (nI_nlt (Nat.le_refl n) (by omega))
-- the reference sorts
theorem q_sortM {k : zHp} {n : Nat} {c : Nat → Nat} (hn : n ≤ 6) (hc : k 0 62 = nI n) (H : ∀ i, i < n → c i ≤ 40 ∧ k 36 i = nI (c i)) (D : ∀ i j, i < n → j < n → c i = c j → i = j) : ∃ k' r, f_X11_slide_9_lp zN (nI 0, nI 0, k) = f_X11_slide_45_lp zN (nI 0, k') ∧ (∀ a, a ≠ 37 → k' a = k a) ∧ (∀ q, q < n → k' 37 q = nI (r q)) ∧ qSrt c n r := by
  unfold f_X11_slide_9_lp
  refine q_exit (b := fun k9 v => f_X11_slide_9 k9 v.1 v.2.1 v.2.2) (I := fun i v => ∃ k' r m, v = (nI m, nI i, k') ∧ m ≤ n ∧ (∀ a, a ≠ 37 → k' a = k a) ∧ (∀ q, q < m → k' 37 q = nI (r q)) ∧ (∀ p q, p < q → q < m → r p < r q) ∧ (∀ p, p < m → r p < i ∧ ∃ a, a < n ∧ r p = c a) ∧ ∀ a, a < n → c a < i → ∃ p, p < m ∧ r p = c a) 41 (Q := fun x => ∃ k' r, x = f_X11_slide_45_lp zN (nI 0, k') ∧ (∀ a, a ≠ 37 → k' a = k a) ∧ (∀ q, q < n → k' 37 q = nI (r q)) ∧ qSrt c n r) (fun i v hi hI => Or.inl ?_) (fun v hI => ?_) _ ⟨k, fun _ => 0, 0, rfl, by omega, fun _ _ => rfl, fun q hq => by omega, fun p q h1 h2 => by omega, fun p hp => by omega, fun a _ ha => by omega⟩ zN (by rw [q_zN]; omega)
  · obtain ⟨k', r, m, rfl, g0, g1, g2, g3, g4, g5⟩ := hI
    have c62 : k' 0 62 = nI n := by rw [g1 0 (by omega)]; exact hc
    have c36 : ∀ j, k' 36 j = k 36 j := fun j => by rw [g1 36 (by omega)]
    rcases q_isCoin hn c62 (nI i) with ⟨⟨j, j1, j2⟩, e⟩ | ⟨e1, e⟩
    · have ej : c j = i := by
        rw [c36, (H j j1).2] at j2
        exact (nI_eq (by have := (H j j1).1; omega) (by omega)).mp j2
      have hm : m + 1 ≤ n := by
        obtain ⟨f, hf⟩ := q_ch1 (n := m + 1) (p := fun q a => a < n ∧ c a = if q < m then r q else i) (fun q hq => by
          by_cases z : q < m
          · obtain ⟨-, a, a1, a2⟩ := g4 q z
            exact ⟨a, a1, by rw [if_pos z]; exact a2.symm⟩
          · exact ⟨j, j1, by rw [if_neg z]; exact ej⟩)
        refine fb_holes n (m + 1) f (fun q hq => (hf q hq).1) (fun p q hpq hq e => ?_)
        have x1 := (hf p (by omega)).2
        have x2 := (hf q hq).2
        rw [e] at x1
        rw [x1, if_pos (show p < m by omega)] at x2
        by_cases z : q < m
        · rw [if_pos z] at x2
          have := g3 p q hpq z; omega
        · rw [if_neg z] at x2
          have := (g4 p (by omega)).1; omega
      refine ⟨(nI (m + 1), nI (i + 1), zst k' 37 m (nI i)), fun rec => ?_, zst k' 37 m (nI i), fun q => if q < m then r q else i, m + 1, rfl, hm, fun a ha => by rw [q_st_c ha]; exact g1 a ha, fun q hq => ?_, fun p q hpq hq => ?_, fun p hp => ?_, fun a ha hai => ?_⟩
      · simp only [f_X11_slide_9]
        rw [q_ifF (qnL 40 (by omega) (by omega)), e, q_bd]
        dsimp only
        rw [q_ifF (by decide), q_ix (by omega) (by omega), q_lt, q_lt, q_cl (by omega), show (1 : Int32) = nI 1 from rfl, nI_add, nI_add]
      · show zst k' 37 m (nI i) 37 q = nI (if q < m then r q else i)
        by_cases z : q = m
        · rw [z, q_st_s, if_neg (by omega)]
        · rw [q_st_i z, if_pos (show q < m by omega)]; exact g2 q (by omega)
      · show (if p < m then r p else i) < (if q < m then r q else i)
        rw [if_pos (show p < m by omega)]
        by_cases z : q < m
        · rw [if_pos z]; exact g3 p q hpq z
        · rw [if_neg z]; exact (g4 p (by omega)).1
      · show (if p < m then r p else i) < i + 1 ∧ ∃ a, a < n ∧ (if p < m then r p else i) = c a
        by_cases z : p < m
        · rw [if_pos z]
          obtain ⟨x1, x2⟩ := g4 p z
          exact ⟨by omega, x2⟩
        · rw [if_neg z]; exact ⟨by omega, j, j1, ej.symm⟩
      · by_cases z : c a < i
        · obtain ⟨p, p1, p2⟩ := g5 a ha z
          exact ⟨p, by omega, by show (if p < m then r p else i) = c a; rw [if_pos p1]; exact p2⟩
        · exact ⟨m, by omega, by show (if m < m then r m else i) = c a; rw [if_neg (by omega)]; omega⟩
    · refine ⟨(nI m, nI (i + 1), k'), fun rec => ?_, k', r, m, rfl, g0, g1, g2, g3, fun p hp => ?_, fun a ha hai => ?_⟩
      · simp only [f_X11_slide_9]
        rw [q_ifF (qnL 40 (by omega) (by omega)), e, q_bd]
        dsimp only
        rw [q_ifT (show nI 0 = 0 from rfl), show (1 : Int32) = nI 1 from rfl, nI_add]
      · obtain ⟨x1, x2⟩ := g4 p hp
        exact ⟨by omega, x2⟩
      · refine g5 a ha ?_
        have : c a ≠ i := fun q => e1 ⟨a, ha, by rw [c36, (H a ha).2, q]⟩
        omega
  · obtain ⟨k', r, m, rfl, g0, g1, g2, g3, g4, g5⟩ := hI
    have hall : ∀ a, a < n → ∃ p, p < m ∧ r p = c a := fun a ha => g5 a ha (by have := (H a ha).1; omega)
    obtain ⟨f, hf⟩ := q_ch1 (n := n) (p := fun a p => p < m ∧ r p = c a) hall
    have hm : n ≤ m := by
      refine fb_holes m n f (fun a ha => (hf a ha).1) (fun a b hab hb e => ?_)
      have x1 := (hf a (by omega)).2
      have x2 := (hf b hb).2
      rw [e] at x1
      have := D a b (by omega) hb (x1.symm.trans x2)
      omega
    have em : m = n := by omega
    subst em
    refine ⟨f_X11_slide_45_lp zN (nI 0, k'), fun rec => ?_, k', r, rfl, g1, g2, g3, fun p hp => (g4 p hp).2, hall⟩
    simp only [f_X11_slide_9]
    exact if_pos (nI_lt (a := 40) (b := 41) (by omega) (by omega))
-- a lost game
def qRm (r : Nat → Nat) (i : Nat) : Nat := if i = 0 then r 0 else r i - r (i - 1) - 1
def qNm (r : Nat → Nat) (n : Nat) : Nat → Nat
  | 0 => 0
  | j + 1 => qNm r n j ^^^ qRm r (n - 1 - 2 * j)
def qLow (n : Nat) (r : Nat → Nat) : Prop := (∀ q, q < n → r q ≤ 40) ∧ ∀ q, q + 1 < n → r q < r (q + 1)
theorem qRm_le {r : Nat → Nat} {n i : Nat} (L : qLow n r) (hi : i < n) : qRm r i ≤ 40 := by
  unfold qRm
  have := L.1 i hi
  split
  · exact L.1 0 (by omega)
  · omega
theorem qNm_lt {r : Nat → Nat} {n : Nat} (L : qLow n r) (hn : 1 ≤ n) : ∀ j, qNm r n j < 2 ^ 6
  | 0 => by show 0 < 2 ^ 6; decide
  | j + 1 => Nat.xor_lt_two_pow (qNm_lt L hn j) (by have := qRm_le L (i := n - 1 - 2 * j) (by omega); omega)
theorem q_m2 (m : Nat) : nI (m + 2) + (-2 : Int32) = nI m := by
  rw [show (-2 : Int32) = -(2 : Int32) from rfl, ← Int32.sub_eq_add_neg, show (2 : Int32) = nI 2 from rfl, pk_sub (by omega), Nat.add_sub_cancel]
theorem q_m2b (m : Nat) : nI (m + 2) - nI 2 = nI m := by rw [pk_sub (by omega), Nat.add_sub_cancel]
theorem q_m2n (a : Nat) (h : a < 2) : nI a - nI 2 < 0 := pk_sneg (by omega) (by omega)
theorem q_m2c (a : Nat) : nI a + (-2 : Int32) = nI a - nI 2 := by
  rw [show (-2 : Int32) = -(2 : Int32) from rfl, ← Int32.sub_eq_add_neg]; rfl
theorem q_x0 {h0 : zHp} {b : Nat} (h : b < 2 ^ 6) : (if nI b = 0 then some ((1 : Int32), h0) else some (0, h0)) = some (nI (if b = 0 then 1 else 0), h0) := by
  by_cases z : b = 0
  · rw [z, if_pos rfl, if_pos (show nI 0 = 0 from rfl)]; rfl
  · rw [if_neg z, if_neg (nI_ne0 (by omega) (by omega))]; rfl
theorem q_roomX {h : zHp} {n i : Nat} {r : Nat → Nat} (hn : n ≤ 6) (L : qLow n r) (hr : ∀ q, q < n → h 162 q = nI (r q)) (hi : i < n) : f_X5_roomBelow (nI i) h = some (nI (qRm r i), h) := by
  unfold f_X5_roomBelow qRm
  rcases Nat.eq_zero_or_pos i with z | z
  · subst z
    rw [q_ifF (by decide), if_pos rfl, qix0 (by omega) (by omega), show (0 : Int32).toNatClampNeg = 0 from rfl, hr 0 hi]
  · have a0 := L.2 (i - 1) (by omega)
    rw [Nat.sub_add_cancel z] at a0
    have a1 := L.1 i hi
    rw [q_ifT (qlL 0 z (by omega)), if_neg (show ¬ i = 0 by omega), show (1 : Int32) = nI 1 from rfl, q_sub (by omega), q_ix (by omega) (by omega), q_ix (by omega) (by omega), q_cl (by omega), q_cl (by omega), hr i hi, hr (i - 1) (by omega), q_ifT (nI_lt a0 (by omega)), q_ix (by omega) (by omega), q_ix (by omega) (by omega), q_sub (by omega), q_sub (by omega)]
theorem q_lostX {h : zHp} {n : Nat} {r : Nat → Nat} (h1 : 1 ≤ n) (hn : n ≤ 6) (L : qLow n r) (hr : ∀ q, q < n → h 162 q = nI (r q)) : f_X5_isLost (nI n) h = some (nI (if qNm r n ((n + 1) / 2) = 0 then 1 else 0), h) := by
  have e0 : (if (10 : Int32) < nI n then (10 : Int32) else nI n) = nI n := if_neg (nI_nlt (a := 10) (by omega) (by omega))
  unfold f_X5_isLost f_X5_isLost_11_lp
  rw [e0, q_lt, show nI n - (1 : Int32) = nI (n + 1 - 2 * 0) - nI 2 by rw [show n + 1 - 2 * 0 = n - 1 + 2 by omega, q_m2b]; exact q_sub h1]
  refine q_for (S := fun j => (nI (qNm r n j), nI (n + 1 - 2 * j) - nI 2, h)) ((n + 1) / 2) (fun j hj rec => ?_) (fun rec => ?_) zN (by rw [q_zN]; omega)
  · have e1 : nI (n + 1 - 2 * j) - nI 2 = nI (n - 1 - 2 * j) := by rw [show n + 1 - 2 * j = n - 1 - 2 * j + 2 by omega, q_m2b]
    simp only [f_X5_isLost_11]
    rw [e1, q_ifF (nI_pos (by omega)), q_roomX hn L hr (by omega), q_bd, q_lt]
    dsimp only
    rw [fb_xorI, q_m2c, show n - 1 - 2 * j = n + 1 - 2 * (j + 1) by omega]
    rw [show qNm r n (j + 1) = qNm r n j ^^^ qRm r (n - 1 - 2 * j) from rfl, show n - 1 - 2 * j = n + 1 - 2 * (j + 1) by omega]
  · simp only [f_X5_isLost_11]
    rw [q_ifT (q_m2n _ (by omega))]
    exact q_x0 (qNm_lt L h1 _)
theorem q_lostM {k : zHp} {n : Nat} {r : Nat → Nat} (h1 : 1 ≤ n) (hn : n ≤ 6) (hc : k 0 62 = nI n) (L : qLow n r) (hr : ∀ q, q < n → k 37 q = nI (r q)) : f_X11_isLost k = some (nI (if qNm r n ((n + 1) / 2) = 0 then 1 else 0), k) := by
  unfold f_X11_isLost f_X11_isLost_9_lp
  rw [hc, q_lt, show nI n - (1 : Int32) = nI (n + 1 - 2 * 0) - nI 2 by rw [show n + 1 - 2 * 0 = n - 1 + 2 by omega, q_m2b]; exact q_sub h1]
  refine q_for (S := fun j => (nI (qNm r n j), nI (n + 1 - 2 * j) - nI 2, k)) ((n + 1) / 2) (fun j hj rec => ?_) (fun rec => ?_) zN (by rw [q_zN]; omega)
  · have e1 : nI (n + 1 - 2 * j) - nI 2 = nI (n - 1 - 2 * j) := by rw [show n + 1 - 2 * j = n - 1 - 2 * j + 2 by omega, q_m2b]
    have a1 := L.1 (n - 1 - 2 * j) (by omega)
    simp only [f_X11_isLost_9, f_X11_isLost_36]
    rw [e1, q_ifF (nI_pos (by omega)), q_ix (by omega) (by omega), q_cl (by omega), hr _ (by omega)]
    by_cases z : n - 1 - 2 * j = 0
    · rw [q_ifT (by rw [z]; rfl), q_lt, q_lt]
      rw [show nI (r (n - 1 - 2 * j)) - (-1 : Int32) - 1 = nI (qRm r (n - 1 - 2 * j)) by
        rw [show (-1 : Int32) = -(1 : Int32) from rfl, Int32.sub_neg, Int32.add_sub_cancel, z]; rfl]
      rw [fb_xorI, show (2 : Int32) = nI 2 from rfl, show n - 1 - 2 * j = n + 1 - 2 * (j + 1) by omega]
      rw [show qNm r n (j + 1) = qNm r n j ^^^ qRm r (n - 1 - 2 * j) from rfl, show n - 1 - 2 * j = n + 1 - 2 * (j + 1) by omega]
    · have a0 := L.2 (n - 1 - 2 * j - 1) (by omega)
      rw [Nat.sub_add_cancel (show 1 ≤ n - 1 - 2 * j by omega)] at a0
      rw [q_ifF (nI_ne0 (by omega) (by omega)), show (1 : Int32) = nI 1 from rfl, q_sub (show 1 ≤ n - 1 - 2 * j by omega), q_ix (by omega) (by omega), q_cl (by omega), hr (n - 1 - 2 * j - 1) (by omega), q_lt, q_lt]
      rw [q_sub (by omega), q_sub (by omega)]
      rw [show r (n - 1 - 2 * j) - r (n - 1 - 2 * j - 1) - 1 = qRm r (n - 1 - 2 * j) by unfold qRm; rw [if_neg z]]
      rw [fb_xorI, show (2 : Int32) = nI 2 from rfl, show n - 1 - 2 * j = n + 1 - 2 * (j + 1) by omega]
      rw [show qNm r n (j + 1) = qNm r n j ^^^ qRm r (n - 1 - 2 * j) from rfl, show n - 1 - 2 * j = n + 1 - 2 * (j + 1) by omega]
  · simp only [f_X11_isLost_9]
    rw [q_ifT (q_m2n _ (by omega))]
    exact q_x0 (qNm_lt L h1 _)
-- the search
def qMv (r : Nat → Nat) (i b q : Nat) : Nat := if q = i then r i - b else r q
theorem qMv_low {r : Nat → Nat} {n i b : Nat} (L : qLow n r) (hi : i < n) (hb : b ≤ qRm r i) : qLow n (qMv r i b) := by
  refine ⟨fun q hq => ?_, fun q hq => ?_⟩
  · unfold qMv
    have := L.1 q hq
    have := L.1 i hi
    split <;> omega
  · have a0 := L.2 q hq
    unfold qMv
    by_cases z : q = i
    · rw [if_pos z, if_neg (by omega), ← z]; omega
    · rw [if_neg z]
      by_cases y : q + 1 = i
      · rw [if_pos y]
        unfold qRm at hb
        rw [if_neg (by omega), ← y, Nat.add_sub_cancel] at hb
        rw [← y]; omega
      · rw [if_neg y]; exact a0
def qLs (r : Nat → Nat) (n i b : Nat) : Prop := qNm (qMv r i b) n ((n + 1) / 2) = 0
theorem q_mvH {h : zHp} {a n i b : Nat} {r : Nat → Nat} (hr : ∀ q, q < n → h a q = nI (r q)) : ∀ q, q < n → zst h a i (nI (r i - b)) a q = nI (qMv r i b q) := by
  intro q hq
  unfold qMv
  by_cases z : q = i
  · rw [z, q_st_s, if_pos rfl]
  · rw [q_st_i z, if_neg z]; exact hr q hq
/-- the class's search at one coin -/
theorem q_srX {h : zHp} {n i e : Nat} {r : Nat → Nat} (h1 : 1 ≤ n) (hn : n ≤ 6) (L : qLow n r) (hr : ∀ q, q < n → h 162 q = nI (r q)) (hi : i < n) (he : e ≤ qRm r i) (hno : ∀ j, j < e → ¬ qLs r n i (j + 1)) (k18 : Int32 × Int32 × zHp → Option (Int32 × zHp)) : (e < qRm r i → qLs r n i (e + 1) → f_X5_winningSlide_46_lp k18 zN (nI n, nI i, nI (r i), nI (qRm r i), nI 1, h) = some (nI (100 * r i + (e + 1)), zst h 162 i (nI (r i - (e + 1))))) ∧ (e = qRm r i → f_X5_winningSlide_46_lp k18 zN (nI n, nI i, nI (r i), nI (qRm r i), nI 1, h) = k18 (nI n, nI (i + 1), h)) := by
  have a1 := L.1 i hi
  have a2 := qRm_le L hi
  have a3 : qRm r i ≤ r i := by
    unfold qRm
    split
    · rename_i z; rw [z]; omega
    · omega
  have step : ∀ j, j < e → ∀ rec : Int32 × Int32 × Int32 × Int32 × Int32 × zHp → Option (Int32 × zHp), f_X5_winningSlide_46 k18 rec (nI n) (nI i) (nI (r i)) (nI (qRm r i)) (nI (1 + j)) (zst h 162 i (nI (r i - j))) = rec (nI n, nI i, nI (r i), nI (qRm r i), nI (1 + (j + 1)), zst h 162 i (nI (r i - (j + 1)))) := by
    intro j hj rec
    simp only [f_X5_winningSlide_46]
    rw [q_ifF (nI_nlt (by omega) (by omega)), q_ix (by omega) (by omega), q_lt, q_cl (by omega), q_sub (by omega), q_zst2, Nat.add_comm 1 j, q_lostX h1 hn (qMv_low L hi (b := j + 1) (by omega)) (q_mvH hr), q_bd, if_neg (show ¬ qNm (qMv r i (j + 1)) n ((n + 1) / 2) = 0 from hno j hj)]
    dsimp only
    rw [q_ifT (show nI 0 = 0 from rfl), show (1 : Int32) = nI 1 from rfl, nI_add, Nat.add_comm 1 (j + 1)]
  refine ⟨fun z1 z2 => ?_, fun z1 => ?_⟩
  · unfold f_X5_winningSlide_46_lp
    have e0 : (nI n, nI i, nI (r i), nI (qRm r i), nI 1, h) = (nI n, nI i, nI (r i), nI (qRm r i), nI (1 + 0), zst h 162 i (nI (r i - 0))) := by
      rw [Nat.sub_zero, q_zst0 (hr i hi)]
    rw [e0]
    refine q_for (b := fun k46 v => f_X5_winningSlide_46 k18 k46 v.1 v.2.1 v.2.2.1 v.2.2.2.1 v.2.2.2.2.1 v.2.2.2.2.2) (S := fun j => (nI n, nI i, nI (r i), nI (qRm r i), nI (1 + j), zst h 162 i (nI (r i - j)))) e (fun j hj rec => step j hj rec) (fun rec => ?_) zN (by rw [q_zN]; omega)
    simp only [f_X5_winningSlide_46]
    rw [q_ifF (nI_nlt (by omega) (by omega)), q_ix (by omega) (by omega), q_lt, q_cl (by omega), q_sub (by omega), q_zst2, Nat.add_comm 1 e, q_lostX h1 hn (qMv_low L hi (b := e + 1) (by omega)) (q_mvH hr), q_bd, if_pos (show qNm (qMv r i (e + 1)) n ((n + 1) / 2) = 0 from z2)]
    dsimp only
    rw [q_ifF (by decide), show (100 : Int32) = nI 100 from rfl, pk_mul, nI_add, Nat.mul_comm]
  · unfold f_X5_winningSlide_46_lp
    have e0 : (nI n, nI i, nI (r i), nI (qRm r i), nI 1, h) = (nI n, nI i, nI (r i), nI (qRm r i), nI (1 + 0), zst h 162 i (nI (r i - 0))) := by
      rw [Nat.sub_zero, q_zst0 (hr i hi)]
    rw [e0]
    refine q_for (b := fun k46 v => f_X5_winningSlide_46 k18 k46 v.1 v.2.1 v.2.2.1 v.2.2.2.1 v.2.2.2.2.1 v.2.2.2.2.2) (S := fun j => (nI n, nI i, nI (r i), nI (qRm r i), nI (1 + j), zst h 162 i (nI (r i - j)))) e (fun j hj rec => step j hj rec) (fun rec => ?_) zN (by rw [q_zN]; omega)
    simp only [f_X5_winningSlide_46]
    rw [q_ifT (nI_lt (by omega) (by omega)), q_ix (by omega) (by omega), q_lt, q_cl (by omega), q_zst2, q_zst0 (hr i hi), show (1 : Int32) = nI 1 from rfl, nI_add]
theorem q_srM {k : zHp} {n i e : Nat} {r : Nat → Nat} (h1 : 1 ≤ n) (hn : n ≤ 6) (hc : k 0 62 = nI n) (L : qLow n r) (hr : ∀ q, q < n → k 37 q = nI (r q)) (hi : i < n) (he : e ≤ qRm r i) (hno : ∀ j, j < e → ¬ qLs r n i (j + 1)) (k45 : Int32 × zHp → Option (Int32 × zHp)) : (e < qRm r i → qLs r n i (e + 1) → f_X11_slide_85_lp k45 zN (nI i, nI (r i), nI (qRm r i), nI 1, k) = some (nI (100 * r i + (e + 1)), zst k 37 i (nI (r i - (e + 1))))) ∧ (e = qRm r i → f_X11_slide_85_lp k45 zN (nI i, nI (r i), nI (qRm r i), nI 1, k) = k45 (nI (i + 1), k)) := by
  have a1 := L.1 i hi
  have a2 := qRm_le L hi
  have a3 : qRm r i ≤ r i := by
    unfold qRm
    split
    · rename_i z; rw [z]; omega
    · omega
  have hcs : ∀ v, zst k 37 i v 0 62 = nI n := fun v => by rw [q_st_c (by omega)]; exact hc
  have step : ∀ j, j < e → ∀ rec : Int32 × Int32 × Int32 × Int32 × zHp → Option (Int32 × zHp), f_X11_slide_85 k45 rec (nI i) (nI (r i)) (nI (qRm r i)) (nI (1 + j)) (zst k 37 i (nI (r i - j))) = rec (nI i, nI (r i), nI (qRm r i), nI (1 + (j + 1)), zst k 37 i (nI (r i - (j + 1)))) := by
    intro j hj rec
    simp only [f_X11_slide_85]
    rw [q_ifF (nI_nlt (by omega) (by omega)), q_ix (by omega) (by omega), q_lt, q_cl (by omega), q_sub (by omega), q_zst2, Nat.add_comm 1 j, q_lostM h1 hn (hcs _) (qMv_low L hi (b := j + 1) (by omega)) (q_mvH hr), q_bd, if_neg (show ¬ qNm (qMv r i (j + 1)) n ((n + 1) / 2) = 0 from hno j hj)]
    dsimp only
    rw [q_ifT (show nI 0 = 0 from rfl), show (1 : Int32) = nI 1 from rfl, nI_add, Nat.add_comm 1 (j + 1)]
  refine ⟨fun z1 z2 => ?_, fun z1 => ?_⟩
  · unfold f_X11_slide_85_lp
    have e0 : (nI i, nI (r i), nI (qRm r i), nI 1, k) = (nI i, nI (r i), nI (qRm r i), nI (1 + 0), zst k 37 i (nI (r i - 0))) := by
      rw [Nat.sub_zero, q_zst0 (hr i hi)]
    rw [e0]
    refine q_for (b := fun k85 v => f_X11_slide_85 k45 k85 v.1 v.2.1 v.2.2.1 v.2.2.2.1 v.2.2.2.2) (S := fun j => (nI i, nI (r i), nI (qRm r i), nI (1 + j), zst k 37 i (nI (r i - j)))) e (fun j hj rec => step j hj rec) (fun rec => ?_) zN (by rw [q_zN]; omega)
    simp only [f_X11_slide_85]
    rw [q_ifF (nI_nlt (by omega) (by omega)), q_ix (by omega) (by omega), q_lt, q_cl (by omega), q_sub (by omega), q_zst2, Nat.add_comm 1 e, q_lostM h1 hn (hcs _) (qMv_low L hi (b := e + 1) (by omega)) (q_mvH hr), q_bd, if_pos (show qNm (qMv r i (e + 1)) n ((n + 1) / 2) = 0 from z2)]
    dsimp only
    rw [q_ifF (by decide), show (100 : Int32) = nI 100 from rfl, pk_mul, nI_add]
  · unfold f_X11_slide_85_lp
    have e0 : (nI i, nI (r i), nI (qRm r i), nI 1, k) = (nI i, nI (r i), nI (qRm r i), nI (1 + 0), zst k 37 i (nI (r i - 0))) := by
      rw [Nat.sub_zero, q_zst0 (hr i hi)]
    rw [e0]
    refine q_for (b := fun k85 v => f_X11_slide_85 k45 k85 v.1 v.2.1 v.2.2.1 v.2.2.2.1 v.2.2.2.2) (S := fun j => (nI i, nI (r i), nI (qRm r i), nI (1 + j), zst k 37 i (nI (r i - j)))) e (fun j hj rec => step j hj rec) (fun rec => ?_) zN (by rw [q_zN]; omega)
    simp only [f_X11_slide_85]
    rw [q_ifT (nI_lt (by omega) (by omega)), q_ix (by omega) (by omega), q_lt, q_cl (by omega), q_zst2, q_zst0 (hr i hi), show (1 : Int32) = nI 1 from rfl, nI_add]
theorem q_search {h k : zHp} {n : Nat} {r : Nat → Nat} (hn : n ≤ 6) (hc : k 0 62 = nI n) (L : qLow n r) (hr : ∀ q, q < n → h 162 q = nI (r q)) (hs : ∀ q, q < n → k 37 q = nI (r q)) : ∃ v h' k', f_X5_winningSlide_18_lp zN (nI n, nI 0, h) = some (v, h') ∧ f_X11_slide_45_lp zN (nI 0, k) = some (v, k') ∧ (∀ a, a ≠ 162 → h' a = h a) ∧ ∀ a, a ≠ 37 → k' a = k a := by
  unfold f_X5_winningSlide_18_lp f_X11_slide_45_lp
  refine q_exit2 (b1 := fun k18 v => f_X5_winningSlide_18 k18 v.1 v.2.1 v.2.2) (b2 := fun k45 v => f_X11_slide_45 k45 v.1 v.2) (I := fun i v u => v = (nI n, nI i, h) ∧ u = (nI i, k)) n (Q := fun x y => ∃ v h' k', x = some (v, h') ∧ y = some (v, k') ∧ (∀ a, a ≠ 162 → h' a = h a) ∧ ∀ a, a ≠ 37 → k' a = k a) (fun i v u hi hI => ?_) (fun v u hI => ?_) _ _ ⟨rfl, rfl⟩ zN zN (by rw [q_zN]; omega) (by rw [q_zN]; omega)
  · obtain ⟨rfl, rfl⟩ := hI
    obtain ⟨e, e1, e2, e3⟩ := q_least (fun j => qLs r n i (j + 1)) (qRm r i)
    have a1 := L.1 i hi
    have cX : ∀ rec, f_X5_winningSlide_18 rec (nI n) (nI i) h = f_X5_winningSlide_46_lp rec zN (nI n, nI i, nI (r i), nI (qRm r i), nI 1, h) := by
      intro rec
      simp only [f_X5_winningSlide_18]
      rw [q_ifT (nI_lt hi (by omega)), q_ifT (show nI i < (10 : Int32) from nI_lt (b := 10) (by omega) (by omega)), q_ix (by omega) (by omega), q_lt, q_cl (by omega), hr i hi, q_roomX hn L hr hi, q_bd]; rfl
    have cM : ∀ rec, f_X11_slide_45 rec (nI i) k = f_X11_slide_85_lp rec zN (nI i, nI (r i), nI (qRm r i), nI 1, k) := by
      intro rec
      simp only [f_X11_slide_45]
      rw [hc, q_ifT (nI_lt hi (by omega)), q_ix (by omega) (by omega), q_lt, q_cl (by omega), hs i hi]
      unfold qRm
      by_cases z : i = 0
      · subst z
        rw [q_ifT (show nI 0 = 0 from rfl), q_lt, if_pos rfl, show (0 : Int32) = nI 0 from rfl, q_sub (Nat.zero_le _), Nat.sub_zero]; rfl
      · have a0 := L.2 (i - 1) (by omega)
        rw [Nat.sub_add_cancel (by omega)] at a0
        rw [q_ifF (nI_ne0 (by omega) (by omega)), if_neg z, show (1 : Int32) = nI 1 from rfl, q_sub (show 1 ≤ i by omega), q_ix (by omega) (by omega), q_cl (by omega), hs (i - 1) (by omega), nI_add, q_lt, q_sub (by omega), Nat.sub_sub]
    have sX := fun rec => q_srX (e := e) (by omega) hn L hr hi e1 e2 rec
    have sM := fun rec => q_srM (e := e) (by omega) hn hc L hs hi e1 e2 rec
    rcases Nat.lt_or_ge e (qRm r i) with z | z
    · refine Or.inr ⟨_, _, fun rec => (cX rec).trans ((sX rec).1 z (e3 z)), fun rec => (cM rec).trans ((sM rec).1 z (e3 z)), _, _, _, rfl, rfl, fun a ha => q_st_c ha, fun a ha => q_st_c ha⟩
    · exact Or.inl ⟨_, _, fun rec => (cX rec).trans ((sX rec).2 (by omega)), fun rec => (cM rec).trans ((sM rec).2 (by omega)), rfl, rfl⟩
  · obtain ⟨rfl, rfl⟩ := hI
    refine ⟨some (-1, h), some (-1, k), fun rec => ?_, fun rec => ?_, -1, h, k, rfl, rfl, fun _ _ => rfl, fun _ _ => rfl⟩
    · simp only [f_X5_winningSlide_18]
      exact if_neg (nI_nlt (Nat.le_refl n) (by omega))
    · simp only [f_X11_slide_45]
      rw [hc]
      exact if_neg (nI_nlt (Nat.le_refl n) (by omega))
theorem q_ask_slide {h k : zHp} (R : qRel h k) : qAsk h k (f_X10_slide h) (f_X11_slide k) := by
  obtain ⟨⟨C, P, -, -, -, -, -, -, -, -, -, -, -, -, w6, -⟩, -⟩ := R
  obtain ⟨n, n1, n2, n3, n4, n5⟩ := w6
  obtain ⟨c, hcs⟩ := q_ch1 (n := n) (p := fun i v => v ≤ 40 ∧ h 38 i = nI v ∧ k 36 i = nI v) (fun i hi => n4 i hi)
  have n2' : h 37 1 = nI n := n2
  have D : ∀ i j, i < n → j < n → c i = c j → i = j := fun i j hi hj e => n5 i j hi hj (by rw [(hcs i hi).2.2, (hcs j hj).2.2, e])
  obtain ⟨k0, hk0⟩ : ∃ k0, k0 = zst k 0 0 0 := ⟨_, rfl⟩
  have c62 : k0 0 62 = nI n := by rw [hk0, q_st_i (by omega)]; exact n3
  have c36 : ∀ i, k0 36 i = k 36 i := fun i => by rw [hk0, q_st_c (by omega)]
  obtain ⟨h', r, x1, x2, x3, x4⟩ := q_sortX n1 n2' (fun i hi => ⟨(hcs i hi).1, (hcs i hi).2.1⟩) D
  obtain ⟨k', s, y1, y2, y3, y4⟩ := q_sortM n1 c62 (fun i hi => ⟨(hcs i hi).1, by rw [c36]; exact (hcs i hi).2.2⟩) D
  have e := qSrt_one x4 y4
  have L : qLow n r := ⟨fun q hq => by
    obtain ⟨a, a1, a2⟩ := x4.2.1 q hq
    rw [a2]; exact (hcs a a1).1, fun q hq => x4.1 q (q + 1) (by omega) hq⟩
  obtain ⟨v, h2, k2, z1, z2, z3, z4⟩ := q_search n1 (k := k') (by rw [y2 0 (by omega)]; exact c62) L x3 (fun q hq => by rw [e q hq]; exact y3 q hq)
  refine ⟨v, h2, k2, ?_, ?_, ⟨fun a ha => ?_, ?_⟩, fun a i hp => ?_⟩
  · unfold f_X10_slide f_X5_winningSlide
    rw [n2', q_lt, x1, q_bd]
    show (f_X5_winningSlide_18_lp zN (nI n, nI 0, h')).bind _ = _
    rw [z1]; rfl
  · unfold f_X11_slide
    rw [q_lt, ← hk0]
    show f_X11_slide_9_lp zN (nI 0, nI 0, k0) = _
    rw [y1, z2]
  · have : a ≠ 162 := fun q => by rw [q] at ha; exact absurd ha (by decide)
    rw [z3 a this, x2 a this]
  · rw [z3 136 (by omega), x2 136 (by omega)]
  · have h37 : a ≠ 37 := fun q => by
      rw [q] at hp
      revert hp
      unfold qPers qPos
      simp
    rw [z4 a h37, y2 a h37, hk0]
    exact qMs_s0 k a i hp
end Qslide
