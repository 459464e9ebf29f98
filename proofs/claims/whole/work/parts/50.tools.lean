/-! TOOLS: the functions' small words, loops, numbers as nI -/
section Qt
theorem q_lt {A R : Type} (a : A) (f : A → Option R) : zlt a f = f a := rfl
theorem q_bd {A R : Type} (a : A) (f : A → Option R) : (some a).bind f = f a := rfl
theorem q_nI (n : Nat) : Int32.ofNat n = nI n := Int32.toInt_inj.mp rfl
theorem q_lit (n : Nat) : (OfNat.ofNat n : Int32) = nI (OfNat.ofNat n) := Int32.toInt_inj.mp rfl
theorem q_modN (a d : Nat) : a - a / d * d = a % d := by
  have := Nat.div_add_mod a d
  rw [Nat.mul_comm] at this
  omega
theorem q_mod (a d : Nat) : nI a - nI (a / d * d) = nI (a % d) := by
  have h : a / d * d ≤ a := Nat.div_mul_le_self a d
  rw [pk_sub h]
  congr 1
  have := Nat.div_add_mod a d
  rw [Nat.mul_comm] at this
  omega
def qM : Int32 := -1
theorem qM_e : (-1 : Int32) = qM := Int32.toInt_inj.mp rfl
theorem q_ix {R : Type} {j n : Nat} {t : Option R} (h : j < n) (hn : n < 2147483648) : zix (nI j) n t = t := by
  unfold zix; rw [if_neg (nI_in h hn)]
theorem q_dz {R : Type} {j : Nat} {t : Option R} (h0 : 0 < j) (h : j < 2147483648) : zdz (nI j) t = t := by
  unfold zdz; rw [if_neg (nI_ne0 h0 h)]
theorem q_iflt {R : Type} {a b : Nat} {x y : R} {i : Decidable (nI a < nI b)} (h : a < b) (hb : b < 2147483648) : @ite R (nI a < nI b) i x y = x := if_pos (nI_lt h hb)
theorem q_ifnlt {R : Type} {a b : Nat} {x y : R} {i : Decidable (nI a < nI b)} (h : b ≤ a) (hb : a < 2147483648) : @ite R (nI a < nI b) i x y = y := if_neg (nI_nlt h hb)
theorem q_ifeq {R : Type} {a b : Nat} {x y : R} {i : Decidable (nI a = nI b)} (h : a = b) : @ite R (nI a = nI b) i x y = x := if_pos (by rw [h])
theorem q_ifne {R : Type} {a b : Nat} {x y : R} {i : Decidable (nI a = nI b)} (h : a ≠ b) (ha : a < 2147483648) (hb : b < 2147483648) : @ite R (nI a = nI b) i x y = y := if_neg (fun e => h ((nI_eq ha hb).mp e))
theorem q_ifT {R : Type} {p : Prop} {x y : R} {i : Decidable p} (h : p) : @ite R p i x y = x := if_pos h
theorem q_ifF {R : Type} {p : Prop} {x y : R} {i : Decidable p} (h : ¬ p) : @ite R p i x y = y := if_neg h
theorem q_st {h : zHp} {c i : Nat} {v : Int32} {a j : Nat} : zst h c i v a j = if a = c then (if j = i then v else h a j) else h a j := by
  unfold zst
  by_cases e : a = c
  · rw [if_pos e, if_pos e]; unfold upd; rfl
  · rw [if_neg e, if_neg e]
theorem q_st_s {h : zHp} {c i : Nat} {v : Int32} : zst h c i v c i = v := by rw [q_st, if_pos rfl, if_pos rfl]
theorem q_st_i {h : zHp} {c i j : Nat} {v : Int32} (hj : j ≠ i) : zst h c i v c j = h c j := by rw [q_st, if_pos rfl, if_neg hj]
theorem q_st_c {h : zHp} {c i a : Nat} {v : Int32} (ha : a ≠ c) : zst h c i v a = h a := by unfold zst; rw [if_neg ha]
theorem q_sub {a b : Nat} (h : b ≤ a) : nI a - nI b = nI (a - b) := pk_sub h
theorem q_rem {a d : Nat} (ha : a < 2147483648) (h0 : 0 < d) (hd : d < 2147483648) : nI a - nI a / nI d * nI d = nI (a % d) := pk_rem ha h0 hd
theorem q_div {a d : Nat} (ha : a < 2147483648) (h0 : 0 < d) (hd : d < 2147483648) : nI a / nI d = nI (a / d) := pk_div ha h0 hd
theorem q_cl {n : Nat} (h : n < 2147483648) : (nI n).toNatClampNeg = n := nI_clamp h
theorem qM_ne {a : Nat} (h : a < 2147483648) : ¬ nI a = qM := by
  intro e
  have := congrArg Int32.toInt e
  rw [nI_toInt h] at this
  have h2 : qM.toInt = -1 := by decide
  omega
theorem q_ifM {R : Type} {a : Nat} {x y : R} {i : Decidable (nI a = qM)} (h : a < 2147483648) : @ite R (nI a = qM) i x y = y := if_neg (qM_ne h)
theorem q_ifMM {R : Type} {x y : R} {i : Decidable (qM = qM)} : @ite R (qM = qM) i x y = x := if_pos rfl
theorem qM_add (a : Nat) : qM + nI (a + 1) = nI a := by
  rw [Int32.add_comm]; exact pk_m1 a
theorem qM_0 : qM + nI 0 = qM := by decide
theorem qM_1 (a : Nat) : qM + nI a + nI 1 = qM + nI (a + 1) := by rw [Int32.add_assoc, nI_add]
theorem qM_c (a : Nat) : nI a + qM = qM + nI a := Int32.add_comm _ _
theorem q_ifMlt {R : Type} {a : Nat} {x y : R} {i : Decidable (qM < nI a)} (h : a < 2147483648) : @ite R (qM < nI a) i x y = x := if_pos (Int32.lt_of_lt_of_le (show qM < 0 by decide) (nI_pos' h))
theorem q_ifltM {R : Type} {a : Nat} {x y : R} {i : Decidable (nI a < qM)} (h : a < 2147483648) : @ite R (nI a < qM) i x y = y := if_neg (fun z => absurd (Int32.lt_trans z (show qM < 0 by decide)) (nI_pos h))
theorem q_sub1 (a : Nat) : nI 0 - nI (a + 1) = nI 0 - nI (a + 1) := rfl
-- loops
theorem q_for {V R : Type} {b : (V → Option R) → V → Option R} (S : Nat → V) (N : Nat) {res : Option R} (hs : ∀ j, j < N → ∀ rec : V → Option R, b rec (S j) = rec (S (j + 1))) (he : ∀ rec : V → Option R, b rec (S N) = res) (F : Nat) (hF : N < F) : zlp b F (S 0) = res := by
  have H : ∀ k j F, j + k = N → k < F → zlp b F (S j) = res := by
    intro k
    induction k with
    | zero =>
      intro j F hj hF
      obtain ⟨F', rfl⟩ : ∃ F', F = F' + 1 := ⟨F - 1, by omega⟩
      have e : j = N := by omega
      rw [e]; exact he _
    | succ k ih =>
      intro j F hj hF
      obtain ⟨F', rfl⟩ : ∃ F', F = F' + 1 := ⟨F - 1, by omega⟩
      show b (zlp b F') (S j) = res
      rw [hs j (by omega)]
      exact ih (j + 1) F' (by omega) (by omega)
  exact H N 0 F (by omega) hF
/-- a loop that keeps an invariant for N turns -/
theorem q_inv {V R : Type} {b : (V → Option R) → V → Option R} (I : Nat → V → Prop) (N : Nat) (hs : ∀ j v, j < N → I j v → ∃ v', (∀ rec : V → Option R, b rec v = rec v') ∧ I (j + 1) v') (v : V) (h0 : I 0 v) (F : Nat) (hF : N ≤ F) : ∃ v', I N v' ∧ zlp b F v = zlp b (F - N) v' := by
  have H : ∀ k, k ≤ N → ∃ v', I k v' ∧ zlp b F v = zlp b (F - k) v' := by
    intro k
    induction k with
    | zero => intro _; exact ⟨v, h0, rfl⟩
    | succ k ih =>
      intro hk
      obtain ⟨w, hw, e⟩ := ih (by omega)
      obtain ⟨w', hb, hI⟩ := hs k w (by omega) hw
      refine ⟨w', hI, ?_⟩
      rw [e]
      obtain ⟨F', hF'⟩ : ∃ F', F - k = F' + 1 := ⟨F - k - 1, by omega⟩
      rw [hF', show F - (k + 1) = F' by omega]
      exact hb _
  exact H N (Nat.le_refl N)
/-- two loops in step -/
theorem q_inv2 {V1 R1 V2 R2 : Type} {b1 : (V1 → Option R1) → V1 → Option R1} {b2 : (V2 → Option R2) → V2 → Option R2} (I : Nat → V1 → V2 → Prop) (N : Nat) (hs : ∀ j v w, j < N → I j v w → ∃ v' w', (∀ rec : V1 → Option R1, b1 rec v = rec v') ∧ (∀ rec : V2 → Option R2, b2 rec w = rec w') ∧ I (j + 1) v' w') (v : V1) (w : V2) (h0 : I 0 v w) (F G : Nat) (hF : N ≤ F) (hG : N ≤ G) : ∃ v' w', I N v' w' ∧ zlp b1 F v = zlp b1 (F - N) v' ∧ zlp b2 G w = zlp b2 (G - N) w' := by
  have H : ∀ k, k ≤ N → ∃ v' w', I k v' w' ∧ zlp b1 F v = zlp b1 (F - k) v' ∧ zlp b2 G w = zlp b2 (G - k) w' := by
    intro k
    induction k with
    | zero => intro _; exact ⟨v, w, h0, rfl, rfl⟩
    | succ k ih =>
      intro hk
      obtain ⟨x, y, hI, e, f⟩ := ih (by omega)
      obtain ⟨x', y', hb, hc, hI'⟩ := hs k x y (by omega) hI
      refine ⟨x', y', hI', ?_, ?_⟩
      · rw [e]
        obtain ⟨F', hF'⟩ : ∃ F', F - k = F' + 1 := ⟨F - k - 1, by omega⟩
        rw [hF', show F - (k + 1) = F' by omega]
        exact hb _
      · rw [f]
        obtain ⟨G', hG'⟩ : ∃ G', G - k = G' + 1 := ⟨G - k - 1, by omega⟩
        rw [hG', show G - (k + 1) = G' by omega]
        exact hc _
  exact H N (Nat.le_refl N)
/-- a loop that may end early -/
theorem q_exit {V R : Type} {b : (V → Option R) → V → Option R} (I : Nat → V → Prop) (N : Nat) (Q : Option R → Prop) (hs : ∀ j v, j < N → I j v → (∃ v', (∀ rec : V → Option R, b rec v = rec v') ∧ I (j + 1) v') ∨ (∃ r, (∀ rec : V → Option R, b rec v = r) ∧ Q r)) (he : ∀ v, I N v → ∃ r, (∀ rec : V → Option R, b rec v = r) ∧ Q r) (v : V) (h0 : I 0 v) (F : Nat) (hF : N < F) : Q (zlp b F v) := by
  have H : ∀ k j F v, j + k = N → k < F → I j v → Q (zlp b F v) := by
    intro k
    induction k with
    | zero =>
      intro j F v hj hF hI
      obtain ⟨F', rfl⟩ : ∃ F', F = F' + 1 := ⟨F - 1, by omega⟩
      have e : j = N := by omega
      rw [e] at hI
      obtain ⟨r, h1, h2⟩ := he v hI
      show Q (b (zlp b F') v)
      rw [h1]; exact h2
    | succ k ih =>
      intro j F v hj hF hI
      obtain ⟨F', rfl⟩ : ∃ F', F = F' + 1 := ⟨F - 1, by omega⟩
      show Q (b (zlp b F') v)
      rcases hs j v (by omega) hI with ⟨v', h1, h2⟩ | ⟨r, h1, h2⟩
      · rw [h1]; exact ih (j + 1) F' v' (by omega) (by omega) h2
      · rw [h1]; exact h2
  exact H N 0 F v (by omega) hF h0
theorem q_ch1 {n : Nat} {p : Nat → Nat → Prop} (H : ∀ i, i < n → ∃ a, p i a) : ∃ f : Nat → Nat, ∀ i, i < n → p i (f i) :=
  ⟨fun i => if h : i < n then (H i h).choose else 0, fun i hi => by simp only [dif_pos hi]; exact (H i hi).choose_spec⟩
theorem q_ch2 {n : Nat} {p : Nat → Nat → Nat → Prop} (H : ∀ i, i < n → ∃ a b, p i a b) : ∃ f g : Nat → Nat, ∀ i, i < n → p i (f i) (g i) :=
  ⟨fun i => if h : i < n then (H i h).choose else 0, fun i => if h : i < n then (H i h).choose_spec.choose else 0, fun i hi => by simp only [dif_pos hi]; exact (H i hi).choose_spec.choose_spec⟩
theorem q_least (p : Nat → Prop) : ∀ N : Nat, ∃ e, e ≤ N ∧ (∀ j, j < e → ¬ p j) ∧ (e < N → p e)
  | 0 => ⟨0, Nat.le_refl 0, fun j hj => absurd hj (Nat.not_lt_zero j), fun h => absurd h (Nat.not_lt_zero 0)⟩
  | N + 1 => by
    obtain ⟨e, h1, h2, h3⟩ := q_least p N
    by_cases he : e < N
    · exact ⟨e, by omega, h2, fun _ => h3 he⟩
    · by_cases hp : p N
      · exact ⟨N, by omega, fun j hj => h2 j (by omega), fun _ => hp⟩
      · refine ⟨N + 1, by omega, fun j hj => ?_, fun h => by omega⟩
        by_cases hj2 : j < N
        · exact h2 j (by omega)
        · have : j = N := by omega
          rw [this]; exact hp
theorem q_invk {K V R : Type} {b : K → (V → Option R) → V → Option R} (I : Nat → V → Prop) (N : Nat) (hs : ∀ j v, j < N → I j v → ∃ v', (∀ (κ : K) (rec : V → Option R), b κ rec v = rec v') ∧ I (j + 1) v') (v : V) (h0 : I 0 v) (F : Nat) (hF : N ≤ F) : ∃ v', I N v' ∧ ∀ κ : K, zlp (b κ) F v = zlp (b κ) (F - N) v' := by
  have H : ∀ k, k ≤ N → ∃ v', I k v' ∧ ∀ κ : K, zlp (b κ) F v = zlp (b κ) (F - k) v' := by
    intro k
    induction k with
    | zero => intro _; exact ⟨v, h0, fun κ => rfl⟩
    | succ k ih =>
      intro hk
      obtain ⟨w, hw, e⟩ := ih (by omega)
      obtain ⟨w', hb, hI⟩ := hs k w (by omega) hw
      refine ⟨w', hI, fun κ => ?_⟩
      rw [e κ]
      obtain ⟨F', hF'⟩ : ∃ F', F - k = F' + 1 := ⟨F - k - 1, by omega⟩
      rw [hF', show F - (k + 1) = F' by omega]
      exact hb κ _
  exact H N (Nat.le_refl N)
theorem q_inv2k {K1 K2 V1 R1 V2 R2 : Type} {b1 : K1 → (V1 → Option R1) → V1 → Option R1} {b2 : K2 → (V2 → Option R2) → V2 → Option R2} (I : Nat → V1 → V2 → Prop) (N : Nat) (hs : ∀ j v w, j < N → I j v w → ∃ v' w', (∀ (κ : K1) (rec : V1 → Option R1), b1 κ rec v = rec v') ∧ (∀ (κ : K2) (rec : V2 → Option R2), b2 κ rec w = rec w') ∧ I (j + 1) v' w') (v : V1) (w : V2) (h0 : I 0 v w) (F G : Nat) (hF : N ≤ F) (hG : N ≤ G) : ∃ v' w', I N v' w' ∧ (∀ κ : K1, zlp (b1 κ) F v = zlp (b1 κ) (F - N) v') ∧ ∀ κ : K2, zlp (b2 κ) G w = zlp (b2 κ) (G - N) w' := by
  have H : ∀ k, k ≤ N → ∃ v' w', I k v' w' ∧ (∀ κ : K1, zlp (b1 κ) F v = zlp (b1 κ) (F - k) v') ∧ ∀ κ : K2, zlp (b2 κ) G w = zlp (b2 κ) (G - k) w' := by
    intro k
    induction k with
    | zero => intro _; exact ⟨v, w, h0, fun κ => rfl, fun κ => rfl⟩
    | succ k ih =>
      intro hk
      obtain ⟨x, y, hI, e, f⟩ := ih (by omega)
      obtain ⟨x', y', hb, hc, hI'⟩ := hs k x y (by omega) hI
      refine ⟨x', y', hI', fun κ => ?_, fun κ => ?_⟩
      · rw [e κ]
        obtain ⟨F', hF'⟩ : ∃ F', F - k = F' + 1 := ⟨F - k - 1, by omega⟩
        rw [hF', show F - (k + 1) = F' by omega]
        exact hb κ _
      · rw [f κ]
        obtain ⟨G', hG'⟩ : ∃ G', G - k = G' + 1 := ⟨G - k - 1, by omega⟩
        rw [hG', show G - (k + 1) = G' by omega]
        exact hc κ _
  exact H N (Nat.le_refl N)
theorem q_exit2 {V1 R1 V2 R2 : Type} {b1 : (V1 → Option R1) → V1 → Option R1} {b2 : (V2 → Option R2) → V2 → Option R2} (I : Nat → V1 → V2 → Prop) (N : Nat) (Q : Option R1 → Option R2 → Prop) (hs : ∀ j v w, j < N → I j v w → (∃ v' w', (∀ rec : V1 → Option R1, b1 rec v = rec v') ∧ (∀ rec : V2 → Option R2, b2 rec w = rec w') ∧ I (j + 1) v' w') ∨ (∃ r s, (∀ rec : V1 → Option R1, b1 rec v = r) ∧ (∀ rec : V2 → Option R2, b2 rec w = s) ∧ Q r s)) (he : ∀ v w, I N v w → ∃ r s, (∀ rec : V1 → Option R1, b1 rec v = r) ∧ (∀ rec : V2 → Option R2, b2 rec w = s) ∧ Q r s) (v : V1) (w : V2) (h0 : I 0 v w) (F G : Nat) (hF : N < F) (hG : N < G) : Q (zlp b1 F v) (zlp b2 G w) := by
  have H : ∀ k j F G v w, j + k = N → k < F → k < G → I j v w → Q (zlp b1 F v) (zlp b2 G w) := by
    intro k
    induction k with
    | zero =>
      intro j F G v w hj hF hG hI
      obtain ⟨F', rfl⟩ : ∃ F', F = F' + 1 := ⟨F - 1, by omega⟩
      obtain ⟨G', rfl⟩ : ∃ G', G = G' + 1 := ⟨G - 1, by omega⟩
      have e : j = N := by omega
      rw [e] at hI
      obtain ⟨r, s, h1, h2, h3⟩ := he v w hI
      show Q (b1 (zlp b1 F') v) (b2 (zlp b2 G') w)
      rw [h1, h2]; exact h3
    | succ k ih =>
      intro j F G v w hj hF hG hI
      obtain ⟨F', rfl⟩ : ∃ F', F = F' + 1 := ⟨F - 1, by omega⟩
      obtain ⟨G', rfl⟩ : ∃ G', G = G' + 1 := ⟨G - 1, by omega⟩
      show Q (b1 (zlp b1 F') v) (b2 (zlp b2 G') w)
      rcases hs j v w (by omega) hI with ⟨v', w', h1, h2, h3⟩ | ⟨r, s, h1, h2, h3⟩
      · rw [h1, h2]; exact ih (j + 1) F' G' v' w' (by omega) (by omega) (by omega) h3
      · rw [h1, h2]; exact h3
  exact H N 0 F G v w (by omega) hF hG h0
theorem q_lpS {V R : Type} {b : (V → Option R) → V → Option R} {F : Nat} {v : V} (hF : 0 < F) : zlp b F v = b (zlp b (F - 1)) v := by
  obtain ⟨F', rfl⟩ : ∃ F', F = F' + 1 := ⟨F - 1, by omega⟩
  rfl
theorem q_zN : zN = 1000000 := rfl
end Qt
