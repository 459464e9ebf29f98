/-! THE LAW's conditions: rows of both readers -/
section Qrows
theorem qyTy_fw {k k' : zHp} {a s : Nat} {st0 st : List Bool} (Y : qyTy k a st0 st s) (F : qyFW k k' s) : qyTy k' a st0 st s :=
  qyTy_c Y (fun i hi => ⟨F 14 _ (by omega) (by omega) (by omega), F 15 _ (by omega) (by omega) (by omega)⟩)
/-- something waits, and both go on -/
theorem q_wait {h k : zHp} {t : Nat → Nat} {n T i s p : Nat} (w : Nat) (L : qyL h k t n T i s) (hi : qyK t n i ≠ 36) (e29 : k 0 29 = nI p) (hp : p < 40) : ∃ h1 k2, f_X6_advance h = some h1 ∧ (∀ {R : Type} (f : zHp → Option R), ((f_X11_waits (nI w) k).bind fun x1 => (f_X11_reads x1).bind fun x2 => f x2) = f k2) ∧ qyL h1 k2 t n T (i + 1) s ∧ k2 0 29 = nI (p + 1) ∧ k2 0 27 = k 0 27 ∧ k2 16 p = nI w ∧ (∀ j, j ≠ p → k2 16 j = k 16 j) ∧ qyAX h h1 ∧ qyFW k k2 s := by
  have l1 : (1 : Int32) = nI 1 := rfl
  have fr : ∀ b j, ¬(b = 0 ∧ j = 29) → ¬(b = 16 ∧ j = p) → zst (zst k 16 p (nI w)) 0 29 (nI (p + 1)) b j = k b j := fun b j u v => by
    rw [q_st]
    by_cases z : b = 0
    · rw [if_pos z, if_neg (by omega), z, q_st_c (by omega)]
    · rw [if_neg z, q_st]
      by_cases y : b = 16
      · rw [if_pos y, if_neg (by omega), y]
      · rw [if_neg y]
  have L1 : qyL h (zst (zst k 16 p (nI w)) 0 29 (nI (p + 1))) t n T i s := ⟨qyAt_k L.1 (fun j hj => fr 0 j (by omega) (by omega)) (funext fun j => fr 7 j (by omega) (by omega)) (funext fun j => fr 8 j (by omega) (by omega)), L.2.1, (fr 0 26 (by omega) (by omega)).trans L.2.2.1, fun j hj => by
    rw [fr 14 _ (by omega) (by omega), fr 15 _ (by omega) (by omega)]; exact L.2.2.2 j hj⟩
  obtain ⟨h1, k2, x1, x2, L2, X, M⟩ := qyL_adv L1 hi
  refine ⟨h1, k2, x1, fun f => ?_, L2, (M 0 29 (by omega)).trans q_st_s, (M 0 27 (by omega)).trans (fr 0 27 (by omega) (by omega)), ?_, fun j hj => (M 16 j (by omega)).trans (fr 16 j (by omega) (by omega)), X, fun b j p1 p2 p3 => (M b j (by omega)).trans (fr b j (by omega) (by omega))⟩
  · unfold f_X11_waits
    rw [e29, q_ix (by omega) (by omega), q_lt, q_lt, q_cl (by omega), q_st_c (by omega), e29, l1, nI_add, q_bd, x2, q_bd]
  · rw [M 16 p (by omega), q_st_c (by omega), q_st_s]
/-- the same, with one more open -/
theorem q_open {h k : zHp} {t : Nat → Nat} {n T i s p d : Nat} (w : Nat) (L : qyL h k t n T i s) (hi : qyK t n i ≠ 36) (e29 : k 0 29 = nI p) (hp : p < 40) (e27 : k 0 27 = nI d) : ∃ h1 k2, f_X6_advance h = some h1 ∧ (∀ {R : Type} (f : zHp → Option R), ((f_X11_waits (nI w) (zst k 0 27 ((k 0 27) + (1 : Int32)))).bind fun x1 => (f_X11_reads x1).bind fun x2 => f x2) = f k2) ∧ qyL h1 k2 t n T (i + 1) s ∧ k2 0 29 = nI (p + 1) ∧ k2 0 27 = nI (d + 1) ∧ k2 16 p = nI w ∧ (∀ j, j ≠ p → k2 16 j = k 16 j) ∧ qyAX h h1 ∧ qyFW k k2 s := by
  have l1 : (1 : Int32) = nI 1 := rfl
  have fr : ∀ b j, ¬(b = 0 ∧ j = 27) → zst k 0 27 ((k 0 27) + (1 : Int32)) b j = k b j := fun b j u => by
    rw [q_st]
    by_cases z : b = 0
    · rw [if_pos z, if_neg (by omega), z]
    · rw [if_neg z]
  have L1 : qyL h (zst k 0 27 ((k 0 27) + (1 : Int32))) t n T i s := ⟨qyAt_k L.1 (fun j hj => fr 0 j (by omega)) (funext fun j => fr 7 j (by omega)) (funext fun j => fr 8 j (by omega)), L.2.1, (fr 0 26 (by omega)).trans L.2.2.1, fun j hj => by
    rw [fr 14 _ (by omega), fr 15 _ (by omega)]; exact L.2.2.2 j hj⟩
  obtain ⟨h1, k2, x1, x2, x3, x4, x5, x6, x7, x8, x9⟩ := q_wait w L1 hi ((fr 0 29 (by omega)).trans e29) hp
  refine ⟨h1, k2, x1, x2, x3, x4, ?_, x6, fun j hj => (x7 j hj).trans (fr 16 j (by omega)), x8, fun b j p1 p2 p3 => (x9 b j p1 p2 p3).trans (fr b j (by omega))⟩
  rw [x5, q_st_s, e27, l1, nI_add]
-- the reference's turn, when a part of a condition is asked for
theorem r_any1 {h k : zHp} {t : Nat → Nat} {n T i G : Nat} (A : qyAt h k t n T i) (hG : 0 < G) (v1 : Int32) : (qyK t n i ≠ 15 → qyK t n i ≠ 29 → f_X11_readAny_9_lp G (v1, 1, k) = (f_X11_readCompared k).bind fun x21 => (if x21.1 = (-1 : Int32) then some ((-1 : Int32), x21.2) else (f_X11_settles (9 : Int32) x21.2).bind fun x22 => f_X11_readAny_9_lp (G - 1) (v1, (0 : Int32), x22))) ∧ (qyK t n i = 15 → f_X11_readAny_9_lp G (v1, 1, k) = f_X11_readAny_33 (f_X11_readAny_9_lp (G - 1)) v1 1 (nI 1) k) ∧ (qyK t n i = 29 → f_X11_readAny_9_lp G (v1, 1, k) = f_X11_readAny_33 (f_X11_readAny_9_lp (G - 1)) v1 1 (nI 0) k) := by
  have w15 : f_X11_isWord 6 k = some (nI (if qyK t n i = 15 then 1 else 0), k) := q_isWd A (w := 15) (by omega)
  have s29 : f_X11_isSign 40 k = some (nI (if qyK t n i = 29 then 1 else 0), k) := q_isSg A (w := 29) (by omega) (by omega)
  have e : f_X11_readAny_9_lp G (v1, 1, k) = f_X11_readAny_9 (f_X11_readAny_9_lp (G - 1)) v1 1 k := by
    unfold f_X11_readAny_9_lp
    rw [q_lpS hG]
  rw [e]
  unfold f_X11_readAny_9
  rw [if_neg (show ¬ (1 : Int32) = 0 by decide), w15, q_bd]
  dsimp only
  refine ⟨fun a b => ?_, fun a => ?_, fun a => ?_⟩
  · rw [if_neg a, if_pos (show nI 0 = 0 from rfl), s29, q_bd]
    dsimp only
    rw [if_neg b, if_pos (show nI 0 = 0 from rfl)]
  · rw [if_pos a, if_neg (show ¬ nI 1 = 0 by decide)]
  · rw [if_neg (show ¬ qyK t n i = 15 by omega), if_pos (show nI 0 = 0 from rfl), s29, q_bd]
    dsimp only
    rw [if_pos a, if_neg (show ¬ nI 1 = 0 by decide)]
-- and behind one
theorem r_any0 {h k : zHp} {t : Nat → Nat} {n T i G : Nat} (A : qyAt h k t n T i) (hG : 0 < G) (v1 : Int32) : (qyK t n i = 14 → f_X11_readAny_9_lp G (v1, 0, k) = (f_X11_settles 10 k).bind fun x16 => (f_X11_waits (nI 10) x16).bind fun x17 => (f_X11_reads x17).bind fun x18 => f_X11_readAny_9_lp (G - 1) (v1, (1 : Int32), x18)) ∧ (qyK t n i = 13 → f_X11_readAny_9_lp G (v1, 0, k) = (f_X11_settles 10 k).bind fun x12 => (f_X11_settles 11 x12).bind fun x13 => (f_X11_waits (nI 11) x13).bind fun x14 => (f_X11_reads x14).bind fun x15 => f_X11_readAny_9_lp (G - 1) (v1, (1 : Int32), x15)) ∧ (qyK t n i ≠ 13 → qyK t n i ≠ 14 → f_X11_readAny_9_lp G (v1, 0, k) = (f_X11_settles 10 k).bind fun x3 => (f_X11_settles 11 x3).bind fun x4 => (if v1 = 0 then some ((0 : Int32), x4) else (f_X11_isSign (41 : Int32) x4).bind fun x5 => (if x5.1 = 0 then (f_X11_errs (1 : Int32) x5.2).bind fun x6 => some (x6.1, x6.2) else (f_X11_settles (9 : Int32) (zst (zst x5.2 0 29 ((x5.2 0 29) - (1 : Int32))) 0 27 (((zst x5.2 0 29 ((x5.2 0 29) - (1 : Int32))) 0 27) - (1 : Int32)))).bind fun x10 => (f_X11_reads x10).bind fun x11 => f_X11_readAny_9_lp (G - 1) (v1 - (1 : Int32), (0 : Int32), x11)))) := by
  have w14 : f_X11_isWord 5 k = some (nI (if qyK t n i = 14 then 1 else 0), k) := q_isWd A (w := 14) (by omega)
  have w13 : f_X11_isWord 4 k = some (nI (if qyK t n i = 13 then 1 else 0), k) := q_isWd A (w := 13) (by omega)
  have e : f_X11_readAny_9_lp G (v1, 0, k) = f_X11_readAny_9 (f_X11_readAny_9_lp (G - 1)) v1 0 k := by
    unfold f_X11_readAny_9_lp
    rw [q_lpS hG]
  rw [e]
  unfold f_X11_readAny_9
  rw [if_pos (show (0 : Int32) = 0 from rfl), w14, q_bd]
  dsimp only
  refine ⟨fun a => ?_, fun a => ?_, fun a b => ?_⟩
  · rw [if_pos a, if_neg (show ¬ nI 1 = 0 by decide)]; rfl
  · rw [if_neg (show ¬ qyK t n i = 14 by omega), if_pos (show nI 0 = 0 from rfl), w13, q_bd]
    dsimp only
    rw [if_pos a, if_neg (show ¬ nI 1 = 0 by decide)]; rfl
  · rw [if_neg b, if_pos (show nI 0 = 0 from rfl), w13, q_bd]
    dsimp only
    rw [if_neg a, if_pos (show nI 0 = 0 from rfl)]; rfl
-- the class behind a part of a condition
theorem q_cond94F (ks kc : Int32 → zHp → Option zHp) (k7 : Int32 × Int32 × Int32 × Int32 × zHp → Option (zHp)) (v1 v2 v4 s0 : Int32) {h : zHp} (F : qyF h) : f_X6_condition_94 ks kc k7 v1 v2 v4 s0 h = some h := if_neg F
theorem q_cond72F (ks kc : Int32 → zHp → Option zHp) (k7 : Int32 × Int32 × Int32 × Int32 × zHp → Option (zHp)) (v1 v2 v3 v4 : Int32) {h : zHp} (F : qyF h) : f_X6_condition_72 ks kc k7 v1 v2 v3 v4 h = some h := by
  unfold f_X6_condition_72
  rw [q_cond94F ks kc k7 _ _ _ _ F, q_cond94F ks kc k7 _ _ _ _ F, ite_self, ite_self, ite_self]
theorem q_cond40F (ks kc : Int32 → zHp → Option zHp) (k7 : Int32 × Int32 × Int32 × Int32 × zHp → Option (zHp)) (v1 v3 v4 : Int32) {h : zHp} {s : Nat} (F : qyF h) (Z : qySz h s) : ∃ h', f_X6_condition_40 ks kc k7 v1 v3 v4 h = some h' ∧ qyGX h h' s ∧ h' 145 = h 145 ∧ qySz h' s := by
  obtain ⟨s', z1, z2, z3⟩ := id Z
  obtain ⟨h', s2, x1, x2, x3, x4, x5, x6⟩ := q_addF z1 z3 (-14 : Int32)
  have e : ∀ s0, ∃ h', f_X6_condition_54 ks kc k7 v1 v3 v4 s0 h = some h' ∧ qyGX h h' s ∧ h' 145 = h 145 ∧ qySz h' s := fun s0 => by
    unfold f_X6_condition_54
    by_cases y : s0 = 0
    · rw [if_pos y]
      by_cases w : v3 = 0
      · rw [if_pos w]
        exact ⟨h, q_cond72F _ _ _ _ _ _ _ F, qyGX_rf h s, rfl, Z⟩
      · rw [if_neg w, x1, q_bd]
        exact ⟨h', q_cond72F _ _ _ _ _ _ _ (show ¬ h' 145 12 = 0 by rw [x6]; exact F), qyGX_tr (s := s) (s' := s) (qyGX_rf h s) ⟨x5.1, x5.2.1, x5.2.2.1, fun i hi => x5.2.2.2 i (by omega)⟩ (Nat.le_refl s), x6, s2, x2, by omega, x4⟩
    · rw [if_neg y]
      exact ⟨h, q_cond72F _ _ _ _ _ _ _ F, qyGX_rf h s, rfl, Z⟩
  unfold f_X6_condition_40
  split
  · exact e _
  · exact e _
end Qrows
