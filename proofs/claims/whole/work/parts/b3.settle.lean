/-! THE LAW's conditions: what waits is put in; one comparison -/
section Qsettle
/-- the class puts one code in r times -/
def qAddN (p : Int32) : Nat → zHp → Option zHp
  | 0, h => some h
  | r + 1, h => (f_X1_add 150 p h).bind fun x => qAddN p r x
/-- what settling leaves -/
def qyFS (k k' : zHp) (s : Nat) : Prop := ∀ a j, ¬(a = 0 ∧ (j = 26 ∨ j = 27 ∨ j = 29)) → ¬((a = 14 ∨ a = 15) ∧ 800 + s ≤ j) → k' a j = k a j
theorem qyFS_rf (k : zHp) (s : Nat) : qyFS k k s := fun _ _ _ _ => rfl
theorem qyFS_tr {k k' k'' : zHp} {s s' : Nat} (x : qyFS k k' s) (y : qyFS k' k'' s') (hs : s ≤ s') : qyFS k k'' s := fun a j p q => (y a j p (by omega)).trans (x a j p q)
/-- what conditions leave -/
def qyFW (k k' : zHp) (s : Nat) : Prop := ∀ a j, ¬(a = 0 ∧ ((13 ≤ j ∧ j ≤ 16) ∨ (26 ≤ j ∧ j ≤ 31))) → ¬((a = 14 ∨ a = 15) ∧ 800 + s ≤ j) → a ≠ 16 → k' a j = k a j
theorem qyFW_rf (k : zHp) (s : Nat) : qyFW k k s := fun _ _ _ _ _ => rfl
theorem qyFW_tr {k k' k'' : zHp} {s s' : Nat} (x : qyFW k k' s) (y : qyFW k' k'' s') (hs : s ≤ s') : qyFW k k'' s := fun a j p q r => (y a j p (by omega) r).trans (x a j p q r)
theorem qyFS.fw {k k' : zHp} {s : Nat} (x : qyFS k k' s) : qyFW k k' s := fun a j p q _ => x a j (by omega) q
theorem qyFL.fw {k k' : zHp} {s : Nat} (x : qyFL k k' s) : qyFW k k' s := fun a j p q r => x a j (by omega) q (by omega)
theorem qyFE.fw {k k' : zHp} (x : qyFE k k') (s : Nat) : qyFW k k' s := fun a j p _ _ => x a j (by omega)
theorem qyFS.at {h k k' : zHp} {t : Nat → Nat} {n T i s : Nat} (x : qyFS k k' s) (A : qyAt h k t n T i) : qyAt h k' t n T i := qyAt_k A (fun j hj => x 0 j (by omega) (by omega)) (funext fun j => x 7 j (by omega) (by omega)) (funext fun j => x 8 j (by omega) (by omega))
/-- only the codes of the class's draft -/
def qyGS (h h' : zHp) (s : Nat) : Prop := (∀ a, a ≠ 150 → a ≠ 155 → h' a = h a) ∧ (∀ j, j ≠ 6 → h' 150 j = h 150 j) ∧ ∀ i, i < s → h' 155 i = h 155 i
theorem qyGS_rf (h : zHp) (s : Nat) : qyGS h h s := ⟨fun _ _ _ => rfl, fun _ _ => rfl, fun _ _ => rfl⟩
theorem qyGS_tr {h h' h'' : zHp} {s s' : Nat} (a : qyGS h h' s) (b : qyGS h' h'' s') (hs : s ≤ s') : qyGS h h'' s := ⟨fun x p q => (b.1 x p q).trans (a.1 x p q), fun j p => (b.2.1 j p).trans (a.2.1 j p), fun i hi => (b.2.2 i (by omega)).trans (a.2.2 i hi)⟩
theorem qyGS.gx {h h' : zHp} {s : Nat} (a : qyGS h h' s) : qyGX h h' s := ⟨fun x _ q r => a.1 x q r, fun j _ _ _ _ => by rw [a.1 145 (by omega) (by omega)], a.2.1, a.2.2⟩
theorem qyGS.at {h h' k : zHp} {t : Nat → Nat} {n T i s : Nat} (a : qyGS h h' s) (A : qyAt h k t n T i) : qyAt h' k t n T i := qyAt_h A (fun x p q => a.1 x (by omega) (by omega))
theorem q_settle {x w : Nat} (m : x = 15 ∧ w = 9 ∨ x = 14 ∧ w = 10 ∨ x = 13 ∧ w = 11) : ∀ q p d s h k G, qyCo h k s → k 0 29 = nI (p + q) → (w = 9 → k 0 27 = nI (d + q)) → (∀ j, p ≤ j → j < p + q → k 16 j = nI w) → (p = 0 ∨ ¬ k 16 (p - 1) = nI w) → p + q ≤ 40 → s + q ≤ 400 → q < G → d ≤ 100 → ∃ h' k', qAddN (nI x ^^^ (-1 : Int32)) q h = some h' ∧ f_X11_settles_0_lp G (nI w, k) = some k' ∧ qyCo h' k' (s + q) ∧ k' 0 29 = nI p ∧ (w = 9 → k' 0 27 = nI d) ∧ (w ≠ 9 → k' 0 27 = k 0 27) ∧ (∀ j, s ≤ j → j < s + q → k' 14 (800 + j) = nI w) ∧ qyGS h h' s ∧ qyFS k k' s := by
  have l1 : (1 : Int32) = nI 1 := rfl
  have mem : (x, w) ∈ [(25, 2), (26, 3), (27, 4), (28, 5), (31, 6), (32, 7), (33, 8), (15, 9), (14, 10), (13, 11)] := by rcases m with ⟨z, y⟩ | ⟨z, y⟩ | ⟨z, y⟩ <;> rw [z, y] <;> decide
  have hw : w < 100 := by omega
  intro q
  induction q with
  | zero =>
    intro p d s h k G C c29 c27 top base hp hs hG hd
    refine ⟨h, k, rfl, ?_, C, c29, c27, fun _ => rfl, fun j a b => by omega, qyGS_rf h s, qyFS_rf k s⟩
    unfold f_X11_settles_0_lp
    refine q_lp1 hG (fun rec => ?_)
    show f_X11_settles_0 rec (nI w) k = some k
    unfold f_X11_settles_0
    rw [c29, Nat.add_zero]
    by_cases z : p = 0
    · rw [if_neg (show ¬ (0 : Int32) < nI p by rw [z]; decide)]
    · rw [if_pos (show (0 : Int32) < nI p from qlL 0 (by omega) (by omega)), l1, q_sub (by omega), q_ix (by omega) (by omega), q_cl (by omega), if_neg (by rcases base with b | b; exact absurd b z; exact b)]
  | succ q ih =>
    intro p d s h k G C c29 c27 top base hp hs hG hd
    -- the uppermost one
    have k29 : qyCo h (zst k 0 29 (nI (p + q))) s := ⟨C.1, by rw [q_st_i (by omega)]; exact C.2.1, fun i hi => by rw [q_st_c (by omega), q_st_c (by omega)]; exact C.2.2 i hi⟩
    obtain ⟨h1, k1, a1, a2, a3, a4, a5, a6, a7, a8, a9⟩ := q_emit k29 (show s < 400 by omega) (Or.inr (Or.inr ⟨x, w, mem, rfl, rfl⟩) : qCode (nI x ^^^ (-1 : Int32)) (nI w) 0)
    have f1 : ∀ b j, ¬(b = 0 ∧ (j = 26 ∨ j = 29)) → ¬((b = 14 ∨ b = 15) ∧ j = 800 + s) → k1 b j = k b j := fun b j u v => by
      rw [a9 b j (by omega) v, q_st]
      by_cases z : b = 0
      · rw [if_pos z, if_neg (by omega), z]
      · rw [if_neg z]
    have e29 : k1 0 29 = nI (p + q) := by rw [a9 0 29 (by omega) (by omega), q_st_s]
    have gs : qyGS h h1 s := ⟨a6, a7, fun i hi => a8 i (by omega)⟩
    -- the count of what is open
    have step : ∃ k2, (if nI w = (9 : Int32) then zlt (zst k1 0 27 ((k1 0 27) - (1 : Int32))) fun h3 => f_X11_settles_0_lp (G - 1) (nI w, h3) else f_X11_settles_0_lp (G - 1) (nI w, k1)) = f_X11_settles_0_lp (G - 1) (nI w, k2) ∧ (w = 9 → k2 0 27 = nI (d + q)) ∧ (w ≠ 9 → k2 0 27 = k 0 27) ∧ (∀ b j, ¬(b = 0 ∧ j = 27) → k2 b j = k1 b j) := by
      by_cases z : w = 9
      · refine ⟨zst k1 0 27 (nI (d + q)), ?_, fun _ => q_st_s, fun y => absurd z y, fun b j y => ?_⟩
        · rw [if_pos (show nI w = 9 by rw [z]; rfl), q_lt, f1 0 27 (by omega) (by omega), c27 z, l1, q_sub (by omega), show d + (q + 1) - 1 = d + q by omega]
        · rw [q_st]
          by_cases z0 : b = 0
          · rw [if_pos z0, if_neg (by omega), z0]
          · rw [if_neg z0]
      · exact ⟨k1, by rw [if_neg (show ¬ nI w = 9 from fun y => z ((nI_eq (b := 9) (by omega) (by omega)).mp y))], fun y => absurd y z, fun _ => f1 0 27 (by omega) (by omega), fun _ _ _ => rfl⟩
    obtain ⟨k2, b1, b2, b3, b4⟩ := step
    have C2 : qyCo h1 k2 (s + 1) := ⟨a3.1, by rw [b4 0 26 (by omega)]; exact a3.2.1, fun i hi => by rw [b4 14 _ (by omega), b4 15 _ (by omega)]; exact a3.2.2 i hi⟩
    have f2 : ∀ b j, ¬(b = 0 ∧ (j = 26 ∨ j = 27 ∨ j = 29)) → ¬((b = 14 ∨ b = 15) ∧ j = 800 + s) → k2 b j = k b j := fun b j u v => (b4 b j (by omega)).trans (f1 b j (by omega) v)
    obtain ⟨h', k', g1, g2, g3, g4, g5, g6, g7, g8, g9⟩ := ih p d (s + 1) h1 k2 (G - 1) C2 (by rw [b4 0 29 (by omega)]; exact e29) b2 (fun j u v => by rw [f2 16 j (by omega) (by omega)]; exact top j u (by omega)) (by rw [f2 16 _ (by omega) (by omega)]; exact base) (by omega) (by omega) (by omega) hd
    refine ⟨h', k', ?_, ?_, by rw [show s + (q + 1) = s + 1 + q by omega]; exact g3, g4, g5, fun y => (g6 y).trans (b3 y), fun j u v => ?_, qyGS_tr gs g8 (by omega), fun b j u v => (g9 b j u (by omega)).trans (f2 b j u (by omega))⟩
    · show (f_X1_add 150 _ h).bind _ = _
      rw [a1, q_bd]; exact g1
    · rw [← g2, ← b1]
      unfold f_X11_settles_0_lp
      rw [q_lpS (by omega)]
      show f_X11_settles_0 _ (nI w) k = _
      unfold f_X11_settles_0
      rw [c29, if_pos (show (0 : Int32) < nI (p + (q + 1)) from qlL 0 (by omega) (by omega)), l1, q_sub (by omega), show p + (q + 1) - 1 = p + q by omega, q_ix (by omega) (by omega), q_cl (by omega), if_pos (top (p + q) (by omega) (by omega)), q_lt, a2, q_bd]
    · by_cases z : j = s
      · rw [z, g9 14 _ (by omega) (by omega), b4 14 _ (by omega)]; exact a4
      · exact g7 j (by omega) (by omega)
theorem qyTy_nots {k : zHp} {a s : Nat} {st0 st : List Bool} (Y : qyTy k a st0 (true :: st) s) : ∀ q, (∀ j, s ≤ j → j < s + q → k 14 (800 + j) = nI 9) → qyTy k a st0 (true :: st) (s + q)
  | 0, _ => Y
  | q + 1, e => qyTy_not (qyTy_nots Y q (fun j a b => e j a (by omega))) (e (s + q) (by omega) (by omega))
theorem qyTy_fs {k k' : zHp} {a s : Nat} {st0 st : List Bool} (Y : qyTy k a st0 st s) (F : qyFS k k' s) : qyTy k' a st0 st s :=
  qyTy_c Y (fun i hi => ⟨F 14 _ (by omega) (by omega), F 15 _ (by omega) (by omega)⟩)
end Qsettle
