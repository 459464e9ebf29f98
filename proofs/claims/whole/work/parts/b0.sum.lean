/-! THE LAW's sums: both read one -/
section Qsum
-- the types one code makes
theorem qyTy_num {k : zHp} {a s : Nat} {st0 st : List Bool} (Y : qyTy k a st0 st s) (h : k 14 (800 + s) = 0 ∨ k 14 (800 + s) = 1) (hl : st.length < 26) : qyTy k a st0 (false :: st) (s + 1) :=
  qyTy_s Y (by rw [qTy_1, if_pos h, if_pos hl]; rfl)
theorem qyTy_opr {k : zHp} {a s : Nat} {st0 st : List Bool} {x y : Bool} (Y : qyTy k a st0 (x :: y :: st) s) {o : Nat} (h : k 14 (800 + s) = nI o) (ho : o = 2 ∨ o = 3 ∨ o = 4) : qyTy k a st0 (false :: st) (s + 1) :=
  qyTy_s Y (by
    rw [qTy_1, h]
    rcases ho with z | z | z <;> rw [z] <;> rfl)
theorem qyTy_cmp {k : zHp} {a s : Nat} {st0 st : List Bool} {x y : Bool} (Y : qyTy k a st0 (x :: y :: st) s) {o : Nat} (h : k 14 (800 + s) = nI o) (ho : o = 6 ∨ o = 7 ∨ o = 8) : qyTy k a st0 (true :: st) (s + 1) :=
  qyTy_s Y (by
    rw [qTy_1, h]
    rcases ho with z | z | z <;> rw [z] <;> rfl)
theorem qyTy_not {k : zHp} {a s : Nat} {st0 st : List Bool} (Y : qyTy k a st0 (true :: st) s) (h : k 14 (800 + s) = nI 9) : qyTy k a st0 (true :: st) (s + 1) :=
  qyTy_s Y (by rw [qTy_1, h]; rfl)
theorem qyTy_and {k : zHp} {a s : Nat} {st0 st : List Bool} (Y : qyTy k a st0 (true :: true :: st) s) {o : Nat} (h : k 14 (800 + s) = nI o) (ho : o = 10 ∨ o = 11) : qyTy k a st0 (true :: st) (s + 1) :=
  qyTy_s Y (by
    rw [qTy_1, h]
    rcases ho with z | z <;> rw [z] <;> rfl)
theorem qyTy_div {k : zHp} {a s : Nat} {st0 st : List Bool} {x y : Bool} (Y : qyTy k a st0 (x :: y :: st) (s + 1)) (h : k 14 (800 + (s + 1)) = nI 5) (h1 : k 14 (800 + s) = 0) (h2 : k 15 (800 + s) ≠ 0) : qyTy k a st0 (false :: st) (s + 1 + 1) :=
  qyTy_s Y (by
    have e : (0 < s + 1 ∧ k 14 (800 + (s + 1 - 1)) = 0 ∧ k 15 (800 + (s + 1 - 1)) ≠ 0) := ⟨by omega, h1, h2⟩
    have l5 : nI 5 = 5 := rfl
    rw [qTy_1, h, if_neg (by decide), if_neg (by decide), if_neg (by decide), if_neg (by decide), if_pos l5]
    dsimp only
    rw [if_pos e]; rfl)
theorem qyTy_fl {k k' : zHp} {a s s' : Nat} {st0 st : List Bool} (Y : qyTy k a st0 st s) (F : qyFL k k' s') (hs : s ≤ s') : qyTy k' a st0 st s :=
  qyTy_c Y (fun i hi => ⟨F 14 _ (by omega) (by omega) (by omega), F 15 _ (by omega) (by omega) (by omega)⟩)
/-- the class's draft has at least s codes, at most 400 -/
def qySz (h : zHp) (s : Nat) : Prop := ∃ s', h 150 6 = nI s' ∧ s ≤ s' ∧ s' ≤ 400
theorem qySz.w {h : zHp} {s r : Nat} (a : qySz h s) (hr : r ≤ s) : qySz h r := by
  obtain ⟨s', a1, a2, a3⟩ := a
  exact ⟨s', a1, by omega, a3⟩
def qyBS (h k : zHp) (s : Nat) : Prop := qyBad h k ∧ qySz h s
theorem qyBS.w {h k : zHp} {s r : Nat} (a : qyBS h k s) (hr : r ≤ s) : qyBS h k r := ⟨a.1, a.2.w hr⟩
/-- with a fault codes may still be put in -/
theorem q_addF {h : zHp} {s : Nat} (c1 : h 150 6 = nI s) (hs : s ≤ 400) (p : Int32) : ∃ h' s', f_X1_add 150 p h = some h' ∧ h' 150 6 = nI s' ∧ s ≤ s' ∧ s' ≤ 400 ∧ qyGX h h' s ∧ h' 145 = h 145 := by
  unfold f_X1_add
  rw [c1]
  by_cases z : s < 400
  · have l1 : (1 : Int32) = nI 1 := rfl
    refine ⟨zst (zst h 155 s p) 150 6 (nI (s + 1)), s + 1, ?_, q_st_s, by omega, by omega, ⟨fun x q r w => by rw [q_st_c r, q_st_c w], fun j _ _ _ _ => by rw [q_st_c (by omega), q_st_c (by omega)], fun j hj => by rw [q_st_i hj, q_st_c (by omega)], fun i hi => by rw [q_st_c (by omega), q_st_i (by omega)]⟩, by rw [q_st_c (by omega), q_st_c (by omega)]⟩
    rw [if_pos (show nI s < (400 : Int32) from qlR 400 z (by omega)), q_ix (by omega) (by omega), q_lt, q_lt, q_cl (by omega), q_st_c (by omega), c1, l1, nI_add]
  · exact ⟨h, s, if_neg (show ¬ nI s < (400 : Int32) from qnR 400 (by omega) (by omega)), c1, Nat.le_refl s, hs, qyGX_rf h s, rfl⟩
theorem q_sumF {F : Nat} (hF : 0 < F) (v1 v2 v3 : Int32) {h : zHp} (Fh : qyF h) : f_X6_sumOf_8_lp F (v1, v2, v3, h) = some h := by
  unfold f_X6_sumOf_8_lp
  rw [q_lpS hF]
  show f_X6_sumOf_8 _ v1 v2 v3 h = some h
  unfold f_X6_sumOf_8
  rw [if_neg Fh, ite_self]
theorem q_sumF1 {F : Nat} (hF : 0 < F) (v1 v2 v3 : Int32) {h : zHp} (Fh : qyF h) : f_X6_sumOf_151 (f_X6_sumOf_8_lp F) v1 v2 v3 h = some h := by
  unfold f_X6_sumOf_151
  rw [if_neg Fh]; exact q_sumF hF _ _ _ Fh
theorem q_sumF2 {F : Nat} (hF : 0 < F) (v1 v3 : Int32) {h : zHp} (Fh : qyF h) : f_X6_sumOf_116 (f_X6_sumOf_8_lp F) v1 v3 h = some h := by
  have e : ∀ s0, f_X6_sumOf_143 (f_X6_sumOf_8_lp F) v1 v3 s0 h = some h := fun s0 => by
    unfold f_X6_sumOf_143
    rw [q_sumF1 hF _ _ _ Fh, ite_self]
  unfold f_X6_sumOf_116
  rw [e, e, ite_self, ite_self]
theorem q_sumF3 {F s : Nat} (hF : 0 < F) (v2 v3 : Int32) {h : zHp} (Fh : qyF h) (c1 : h 150 6 = nI s) (hs : s ≤ 400) : ∃ h', f_X6_sumOf_66 (f_X6_sumOf_8_lp F) v2 v3 h = some h' ∧ qyGX h h' s ∧ h' 145 = h 145 ∧ qySz h' s := by
  have e : ∀ s0, ∃ h', f_X6_sumOf_93 (f_X6_sumOf_8_lp F) v2 v3 s0 h = some h' ∧ qyGX h h' s ∧ h' 145 = h 145 ∧ qySz h' s := fun s0 => by
    unfold f_X6_sumOf_93
    by_cases z : s0 = 35
    · rw [if_pos z]
      by_cases y : v2 = 35
      · rw [if_pos y]
        exact ⟨h, q_sumF2 hF _ _ Fh, qyGX_rf h s, rfl, s, c1, Nat.le_refl s, hs⟩
      · rw [if_neg y]
        obtain ⟨h', s', x1, x2, x3, x4, x5, x6⟩ := q_addF c1 hs (v2 ^^^ (-1 : Int32))
        exact ⟨h', by rw [x1, q_bd]; exact q_sumF2 hF _ _ (show ¬ h' 145 12 = 0 by rw [x6]; exact Fh), x5, x6, s', x2, x3, x4⟩
    · rw [if_neg z]
      exact ⟨h, q_sumF1 hF _ _ _ Fh, qyGX_rf h s, rfl, s, c1, Nat.le_refl s, hs⟩
  unfold f_X6_sumOf_66
  split
  · exact e _
  · split
    · exact e _
    · exact e _
theorem q_sumF4 {F s : Nat} (hF : 0 < F) (v1 v2 v3 v : Int32) {h : zHp} (Fh : qyF h) (c1 : h 150 6 = nI s) (hs : s ≤ 400) : ∃ h', f_X6_sumOf_47 (f_X6_sumOf_8_lp F) v1 v2 v3 v h = some h' ∧ qyGX h h' s ∧ h' 145 = h 145 ∧ qySz h' s := by
  obtain ⟨h1, s1, x1, x2, x3, x4, x5, x6⟩ := q_addF c1 hs v
  have F1 : qyF h1 := show ¬ h1 145 12 = 0 by rw [x6]; exact Fh
  unfold f_X6_sumOf_47
  rw [x1, q_bd]
  by_cases z : v1 = 35
  · rw [if_pos z]
    obtain ⟨h2, y1, y2, y3, y4⟩ := q_sumF3 hF v2 v3 F1 x2 x4
    exact ⟨h2, y1, qyGX_tr x5 y2 x3, y3.trans x6, y4.w x3⟩
  · rw [if_neg z]
    obtain ⟨h2, s2, z1, z2, z3, z4, z5, z6⟩ := q_addF x2 x4 (v1 ^^^ (-1 : Int32))
    obtain ⟨h3, y1, y2, y3, y4⟩ := q_sumF3 hF v2 v3 (show ¬ h2 145 12 = 0 by rw [z6]; exact F1) z2 z4
    exact ⟨h3, by rw [z1, q_bd]; exact y1, qyGX_tr x5 (qyGX_tr z5 y2 z3) x3, y3.trans (z6.trans x6), y4.w (by omega)⟩
theorem qyBad_45 {h h' k : zHp} (B : qyBad h k) (e : h' 145 = h 145) : qyBad h' k := by
  obtain ⟨f, f0, f1, f2, f3, f4⟩ := B
  exact ⟨f, f0, f1, by rw [e]; exact f2, f3, by rw [e]; exact f4⟩
/-- the number after a division -/
theorem q_numU {h k : zHp} {t : Nat → Nat} {n T i : Nat} (A : qyAt h k t n T i) : (qyK t n i = 34 → qyV t n i ≠ 0 → f_X6_expectNumber 9999 0 h = f_X6_expectUnit h) ∧ (qyK t n i = 34 → qyV t n i = 0 → ∃ v, f_X6_expectNumber 9999 0 h = (f_X6_fail 2 h).bind fun x => some (v, x)) ∧ (qyK t n i ≠ 34 → ∃ v, f_X6_expectNumber 9999 0 h = (f_X6_fail 1 h).bind fun x => some (v, x)) := by
  have t3 := q_tok3 A
  have row := (A.2.2.2.2.1.2.2.2.2 i A.1).2.1
  have T1 := A.2.2.2.2.1.1
  have i400 : i ≤ 400 := Nat.le_trans A.1 T1
  have kK := qyK_le A
  have start : f_X6_expectNumber 9999 0 h = if qyK t n i = 34 then (if (9999 : Int32) < nI (qyV t n i) then f_X6_expectNumber_46 (nI (qyV t n i)) h else if nI (qyV t n i) = 0 then f_X6_expectNumber_46 (nI (qyV t n i)) h else (f_X6_advance h).bind fun x2 => some (nI (qyV t n i), x2)) else (f_X6_fail 1 h).bind fun x3 => some (nI (qyV t n i), x3) := by
    unfold f_X6_expectNumber
    rw [A.2.2.2.1.1, if_pos rfl, A.2.1, q_ix (by omega) (by omega), q_lt, q_cl (by omega), row]
    by_cases z : qyK t n i = 34
    · rw [if_pos z, if_pos (show h 145 7 = 34 from (q_kne A (w := 34) (by omega)).mpr z)]; rfl
    · rw [if_neg z, if_neg (show ¬ h 145 7 = 34 from fun q => z ((q_kne A (w := 34) (by omega)).mp q))]; rfl
  refine ⟨fun z y => ?_, fun z y => ?_, fun z => ?_⟩
  · have v2 := (t3.2 z).2
    rw [start, if_pos z, if_neg (show ¬ (9999 : Int32) < nI (qyV t n i) from qnL 9999 v2 (by omega)), if_neg (show ¬ nI (qyV t n i) = 0 from nI_ne0 (by omega) (by omega))]
    unfold f_X6_expectUnit f_X6_expectUnit_27
    rw [if_pos (show h 145 7 = 34 from (q_kne A (w := 34) (by omega)).mpr z), A.2.1, q_ix (by omega) (by omega), if_pos (show h 145 7 = 34 from (q_kne A (w := 34) (by omega)).mpr z), q_cl (by omega), row]
    rfl
  · have v2 := (t3.2 z).2
    rw [start, if_pos z, if_neg (show ¬ (9999 : Int32) < nI (qyV t n i) from qnL 9999 v2 (by omega)), if_pos (show nI (qyV t n i) = 0 by rw [y]; rfl)]
    exact ⟨_, rfl⟩
  · rw [start, if_neg z]
    exact ⟨_, rfl⟩
end Qsum
