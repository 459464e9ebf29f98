/-! ON THE PORCH: going, coming, the cat, hush, fading -/
section Qcat
variable {β : zHp × zHp}
theorem q_sub_lt {s d : Nat} : nI s - nI (s + d) = nI 0 - nI d := by
  rw [← nI_add s d, show nI 0 = (0 : Int32) from rfl, Int32.zero_sub, Int32.sub_eq_add_neg, Int32.neg_add, Int32.sub_eq_add_neg, ← Int32.add_assoc, Int32.add_right_neg, Int32.zero_add]
theorem q_neg0 : ∀ d, d < 1001 → 0 < d → (0 : Int32) - nI d < 0 := by decide +kernel
theorem q_neg {s r : Nat} (hr : r ≤ 1000) (h : s < r) : nI s - nI r < 0 := by
  have e := q_sub_lt (s := s) (d := r - s)
  rw [show s + (r - s) = r by omega] at e
  rw [e]
  exact q_neg0 _ (by omega) (by omega)
theorem q_down {s r : Nat} (hs : s ≤ 1000) (hr : r ≤ 1000) (k : zHp) : (if (0 : Int32) < nI s - nI r then nI s - nI r else 0) = nI (s - r) ∧ f_X11_greater 0 (nI s - nI r) k = some (nI (s - r), k) := by
  unfold f_X11_greater
  rcases Nat.lt_or_ge s r with z | z
  · have n := q_neg hr z
    rw [if_neg (fun q => absurd (Int32.lt_trans q n) (by decide)), if_pos n, show s - r = 0 by omega]
    exact ⟨rfl, rfl⟩
  · rw [q_sub z]
    refine ⟨?_, if_neg (nI_pos (by omega))⟩
    rcases Nat.eq_zero_or_pos (s - r) with y | y
    · rw [y]; rfl
    · rw [if_pos (show (0 : Int32) < nI (s - r) from nI_lt (a := 0) (b := s - r) y (by omega))]
theorem q_here {o C P : Nat} {h k : zHp} (X : qCtx h k o C P) : ∃ n S, f_X4_here o h = some (nI n, h) ∧ f_X11_hereSet k = some (nI S, k) ∧ f_X11_onesOf (nI S) k = some (nI n, k) := by
  obtain ⟨⟨x1, x2⟩, xP, xF, -⟩ := X
  have hP := xF.2.1
  obtain ⟨p1, p2, p3, p4, p5, p6, p7, p8⟩ := xP
  have h2P : 2 ^ P ≤ 2 ^ 14 := Nat.pow_le_pow_right (by omega) hP
  have eset : qSet (fun i => decide (h (o + 6) i = 0)) P = qSet (fun i => !(fun i => decide (k 1 (35 + i) ≠ 0)) i) P := by
    refine qSet_congr P (fun i hi => ?_)
    rw [(p8 i hi).2.1]
    simp
  have haw := q_awayX (h := h) (o := o) hP p2
  rw [eset] at haw
  have hset := qSet_lt (fun i => !(fun i => decide (k 1 (35 + i) ≠ 0)) i) P
  have hbc := q_bitCount (x := qSet (fun i => !(fun i => decide (k 1 (35 + i) ≠ 0)) i) P) (by omega)
  rw [qSet_pop _ hP] at hbc
  have hcnt := qCnt_not (fun i => decide (k 1 (35 + i) ≠ 0)) P
  have hset2 := qSet_lt (fun i => decide (k 1 (35 + i) ≠ 0)) P
  have hon := q_onesOf (x := qSet (fun i => decide (k 1 (35 + i) ≠ 0)) P) (by omega) k
  rw [qSet_pop _ hP] at hon
  refine ⟨_, _, ?_, q_hereM hP x2, hon⟩
  unfold f_X4_here
  rw [haw, q_bd]
  dsimp only
  rw [hbc, q_bd, p2]
  dsimp only
  rw [pk_sub (by omega)]
  congr 3
  omega
/-- a person who sits nowhere is here or away -/
theorem qMn_w {o C P p w : Nat} {h k : zHp} (M : qMn β o C P h k) (hp : p < P) (hw : k 1 (35 + p) ≠ 2) (hw' : w ≤ 1) : qMn β o C P (zst h (o + 6) p (nI w)) (zst k 1 (35 + p) (nI w)) := by
  have ho := qMn_o M
  obtain ⟨S, F, T, W, R, N⟩ := qFine_N M.1.2.2.1
  obtain ⟨hC, hP, N3, N4, N5⟩ := id N
  have wp : W p ≠ 2 := fun q => hw (by rw [R.2 p hp, q]; rfl)
  refine qMn_of M (fun a q1 q2 q3 => by rw [q_st_c (by omega)]) (fun a q1 q2 q3 => by rw [q_st_c q1]) (by rw [q_st_i (by omega)]) (by rw [q_st_c (by omega)]) ?_ ?_
  · refine qPo_upP (p := p) (row := k 1) (h := h) hC hP hp (fun a q1 q2 => by rw [q_st_c (by omega)]) (fun d hd => ⟨by rw [q_st_i hd], by rw [q_st_c (by omega)], by rw [q_st_c (by omega)]⟩) (fun i i1 i2 i3 i4 i5 => by rw [q_st_i i3]) ?_ ?_ ?_ M.1.2.1
    · rw [q_st_s, q_st_s]
    · rw [q_st_c (by omega), q_st_i (by omega)]; exact (qCtx_p M.1 hp).2.1
    · rw [q_st_c (by omega), q_st_i (by omega)]; exact (qCtx_p M.1 hp).2.2.1
  · refine qFine_of (S := S) (F := F) (T := T) (W := fun q => if q = p then w else W q) ⟨fun d hd => ?_, fun q hq => ?_⟩ ⟨hC, hP, N3, fun d q hd hq e => ?_, fun q hq => ?_⟩
    · rw [q_st_i (by omega), q_st_i (by omega), q_st_i (by omega)]; exact R.1 d hd
    · dsimp only
      by_cases y : q = p
      · rw [if_pos y, y, q_st_s]
      · rw [if_neg y, q_st_i (by omega)]; exact R.2 q hq
    · dsimp only
      obtain ⟨w1, w2⟩ := N4 d q hd hq e
      rw [if_neg (fun z => wp (by rw [← z]; exact w1))]
      exact ⟨w1, w2⟩
    · dsimp only
      by_cases y : q = p
      · rw [if_pos y]; exact ⟨by omega, by omega⟩
      · rw [if_neg y]; exact N5 q hq
theorem q_isW {o C P p v : Nat} {h k : zHp} (M : qMn β o C P h k) (hp : p < P) (e : k 1 (35 + p) = nI v) (hv : v < 1000) (w : Nat) (hw : w < 1000) : f_X4_is o (nI p) (nI w) h = some (if v = w then nI 1 else nI 0, h) :=
  q_isX M.1.2.2.1.2.1 M.1.2.1.2.1 hp (by rw [(qCtx_p M.1 hp).1, e]) hv hw
theorem q_goAway1 {o C P p : Nat} {h k : zHp} (M : qMn β o C P h k) (hp : p < P) (hw : k 1 (35 + p) = nI 1) : qDo β o C P h k (f_X0_goAway o (nI p) h) (f_X11_goesAway_18 (nI p) k) := by
  have ho := qMn_o M
  have hP := M.1.2.2.1.2.1
  have M1 := qMn_w (w := 0) M hp (by rw [hw]; decide) (by omega)
  obtain ⟨n, S, e1, e2, e3⟩ := q_here M1.1
  have iX := q_isW M hp hw (by omega) 1 (by omega)
  rw [if_pos rfl] at iX
  obtain ⟨h', k', n1, n2, n3⟩ := qDo_n (h := h) (k := k) (w := 3) M1 (fun a q1 q2 q3 q4 q5 => by rw [q_st_c (by omega)]) (fun a q1 q2 q3 q4 => by rw [q_st_c q1]) (by rw [q_st_i (by omega)]) (nI p) (nI n) (by omega)
  refine ⟨h', k', ?_, ?_, n3⟩
  · unfold f_X0_goAway
    simp (disch := omega) only [iX, e1, n1, ↓reduceIte, ↓qM_e, ↓q_rem, q_mod, q_modN, q_lit, q_nI, q_lt, q_bd, q_ix, q_dz, q_iflt, q_ifnlt, q_ifeq, q_ifne, q_ifM, q_ifMM, q_ifMlt, q_ifltM, nI_add, pk_mul, q_sub, q_div, q_cl, q_st_s, q_st_i, q_st_c, Nat.add_zero, Nat.zero_add]
  · unfold f_X11_goesAway_18
    simp (disch := omega) only [e2, e3, n2, ↓reduceIte, ↓qM_e, ↓q_rem, q_mod, q_modN, q_lit, q_nI, q_lt, q_bd, q_ix, q_dz, q_iflt, q_ifnlt, q_ifeq, q_ifne, q_ifM, q_ifMM, q_ifMlt, q_ifltM, nI_add, pk_mul, q_sub, q_div, q_cl, q_st_s, q_st_i, q_st_c, Nat.add_zero, Nat.zero_add]
theorem q_comes {o C P p : Nat} {h k : zHp} (M : qMn β o C P h k) (hp : p < P) (hw : k 1 (35 + p) = nI 0) : qDo β o C P h k (f_X0_comeBack o (nI p) h) (f_X11_comesBack (nI p) k) := by
  have ho := qMn_o M
  have hP := M.1.2.2.1.2.1
  have M1 := qMn_w (w := 1) M hp (by rw [hw]; decide) (by omega)
  obtain ⟨n, S, e1, e2, e3⟩ := q_here M1.1
  have iX := q_isW M hp hw (by omega) 0 (by omega)
  rw [if_pos rfl] at iX
  obtain ⟨h', k', n1, n2, n3⟩ := qDo_n (h := h) (k := k) (w := 4) M1 (fun a q1 q2 q3 q4 q5 => by rw [q_st_c (by omega)]) (fun a q1 q2 q3 q4 => by rw [q_st_c q1]) (by rw [q_st_i (by omega)]) (nI p) (nI n) (by omega)
  refine ⟨h', k', ?_, ?_, n3⟩
  · unfold f_X0_comeBack
    simp (disch := omega) only [iX, e1, n1, ↓reduceIte, ↓qM_e, ↓q_rem, q_mod, q_modN, q_lit, q_nI, q_lt, q_bd, q_ix, q_dz, q_iflt, q_ifnlt, q_ifeq, q_ifne, q_ifM, q_ifMM, q_ifMlt, q_ifltM, nI_add, pk_mul, q_sub, q_div, q_cl, q_st_s, q_st_i, q_st_c, Nat.add_zero, Nat.zero_add]
  · unfold f_X11_comesBack
    simp (disch := omega) only [e2, e3, n2, ↓reduceIte, ↓qM_e, ↓q_rem, q_mod, q_modN, q_lit, q_nI, q_lt, q_bd, q_ix, q_dz, q_iflt, q_ifnlt, q_ifeq, q_ifne, q_ifM, q_ifMM, q_ifMlt, q_ifltM, nI_add, pk_mul, q_sub, q_div, q_cl, q_st_s, q_st_i, q_st_c, Nat.add_zero, Nat.zero_add]
/-- the cat's draw -/
theorem q_happens {o C P r : Nat} {h k : zHp} (M : qMn β o C P h k) (hr : r ≤ 1000) : ∃ (b : Nat) (h' k' : zHp), b < 2 ∧ f_X11_happens (nI r) k = some (nI b, k') ∧ qMn β o C P h' k' ∧ qXm o h h' ∧ qMm k k' ∧ k' 1 0 = k 1 0 ∧ (∀ i, 5 ≤ i → k' 1 i = k 1 i) ∧ (∀ a, a ≠ o → h' a = h a) ∧ ∀ v, (if h o 0 = 0 then (if (0 : Int32) < nI r then (f_X4_draw o (1000 : Int32) h).bind fun x3 => (if x3.1 < nI r then f_X0_letCat_65 o v (1 : Int32) x3.2 else f_X0_letCat_65 o v (0 : Int32) x3.2) else f_X0_letCat_65 o v (0 : Int32) h) else (if nI r < (500 : Int32) then f_X0_letCat_65 o v (0 : Int32) h else f_X0_letCat_65 o v (1 : Int32) h)) = f_X0_letCat_65 o v (nI b) h' := by
  have ho := qMn_o M
  obtain ⟨xC, xB, xO⟩ := id M
  obtain ⟨p1, p2, p3, p4, p5, p6, -, -⟩ := xC.2.1
  have p6' : h o 14 = k 1 1 := p6
  have real : h o 0 = 0 → k 0 5 = 0 → ∃ (b : Nat) (h' k' : zHp), b < 2 ∧ f_X11_happens (nI r) k = some (nI b, k') ∧ qMn β o C P h' k' ∧ qXm o h h' ∧ qMm k k' ∧ k' 1 0 = k 1 0 ∧ (∀ i, 5 ≤ i → k' 1 i = k 1 i) ∧ (∀ a, a ≠ o → h' a = h a) ∧ ∀ v, (if h o 0 = 0 then (if (0 : Int32) < nI r then (f_X4_draw o (1000 : Int32) h).bind fun x3 => (if x3.1 < nI r then f_X0_letCat_65 o v (1 : Int32) x3.2 else f_X0_letCat_65 o v (0 : Int32) x3.2) else f_X0_letCat_65 o v (0 : Int32) h) else (if nI r < (500 : Int32) then f_X0_letCat_65 o v (0 : Int32) h else f_X0_letCat_65 o v (1 : Int32) h)) = f_X0_letCat_65 o v (nI b) h' := by
    intro y1 y2
    unfold f_X11_happens
    rw [if_pos y2]
    rcases Nat.eq_zero_or_pos r with z | z
    · subst z
      refine ⟨0, h, k, by omega, if_neg (by decide), M, fun _ _ _ _ _ _ => rfl, fun _ _ _ _ _ => rfl, rfl, fun _ _ => rfl, fun _ _ => rfl, fun v => ?_⟩
      rw [if_pos y1, if_neg (by decide)]; rfl
    · have z' : (0 : Int32) < nI r := nI_lt (a := 0) (b := r) z (by omega)
      obtain ⟨s, hs⟩ : ∃ s : Int32, s = 1664525 * k 1 1 + 1013904223 := ⟨_, rfl⟩
      obtain ⟨d, hd⟩ : ∃ d : Int32, d = ((s.toUInt32 >>> ((8 : Int32).toUInt32 &&& Int32.toUInt32 31)).toInt32) - ((s.toUInt32 >>> ((8 : Int32).toUInt32 &&& Int32.toUInt32 31)).toInt32) / 1000 * 1000 := ⟨_, rfl⟩
      have dX : f_X4_draw o (1000 : Int32) h = some (d, zst h o 14 s) := by
        unfold f_X4_draw
        rw [q_lt, if_pos (by decide), p6', Int32.mul_comm, ← hs, q_st_s]
        rw [show (1000 : Int32) = nI 1000 from rfl, q_dz (by omega) (by omega), hd]
        rfl
      have dM : f_X11_draw (1000 : Int32) k = some (d, zst k 1 1 s) := by
        unfold f_X11_draw
        rw [show (1 : Int32) = nI 1 from rfl, q_ix (by omega) (by omega), q_ix (by omega) (by omega), q_lt, q_ix (by omega) (by omega), q_cl (by omega), ← hs, q_st_s]
        rw [show (1000 : Int32) = nI 1000 from rfl, q_dz (by omega) (by omega), hd]
        rfl
      have M1 : qMn β o C P (zst h o 14 s) (zst k 1 1 s) := qMn_lo M (fun a q1 _ _ => q_st_c q1) (fun a q1 _ _ => q_st_c q1) (fun i hi => q_st_i (by omega)) (q_st_i (by omega)) (q_st_i (by omega)) (q_st_i (by omega)) (q_st_i (by omega)) (by rw [q_st_i (by omega), q_st_i (by omega)]; exact p3) (by rw [q_st_i (by omega), q_st_i (by omega)]; exact p4) (by rw [q_st_i (by omega), q_st_i (by omega)]; exact p5) (by rw [q_st_s, q_st_s])
      rw [if_pos z', dM, q_bd]
      dsimp only
      by_cases w : d < nI r
      · refine ⟨1, zst h o 14 s, zst k 1 1 s, by omega, if_pos w, M1, fun a a1 _ _ _ _ => q_st_c (by omega), fun a a1 _ _ _ => q_st_c a1, q_st_i (by omega), fun i hi => q_st_i (by omega), fun a ha => q_st_c ha, fun v => ?_⟩
        rw [if_pos y1, if_pos z', dX, q_bd]
        dsimp only
        rw [if_pos w]; rfl
      · refine ⟨0, zst h o 14 s, zst k 1 1 s, by omega, if_neg w, M1, fun a a1 _ _ _ _ => q_st_c (by omega), fun a a1 _ _ _ => q_st_c a1, q_st_i (by omega), fun i hi => q_st_i (by omega), fun a ha => q_st_c ha, fun v => ?_⟩
        rw [if_pos y1, if_pos z', dX, q_bd]
        dsimp only
        rw [if_neg w]; rfl
  rcases xO with ⟨eo, y1, y2⟩ | ⟨eo, y1, y2, -⟩
  · exact real (by rw [eo]; exact y1) y2
  · unfold f_X11_happens
    rw [if_neg (by rw [y2]; decide), show (2 : Int32) = nI 2 from rfl, pk_mul]
    rcases Nat.lt_or_ge r 500 with z | z
    · refine ⟨0, h, k, by omega, if_pos (show nI (2 * r) < nI 1000 from nI_lt (by omega) (by omega)), M, fun _ _ _ _ _ _ => rfl, fun _ _ _ _ _ => rfl, rfl, fun _ _ => rfl, fun _ _ => rfl, fun v => ?_⟩
      rw [if_neg (by rw [eo, y1]; decide), if_pos (show nI r < (500 : Int32) from nI_lt (b := 500) z (by omega))]; rfl
    · refine ⟨1, h, k, by omega, if_neg (show ¬ nI (2 * r) < nI 1000 from nI_nlt (by omega) (by omega)), M, fun _ _ _ _ _ _ => rfl, fun _ _ _ _ _ => rfl, rfl, fun _ _ => rfl, fun _ _ => rfl, fun v => ?_⟩
      rw [if_neg (by rw [eo, y1]; decide), if_neg (show ¬ nI r < (500 : Int32) from nI_nlt (b := 500) z (by omega))]; rfl
end Qcat
