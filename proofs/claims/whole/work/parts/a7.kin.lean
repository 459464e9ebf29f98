/-! LINES of KIN: both; line by line -/
section Qkin2
def qyMk (h k : zHp) (P c : Nat) : Prop := (∀ x, x < c → ∃ a b, a < P ∧ b < P ∧ h 158 (4 * x + 2) = nI a ∧ h 158 (4 * x + 3) = nI b) ∧ ∀ p, p < 14 → k 19 (14 + p) = qMind (h 158) (nI p) c
theorem qMind_c {f g : Nat → Int32} {p : Int32} : ∀ c, (∀ j, j < 4 * c → g j = f j) → qMind g p c = qMind f p c
  | 0, _ => rfl
  | c + 1, H => by rw [qMind_s, qMind_s, qMind_c c (fun j hj => H j (by omega)), H _ (by omega), H _ (by omega)]
theorem q_kinLine {h k : zHp} {t : Nat → Nat} {n T i c P : Nat} (A : qyAt h k t n T i) (hc : c < 16) (c2 : h 157 2 = nI c) (c0 : h 157 0 = 16) (x9 : h 145 9 = nI P) (k7 : k 0 7 = nI P) (hP : P ≤ 14) (M : qyMk h k P c) : ∃ h' k', f_X6_kinLine h = some h' ∧ qyFX h h' ∧ qyFC k k' 19 14 ∧ ((f_X11_readKinOne k = some (0, k') ∧ (∃ i', qyAt h' k' t n T i') ∧ h' 157 2 = nI (c + 1) ∧ qyMk h' k' P (c + 1)) ∨ (f_X11_readKinOne k = some (qM, k') ∧ qyBad h' k')) := by
  have l1 : (1 : Int32) = nI 1 := rfl
  unfold f_X6_kinLine f_X11_readKinOne
  rw [q_lin c2 hc, k7]
  obtain ⟨h1, v1, h2, k2, e1, e1b, e1c, e2, X1, R1⟩ := q_told A (w := 17) (B := P) (by omega) (by omega)
  have e1' : f_X6_expect 17 h = some h1 := e1
  have e2' : f_X6_expectNumber (h1 145 9 - 1) (-1) h1 = some (v1, h2) := by rw [e1c, x9]; exact e2
  rw [e1', q_bd, e2', q_bd]
  dsimp only
  rcases R1 with ⟨a, a1, rfl, r1, A1, M1⟩ | ⟨r1, B1, M1⟩
  rotate_left
  · have r1' : f_X11_readTold 17 0 (nI P - 1) k = some (qM, k2) := r1
    refine ⟨h2, k2, ?_, X1.fx, M1.fc, Or.inr ⟨?_, B1⟩⟩
    · rw [q_expB B1.f, q_bd, q_numB B1.f, q_bd, q_cloB B1.f, q_bd]
    · rw [r1', q_bd]; exact if_pos rfl
  have r1' : f_X11_readTold 17 0 (nI P - 1) k = some (nI a, k2) := r1
  have w10 : f_X11_isWord 10 k2 = some (nI (if qyK t n (i + 2) = 6 then 1 else 0), k2) := q_isWd A1 (w := 6) (by omega)
  have z9 : h2 145 9 = nI P := by rw [X1.2 9 (by omega) (by omega) (by omega) (by omega)]; exact x9
  rw [r1', q_bd, if_neg (q_nM a (by omega)), w10, q_bd]
  dsimp only
  by_cases e : qyK t n (i + 2) = 6
  rotate_left
  · obtain ⟨h5, k6', x1, x2, Bd, X3, M3⟩ := q_expN A1 (w := 6) (by omega) e
    have x1' : f_X6_expect 6 h2 = some h5 := x1
    have x2' : f_X11_errs 1 k2 = some (qM, k6') := x2
    rw [x1', q_bd, q_numB Bd.f, q_bd, q_cloB Bd.f, q_bd, if_neg e, if_pos (show nI 0 = 0 from rfl), x2', q_bd]
    exact ⟨h5, k6', rfl, qyFX_tr X1.fx X3.fx, qyFC_tr M1.fe.fc (qyFE_e M3).fc, Or.inr ⟨rfl, Bd⟩⟩
  obtain ⟨h5, k5, x1, x2, A2, X3, M3⟩ := q_expY A1 (w := 6) (by omega) e
  have x1' : f_X6_expect 6 h2 = some h5 := x1
  rw [x1', q_bd, if_pos e, if_neg (show ¬ nI 1 = 0 by decide), x2, q_bd]
  have b9 : h5 145 9 = nI P := by rw [X3.2 9 (by omega) (by omega) (by omega) (by omega)]; exact z9
  have b2 : h5 157 2 = nI c := by rw [X3.1 157 (by omega), X1.1 157 (by omega)]; exact c2
  have b0 : h5 157 0 = 16 := by rw [X3.1 157 (by omega), X1.1 157 (by omega)]; exact c0
  have FX : qyFX h h5 := qyFX_tr X1.fx X3.fx
  have FL : ∀ j, h5 158 j = h 158 j := fun j => by rw [X3.1 158 (by omega), X1.1 158 (by omega)]
  have FE : qyFE k k5 := qyFE_tr M1.fe M3.fe
  have c7 : k5 0 7 = nI P := by rw [FE 0 7 (by omega)]; exact k7
  have t3 := q_tok3 A2
  rw [b9]
  -- the same one
  by_cases same : qyK t n (i + 2 + 1) = 34 ∧ qyV t n (i + 2 + 1) = a
  · obtain ⟨v1, v2⟩ := t3.2 same.1
    obtain ⟨h6, k6, y1, y2, Bd, X4, M4⟩ := q_failX A2 (f := 2) (by omega) (by omega)
    have y1' : f_X6_fail 2 h5 = some h6 := y1
    have y2' : f_X11_errs 2 k5 = some (qM, k6) := y2
    have row := (A2.2.2.2.2.1.2.2.2.2 _ A2.1).2.1
    have T1 := A2.2.2.2.2.1.1
    have i400 : i + 2 + 1 ≤ 400 := Nat.le_trans A2.1 T1
    have nm : f_X6_expectNumber (nI P - 1) (nI a) h5 = some (nI a, h6) := by
      unfold f_X6_expectNumber f_X6_expectNumber_46
      rw [A2.2.2.2.1.1, if_pos rfl, A2.2.1, q_ix (by omega) (by omega), q_lt, q_cl (by omega), show h5 148 (i + 2 + 1) = nI a by rw [row]; exact congrArg nI same.2, if_pos (show h5 145 7 = (34 : Int32) from (q_kne A2 (w := 34) (by omega)).mpr same.1), if_neg (fun q => by have := (q_bnd (by omega) (by omega)).mp q; omega), if_pos rfl, y1', q_bd]
    rw [nm, q_bd, if_pos (t3.1.mpr same.1), if_pos (show k5 0 16 = nI a by rw [v1, same.2]), y2', q_bd]
    dsimp only
    rw [q_cloB Bd.f, q_bd]
    exact ⟨h6, k6, rfl, qyFX_tr FX X4.fx, qyFC_tr FE.fc (qyFE_e M4).fc, Or.inr ⟨rfl, Bd⟩⟩
  have ref : (if k5 0 15 = (3 : Int32) then (if k5 0 16 = nI a then (f_X11_errs (2 : Int32) k5).bind fun x5 => some (x5.1, x5.2) else f_X11_readKinOne_62 (nI a) k5) else f_X11_readKinOne_62 (nI a) k5) = f_X11_readKinOne_62 (nI a) k5 := by
    by_cases y : qyK t n (i + 2 + 1) = 34
    · obtain ⟨v1, v2⟩ := t3.2 y
      rw [if_pos (t3.1.mpr y), if_neg (fun q => same ⟨y, by rw [v1] at q; exact (nI_eq (by omega) (by omega)).mp q⟩)]
    · rw [if_neg (fun q => y (t3.1.mp q))]
  rw [ref]
  unfold f_X11_readKinOne_62
  rw [c7]
  rcases q_num A2 (B := P) (by omega) (nI a) (fun z1 _ q => same ⟨z1, by
    have := (t3.2 z1).2
    exact (nI_eq (by omega) (by omega)).mp q⟩) with ⟨h6, k6, v1, y1, y2, -, A3, X4, M4⟩ | ⟨v, h6, k6, y1, y2, Bd, X4, M4⟩
  rotate_left
  · have y2' : f_X11_readNumber 0 (nI P - 1) k5 = some (qM, k6) := y2
    rw [y1, q_bd, y2', q_bd]
    dsimp only
    rw [q_cloB Bd.f, q_bd]
    exact ⟨h6, k6, rfl, qyFX_tr FX X4.fx, qyFC_tr FE.fc (qyFE_e M4).fc, Or.inr ⟨if_pos rfl, Bd⟩⟩
  obtain ⟨b, hb⟩ : ∃ b, b = qyV t n (i + 2 + 1) := ⟨_, rfl⟩
  rw [← hb] at v1 y1 y2
  have y2' : f_X11_readNumber 0 (nI P - 1) k5 = some (nI b, k6) := y2
  rw [y1, q_bd, y2', q_bd]
  dsimp only
  have old : k6 19 (14 + b) = qMind (h 158) (nI b) c := by rw [M4 19 _ (by omega), FE 19 _ (by omega)]; exact M.2 b (by omega)
  obtain ⟨h7, k7', s1, s2, s3, s4⟩ := q_close (k := zst k6 19 (14 + b) (qMind (h 158) (nI b) c ||| ((1 : Int32) <<< (nI a &&& 31)))) (qyAt_st A3 (by omega)) hc (by rw [X4.1 157 (by omega)]; exact b2) (by rw [X4.1 157 (by omega)]; exact b0) 0 6 (nI a) (nI b)
  have s1' : f_X6_closeLine 0 6 (nI a) (nI b) h6 = some h7 := s1
  rw [s1', q_bd, if_neg (q_nM b (by omega)), show (14 : Int32) = nI 14 from rfl, nI_add, q_ix (by omega) (by omega), q_ix (by omega) (by omega), q_cl (by omega), old, q_lt]
  refine ⟨h7, k7', rfl, qyFX_tr FX (qyFX_tr X4.fx s2), ?_, ?_⟩
  · rcases s4 with ⟨-, -, s6, -⟩ | ⟨-, -, s6⟩
    · exact qyFC_tr FE.fc (qyFC_tr M4.fe.fc (qyFC_tr (qyFC_st (by omega)) s6.fe.fc))
    · exact qyFC_tr FE.fc (qyFC_tr M4.fe.fc (qyFC_tr (qyFC_st (by omega)) s6.fc))
  rcases s4 with ⟨s5, s6, s7, s8, s9, s10, s11, s12⟩ | ⟨s5, s6, -⟩
  · have s5' : f_X11_readMark 59 (zst k6 19 (14 + b) (qMind (h 158) (nI b) c ||| ((1 : Int32) <<< (nI a &&& 31)))) = some (0, k7') := s5
    have L : ∀ j, j < 4 * c → h7 158 j = h 158 j := fun j hj => by rw [s3 j (by omega), X4.1 158 (by omega), FL]
    refine Or.inl ⟨by rw [s5']; rfl, ⟨_, s6⟩, s8, fun x hx => ?_, fun p hp => ?_⟩
    · by_cases z : x = c
      · rw [z]; exact ⟨a, b, a1, v1, s11, s12⟩
      · rw [L _ (by omega), L _ (by omega)]; exact M.1 x (by omega)
    · rw [qMind_s, s12, s11, qMind_c c L, s7 19 _ (by omega)]
      by_cases z : p = b
      · rw [z, q_st_s, if_pos rfl]
      · rw [q_st_i (by omega), M4 19 _ (by omega), FE 19 _ (by omega), if_neg (fun q => z ((nI_eq (by omega) (by omega)).mp q).symm)]
        exact M.2 p hp
  · have s5' : f_X11_readMark 59 (zst k6 19 (14 + b) (qMind (h 158) (nI b) c ||| ((1 : Int32) <<< (nI a &&& 31)))) = some (qM, k7') := s5
    exact Or.inr ⟨by rw [s5']; rfl, s6⟩
/-- two loops in step, of which the first one may need one turn more to end -/
theorem q_exit3 {V1 R1 V2 R2 : Type} {b1 : (V1 → Option R1) → V1 → Option R1} {b2 : (V2 → Option R2) → V2 → Option R2} (I : Nat → V1 → V2 → Prop) (N : Nat) (Q : Option R1 → Option R2 → Prop) (hs : ∀ j v w, j ≤ N → I j v w → (j < N ∧ ∃ v' w', (∀ rec : V1 → Option R1, b1 rec v = rec v') ∧ (∀ rec : V2 → Option R2, b2 rec w = rec w') ∧ I (j + 1) v' w') ∨ (∃ r s, ((∀ rec : V1 → Option R1, b1 rec v = r) ∨ ∃ v', (∀ rec : V1 → Option R1, b1 rec v = rec v') ∧ ∀ rec : V1 → Option R1, b1 rec v' = r) ∧ (∀ rec : V2 → Option R2, b2 rec w = s) ∧ Q r s)) (v : V1) (w : V2) (h0 : I 0 v w) (F G : Nat) (hF : N + 1 < F) (hG : N < G) : Q (zlp b1 F v) (zlp b2 G w) := by
  have H : ∀ m j F G v w, j + m = N → m + 1 < F → m < G → I j v w → Q (zlp b1 F v) (zlp b2 G w) := by
    intro m
    induction m with
    | zero =>
      intro j F G v w hj hF hG hI
      obtain ⟨F', rfl⟩ : ∃ F', F = F' + 1 + 1 := ⟨F - 2, by omega⟩
      obtain ⟨G', rfl⟩ : ∃ G', G = G' + 1 := ⟨G - 1, by omega⟩
      show Q (b1 (zlp b1 (F' + 1)) v) (b2 (zlp b2 G') w)
      rcases hs j v w (by omega) hI with ⟨z, -⟩ | ⟨r, s, h1, h2, h3⟩
      · omega
      · rw [h2]
        rcases h1 with h1 | ⟨v', h1, h4⟩
        · rw [h1]; exact h3
        · rw [h1]
          show Q (b1 (zlp b1 F') v') s
          rw [h4]; exact h3
    | succ m ih =>
      intro j F G v w hj hF hG hI
      obtain ⟨F', rfl⟩ : ∃ F', F = F' + 1 + 1 := ⟨F - 2, by omega⟩
      obtain ⟨G', rfl⟩ : ∃ G', G = G' + 1 := ⟨G - 1, by omega⟩
      show Q (b1 (zlp b1 (F' + 1)) v) (b2 (zlp b2 G') w)
      rcases hs j v w (by omega) hI with ⟨-, v', w', h1, h2, h3⟩ | ⟨r, s, h1, h2, h3⟩
      · rw [h1, h2]; exact ih (j + 1) (F' + 1) G' v' w' (by omega) (by omega) (by omega) h3
      · rw [h2]
        rcases h1 with h1 | ⟨v', h1, h4⟩
        · rw [h1]; exact h3
        · rw [h1]
          show Q (b1 (zlp b1 F') v') s
          rw [h4]; exact h3
  exact H N 0 F G v w (by omega) hF hG h0
/-- how a reading ends: c lines, or a fault -/
def qyEnd (h k : zHp) (b d : Nat) (Row : zHp → zHp → Nat → Prop) (x y : Option (Int32 × zHp)) : Prop := ∃ h' k', qyFX h h' ∧ qyFC k k' b d ∧ ((∃ c, c ≤ 16 ∧ x = some (nI c, zst h' 145 1 0) ∧ y = some (nI c, k') ∧ h' 145 12 = 0 ∧ h' 145 13 = h 145 13 ∧ h' 157 2 = nI c ∧ Row h' k' c) ∨ (x = some (-1, zst h' 145 1 0) ∧ y = some (qM, k') ∧ qyBad h' k'))
theorem q_147 {h : zHp} (k : Nat) (hk : k < 4) : f_X6_read_147 (nI k) 1 h = some (if h 145 12 = 0 then (if k = 0 then h 150 7 else h 157 2) else -1, zst h 145 1 0) := by
  unfold f_X6_read_147
  rw [q_lt, if_neg (show ¬ (1 : Int32) = 0 by decide), q_st_i (by omega), q_st_c (by omega), q_st_c (by omega)]
  by_cases z : h 145 12 = 0
  · rw [if_pos z, if_pos z]
    by_cases y : k = 0
    · rw [if_pos y, if_pos (show nI k = 0 by rw [y]; rfl)]
    · rw [if_neg y, if_neg (nI_ne0 (by omega) (by omega))]
  · rw [if_neg z, if_neg z]
end Qkin2
