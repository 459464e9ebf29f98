/-! what the relation looks at -/
section Qcong
/-- the places that the relation looks at are as they were -/
def qAs (k k' : zHp) : Prop := ∀ a i, qPos a i ≠ none → k' a i = k a i
theorem qAs_rf (k : zHp) : qAs k k := fun _ _ _ => rfl
theorem qAs_un {k k' : zHp} (h : k' 38 = k 38) : qAs (qUn k) (qUn k') := by
  intro a i hp
  unfold qUn
  cases e : qPos a i with
  | none => exact absurd e hp
  | some p => show k' 38 p = k 38 p; rw [h]
theorem qPo_c {h h' : zHp} {o : Nat} {row row' run run' dear dear' : Nat → Int32} {C P : Nat} (hC : C ≤ 10) (hP : P ≤ 14) (e : ∀ a, o ≤ a → a ≤ o + 8 → h' a = h a) (f : ∀ i, i < 77 → row' i = row i) (g1 : ∀ i, i < 10 → run' i = run i) (g2 : ∀ i, i < 14 → dear' i = dear i) (H : qPo h o row run dear C P) : qPo h' o row' run' dear' C P := by
  unfold qPo at *
  obtain ⟨a1, a2, a3, a4, a5, a6, a7, a8⟩ := H
  rw [e o (by omega) (by omega), f 3 (by omega), f 4 (by omega), f 0 (by omega), f 1 (by omega)]
  refine ⟨a1, a2, a3, a4, a5, a6, fun c hc => ?_, fun p hp => ?_⟩
  · rw [e (o + 1) (by omega) (by omega), e (o + 2) (by omega) (by omega), e (o + 3) (by omega) (by omega), e (o + 4) (by omega) (by omega), f _ (by omega), f _ (by omega), f _ (by omega), g1 _ (by omega)]
    exact a7 c hc
  · rw [e (o + 5) (by omega) (by omega), e (o + 6) (by omega) (by omega), e (o + 7) (by omega) (by omega), e (o + 8) (by omega) (by omega), f _ (by omega), f _ (by omega), f _ (by omega), g2 _ (by omega)]
    exact a8 p hp
theorem qFine_c {row row' : Nat → Int32} {C P : Nat} (f : ∀ i, 5 ≤ i → i < 49 → row' i = row i) (H : qFine row C P) : qFine row' C P := by
  obtain ⟨a1, a2, a3, a4, a5⟩ := H
  refine ⟨a1, a2, fun c hc => ?_, fun c p hc hp => ?_, fun p hp => ?_⟩
  · rw [f _ (by omega) (by omega), f _ (by omega) (by omega), f _ (by omega) (by omega)]
    exact a3 c hc
  · rw [f _ (by omega) (by omega), f _ (by omega) (by omega)]
    intro z
    obtain ⟨z1, z2⟩ := a4 c p hc hp z
    refine ⟨z1, fun d hd => ?_⟩
    rw [f _ (by omega) (by omega)]
    exact z2 d hd
  · rw [f _ (by omega) (by omega)]
    obtain ⟨z1, z2⟩ := a5 p hp
    refine ⟨z1, fun z => ?_⟩
    obtain ⟨c, c1, c2⟩ := z2 z
    exact ⟨c, c1, by rw [f _ (by omega) (by omega)]; exact c2⟩
theorem qP_some {a i p : Nat} (h : qPos a i = some p) : qPos a i ≠ none := by rw [h]; exact fun e => by cases e
theorem qP_1 {i : Nat} (h : i < 77) : qPos 1 i ≠ none := by simp [qPos, h]
theorem qP_4 {i : Nat} (h : i < 10) : qPos 4 i ≠ none := by simp [qPos, h]
theorem qP_5 {i : Nat} (h : i < 14) : qPos 5 i ≠ none := by simp [qPos, h]
theorem qP_19 {i : Nat} (h : i < 14) : qPos 19 i ≠ none := by simp [qPos, h]
theorem qP_6 {i : Nat} (h : i < 600) : qPos 6 i ≠ none := by simp [qPos, h]
theorem qP_17 {i : Nat} (h : i < 64) : qPos 17 i ≠ none := by simp [qPos, h]
theorem qP_18 {i : Nat} (h : i < 48) : qPos 18 i ≠ none := by simp [qPos, h]
theorem qP_22 {i : Nat} (h : i < 4) : qPos 22 i ≠ none := by simp [qPos, h]
theorem qP_23 {i : Nat} (h : i < 4) : qPos 23 i ≠ none := by simp [qPos, h]
theorem qP_24 {i : Nat} (h : i < 10) : qPos 24 i ≠ none := by simp [qPos, h]
theorem qP_25 {i : Nat} (h : i < 10) : qPos 25 i ≠ none := by simp [qPos, h]
theorem qP_27 {i : Nat} (h : i < 8) : qPos 27 i ≠ none := by simp [qPos, h]
theorem qP_28 {i : Nat} (h : i < 8) : qPos 28 i ≠ none := by simp [qPos, h]
theorem qP_29 {i : Nat} (h : i < 36) : qPos 29 i ≠ none := by simp [qPos, h]
theorem qP_32 {i : Nat} (h : i < 9) : qPos 32 i ≠ none := by simp [qPos, h]
theorem qP_35 {i : Nat} (h : i < 10) : qPos 35 i ≠ none := by simp [qPos, h]
theorem qP_36 {i : Nat} (h : i < 6) : qPos 36 i ≠ none := by simp [qPos, h]
theorem qP_10 {i : Nat} (h : i < 16) : qPos 10 i ≠ none := by simp [qPos, h]
theorem qP_11 {i : Nat} (h : i < 16) : qPos 11 i ≠ none := by simp [qPos, h]
theorem qP_12 {i : Nat} (h : i < 16) : qPos 12 i ≠ none := by simp [qPos, h]
theorem qP_13 {i : Nat} (h : i < 16) : qPos 13 i ≠ none := by simp [qPos, h]
theorem qP_14 {i : Nat} (h : i < 400) : qPos 14 i ≠ none := by simp [qPos, h]
theorem qP_15 {i : Nat} (h : i < 400) : qPos 15 i ≠ none := by simp [qPos, h]
theorem qP_9 : qPos 9 0 ≠ none := by simp [qPos]
theorem qP_s {i : Nat} (h : i ∈ [6, 7, 34, 36, 38, 42, 45, 49, 56, 60, 62]) : qPos 0 i ≠ none := by
  simp only [List.mem_cons, List.not_mem_nil, or_false] at h
  rcases h with rfl | rfl | rfl | rfl | rfl | rfl | rfl | rfl | rfl | rfl | rfl <;> decide
theorem qTy_c {o v o' v' : Nat → Int32} : ∀ (n i : Nat) (st : List Bool), (∀ j, i ≤ j + 1 → j < i + n → o' j = o j ∧ v' j = v j) → qTy o' v' i n st = qTy o v i n st
  | 0, i, st, _ => by unfold qTy; rfl
  | n + 1, i, st, H => by
    have h0 := (H i (by omega) (by omega)).1
    have ih : ∀ st, qTy o' v' (i + 1) n st = qTy o v (i + 1) n st := fun st => qTy_c n (i + 1) st (fun j h1 h2 => H j (by omega) (by omega))
    have e1 : (0 < i ∧ o' (i - 1) = 0 ∧ v' (i - 1) ≠ 0) = (0 < i ∧ o (i - 1) = 0 ∧ v (i - 1) ≠ 0) := by
      by_cases hi : 0 < i
      · obtain ⟨z1, z2⟩ := H (i - 1) (by omega) (by omega)
        rw [z1, z2]
      · simp [hi]
    unfold qTy
    simp only [h0, ih, e1]
theorem qCode_c {p o a p' o' a' : Int32} (e1 : p' = p) (e2 : o' = o) (e3 : a' = a) (H : qCode p o a) : qCode p' o' a' := by rw [e1, e2, e3]; exact H
theorem qLaw_c {h h' k k' : zHp} {o : Nat} (e : ∀ a, o ≤ a → a ≤ o + 5 → h' a = h a) (f : qAs k k') (H : qLaw h o k) : qLaw h' o k' := by
  obtain ⟨n, sz, h1, h2, h3, h4, h5, h6⟩ := H
  refine ⟨n, sz, h1, h2, by rw [e o (by omega) (by omega)]; exact h3, by rw [f 9 0 qP_9]; exact h4, fun i hi => ?_, fun i hi => ?_⟩
  · rw [e (o + 5) (by omega) (by omega), f 14 i (qP_14 (by omega)), f 15 i (qP_15 (by omega))]
    exact h5 i hi
  · obtain ⟨wd, a, b, c, w1, w2, w3, w4, x1, x2, x3, x4, x5, x6, x7, x8, x9, x10⟩ := h6 i hi
    refine ⟨wd, a, b, c, w1, w2, w3, w4, ?_⟩
    rw [e (o + 1) (by omega) (by omega), e (o + 2) (by omega) (by omega), e (o + 3) (by omega) (by omega), e (o + 4) (by omega) (by omega), f 10 i (qP_10 (by omega)), f 11 i (qP_11 (by omega)), f 12 i (qP_12 (by omega)), f 13 i (qP_13 (by omega))]
    refine ⟨x1, x2, x3, x4, x5, x6, x7, x8, ?_, ?_⟩
    · rw [qTy_c (o := k 14) (v := k 15) _ _ _ (fun j j1 j2 => ⟨f 14 j (qP_14 (by omega)), f 15 j (qP_15 (by omega))⟩)]
      exact x9
    · rw [qTy_c (o := k 14) (v := k 15) _ _ _ (fun j j1 j2 => ⟨f 14 j (qP_14 (by omega)), f 15 j (qP_15 (by omega))⟩)]
      exact x10
theorem qBook_c {h h' k k' : zHp} {w : Nat} (e1 : h' (w + 10) = h (w + 10)) (e2 : h' (w + 11) = h (w + 11)) (f : qAs k k') (H : qBook h w k) : qBook h' w k' := by
  obtain ⟨h0, ⟨n, h1, h2, h3⟩, h4⟩ := H
  exact ⟨by rw [e1]; exact h0, ⟨n, h1, by rw [e1]; exact h2, by rw [f 1 2 (qP_1 (by omega))]; exact h3⟩, fun i hi => by rw [e2, f 6 i (qP_6 hi)]; exact h4 i hi⟩
theorem qCalls_c {h h' : zHp} {o n C P : Nat} {a a' : Nat → Int32} (e1 : h' o = h o) (e2 : h' (o + 1) = h (o + 1)) (f : ∀ i, i < 64 → a' i = a i) (H : qCalls h o n a C P) : qCalls h' o n a' C P := by
  obtain ⟨h0, h1, h2, h3⟩ := H
  refine ⟨by rw [e1]; exact h0, by rw [e1]; exact h1, h2, fun i hi => ?_⟩
  rw [e2, f _ (by omega), f _ (by omega), f _ (by omega), f _ (by omega)]
  exact h3 i hi
theorem qHouse_c {h h' : zHp} {o n C : Nat} {a a' : Nat → Int32} (e1 : h' o = h o) (e2 : h' (o + 1) = h (o + 1)) (f : ∀ i, i < 48 → a' i = a i) (H : qHouse h o n a C) : qHouse h' o n a' C := by
  obtain ⟨h0, h1, h2, h3⟩ := H
  refine ⟨by rw [e1]; exact h0, by rw [e1]; exact h1, h2, fun i hi => ?_⟩
  rw [e2, f _ (by omega), f _ (by omega), f _ (by omega)]
  exact h3 i hi
theorem qKin_c {h h' : zHp} {o n P : Nat} {a a' : Nat → Int32} (hP : P ≤ 14) (e1 : h' o = h o) (e2 : h' (o + 1) = h (o + 1)) (f : ∀ i, i < 14 → a' i = a i) (H : qKin h o n a P) : qKin h' o n a' P := by
  obtain ⟨h0, h1, h2, h3, h4⟩ := H
  refine ⟨by rw [e1]; exact h0, by rw [e1]; exact h1, h2, fun i hi => ?_, fun p hp => ?_⟩
  · rw [e2]; exact h3 i hi
  · rw [e2, f _ (by omega)]; exact h4 p hp
theorem qTicks_c {h h' k k' : zHp} {o : Nat} (e1 : h' o = h o) (e2 : h' (o + 1) = h (o + 1)) (f : qAs k k') (H : qTicks h o k) : qTicks h' o k' := by
  obtain ⟨n, h1, h2, h3, h4⟩ := H
  refine ⟨n, h1, by rw [e1]; exact h2, by rw [f 0 42 (qP_s (by decide))]; exact h3, fun i hi => ?_⟩
  rw [e2, f 22 i (qP_22 (by omega)), f 23 i (qP_23 (by omega))]
  exact h4 i hi
theorem qWont_c {h h' k k' : zHp} {o : Nat} (e1 : h' o = h o) (e2 : h' (o + 1) = h (o + 1)) (f : qAs k k') (H : qWont h o k) : qWont h' o k' := by
  obtain ⟨n, h1, h2, h3, h4⟩ := H
  refine ⟨n, h1, by rw [e1]; exact h2, by rw [f 0 45 (qP_s (by decide))]; exact h3, fun i hi => ?_⟩
  rw [e2, f 24 i (qP_24 (by omega)), f 25 i (qP_25 (by omega))]
  exact h4 i hi
theorem qPts_c {h h' k k' : zHp} {o : Nat} (e1 : h' o = h o) (e2 : h' (o + 1) = h (o + 1)) (f : qAs k k') (H : qPts h o k) : qPts h' o k' := by
  obtain ⟨n, h1, h2, h3, h4⟩ := H
  refine ⟨n, h1, by rw [e1]; exact h2, by rw [f 0 49 (qP_s (by decide))]; exact h3, fun i hi => ?_⟩
  rw [e2, f 27 i (qP_27 (by omega)), f 28 i (qP_28 (by omega))]
  exact h4 i hi
theorem qRowN_c {h h' : zHp} {o N lo hi : Nat} {n n' : Int32} {a a' : Nat → Int32} (e1 : h' o = h o) (e2 : h' (o + 1) = h (o + 1)) (f : n' = n) (g : ∀ i, i < N → a' i = a i) (H : qRowN h o N lo hi n a) : qRowN h' o N lo hi n' a' := by
  obtain ⟨c, h1, h2, h3, h4⟩ := H
  refine ⟨c, h1, by rw [e1]; exact h2, by rw [f]; exact h3, fun i hi => ?_⟩
  rw [e2, g i (by omega)]
  exact h4 i hi
theorem qCoins_c {h h' k k' : zHp} {o : Nat} (e1 : h' o = h o) (e2 : h' (o + 1) = h (o + 1)) (f : qAs k k') (H : qCoins h o k) : qCoins h' o k' := by
  obtain ⟨n, h1, h2, h3, h4, h5⟩ := H
  refine ⟨n, h1, by rw [e1]; exact h2, by rw [f 0 62 (qP_s (by decide))]; exact h3, fun i hi => ?_, fun i j hi hj => ?_⟩
  · rw [e2, f 36 i (qP_36 (by omega))]
    exact h4 i hi
  · rw [f 36 i (qP_36 (by omega)), f 36 j (qP_36 (by omega))]
    exact h5 i j hi hj
theorem qFull_c {h h' k k' : zHp} {o : Nat} (e1 : h' o = h o) (f : qAs k k') (H : qFull h o k) : qFull h' o k' := by
  intro i hi
  rw [e1, f 29 i (qP_29 hi)]
  exact H i hi
theorem qTold_c {h h' k k' : zHp} {w : Nat} (e : ∀ a, w + 26 ≤ a → a ≤ w + 38 → h' a = h a) (f : qAs k k') (H : qTold h w k) : qTold h' w k' := by
  obtain ⟨h1, h2, h3, h4, h5, h6, h7⟩ := H
  exact ⟨qTicks_c (e _ (by omega) (by omega)) (e _ (by omega) (by omega)) f h1, qWont_c (e _ (by omega) (by omega)) (e _ (by omega) (by omega)) f h2, qPts_c (e _ (by omega) (by omega)) (e _ (by omega) (by omega)) f h3, qRowN_c (e _ (by omega) (by omega)) (e _ (by omega) (by omega)) (f 0 56 (qP_s (by decide))) (fun i hi => f 32 i (qP_32 hi)) h4, qRowN_c (e _ (by omega) (by omega)) (e _ (by omega) (by omega)) (f 0 60 (qP_s (by decide))) (fun i hi => f 35 i (qP_35 hi)) h5, qCoins_c (e _ (by omega) (by omega)) (e _ (by omega) (by omega)) f h6, qFull_c (e _ (by omega) (by omega)) f h7⟩
theorem qCh_c {k k' : zHp} {C P : Nat} (f : qAs k k') (H : qCh k C P) : qCh k' C P := ⟨by rw [f 0 6 (qP_s (by decide))]; exact H.1, by rw [f 0 7 (qP_s (by decide))]; exact H.2⟩
theorem qCh_u {k : zHp} {C P C' P' : Nat} (H : qCh k C P) (H' : qCh k C' P') (h1 : C ≤ 10) (h2 : C' ≤ 10) (h3 : P ≤ 14) (h4 : P' ≤ 14) : C = C' ∧ P = P' :=
  ⟨(nI_eq (by omega) (by omega)).mp (H.1.symm.trans H'.1), (nI_eq (by omega) (by omega)).mp (H.2.symm.trans H'.2)⟩
theorem qWh_c {h h' k k' : zHp} {w : Nat} (e : ∀ a, w < a → a ≤ w + 38 → a ≠ w + 18 → h' a = h a) (f : qAs k k') (H : qWh h w k) : qWh h' w k' := by
  obtain ⟨C, P, h1, ⟨h2, h3⟩, h4, h5, ⟨n, h6, h7⟩, ⟨n2, h8, h9⟩, ⟨n3, h10, h11⟩, h12⟩ := H
  have hC : C ≤ 10 := h3.1
  have hP : P ≤ 14 := h3.2.1
  exact ⟨C, P, qCh_c f h1, ⟨qPo_c hC hP (fun a q r => e a (by omega) (by omega) (by omega)) (fun i hi => f 1 i (qP_1 hi)) (fun i hi => f 4 i (qP_4 hi)) (fun i hi => f 5 i (qP_5 hi)) h2, qFine_c (fun i q r => f 1 i (qP_1 (by omega))) h3⟩, qBook_c (e _ (by omega) (by omega) (by omega)) (e _ (by omega) (by omega) (by omega)) f h4, qLaw_c (fun a q r => e a (by omega) (by omega) (by omega)) f h5,
    ⟨n, by rw [f 0 34 (qP_s (by decide))]; exact h6, qCalls_c (e _ (by omega) (by omega) (by omega)) (e _ (by omega) (by omega) (by omega)) (fun i hi => f 17 i (qP_17 hi)) h7⟩,
    ⟨n2, by rw [f 0 36 (qP_s (by decide))]; exact h8, qHouse_c (e _ (by omega) (by omega) (by omega)) (e _ (by omega) (by omega) (by omega)) (fun i hi => f 18 i (qP_18 hi)) h9⟩,
    ⟨n3, by rw [f 0 38 (qP_s (by decide))]; exact h10, qKin_c hP (e _ (by omega) (by omega) (by omega)) (e _ (by omega) (by omega) (by omega)) (fun i hi => f 19 i (qP_19 hi)) h11⟩, qTold_c (fun a q r => e a (by omega) (by omega) (by omega)) f h12⟩
end Qcong
