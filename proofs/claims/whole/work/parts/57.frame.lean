/-! what a call that only asks leaves -/
section Qframe
def qPers (a i : Nat) : Bool := (qPos a i).isSome || a == 2 || a == 7 || a == 8 || a == 38 || (a == 0 && (i == 3 || i == 5 || i == 12 || i == 32 || i == 33 || i == 66))
/-- the reference's lasting numbers are as they were -/
def qMs (k k' : zHp) : Prop := ∀ a i, qPers a i = true → k' a i = k a i
theorem qMs_rf (k : zHp) : qMs k k := fun _ _ _ => rfl
theorem qMs_tr {k k' k'' : zHp} (h : qMs k k') (h' : qMs k' k'') : qMs k k'' := fun a i p => (h' a i p).trans (h a i p)
theorem qMs_st {k k' : zHp} {a i : Nat} {v : Int32} (h : qMs k k') (hp : qPers a i = false) : qMs k (zst k' a i v) := by
  intro b j hj
  rw [q_st]
  by_cases e : b = a
  · rw [if_pos e]
    by_cases e2 : j = i
    · rw [e, e2, hp] at hj; cases hj
    · rw [if_neg e2]; exact h b j hj
  · rw [if_neg e]; exact h b j hj
theorem qMs_s0 (k : zHp) : qMs k (zst k 0 0 0) := qMs_st (qMs_rf k) (by decide)
theorem qMs_as {k k' : zHp} (h : qMs k k') : qAs k k' := by
  intro a i hp
  refine h a i ?_
  unfold qPers
  cases e : qPos a i with
  | none => exact absurd e hp
  | some p => simp
/-- the class's lasting cells -/
def qXp (a : Nat) : Bool := !(a == 19 || a == 160 || (162 ≤ a && a ≤ 165) || (136 ≤ a && a ≤ 144))
def qXs (h h' : zHp) : Prop := (∀ a, qXp a = true → h' a = h a) ∧ h' 136 0 = h 136 0
theorem qXs_rf (h : zHp) : qXs h h := ⟨fun _ _ => rfl, rfl⟩
theorem qXs_tr {h h' h'' : zHp} (e : qXs h h') (e' : qXs h' h'') : qXs h h'' := ⟨fun a p => (e'.1 a p).trans (e.1 a p), e'.2.trans e.2⟩
theorem qXs_st {h h' : zHp} {a i : Nat} {v : Int32} (e : qXs h h') (hp : qXp a = false) (hq : a ≠ 136) : qXs h (zst h' a i v) := by
  refine ⟨fun b hb => ?_, ?_⟩
  · have : b ≠ a := fun z => by rw [z, hp] at hb; cases hb
    rw [q_st_c this]; exact e.1 b hb
  · rw [q_st_c (fun z => hq z.symm)]; exact e.2
theorem qRel_s {h h' k k' : zHp} (e : qXs h h') (f : qMs k k') (H : qRel h k) : qRel h' k' := by
  obtain ⟨h1, ⟨u, m, C, P, n, p1, p2, p3, p4, p5, p6, p7, p8⟩, ⟨t, t1, t2, t3, t4⟩, ⟨x1, x2, x3, x4, x5, x6, x7⟩, h5⟩ := H
  have f38 : k' 38 = k 38 := funext fun i => f 38 i (by unfold qPers; simp)
  refine ⟨qWh_c (fun a q1 q2 q3 => e.1 a ?_) (qMs_as f) h1, ⟨u, m, C, P, n, p1, p2, ?_, ?_, ?_, qCh_c (qMs_as f) p6, ?_, fun j hj => ?_⟩, ⟨t, t1, ?_, ?_, fun i hi => ?_⟩, ⟨?_, ?_, ?_, ?_, ?_, ?_, ?_⟩, ?_⟩
  · unfold qXp; simp; omega
  · rw [e.1 79 (by decide)]; exact p3
  · rw [f 0 3 (by decide)]; exact p4
  · rw [e.1 79 (by decide)]; exact p5
  · rw [f 1 2 (by decide)]; exact p7
  · obtain ⟨g1, g2, b, g3, g4, g5⟩ := p8 j hj
    have hm : (m + 6 - u + j) % 6 < 6 := Nat.mod_lt _ (by omega)
    have h2 : ∀ i, k' 2 i = k 2 i := fun i => f 2 i (by unfold qPers; simp)
    refine ⟨qPo_c g2.1 g2.2.1 (fun a q1 q2 => e.1 a ?_) (fun i hi => h2 _) (fun i hi => qMs_as f 4 i (qP_4 hi)) (fun i hi => qMs_as f 5 i (qP_5 hi)) g1, qFine_c (fun i q1 q2 => h2 _) g2, b, g3, ?_, ?_⟩
    · unfold qXp; simp; omega
    · rw [e.1 81 (by decide)]; exact g4
    · rw [h2]; exact g5
  · rw [e.1 145 (by decide)]; exact t2
  · rw [f 0 12 (by decide)]; exact t3
  · obtain ⟨b, b1, b2, b3⟩ := t4 i hi
    refine ⟨b, b1, ?_, ?_⟩
    · rw [e.1 146 (by decide)]; exact b2
    · rw [f 7 i (by unfold qPers; simp)]; exact b3
  · rw [e.1 2 (by decide)]; exact x1
  · rw [e.2]; exact x2
  · rw [e.1 157 (by decide)]; exact x3
  · rw [f 0 5 (by decide)]; exact x4
  · intro i hi
    rw [f 8 i (by unfold qPers; simp)]; exact x5 i hi
  · rw [e.1 145 (by decide), f 0 32 (by decide)]; exact x6
  · rw [e.1 145 (by decide), f 0 33 (by decide)]; exact x7
  · rw [e.1 0 (by decide), f 0 66 (by decide), e.1 50 (by decide), e.1 59 (by decide), e.1 61 (by decide), e.1 63 (by decide)]
    rcases h5 with q | ⟨q1, q2, q3⟩
    · exact Or.inl q
    · refine Or.inr ⟨q1, q2, qWh_c (fun a z1 z2 z3 => e.1 a ?_) (qAs_un f38) q3⟩
      unfold qXp; simp; omega
/-- a call that asks: one answer, nothing that lasts is changed -/
def qAsk (h k : zHp) (x y : Option (Int32 × zHp)) : Prop := ∃ v h' k', x = some (v, h') ∧ y = some (v, k') ∧ qXs h h' ∧ qMs k k'
/-- a call: one answer, the relation stands -/
def qCall (x y : Option (Int32 × zHp)) : Prop := ∃ v h' k', x = some (v, h') ∧ y = some (v, k') ∧ qRel h' k'
theorem qAsk.call {h k : zHp} {x y : Option (Int32 × zHp)} (H : qRel h k) (q : qAsk h k x y) : qCall x y := by
  obtain ⟨v, h', k', e1, e2, e3, e4⟩ := q
  exact ⟨v, h', k', e1, e2, qRel_s e3 e4 H⟩
end Qframe
