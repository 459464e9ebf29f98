/-! a world, put together out of pieces -/
def zSe (g : zG) (R : Nat → Nat) (w : zWd) (h : zHp) (a n : Nat) : va_W := (List.range n).map (fun j => (R (a + j), zE g R w h (a + j)))
theorem zSe_all {g : zG} {R : Nat → Nat} {w : zWd} {h : zHp} : zW g R w h = zSe g R w h 0 w.1 := by
  unfold zW zSe
  apply List.map_congr_left
  intro j _
  rw [Nat.zero_add]
theorem zSe_add {g : zG} {R : Nat → Nat} {w : zWd} {h : zHp} {a n m : Nat} : zSe g R w h a (n + m) = zSe g R w h a n ++ zSe g R w h (a + n) m := by
  unfold zSe
  rw [List.range_add, List.map_append, List.map_map]
  congr 1
  apply List.map_congr_left
  intro j _
  simp [Nat.add_assoc]
theorem zSe_nil {g : zG} {R : Nat → Nat} {w : zWd} {h : zHp} {a : Nat} : zSe g R w h a 0 = [] := rfl
theorem zSe_snoc {g : zG} {R : Nat → Nat} {w : zWd} {h : zHp} {n m b n' : Nat} {T P : va_W} (hT : zSe g R w h 1 n = T) (hb : 1 + n = b) (hn : n + m = n') (hP : zSe g R w h b m = P) : zSe g R w h 1 n' = T ++ P := by
  subst hb; subst hn; subst hT; subst hP
  exact zSe_add
theorem zSe_arr {g : zG} {R : Nat → Nat} {w : zWd} {h : zHp} {a q n : Nat} {f : Nat → Int32} (hr : R a = q) (h0 : (w.2 a).1 = 0) (hn : (w.2 a).2.1 = n) (hf : h a = f) : zSe g R w h a 1 = [(q, .inl (g.1, n, .inl f))] := by
  subst hr; subst hn; subst hf
  show [(R (a + 0), zE g R w h (a + 0))] = _
  rw [Nat.add_zero, zE_i h0]
theorem zSe_chr {g : zG} {R : Nat → Nat} {w : zWd} {h : zHp} {a q n : Nat} {f : Nat → Int32} (hr : R a = q) (h0 : (w.2 a).1 = 1) (hn : (w.2 a).2.1 = n) (hf : h a = f) : zSe g R w h a 1 = [(q, .inl (g.2.1, n, .inl f))] := by
  subst hr; subst hn; subst hf
  show [(R (a + 0), zE g R w h (a + 0))] = _
  rw [Nat.add_zero, zE_c h0]
theorem zSe_prs {g : zG} {R : Nat → Nat} {w : zWd} {h : zHp} {a q n : Nat} {f : Nat → Option Nat} (hr : R a = q) (h0 : (w.2 a).1 = 2) (hn : (w.2 a).2.1 = n) (hf : ∀ i, ((w.2 a).2.2 i).map R = f i) : zSe g R w h a 1 = [(q, .inl (g.2.2, n, .inr (.inr (.inr (.inr f)))))] := by
  subst hr; subst hn
  have hf' : (fun i => ((w.2 a).2.2 i).map R) = f := funext hf
  subst hf'
  show [(R (a + 0), zE g R w h (a + 0))] = _
  rw [Nat.add_zero, zE_p h0]
theorem zW_of {g : zG} {R : Nat → Nat} {w : zWd} {h : zHp} {n ci : Nat} {q : Nat} {fs : List Value} {T : va_W} (hw : w.1 = 1 + n) (hr : R 0 = q) (h0 : zE g R w h 0 = .inr (ci, fs)) (hT : zSe g R w h 1 n = T) : zW g R w h = (q, .inr (ci, fs)) :: T := by
  subst hr; subst hT
  rw [zSe_all, hw, zSe_add, ← h0]
  rfl
/-- the addresses, by pieces -/
def zRp : List (Nat × (Nat → Nat)) → Nat → Nat
  | [], _ => 0
  | q :: l, k => if k < q.1 then q.2 k else zRp l (k - q.1)
theorem zRp_0 {n : Nat} {f : Nat → Nat} {l : List (Nat × (Nat → Nat))} {j : Nat} (hj : j < n) : zRp ((n, f) :: l) j = f j := by
  show (if j < n then f j else _) = _
  rw [if_pos hj]
theorem zRp_1 {n : Nat} {f : Nat → Nat} {l : List (Nat × (Nat → Nat))} {j : Nat} : zRp ((n, f) :: l) (n + j) = zRp l j := by
  show (if n + j < n then f (n + j) else zRp l (n + j - n)) = _
  rw [if_neg (by omega), Nat.add_sub_cancel_left]
/-- a shape's part of another shape, its references by ρ -/
def zpt (l : List (Nat × Nat × List (Option Nat))) (a : Nat) (ρ : Nat → Nat) (l' : List (Nat × Nat × List (Option Nat))) : Bool :=
  (List.range l'.length).all (fun j => decide (l[a + j]? = (l'[j]?).map (fun q => (q.1, q.2.1, q.2.2.map (Option.map ρ)))))
def zrf (l' : List (Nat × Nat × List (Option Nat))) (b : Nat) : Bool := l'.any (fun q => q.2.2.contains (some b))
theorem zsh_at {l : List (Nat × Nat × List (Option Nat))} {k : Nat} {q : Nat × Nat × List (Option Nat)} (h : l[k]? = some q) : (zsh l).2 k = (q.1, q.2.1, fun i => (q.2.2[i]?).join) := by
  show (match l[k]? with | some q => (q.1, q.2.1, fun i => (q.2.2[i]?).join) | none => (0, 0, fun _ => none)) = _
  rw [h]
theorem zpt_at {l l' : List (Nat × Nat × List (Option Nat))} {a : Nat} {ρ : Nat → Nat} (h : zpt l a ρ l' = true) {j : Nat} (hj : j < l'.length) : ((zsh l).2 (a + j)).1 = ((zsh l').2 j).1 ∧ ((zsh l).2 (a + j)).2.1 = ((zsh l').2 j).2.1 ∧ ∀ i, ((zsh l).2 (a + j)).2.2 i = (((zsh l').2 j).2.2 i).map ρ := by
  have h1 := List.all_eq_true.mp h j (List.mem_range.mpr hj)
  have h2 := of_decide_eq_true h1
  have h3 := List.getElem?_eq_getElem hj
  rw [h3] at h2
  rw [zsh_at h3, zsh_at h2]
  refine ⟨rfl, rfl, fun i => ?_⟩
  show ((l'[j].2.2.map (Option.map ρ))[i]?).join = ((l'[j].2.2[i]?).join).map ρ
  rw [List.getElem?_map]
  cases l'[j].2.2[i]? <;> rfl
theorem zrf_in {l' : List (Nat × Nat × List (Option Nat))} {j i b : Nat} (h : ((zsh l').2 j).2.2 i = some b) : zrf l' b = true := by
  cases h3 : l'[j]? with
  | none =>
    have e : (zsh l').2 j = (0, 0, fun _ => none) := by
      show (match l'[j]? with | some q => (q.1, q.2.1, fun i => (q.2.2[i]?).join) | none => (0, 0, fun _ => none)) = _
      rw [h3]
    rw [e] at h; cases h
  | some q =>
    rw [zsh_at h3] at h
    have h : (q.2.2[i]?).join = some b := h
    refine List.any_eq_true.mpr ⟨q, List.mem_of_getElem? h3, ?_⟩
    refine List.contains_iff_mem.mpr ?_
    cases h4 : q.2.2[i]? with
    | none => rw [h4] at h; cases h
    | some o => rw [h4] at h; rw [show o = some b from h] at h4; exact List.mem_of_getElem? h4
theorem zE_cg {g : zG} {R r' : Nat → Nat} {w w' : zWd} {h h' : zHp} {k j : Nat} {ρ : Nat → Nat} (h1 : (w.2 k).1 = (w'.2 j).1) (h2 : (w.2 k).2.1 = (w'.2 j).2.1) (h3 : ∀ i, (w.2 k).2.2 i = ((w'.2 j).2.2 i).map ρ) (hr : ∀ i b, (w'.2 j).2.2 i = some b → R (ρ b) = r' b) (hh : h k = h' j) : zE g R w h k = zE g r' w' h' j := by
  have e1 : ∀ i, ((w.2 k).2.2 i).map R = ((w'.2 j).2.2 i).map r' := fun i => by
    rw [h3 i]
    cases hb : (w'.2 j).2.2 i with
    | none => rfl
    | some b => show some (R (ρ b)) = some (r' b); rw [hr i b hb]
  have e2 : ∀ i, zfd R (w.2 k).2.2 (h k) i = zfd r' (w'.2 j).2.2 (h' j) i := fun i => by
    unfold zfd
    rw [h3 i, hh]
    cases hb : (w'.2 j).2.2 i with
    | none => rfl
    | some b => show Value.ref (R (ρ b)) = Value.ref (r' b); rw [hr i b hb]
  unfold zE
  rw [h1]
  rcases (w'.2 j).1 with _ | _ | _ | ci
  · simp only [h2, hh]
  · simp only [h2, hh]
  · simp only [h2, e1]
  · simp only [h2]
    rw [show zfd R (w.2 k).2.2 (h k) = zfd r' (w'.2 j).2.2 (h' j) from funext e2]
def zht (t : List (Nat × List (Nat × Int32))) (a n : Nat) (t' : List (Nat × List (Nat × Int32))) : Bool := (List.range n).all (fun j => decide ((t.lookup (a + j)).getD [] = (t'.lookup j).getD []))
theorem zSe_sub {g : zG} {R r' : Nat → Nat} {l l' : List (Nat × Nat × List (Option Nat))} {t t' : List (Nat × List (Nat × Int32))} {a n : Nat} {ρ : Nat → Nat} (hn : l'.length = n) (hl : zpt l a ρ l' = true) (ht : zht t a n t' = true) (hR : ∀ j, j < n → R (a + j) = r' j) (hr : ∀ b, zrf l' b = true → R (ρ b) = r' b) : zSe g R (zsh l) (zhp t) a n = zW g r' (zsh l') (zhp t') := by
  subst hn
  unfold zSe zW
  apply List.map_congr_left
  intro j hj
  have hj' : j < l'.length := List.mem_range.mp hj
  obtain ⟨h1, h2, h3⟩ := zpt_at hl hj'
  have h4 := of_decide_eq_true (List.all_eq_true.mp ht j (List.mem_range.mpr hj'))
  rw [hR j hj', zE_cg (g := g) (R := R) (r' := r') (h := zhp t) (h' := zhp t') h1 h2 h3 (fun i b hb => hr b (zrf_in hb)) (by unfold zhp; rw [h4])]
/-- all references of the part within it -/
def zri (l' : List (Nat × Nat × List (Option Nat))) : Bool := l'.all (fun q => q.2.2.all (fun o => match o with | none => true | some b => decide (b < l'.length)))
theorem zri_in {l' : List (Nat × Nat × List (Option Nat))} (h : zri l' = true) {b : Nat} (hb : zrf l' b = true) : b < l'.length := by
  obtain ⟨q, h1, h2⟩ := List.any_eq_true.mp hb
  have h3 := List.all_eq_true.mp (List.all_eq_true.mp h q h1) (some b) (List.contains_iff_mem.mp h2)
  exact of_decide_eq_true h3
theorem zSe_in {g : zG} {R r' : Nat → Nat} {l l' : List (Nat × Nat × List (Option Nat))} {t t' : List (Nat × List (Nat × Int32))} {a n : Nat} (hn : l'.length = n) (hl : zpt l a (a + ·) l' = true) (hi : zri l' = true) (ht : zht t a n t' = true) (hR : ∀ j, j < n → R (a + j) = r' j) : zSe g R (zsh l) (zhp t) a n = zW g r' (zsh l') (zhp t') :=
  zSe_sub hn hl ht hR (fun b hb => hR b (by rw [← hn]; exact zri_in hi hb))
/-- all references of the part within it, but one -/
def zrx (l' : List (Nat × Nat × List (Option Nat))) : Bool := l'.all (fun q => q.2.2.all (fun o => match o with | none => true | some b => decide (b ≤ l'.length)))
theorem zSe_ex {g : zG} {R r' : Nat → Nat} {l l' : List (Nat × Nat × List (Option Nat))} {t t' : List (Nat × List (Nat × Int32))} {a n : Nat} (x : Nat) (hn : l'.length = n) (hl : zpt l a (fun b => if b = n then x else a + b) l' = true) (hi : zrx l' = true) (ht : zht t a n t' = true) (hR : ∀ j, j < n → R (a + j) = r' j) (hx : R x = r' n) : zSe g R (zsh l) (zhp t) a n = zW g r' (zsh l') (zhp t') := by
  refine zSe_sub hn hl ht hR (fun b hb => ?_)
  obtain ⟨q, h1, h2⟩ := List.any_eq_true.mp hb
  have h3 := of_decide_eq_true (List.all_eq_true.mp (List.all_eq_true.mp hi q h1) (some b) (List.contains_iff_mem.mp h2))
  by_cases e : b = n
  · subst e; simp only [if_true]; exact hx
  · simp only [if_neg e]; exact hR b (by rw [hn] at h3; omega)
/-- a world's list hangs on its addresses alone -/
theorem zW_cg {g : zG} {R r' : Nat → Nat} {l : List (Nat × Nat × List (Option Nat))} {h : zHp} (hi : zri l = true) (hR : ∀ j, j < l.length → R j = r' j) : zW g R (zsh l) h = zW g r' (zsh l) h := by
  unfold zW
  apply List.map_congr_left
  intro j hj
  have hj' : j < l.length := List.mem_range.mp hj
  rw [hR j hj', zE_cg (ρ := id) (R := R) (r' := r') (w := zsh l) (w' := zsh l) (h := h) (h' := h) rfl rfl (fun i => by simp) (fun i b hb => hR b (zri_in hi (zrf_in hb))) rfl]
theorem zI_of {A : Nat → Prop} {g : zG} {r : Nat → Nat} {w : zWd} {h : zHp} (hD : va_D A (zW g r w h)) : zI r w := fun i j hi hj e => hD.1 i j _ _ (zW_at hi) (zW_at hj) e
