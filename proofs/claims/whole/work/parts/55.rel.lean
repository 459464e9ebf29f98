/-! THE RELATION between the class's heap h (a Whole at w: 1 now, 40 kept) and the reference's heap k -/
section Qrel
def qB (n : Nat) (x : Int32) : Prop := ∃ j : Nat, j ≤ n ∧ x = nI j
/-- a porch at o and a row of the reference -/
def qPo (h : zHp) (o : Nat) (row run dear : Nat → Int32) (C P : Nat) : Prop :=
  h o 9 = nI C ∧ h o 10 = nI P ∧ h o 11 = row 3 ∧ h o 12 = row 4 ∧ h o 13 = row 0 ∧ h o 14 = row 1 ∧
  (∀ c, c < C → h (o + 1) c = run c ∧ h (o + 2) c = row (5 + c) ∧ h (o + 3) c = row (15 + c) - 1 ∧ h (o + 4) c = row (25 + c) - 1) ∧
  (∀ p, p < P → h (o + 5) p = dear p ∧ h (o + 6) p = row (35 + p) ∧ h (o + 7) p = row (49 + p) ∧ h (o + 8) p = row (63 + p))
/-- what holds of a row -/
def qFine (row : Nat → Int32) (C P : Nat) : Prop :=
  C ≤ 10 ∧ P ≤ 14 ∧
  (∀ c, c < C → ∃ s f t, s ≤ 99 ∧ f ≤ P ∧ t ≤ P ∧ row (5 + c) = nI s ∧ row (15 + c) = nI f ∧ row (25 + c) = nI t ∧ (f = 0 ↔ s = 0) ∧ (0 < t → s = 0)) ∧
  (∀ c p, c < C → p < P → row (25 + c) = nI (p + 1) → row (35 + p) = 2 ∧ ∀ d, d < C → row (25 + d) = nI (p + 1) → d = c) ∧
  (∀ p, p < P → (row (35 + p) = 0 ∨ row (35 + p) = 1 ∨ row (35 + p) = 2) ∧ (row (35 + p) = 2 → ∃ c, c < C ∧ row (25 + c) = nI (p + 1)))
def qCh (k : zHp) (C P : Nat) : Prop := k 0 6 = nI C ∧ k 0 7 = nI P
def qNow (h : zHp) (w : Nat) (k : zHp) (C P : Nat) : Prop := qPo h (w + 1) (k 1) (k 4) (k 5) C P ∧ qFine (k 1) C P
def qBook (h : zHp) (w : Nat) (k : zHp) : Prop := h (w + 10) 0 = 150 ∧ (∃ n, n ≤ 150 ∧ h (w + 10) 2 = nI n ∧ k 1 2 = nI n) ∧ ∀ i, i < 600 → h (w + 11) i = k 6 i
def qCalls (h : zHp) (o : Nat) (n : Nat) (a : Nat → Int32) (C P : Nat) : Prop :=
  h o 0 = 16 ∧ h o 2 = nI n ∧ n ≤ 16 ∧ ∀ i, i < n → ∃ m v p, m ≤ 999 ∧ v < 4 ∧ p < P ∧
    h (o + 1) (4 * i) = nI m ∧ a (4 * i) = nI m ∧ h (o + 1) (4 * i + 1) = nI (18 + v) ∧ a (4 * i + 2) = nI v ∧ h (o + 1) (4 * i + 2) = nI p ∧ a (4 * i + 1) = nI p ∧
    (v = 0 → ∃ c, c < C ∧ h (o + 1) (4 * i + 3) = nI c ∧ a (4 * i + 3) = nI c)
def qHouse (h : zHp) (o : Nat) (n : Nat) (a : Nat → Int32) (C : Nat) : Prop :=
  h o 0 = 16 ∧ h o 2 = nI n ∧ n ≤ 16 ∧ ∀ i, i < n → ∃ m, m ≤ 999 ∧ h (o + 1) (4 * i) = nI m ∧ a (3 * i) = nI m ∧
    ((∃ c, c < C ∧ h (o + 1) (4 * i + 1) = 22 ∧ a (3 * i + 1) = 0 ∧ h (o + 1) (4 * i + 2) = nI c ∧ a (3 * i + 2) = nI c) ∨
     (∃ d, d ≤ 9 ∧ h (o + 1) (4 * i + 1) = 9 ∧ a (3 * i + 1) = 1 ∧ h (o + 1) (4 * i + 3) = nI d ∧ a (3 * i + 2) = nI d) ∨
     (h (o + 1) (4 * i + 1) = 23 ∧ a (3 * i + 1) = 2))
/-- who minds p, of n lines -/
def qMind (f : Nat → Int32) (p : Int32) : Nat → Int32
  | 0 => 0
  | n + 1 => if f (4 * n + 3) = p then qMind f p n ||| ((1 : Int32) <<< (f (4 * n + 2) &&& 31)) else qMind f p n
def qKin (h : zHp) (o : Nat) (n : Nat) (a : Nat → Int32) (P : Nat) : Prop :=
  h o 0 = 16 ∧ h o 2 = nI n ∧ n ≤ 16 ∧ (∀ i, i < n → ∃ x y, x < P ∧ y < P ∧ h (o + 1) (4 * i + 2) = nI x ∧ h (o + 1) (4 * i + 3) = nI y) ∧
  ∀ p, p < 14 → a p = qMind (h (o + 1)) (nI p) n
/-- a part of a law: the class's number, the reference's two -/
def qCode (p o a : Int32) : Prop :=
  (∃ v, v ≤ 9999 ∧ p = nI v ∧ o = 0 ∧ a = nI v) ∨ (∃ j, j < 9 ∧ p = nI (3 + j) ^^^ (-1) ∧ o = 1 ∧ a = nI j) ∨
  (∃ x y, (x, y) ∈ [(25, 2), (26, 3), (27, 4), (28, 5), (31, 6), (32, 7), (33, 8), (15, 9), (14, 10), (13, 11)] ∧ p = nI x ^^^ (-1) ∧ o = nI y)
/-- the types that lie on the stack behind some codes (true: 0 or 1); at most 26 -/
def qTy (o : Nat → Int32) (v : Nat → Int32) : Nat → Nat → List Bool → Option (List Bool)
  | _, 0, st => some st
  | i, n + 1, st =>
    if o i = 0 ∨ o i = 1 then (if st.length < 26 then qTy o v (i + 1) n (false :: st) else none)
    else if o i = 9 then (match st with
      | true :: r => qTy o v (i + 1) n (true :: r)
      | _ => none)
    else if o i = 10 ∨ o i = 11 then (match st with
      | true :: true :: r => qTy o v (i + 1) n (true :: r)
      | _ => none)
    else if o i = 6 ∨ o i = 7 ∨ o i = 8 then (match st with
      | _ :: _ :: r => qTy o v (i + 1) n (true :: r)
      | _ => none)
    else if o i = 5 then (match st with
      | _ :: _ :: r => if 0 < i ∧ o (i - 1) = 0 ∧ v (i - 1) ≠ 0 then qTy o v (i + 1) n (false :: r) else none
      | _ => none)
    else (match st with
      | _ :: _ :: r => qTy o v (i + 1) n (false :: r)
      | _ => none)
def qLaw (h : zHp) (o : Nat) (k : zHp) : Prop :=
  ∃ n sz, n ≤ 16 ∧ sz ≤ 400 ∧ h o 7 = nI n ∧ k 9 0 = nI n ∧ (∀ i, i < sz → qCode (h (o + 5) i) (k 14 i) (k 15 i)) ∧
  ∀ i, i < n → ∃ wd a b c, wd < 3 ∧ a ≤ b ∧ b ≤ c ∧ c ≤ sz ∧ h (o + 1) i = nI wd ∧ k 10 i = nI wd ∧ h (o + 2) i = nI a ∧ k 11 i = nI a ∧ h (o + 3) i = nI b ∧ k 12 i = nI b ∧ h (o + 4) i = nI c ∧ k 13 i = nI c ∧
    qTy (k 14) (k 15) a (b - a) [] = some [false] ∧ (b = c ∨ qTy (k 14) (k 15) b (c - b) [] = some [true])
def qTicks (h : zHp) (o : Nat) (k : zHp) : Prop := ∃ n, n ≤ 4 ∧ h o 1 = nI n ∧ k 0 42 = nI n ∧ ∀ i, i < n → ∃ m r, 1 ≤ m ∧ m ≤ 12 ∧ r < m ∧ h (o + 1) i = nI (m * 32 + r) ∧ k 22 i = nI r ∧ k 23 i = nI m
def qWont (h : zHp) (o : Nat) (k : zHp) : Prop := ∃ n, n ≤ 10 ∧ h o 1 = nI n ∧ k 0 45 = nI n ∧ ∀ i, i < n → ∃ a b, a < 7 ∧ b < 7 ∧ a ≠ b ∧ h (o + 1) i = nI (a * 32 + b) ∧ k 24 i = nI a ∧ k 25 i = nI b
def qPts (h : zHp) (o : Nat) (k : zHp) : Prop := ∃ n, n ≤ 8 ∧ h o 1 = nI n ∧ k 0 49 = nI n ∧ ∀ i, i < n → ∃ x y, x ≤ 20 ∧ y ≤ 20 ∧ h (o + 1) i = nI (x * 32 + y) ∧ k 27 i = nI x ∧ k 28 i = nI y
def qRowN (h : zHp) (o N lo hi : Nat) (n : Int32) (a : Nat → Int32) : Prop := ∃ c, c ≤ N ∧ h o 1 = nI c ∧ n = nI c ∧ ∀ i, i < c → ∃ v, lo ≤ v ∧ v ≤ hi ∧ h (o + 1) i = nI v ∧ a i = nI v
def qCoins (h : zHp) (o : Nat) (k : zHp) : Prop := ∃ c, c ≤ 6 ∧ h o 1 = nI c ∧ k 0 62 = nI c ∧ (∀ i, i < c → ∃ v, v ≤ 40 ∧ h (o + 1) i = nI v ∧ k 36 i = nI v) ∧ ∀ i j, i < c → j < c → k 36 i = k 36 j → i = j
def qFull (h : zHp) (o : Nat) (k : zHp) : Prop := ∀ i, i < 36 → h o i = k 29 i ∧ (k 29 i = 0 ∨ k 29 i = 1)
def qTold (h : zHp) (w : Nat) (k : zHp) : Prop :=
  qTicks h (w + 26) k ∧ qWont h (w + 28) k ∧ qPts h (w + 30) k ∧ qRowN h (w + 32) 9 1 99 (k 0 56) (k 32) ∧ qRowN h (w + 34) 10 0 60 (k 0 60) (k 35) ∧ qCoins h (w + 36) k ∧ qFull h (w + 38) k
/-- a Whole at w of the class and what the reference keeps of it -/
def qWh (h : zHp) (w : Nat) (k : zHp) : Prop := ∃ C P, qCh k C P ∧ qNow h w k C P ∧ qBook h w k ∧ qLaw h (w + 12) k ∧
  (∃ n, k 0 34 = nI n ∧ qCalls h (w + 19) n (k 17) C P) ∧ (∃ n, k 0 36 = nI n ∧ qHouse h (w + 21) n (k 18) C) ∧ (∃ n, k 0 38 = nI n ∧ qKin h (w + 23) n (k 19) P) ∧ qTold h w k
/-- the order in which the reference keeps its numbers: the place of a cell's number among the images -/
def qPos (a i : Nat) : Option Nat :=
  if a = 1 then (if i < 77 then some i else none)
  else if a = 0 then (match i with
    | 6 => some 77 | 7 => some 78 | 34 => some 79 | 36 => some 80 | 38 => some 81 | 42 => some 82 | 45 => some 83 | 49 => some 84 | 56 => some 85 | 60 => some 86 | 62 => some 87
    | _ => none)
  else if a = 5 then (if i < 14 then some (88 + 2 * i) else none)
  else if a = 19 then (if i < 14 then some (88 + 2 * i + 1) else none)
  else if a = 4 then (if i < 10 then some (116 + 4 * i) else none)
  else if a = 24 then (if i < 10 then some (116 + 4 * i + 1) else none)
  else if a = 25 then (if i < 10 then some (116 + 4 * i + 2) else none)
  else if a = 35 then (if i < 10 then some (116 + 4 * i + 3) else none)
  else if a = 17 then (if i < 64 then some (156 + i) else none)
  else if a = 18 then (if i < 48 then some (220 + i) else none)
  else if a = 22 then (if i < 4 then some (268 + 2 * i) else none)
  else if a = 23 then (if i < 4 then some (268 + 2 * i + 1) else none)
  else if a = 27 then (if i < 8 then some (276 + 2 * i) else none)
  else if a = 28 then (if i < 8 then some (276 + 2 * i + 1) else none)
  else if a = 29 then (if i < 36 then some (292 + i) else none)
  else if a = 32 then (if i < 9 then some (328 + i) else none)
  else if a = 36 then (if i < 6 then some (337 + i) else none)
  else if a = 6 then (if i < 600 then some (343 + i) else none)
  else if a = 9 then (if i = 0 then some 943 else none)
  else if a = 10 then (if i < 16 then some (944 + 4 * i) else none)
  else if a = 11 then (if i < 16 then some (944 + 4 * i + 1) else none)
  else if a = 12 then (if i < 16 then some (944 + 4 * i + 2) else none)
  else if a = 13 then (if i < 16 then some (944 + 4 * i + 3) else none)
  else if a = 14 then (if i < 400 then some (1008 + 2 * i) else none)
  else if a = 15 then (if i < 400 then some (1008 + 2 * i + 1) else none)
  else none
/-- the reference's heap with its images put back -/
def qUn (k : zHp) : zHp := fun a i => match qPos a i with
  | some p => k 38 p
  | none => k a i
/-- u things that can be undone: the class's ring, the reference's rows -/
def qPast (h k : zHp) : Prop := ∃ u m C P n, u ≤ 6 ∧ m < 6 ∧ h 79 3 = nI u ∧ k 0 3 = nI u ∧ h 79 2 = nI m ∧ qCh k C P ∧ k 1 2 = nI n ∧
  ∀ j, j < u → qPo h (82 + 9 * ((m + 6 - u + j) % 6)) (fun i => k 2 (77 * j + i)) (k 4) (k 5) C P ∧ qFine (fun i => k 2 (77 * j + i)) C P ∧ (∃ b, b ≤ 150 ∧ h 81 ((m + 6 - u + j) % 6) = nI b ∧ k 2 (77 * j + 2) = nI b)
def qTape (h k : zHp) : Prop := ∃ n, n ≤ 400 ∧ h 145 1 = nI n ∧ k 0 12 = nI n ∧ ∀ i, i < n → ∃ b, b < 256 ∧ h 146 i = nI b ∧ k 7 i = nI b
def qWords : List Int32 := [32, 115, 119, 105, 110, 103, 115, 32, 102, 97, 100, 101, 115, 32, 106, 117, 109, 112, 115, 32, 119, 104, 101, 110, 32, 111, 114, 32, 97, 110, 100, 32, 110, 111, 116, 32, 114, 117, 110, 32, 115, 119, 105, 110, 103, 32, 100, 101, 97, 114, 32, 109, 105, 110, 100, 115, 32, 109, 105, 115, 115, 101, 100, 32, 115, 97, 116, 32, 100, 114, 97, 117, 103, 104, 116, 32, 104, 101, 114, 101, 32, 109, 105, 110, 117, 116, 101, 32, 97, 116, 32, 112, 101, 114, 115, 111, 110, 32, 115, 105, 116, 32, 114, 105, 115, 101, 32, 103, 111, 32, 99, 111, 109, 101, 32, 99, 97, 116, 32, 104, 117, 115, 104, 32]
def qFix (h k : zHp) : Prop := h 2 0 = 0 ∧ h 136 0 = 1 ∧ h 157 0 = 16 ∧ k 0 5 = 0 ∧ (∀ i, i < 124 → k 8 i = qWords.getD i 0) ∧ h 145 12 = k 0 32 ∧ h 145 13 = k 0 33
def qRel (h k : zHp) : Prop := qWh h 1 k ∧ qPast h k ∧ qTape h k ∧ qFix h k ∧ ((h 0 2 = 0 ∧ k 0 66 = 0 ∧ h 50 0 = 150 ∧ h 59 0 = 16 ∧ h 61 0 = 16 ∧ h 63 0 = 16) ∨ (h 0 2 = 1 ∧ k 0 66 = 1 ∧ qWh h 40 (qUn k)))
end Qrel
