/-! literals beside numbers -/
section Qlits
theorem qlL (a : Nat) {b : Nat} (h : a < b) (hb : b < 2147483648) : (OfNat.ofNat a : Int32) < nI b := by rw [q_lit]; exact nI_lt h hb
theorem qnL (a : Nat) {b : Nat} (h : b ≤ a) (hb : a < 2147483648) : ¬ (OfNat.ofNat a : Int32) < nI b := by rw [q_lit]; exact nI_nlt h hb
theorem qlR (b : Nat) {a : Nat} (h : a < b) (hb : b < 2147483648) : nI a < (OfNat.ofNat b : Int32) := by rw [q_lit]; exact nI_lt h hb
theorem qnR (b : Nat) {a : Nat} (h : b ≤ a) (hb : a < 2147483648) : ¬ nI a < (OfNat.ofNat b : Int32) := by rw [q_lit]; exact nI_nlt h hb
theorem qix0 {R : Type} {n : Nat} {t : Option R} (h : 0 < n) (hn : n < 2147483648) : zix (0 : Int32) n t = t := q_ix (j := 0) h hn
end Qlits
