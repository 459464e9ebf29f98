/-! FEED: bytes are heard -/
section Qfeed
theorem q_h255 : ∀ i, i < 32 → (255#32).getLsbD i = decide (i < 8) := by decide
theorem q_bsh (x : BitVec 32) (s : Nat) (hs : s ≤ 24) : (x.sshiftRight s) &&& 255#32 = (x >>> s) &&& 255#32 := by
  apply BitVec.eq_of_getLsbD_eq
  intro i hi
  rw [BitVec.getLsbD_and, BitVec.getLsbD_and, q_h255 i hi, BitVec.getLsbD_sshiftRight, BitVec.getLsbD_ushiftRight]
  by_cases z : i < 8
  · have h1 : decide (32 ≤ i) = false := by simp; omega
    have h2 : s + i < 32 := by omega
    simp [h1, h2]
  · simp [z]
theorem q_bshM (v m : Int32) (m' : UInt32) (s : Nat) (hs : s ≤ 24) (h1 : m.toBitVec.smod 32#32 = BitVec.ofNat 32 s) (h2 : m'.toBitVec % 32#32 = BitVec.ofNat 32 s) : (v >>> m) &&& 255 = ((v.toUInt32 >>> m').toInt32) &&& 255 := by
  apply Int32.toBitVec_inj.mp
  have e1 : ((v >>> m) &&& 255 : Int32).toBitVec = v.toBitVec.sshiftRight' (m.toBitVec.smod 32#32) &&& 255#32 := rfl
  have e2 : (((v.toUInt32 >>> m').toInt32) &&& 255 : Int32).toBitVec = (v.toBitVec >>> (m'.toBitVec % 32#32)) &&& 255#32 := rfl
  have e3 : (BitVec.ofNat 32 s).toNat = s := by simp; omega
  rw [e1, e2, h1, h2]
  show v.toBitVec.sshiftRight (BitVec.ofNat 32 s).toNat &&& 255#32 = (v.toBitVec >>> (BitVec.ofNat 32 s).toNat) &&& 255#32
  rw [e3]
  exact q_bsh _ s hs
theorem q_bshB (v m : Int32) (m' : UInt32) (s : Nat) (hs : s ≤ 24) (h1 : m.toBitVec.smod 32#32 = BitVec.ofNat 32 s) (h2 : m'.toBitVec % 32#32 = BitVec.ofNat 32 s) : ∃ b, b < 256 ∧ (v >>> m) &&& 255 = nI b ∧ ((v.toUInt32 >>> m').toInt32) &&& 255 = nI b := by
  have e := q_bshM v m m' s hs h1 h2
  have e3 : (BitVec.ofNat 32 s).toNat = s := by simp; omega
  have k : ((v.toUInt32 >>> m').toInt32) &&& 255 = nI ((v.toBitVec.toNat >>> s) % 256) := by
    apply Int32.toBitVec_inj.mp
    have e2 : (((v.toUInt32 >>> m').toInt32) &&& 255 : Int32).toBitVec = (v.toBitVec >>> (m'.toBitVec % 32#32)) &&& 255#32 := rfl
    have e4 : (nI ((v.toBitVec.toNat >>> s) % 256)).toBitVec = BitVec.ofNat 32 ((v.toBitVec.toNat >>> s) % 256) := rfl
    rw [e2, e4, h2]
    apply BitVec.eq_of_toNat_eq
    have e5 : (v.toBitVec >>> BitVec.ofNat 32 s).toNat = v.toBitVec.toNat >>> s := by
      show (v.toBitVec >>> (BitVec.ofNat 32 s).toNat).toNat = _
      rw [e3, BitVec.toNat_ushiftRight]
    rw [BitVec.toNat_and, e5]
    show (v.toBitVec.toNat >>> s) &&& (2 ^ 8 - 1) = (BitVec.ofNat 32 ((v.toBitVec.toNat >>> s) % 256)).toNat
    rw [Nat.and_two_pow_sub_one_eq_mod, BitVec.toNat_ofNat]
    have : (v.toBitVec.toNat >>> s) % 2 ^ 8 < 256 := Nat.mod_lt _ (by omega)
    omega
  exact ⟨_, Nat.mod_lt _ (by omega), e.trans k, k⟩
theorem q_nar : ∀ b, b < 256 → vp_nar .char (((nI b).toUInt32 % 65536).toInt32) = nI b := by decide +kernel
theorem q_shM (s : Nat) (hs : s = 0 ∨ s = 8 ∨ s = 16 ∨ s = 24) : (nI s &&& (31 : Int32)).toBitVec.smod 32#32 = BitVec.ofNat 32 s ∧ ((nI s).toUInt32 &&& Int32.toUInt32 31).toBitVec % 32#32 = BitVec.ofNat 32 s := by
  rcases hs with rfl | rfl | rfl | rfl <;> decide
/-- one byte is heard -/
theorem q_hear1 {h k : zHp} {n s : Nat} (hs : s = 0 ∨ s = 8 ∨ s = 16 ∨ s = 24) (hn : n < 400) (e : h 145 1 = nI n) (f : k 0 12 = nI n) (v : Int32) : ∃ b, b < 256 ∧ (∀ rec : Int32 × Int32 × zHp → Option zHp, f_X6_hear_3 rec v (nI s) h = rec (v, nI s + (-8), zst (zst h 146 n (nI b)) 145 1 (nI (n + 1)))) ∧ ∀ rec : Int32 × Int32 × zHp → Option zHp, f_X11_types_3 rec v (nI s) k = rec (v, nI s + (-8), zst (zst k 7 n (nI b)) 0 12 (nI (n + 1))) := by
  obtain ⟨s1, s2⟩ := q_shM s hs
  obtain ⟨b, b1, b2, b3⟩ := q_bshB v (nI s &&& 31) ((nI s).toUInt32 &&& Int32.toUInt32 31) s (by omega) s1 s2
  have ns : ¬ nI s < (0 : Int32) := nI_pos (by omega)
  have en : nI n + (1 : Int32) = nI (n + 1) := nI_add n 1
  refine ⟨b, b1, fun rec => ?_, fun rec => ?_⟩
  · simp only [f_X6_hear_3]
    rw [if_neg ns, b3, q_nar b b1, e, if_pos (show nI n < (400 : Int32) from nI_lt (b := 400) hn (by omega)), q_ix hn (by omega), q_lt, q_lt, q_cl (by omega), q_st_c (show (145 : Nat) ≠ 146 by omega), e, en]
  · simp only [f_X11_types_3]
    rw [if_neg ns, b2, f, q_ix hn (by omega), q_lt, q_lt, q_cl (by omega), q_st_c (show (0 : Nat) ≠ 7 by omega), f, en]
def qTp (h k : zHp) (n : Nat) : Prop := h 145 1 = nI n ∧ k 0 12 = nI n ∧ ∀ i, i < n → ∃ b, b < 256 ∧ h 146 i = nI b ∧ k 7 i = nI b
def qTf (h h' k k' : zHp) : Prop := (∀ a, a ≠ 145 → a ≠ 146 → h' a = h a) ∧ (∀ j, j ≠ 1 → h' 145 j = h 145 j) ∧ (∀ a, a ≠ 0 → a ≠ 7 → k' a = k a) ∧ ∀ j, j ≠ 12 → k' 0 j = k 0 j
theorem qTf_tr {h h' h'' k k' k'' : zHp} (a : qTf h h' k k') (b : qTf h' h'' k' k'') : qTf h h'' k k'' := ⟨fun i p q => (b.1 i p q).trans (a.1 i p q), fun i p => (b.2.1 i p).trans (a.2.1 i p), fun i p q => (b.2.2.1 i p q).trans (a.2.2.1 i p q), fun i p => (b.2.2.2 i p).trans (a.2.2.2 i p)⟩
theorem qTp_s {h k : zHp} {n b : Nat} (T : qTp h k n) (hb : b < 256) : qTp (zst (zst h 146 n (nI b)) 145 1 (nI (n + 1))) (zst (zst k 7 n (nI b)) 0 12 (nI (n + 1))) (n + 1) ∧ qTf h (zst (zst h 146 n (nI b)) 145 1 (nI (n + 1))) k (zst (zst k 7 n (nI b)) 0 12 (nI (n + 1))) := by
  obtain ⟨t1, t2, t3⟩ := T
  refine ⟨⟨q_st_s, q_st_s, fun i hi => ?_⟩, fun a p q => by rw [q_st_c p, q_st_c q], fun j p => by rw [q_st_i p, q_st_c (by omega)], fun a p q => by rw [q_st_c p, q_st_c q], fun j p => by rw [q_st_i p, q_st_c (by omega)]⟩
  rw [q_st_c (show (146 : Nat) ≠ 145 by omega), q_st_c (show (7 : Nat) ≠ 0 by omega)]
  by_cases z : i = n
  · exact ⟨b, hb, by rw [z, q_st_s], by rw [z, q_st_s]⟩
  · rw [q_st_i z, q_st_i z]; exact t3 i (by omega)
theorem q_hear4 {h k : zHp} {n : Nat} (T : qTp h k n) (hn : n + 4 ≤ 400) (v : Int32) : ∃ h' k', f_X6_hear v h = some h' ∧ f_X11_types v k = some k' ∧ qTp h' k' (n + 4) ∧ qTf h h' k k' := by
  obtain ⟨a, a1, a2, a3⟩ := q_hear1 (s := 24) (by omega) (show n < 400 by omega) T.1 T.2.1 v
  obtain ⟨T1, F1⟩ := qTp_s T a1
  obtain ⟨b, b1, b2, b3⟩ := q_hear1 (s := 16) (by omega) (show n + 1 < 400 by omega) T1.1 T1.2.1 v
  obtain ⟨T2, F2⟩ := qTp_s T1 b1
  obtain ⟨c, c1, c2, c3⟩ := q_hear1 (s := 8) (by omega) (show n + 1 + 1 < 400 by omega) T2.1 T2.2.1 v
  obtain ⟨T3, F3⟩ := qTp_s T2 c1
  obtain ⟨d, d1, d2, d3⟩ := q_hear1 (s := 0) (by omega) (show n + 1 + 1 + 1 < 400 by omega) T3.1 T3.2.1 v
  obtain ⟨T4, F4⟩ := qTp_s T3 d1
  have s1 : nI 24 + (-8 : Int32) = nI 16 := by decide
  have s2 : nI 16 + (-8 : Int32) = nI 8 := by decide
  have s3 : nI 8 + (-8 : Int32) = nI 0 := by decide
  refine ⟨_, _, ?_, ?_, T4, qTf_tr (qTf_tr (qTf_tr F1 F2) F3) F4⟩
  · unfold f_X6_hear f_X6_hear_3_lp
    rw [q_lpS (by rw [q_zN]; omega), show (24 : Int32) = nI 24 from rfl, a2, s1, q_lpS (by rw [q_zN]; omega), b2, s2, q_lpS (by rw [q_zN]; omega), c2, s3, q_lpS (by rw [q_zN]; omega), d2, q_lpS (by rw [q_zN]; omega)]
    simp only [f_X6_hear_3]
    exact if_pos (by decide)
  · unfold f_X11_types f_X11_types_3_lp
    rw [q_lpS (by rw [q_zN]; omega), show (24 : Int32) = nI 24 from rfl, a3, s1, q_lpS (by rw [q_zN]; omega), b3, s2, q_lpS (by rw [q_zN]; omega), c3, s3, q_lpS (by rw [q_zN]; omega), d3, q_lpS (by rw [q_zN]; omega)]
    simp only [f_X11_types_3]
    exact if_pos (by decide)
theorem q_call_feed {h k : zHp} (R : qRel h k) (a b c d e : Int32) : qCall (f_X10_feed a b c d e h) (f_X11_feed a b c d e k) := by
  have R0 : qRel h (zst k 0 0 0) := qRel_s (qXs_rf h) (qMs_s0 k) R
  obtain ⟨k0, hk0⟩ : ∃ k0, k0 = zst k 0 0 0 := ⟨_, rfl⟩
  rw [← hk0] at R0
  obtain ⟨n, n1, T⟩ := R0.2.2.1
  obtain ⟨-, -, -, -, -, x6, x7⟩ := R0.2.2.2.1
  have T : qTp h k0 n := T
  unfold f_X10_feed f_X11_feed
  rw [q_lt, ← hk0, T.1, T.2.1, show nI n + (20 : Int32) = nI (n + 20) from nI_add n 20]
  rcases Nat.lt_or_ge 380 n with z | z
  · rw [if_pos (show (400 : Int32) < nI (n + 20) from nI_lt (a := 400) (by omega) (by omega)), if_pos (show (380 : Int32) < nI n from nI_lt (a := 380) z (by omega))]
    exact ⟨-1, h, k0, rfl, rfl, R0⟩
  · rw [if_neg (show ¬ (400 : Int32) < nI (n + 20) from nI_nlt (a := 400) (by omega) (by omega)), if_neg (show ¬ (380 : Int32) < nI n from nI_nlt (a := 380) z (by omega))]
    obtain ⟨h1, k1, u1, w1, T1, F1⟩ := q_hear4 T (by omega) a
    obtain ⟨h2, k2, u2, w2, T2, F2⟩ := q_hear4 T1 (by omega) b
    obtain ⟨h3, k3, u3, w3, T3, F3⟩ := q_hear4 T2 (by omega) c
    obtain ⟨h4, k4, u4, w4, T4, F4⟩ := q_hear4 T3 (by omega) d
    obtain ⟨h5, k5, u5, w5, T5, F5⟩ := q_hear4 T4 (by omega) e
    obtain ⟨G1, G2, G3, G4⟩ := qTf_tr (qTf_tr (qTf_tr (qTf_tr F1 F2) F3) F4) F5
    refine ⟨nI (n + 4 + 4 + 4 + 4 + 4), h5, k5, ?_, ?_, qRel_tape R0 G1 G3 (fun i _ q _ _ => G4 i q) ⟨_, by omega, T5⟩ (by rw [G2 12 (by omega), G4 32 (by omega)]; exact x6) (by rw [G2 13 (by omega), G4 33 (by omega)]; exact x7)⟩
    · rw [u1, q_bd, u2, q_bd, u3, q_bd, u4, q_bd, u5, q_bd, T5.1]
    · rw [w1, q_bd, w2, q_bd, w3, q_bd, w4, q_bd, w5, q_bd, T5.2.1]
end Qfeed
