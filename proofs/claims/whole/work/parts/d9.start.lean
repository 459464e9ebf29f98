/-! THE LAW: its loop, and its entry -/
theorem nI_toI {n : Nat} (h : n < 2 ^ 31) : (nI n).toInt = (n : Int) := by
  show (Int32.ofNat n).toInt = _
  exact Int32.toInt_ofNat_of_lt h
theorem lw_idx {x : Int32} : ∃ j : Nat, j < 64 ∧ x &&& 63 = nI j := by
  refine ⟨(x.toBitVec &&& 63#32).toNat, ?_, ?_⟩
  · have h : (x.toBitVec &&& 63#32).toNat = x.toBitVec.toNat % 2 ^ 6 := by
      rw [BitVec.toNat_and]
      exact Nat.and_two_pow_sub_one_eq_mod _ 6
    rw [h]; exact Nat.mod_lt _ (by decide)
  · apply Int32.toBitVec_inj.mp
    show x.toBitVec &&& 63#32 = (Int32.ofNat (x.toBitVec &&& 63#32).toNat).toBitVec
    rw [Int32.toBitVec_ofNat']
    apply BitVec.eq_of_toNat_eq
    rw [BitVec.toNat_ofNat]
    exact (Nat.mod_eq_of_lt (x.toBitVec &&& 63#32).isLt).symm
theorem lw_gt {N n : Nat} (hN : N ≤ 3072) (hn : n ≤ N + 6) (h : ¬ nI N - 6 < nI n) : n + 6 ≤ N := by
  refine Nat.not_lt.mp (fun hlt => h ?_)
  rw [fa_lt]
  have e1 : (nI n).toInt = (n : Int) := nI_toI (by omega)
  have e2 : (nI N).toInt = (N : Int) := nI_toI (by omega)
  rw [Int32.toInt_sub, e1, e2]
  show ((N : Int) - 6).bmod (2 ^ 32) < (n : Int)
  rw [Int.bmod_eq_of_le (by omega) (by omega)]
  omega
theorem lw_loop {N : Nat} {xs : Nat → Int32} (hN : N ≤ 3072) : ∀ (f n : Nat) (h k : zHp), qRel h k → n ≤ N + 6 → N < n + f → Lw N xs 18 n [] h k := by
  intro f
  induction f with
  | zero =>
    intro n h k R hn hf
    refine Lw.i3 dL_law_18 (Lw.a0 dL_law_19 (Lw.alen dL_law_20 (Lw.bipush (v := 6) dL_law_21 rfl (Lw.isub dL_law_23 rfl (Lw.gt 1258 dL_law_24 rfl (fun _ => ?_) (fun hc => ?_))))))
    · exact Lw.iconst (v := 1) dL_law_1258 rfl (Lw.ret dL_law_1259)
    · have := lw_gt hN hn hc
      omega
  | succ f ih =>
    intro n h k R hn hf
    refine Lw.i3 dL_law_18 (Lw.a0 dL_law_19 (Lw.alen dL_law_20 (Lw.bipush (v := 6) dL_law_21 rfl (Lw.isub dL_law_23 rfl (Lw.gt 1258 dL_law_24 rfl (fun _ => ?_) (fun hc => ?_))))))
    · exact Lw.iconst (v := 1) dL_law_1258 rfl (Lw.ret dL_law_1259)
    · have hn6 := lw_gt hN hn hc
      have K : ∀ h' k', qRel h' k' → Lw N xs 1252 n [] h' k' := fun h' k' R' => Lw.next dL_law_1252 (Lw.goto 18 dL_law_1255 rfl (ih (n + 6) h' k' R' (by omega) (by omega)))
      obtain ⟨j, hj, ej⟩ := lw_idx (x := xs n)
      refine Lw.a0 dL_law_27 (Lw.i3 dL_law_28 (Lw.iald dL_law_29 rfl (by omega) hN (Lw.bipush (v := 63) dL_law_30 rfl (Lw.iand (z := nI j) dL_law_32 ej ?_))))
      by_cases h36 : 36 ≤ j
      · refine Lw.tswOut 1252 dL_law_33 (Or.inr ?_) rfl (K h k R)
        rw [nI_toI (by omega)]
        omega
      · have e : j = 0 ∨ j = 1 ∨ j = 2 ∨ j = 3 ∨ j = 4 ∨ j = 5 ∨ j = 6 ∨ j = 7 ∨ j = 8 ∨ j = 9 ∨ j = 10 ∨ j = 11 ∨ j = 12 ∨ j = 13 ∨ j = 14 ∨ j = 15 ∨ j = 16 ∨ j = 17 ∨ j = 18 ∨ j = 19 ∨ j = 20 ∨ j = 21 ∨ j = 22 ∨ j = 23 ∨ j = 24 ∨ j = 25 ∨ j = 26 ∨ j = 27 ∨ j = 28 ∨ j = 29 ∨ j = 30 ∨ j = 31 ∨ j = 32 ∨ j = 33 ∨ j = 34 ∨ j = 35 := by omega
        rcases e with rfl | rfl | rfl | rfl | rfl | rfl | rfl | rfl | rfl | rfl | rfl | rfl | rfl | rfl | rfl | rfl | rfl | rfl | rfl | rfl | rfl | rfl | rfl | rfl | rfl | rfl | rfl | rfl | rfl | rfl | rfl | rfl | rfl | rfl | rfl | rfl
        · exact Lw.tswIn (v := 0) 192 dL_law_33 rfl (by decide) (by decide) rfl rfl (lc_0 hN hn6 R K)
        · exact Lw.tswIn (v := 1) 215 dL_law_33 rfl (by decide) (by decide) rfl rfl (lc_1 hN hn6 R K)
        · exact Lw.tswIn (v := 2) 238 dL_law_33 rfl (by decide) (by decide) rfl rfl (lc_2 hN hn6 R K)
        · exact Lw.tswIn (v := 3) 261 dL_law_33 rfl (by decide) (by decide) rfl rfl (lc_3 hN hn6 R K)
        · exact Lw.tswIn (v := 4) 304 dL_law_33 rfl (by decide) (by decide) rfl rfl (lc_4 hN hn6 R K)
        · exact Lw.tswIn (v := 5) 347 dL_law_33 rfl (by decide) (by decide) rfl rfl (lc_5 hN hn6 R K)
        · exact Lw.tswIn (v := 6) 370 dL_law_33 rfl (by decide) (by decide) rfl rfl (lc_6 hN hn6 R K)
        · exact Lw.tswIn (v := 7) 433 dL_law_33 rfl (by decide) (by decide) rfl rfl (lc_7 hN hn6 R K)
        · exact Lw.tswIn (v := 8) 456 dL_law_33 rfl (by decide) (by decide) rfl rfl (lc_8 hN hn6 R K)
        · exact Lw.tswIn (v := 9) 479 dL_law_33 rfl (by decide) (by decide) rfl rfl (lc_9 hN hn6 R K)
        · exact Lw.tswIn (v := 10) 502 dL_law_33 rfl (by decide) (by decide) rfl rfl (lc_10 hN hn6 R K)
        · exact Lw.tswIn (v := 11) 535 dL_law_33 rfl (by decide) (by decide) rfl rfl (lc_11 hN hn6 R K)
        · exact Lw.tswIn (v := 12) 568 dL_law_33 rfl (by decide) (by decide) rfl rfl (lc_12 hN hn6 R K)
        · exact Lw.tswIn (v := 13) 601 dL_law_33 rfl (by decide) (by decide) rfl rfl (lc_13 hN hn6 R K)
        · exact Lw.tswIn (v := 14) 634 dL_law_33 rfl (by decide) (by decide) rfl rfl (lc_14 hN hn6 R K)
        · exact Lw.tswIn (v := 15) 647 dL_law_33 rfl (by decide) (by decide) rfl rfl (lc_15 hN hn6 R K)
        · exact Lw.tswIn (v := 16) 680 dL_law_33 rfl (by decide) (by decide) rfl rfl (lc_16 hN hn6 R K)
        · exact Lw.tswIn (v := 17) 703 dL_law_33 rfl (by decide) (by decide) rfl rfl (lc_17 hN hn6 R K)
        · exact Lw.tswIn (v := 18) 736 dL_law_33 rfl (by decide) (by decide) rfl rfl (lc_18 hN hn6 R K)
        · exact Lw.tswIn (v := 19) 769 dL_law_33 rfl (by decide) (by decide) rfl rfl (lc_19 hN hn6 R K)
        · exact Lw.tswIn (v := 20) 802 dL_law_33 rfl (by decide) (by decide) rfl rfl (lc_20 hN hn6 R K)
        · exact Lw.tswIn (v := 21) 825 dL_law_33 rfl (by decide) (by decide) rfl rfl (lc_21 hN hn6 R K)
        · exact Lw.tswIn (v := 22) 884 dL_law_33 rfl (by decide) (by decide) rfl rfl (lc_22 hN hn6 R K)
        · exact Lw.tswIn (v := 23) 907 dL_law_33 rfl (by decide) (by decide) rfl rfl (lc_23 hN hn6 R K)
        · exact Lw.tswIn (v := 24) 940 dL_law_33 rfl (by decide) (by decide) rfl rfl (lc_24 hN hn6 R K)
        · exact Lw.tswIn (v := 25) 963 dL_law_33 rfl (by decide) (by decide) rfl rfl (lc_25 hN hn6 R K)
        · exact Lw.tswIn (v := 26) 996 dL_law_33 rfl (by decide) (by decide) rfl rfl (lc_26 hN hn6 R K)
        · exact Lw.tswIn (v := 27) 1019 dL_law_33 rfl (by decide) (by decide) rfl rfl (lc_27 hN hn6 R K)
        · exact Lw.tswIn (v := 28) 1062 dL_law_33 rfl (by decide) (by decide) rfl rfl (lc_28 hN hn6 R K)
        · exact Lw.tswIn (v := 29) 1095 dL_law_33 rfl (by decide) (by decide) rfl rfl (lc_29 hN hn6 R K)
        · exact Lw.tswIn (v := 30) 1118 dL_law_33 rfl (by decide) (by decide) rfl rfl (lc_30 hN hn6 R K)
        · exact Lw.tswIn (v := 31) 1141 dL_law_33 rfl (by decide) (by decide) rfl rfl (lc_31 hN hn6 R K)
        · exact Lw.tswIn (v := 32) 1164 dL_law_33 rfl (by decide) (by decide) rfl rfl (lc_32 hN hn6 R K)
        · exact Lw.tswIn (v := 33) 1177 dL_law_33 rfl (by decide) (by decide) rfl rfl (lc_33 hN hn6 R K)
        · exact Lw.tswIn (v := 34) 1190 dL_law_33 rfl (by decide) (by decide) rfl rfl (lc_34 hN hn6 R K)
        · exact Lw.tswIn (v := 35) 1229 dL_law_33 rfl (by decide) (by decide) rfl rfl (lc_35 hN hn6 R K)
theorem mm_LX : zMm mX10_init 0 := ⟨zTb_in 161 (by decide +kernel) rfl, zTb_in 137 (by decide +kernel) rfl, ⟨by decide +kernel, by decide +kernel⟩, by decide +kernel⟩
theorem im_LX : Cond.instanceMethod mX10_init.1 ∈ zTb := zTb_in 160 (by decide +kernel) rfl
set_option maxRecDepth 100000 in
theorem mm_LM : zMm mX11_init 0 := ⟨zTb_in 1297 (by rfl) rfl, zTb_in 148 (by decide +kernel) rfl, ⟨by decide +kernel, by decide +kernel⟩, by decide +kernel⟩
theorem im_LM : Cond.instanceMethod mX11_init.1 ∈ zTb := zTb_in 1296 (by decide +kernel) rfl
/-- a constructor's call, in the law's frame -/
theorem lw_init {p : Program} {l : Launch} {e : Env} {s : State} {m : MethodId} {below : List Frame} {meth : Method} {c : Code} {b N : Nat} {xs : Nat → Int32} {H : Heap} {locs : List Loc} {Q : State → Prop} {ls : Array Slot} {D : va_G} {g : zG} {w1 : zWd} {h1 : zHp} {M1 : zMt} {d1 mc1 ms1 ix ci1 a pc cells slots : Nat} {fs1 st : List Value} {Py : Nat → (Nat → Nat) → Prop} {W0 : va_W} (hI : Ini w1 h1 M1 d1 mc1 ms1 [] ci1 fs1 Py) (C : lw_At p s m meth c b N xs) (hK : zK D g s) (hXt : zXt s) (hl : ls.size = 4) (hP : va_P D vwCl (W0 ++ [(a, .inr (ci1, fs1))]) H) (hD : va_D (lwA s) (W0 ++ [(a, .inr (ci1, fs1))])) (hS : va_S (lwA s) s.heap H locs)
    (hd : decode code pc = .ok (.invokespecial ix, 3)) (hl0 : Cond.methodLink R_law ix M1.1 ∈ zTb) (hm : zMm M1 0) (hnm : M1.1.name = "<init>") (hret : M1.2.2.2 = none) (hinst : Cond.instanceMethod M1.1 ∈ zTb) (hdd : d1 + 1 ≤ 1300) (hml : M1.2.2.1 ≤ 45) (hw : (st.map fun v => v.category).sum ≤ 8) (hc : cells + mc1 ≤ 600000) (hs : slots + ms1 ≤ 7302250)
    (kk : ∀ (r : Nat → Nat) H1 locs1, Py a r → va_P D vwCl (W0 ++ zW g r w1 h1) H1 → va_D (lwA s) (W0 ++ zW g r w1 h1) → va_S (lwA s) s.heap H1 locs1 → W p l e room_1 s m #[.ref b] below meth c H1 locs1 (cells + mc1) (slots + ms1) Q (F0 m (pc + 3) ls st)) : W p l e room_1 s m #[.ref b] below meth c H locs cells slots Q (F0 m pc ls (.ref a :: st)) := by
  obtain ⟨hx, hb, hr, hml4, hown, hts1, hX, hbl, hlocks, hgv⟩ := C
  have hts : ∀ q ∈ zTb, q.before #[Value.ref b] s = true := fun q hq => hts1 q (List.mem_filter.mp hq).1
  obtain ⟨m1, m2, m3, m4⟩ := hm
  have hPc : va_P D vwCl [(a, .inr (ci1, fs1))] H := hP.sub [W0.length] (by simp)
  have hF : ∀ q, va_A [(a, .inr (ci1, fs1))] H.size q → lwA s q := va_free (wc := [(a, .inr (ci1, fs1))]) hD hS (fun _ h => h) [W0.length] (by simp)
  have cb : CallB room_1 s #[Value.ref b] R_law ix M1.1 M1.2.1 M1.2.2.1 none (Cond.code M1.1 M1.2.1 M1.2.2.1 M1.2.2.2 :: zTb) (zRi d1 mc1 ms1) mc1 ms1 ([] : List Value).length := by
    refine ⟨rfl, rfl, by show d1 + 1 ≤ 2048; omega, by show 8 + (M1.2.2.1 + 11) + 64 * d1 ≤ 84000; omega, fun q hq a' U hW => ?_, by rw [← hret]; exact List.mem_cons_self, by rw [← hret]; exact hts _ m1, hts _ m2, m3, fun sig hs => ?_, hts _ hl0⟩
    · rcases List.mem_cons.mp hq with e | e
      · subst e; exact word_at hW (zTb_good _ m1) (hts _ m1)
      · exact word_at hW (zTb_good _ e) (hts _ e)
    · rw [hs] at m4; exact (Option.some.inj m4).symm
  have hrun := va_runI (p := p) (e := e) (below := below) (meth := meth) (locs := locs) (cells := cells) (slots := slots) (m := m) (nL := 4) (n := ([] : List Value).length) (Ts := zTb) (b := a) (As := []) (rest := st) (g := F0 m pc ls (.ref a :: st)) ⟨hx, hb, hml4, hown, hts⟩ (hI l D g a H.size) ⟨cb, hnm, hts _ hinst⟩
    ⟨fun a' U g' mk q => ⟨q.1, q.2.1, q.2.2.1, va_K.moved (u := U) (U := U.calling g' mk a') (Vm.Alike.refl U.vm) q.2.2.2.1, zXt.same (u := U) rfl q.2.2.2.2⟩, fun U hU hW => ⟨rfl, by rw [hU], by rw [hU]; exact hPc, va_K.moved hW.alike hK, zXt.go hW hXt⟩⟩ rfl rfl hl rfl (lv_room hw) hd ⟨hc, hs⟩
  refine va_callv hrun hS (fun q _ h => hF q h) hF (fun r t H1 locs1 ht _ hpx hB _ hk hS1 => ?_)
  obtain ⟨hP1, hD1⟩ := hB
  rw [ht] at hP1
  obtain ⟨hP2, hD2⟩ := zi_join hP hD hk hF hP1 hD1
  exact kk r H1 locs1 hpx hP2 hD2 hS1
set_option maxHeartbeats 4000000 in
set_option maxRecDepth 100000 in
/-- from the law's entry -/
theorem whole_start {p : Program} {e : Env} {s : State} {m : MethodId} {below : List Frame} {meth : Method} {c : Code} (l : Launch) (hflags : l.flags = flags0) {b L : Nat} {xs : Nat → Int32} (hL : L ≤ 3072) (C0 : lw_At p s m meth c b L xs) : W p l e room_1 s m #[Value.ref b] below meth c s.heap [] 0 0 (lw_Z below #[Value.ref b] s) (entryFrame m ([Value.ref b] : List Value).toArray 4) := by
  obtain ⟨hx, hb, hr, hml, hown, hts1, hXs, hbl, hlocks, hgv⟩ := id C0
  have hts : ∀ q ∈ zTb, q.before #[Value.ref b] s = true := fun q hq => hts1 q (List.mem_filter.mp hq).1
  have hA : ∀ q : Nat, s.heap.size ≤ q → lwA s q := fun _ h => h
  obtain ⟨D, g, hK⟩ := zb_K hts1
  have hXt : zXt s := zb_X hts1
  obtain ⟨tx, htx⟩ := zb_T hts1 hgv
  have hS : va_S (lwA s) s.heap s.heap [] := va_S.rf
  have hP : va_P D vwCl [] s.heap := fun k q h => by simp at h
  have hD : va_D (lwA s) [] := ⟨fun i j p q h => by simp at h, fun k q h => by simp at h⟩
  have hl := lv_entry ([.ref b]) (n := 4) (Nat.le_of_ble_eq_true rfl)
  rw [lg_entry_eq]
  generalize (lg_sl ([.ref b]) ++ List.replicate (4 - (lg_sl ([.ref b])).length) Slot.unset).toArray = ls at hl ⊢
  have hl : lv_has ls 4 [(0, .ref b)] := hl
  refine va_new (ci := 10) (fs := [.null, .null, .int 0, .null, .null, .null, .null, .null]) (C := RX10) (T := TX10) (N := 8) hx hb hts in_X10 tyX10 tyX10_ok hown (hts1 _ (List.mem_of_getElem? (i := 157) (by decide +kernel))) (hts _ it_X10) (hts1 _ (List.mem_of_getElem? (i := 137) (by decide +kernel))) hK hP hD hS hA rfl (by decide +kernel) (Nat.le_of_ble_eq_true rfl) (Nat.le_of_ble_eq_true rfl) dL_law_0 (fun a1 H hP hD hS => ?_)
  refine lv_dup hx hb dL_law_3 rfl ?_
  refine lw_init (W0 := []) (M1 := mX10_init) (n_X10) C0 hK hXt hl.1 hP hD hS dL_law_4 (zTb_in 159 (by decide +kernel) rfl) mm_LX rfl rfl im_LX (Nat.le_of_ble_eq_true rfl) (Nat.le_of_ble_eq_true rfl) (Nat.le_of_ble_eq_true rfl) (Nat.le_of_ble_eq_true rfl) (Nat.le_of_ble_eq_true rfl) (fun rx H1 locs1 hr1 hPa hDa hSa => ?_)
  have hr1 : rx 0 = a1 := hr1
  clear hP hD hS
  subst hr1
  refine lv_astore_n (lv' := [(1, .ref (rx 0)), (0, .ref b)]) hx hb dL_law_7 rfl hl (by decide) rfl (fun ls hl => ?_)
  refine va_new (ci := 11) (fs := [.int 0, .null, .null, .int 0, .null, .int 0, .int 0, .int 0, .null, .null, .null, .null, .int 0, .int 0, .int 0, .int 0, .int 0, .null, .null, .null, .null, .null, .null, .null, .null, .int 0, .int 0, .int 0, .null, .int 0, .int 0, .int 0, .int 0, .int 0, .int 0, .null, .int 0, .null, .int 0, .null, .null, .null, .int 0, .null, .null, .int 0, .null, .null, .null, .int 0, .null, .null, .null, .int 0, .null, .null, .int 0, .null, .null, .null, .int 0, .null, .int 0, .null, .null, .int 0, .int 0, .int 0, .null]) (C := RX11) (T := TX11) (N := 69) hx hb hts in_X11 tyX11 tyX11_ok hown (hts1 _ (List.mem_of_getElem? (i := 1293) (by decide +kernel))) (hts _ it_X11) (hts1 _ (List.mem_of_getElem? (i := 148) (by decide +kernel))) hK hPa hDa hSa hA rfl (by decide +kernel) (Nat.le_of_ble_eq_true rfl) (Nat.le_of_ble_eq_true rfl) dL_law_8 (fun a2 H hPb hDb hSb => ?_)
  refine lv_dup hx hb dL_law_11 rfl ?_
  refine lw_init (W0 := zW g rx wX hX) (M1 := mX11_init) (n_X11) C0 hK hXt hl.1 hPb hDb hSb dL_law_12 (zTb_in 1295 (by decide +kernel) rfl) mm_LM rfl rfl im_LM (Nat.le_of_ble_eq_true rfl) (Nat.le_of_ble_eq_true rfl) (Nat.le_of_ble_eq_true rfl) (Nat.le_of_ble_eq_true rfl) (Nat.le_of_ble_eq_true rfl) (fun rm H1 locs1 hr2 hP hD hS => ?_)
  have hr2 : rm 0 = a2 := hr2
  clear hPb hDb hSb hPa hDa hSa
  subst hr2
  refine lv_astore_n (lv' := [(2, .ref (rm 0)), (1, .ref (rx 0)), (0, .ref b)]) hx hb dL_law_15 rfl hl (by decide) rfl (fun ls hl => ?_)
  refine lv_iconst (v := 0) hx hb dL_law_16 rfl ?_
  refine lv_istore_n (lv' := [(3, .int 0), (2, .ref (rm 0)), (1, .ref (rx 0)), (0, .ref b)]) hx hb dL_law_17 rfl hl (by decide) rfl (fun ls hl => ?_)
  refine W.widen (k := 600000) (n := 7302250) (Nat.le_of_ble_eq_true rfl) (Nat.le_of_ble_eq_true rfl) ?_
  have wx : wX.1 = 166 := by decide +kernel
  have wm : wM.1 = 39 := by decide +kernel
  have hx6 : ∀ i, i < wX.1 → (if i < 1000 then rx i else tx i) = rx i := fun i hi => if_pos (by omega)
  have hm6 : ∀ i, i < wM.1 → (if i < 1000 then rm i else tx i) = rm i := fun i hi => if_pos (by omega)
  have ex : zW g rx wX hX = zW g (fun i => if i < 1000 then rx i else tx i) wX hX := zW_cg (l := wX_l) (by decide +kernel) (fun j hj => (hx6 j hj).symm)
  have em : zW g rm wM hM = zW g (fun i => if i < 1000 then rm i else tx i) wM hM := zW_cg (l := wM_l) (by decide +kernel) (fun j hj => (hm6 j hj).symm)
  have lx : (zW g rx wX hX).length = 166 := by unfold zW; rw [List.length_map, List.length_range, wx]
  have atx : ∀ i, i < wX.1 → (zW g rx wX hX ++ zW g rm wM hM)[i]? = some (rx i, zE g rx wX hX i) := fun i hi => by
    rw [List.getElem?_append_left (by omega)]; exact zW_at hi
  have atm : ∀ i, i < wM.1 → (zW g rx wX hX ++ zW g rm wM hM)[166 + i]? = some (rm i, zE g rm wM hM i) := fun i hi => by
    rw [List.getElem?_append_right (by omega), show 166 + i - (zW g rx wX hX).length = i by omega]; exact zW_at hi
  have hPx : va_P D vwCl (zW g rx wX hX) H1 := fun k q hq => by
    obtain ⟨hk, rfl⟩ := zW_inv hq
    exact hP k _ (atx k hk)
  have hPm : va_P D vwCl (zW g rm wM hM) H1 := fun k q hq => by
    obtain ⟨hk, rfl⟩ := zW_inv hq
    exact hP (166 + k) _ (atm k hk)
  rw [ex] at hPx
  rw [em] at hPm
  refine lw_loop hL (L + 1) 0 hX hM q_begin (by omega) (by omega) p l e s m below meth c b H1 locs1 D g _ _ ls ⟨C0, hK, ⟨htx _ (fun i hi => if_neg (by omega)), htx _ (fun i hi => if_neg (by omega))⟩, ⟨fun i j hi hj e => ?_, fun i j hi hj e => ?_⟩, fun i j hi hj e => ?_, fun i hi => ?_, fun i hi => ?_⟩ (lv_sub hl [3, 2, 1, 0] rfl) hPx hPm hS
  · simp only [hx6 i hi, hx6 j hj] at e
    exact hD.1 i j _ _ (atx i hi) (atx j hj) e
  · simp only [hm6 i hi, hm6 j hj] at e
    have := hD.1 (166 + i) (166 + j) _ _ (atm i hi) (atm j hj) e
    omega
  · simp only [hx6 i hi, hm6 j hj] at e
    have := hD.1 i (166 + j) _ _ (atx i hi) (atm j hj) e
    omega
  · simp only [hx6 i hi]
    exact hD.2 i _ (atx i hi)
  · simp only [hm6 i hi]
    exact hD.2 (166 + i) _ (atm i hi)
