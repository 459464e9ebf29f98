-- ===== RockingPorchModel.reads()V
abbrev mX11_reads : zMt := (yX11_reads, cX11_reads, 2, none)
theorem fl_X11_178 : zF RX11 178 11 13 := ⟨RX11, TX11, 69, rfl, Nat.le_of_ble_eq_true rfl, zTb_in 1312 (by decide +kernel) rfl, in_X11⟩
theorem fl_X11_184 : zF RX11 184 11 14 := ⟨RX11, TX11, 69, rfl, Nat.le_of_ble_eq_true rfl, zTb_in 1313 (by decide +kernel) rfl, in_X11⟩
theorem fl_X11_190 : zF RX11 190 11 16 := ⟨RX11, TX11, 69, rfl, Nat.le_of_ble_eq_true rfl, zTb_in 1315 (by decide +kernel) rfl, in_X11⟩
theorem fp_X11_178 : zFp RX11 178 11 13 .int := ⟨RX11, TX11, 69, tyX11, rfl, Nat.le_of_ble_eq_true rfl, zTb_in 1312 (by decide +kernel) rfl, in_X11, tyX11_ok, nmX11, rfl, rfl⟩
theorem fp_X11_184 : zFp RX11 184 11 14 .int := ⟨RX11, TX11, 69, tyX11, rfl, Nat.le_of_ble_eq_true rfl, zTb_in 1313 (by decide +kernel) rfl, in_X11, tyX11_ok, nmX11, rfl, rfl⟩
theorem fp_X11_187 : zFp RX11 187 11 15 .int := ⟨RX11, TX11, 69, tyX11, rfl, Nat.le_of_ble_eq_true rfl, zTb_in 1314 (by decide +kernel) rfl, in_X11, tyX11_ok, nmX11, rfl, rfl⟩
theorem fp_X11_190 : zFp RX11 190 11 16 .int := ⟨RX11, TX11, 69, tyX11, rfl, Nat.le_of_ble_eq_true rfl, zTb_in 1315 (by decide +kernel) rfl, in_X11, tyX11_ok, nmX11, rfl, rfl⟩
theorem ml_X11_181 : Cond.methodLink RX11 181 yX11_raw ∈ zTb := zTb_in 1575 (by decide +kernel) rfl
theorem ml_X11_193 : Cond.methodLink RX11 193 yX11_isLetter ∈ zTb := zTb_in 1579 (by decide +kernel) rfl
theorem ml_X11_196 : Cond.methodLink RX11 196 yX11_wordAt ∈ zTb := zTb_in 1583 (by decide +kernel) rfl
theorem ml_X11_200 : Cond.methodLink RX11 200 yX11_isDigit ∈ zTb := zTb_in 1587 (by decide +kernel) rfl
theorem ml_X11_203 : Cond.methodLink RX11 203 yX11_isMarkSign ∈ zTb := zTb_in 1591 (by decide +kernel) rfl
theorem dX11_reads_0 : decode cX11_reads 0 = .ok (.aload_n 0, 1) := by decide +kernel
theorem dX11_reads_1 : decode cX11_reads 1 = .ok (.aload_n 0, 1) := by decide +kernel
theorem dX11_reads_2 : decode cX11_reads 2 = .ok (.getfield 178, 3) := by decide +kernel
theorem dX11_reads_5 : decode cX11_reads 5 = .ok (.invokevirtual 181, 3) := by decide +kernel
theorem dX11_reads_8 : decode cX11_reads 8 = .ok (.bipush 32, 2) := by decide +kernel
theorem dX11_reads_10 : decode cX11_reads 10 = .ok (.if_icmp .eq 16, 3) := by decide +kernel
theorem dX11_reads_13 : decode cX11_reads 13 = .ok (.aload_n 0, 1) := by decide +kernel
theorem dX11_reads_14 : decode cX11_reads 14 = .ok (.aload_n 0, 1) := by decide +kernel
theorem dX11_reads_15 : decode cX11_reads 15 = .ok (.getfield 178, 3) := by decide +kernel
theorem dX11_reads_18 : decode cX11_reads 18 = .ok (.invokevirtual 181, 3) := by decide +kernel
theorem dX11_reads_21 : decode cX11_reads 21 = .ok (.bipush 10, 2) := by decide +kernel
theorem dX11_reads_23 : decode cX11_reads 23 = .ok (.if_icmp .ne 16, 3) := by decide +kernel
theorem dX11_reads_26 : decode cX11_reads 26 = .ok (.aload_n 0, 1) := by decide +kernel
theorem dX11_reads_27 : decode cX11_reads 27 = .ok (.aload_n 0, 1) := by decide +kernel
theorem dX11_reads_28 : decode cX11_reads 28 = .ok (.getfield 178, 3) := by decide +kernel
theorem dX11_reads_31 : decode cX11_reads 31 = .ok (.iconst 1, 1) := by decide +kernel
theorem dX11_reads_32 : decode cX11_reads 32 = .ok (.iadd, 1) := by decide +kernel
theorem dX11_reads_33 : decode cX11_reads 33 = .ok (.putfield 178, 3) := by decide +kernel
theorem dX11_reads_36 : decode cX11_reads 36 = .ok (.goto (-36), 3) := by decide +kernel
theorem dX11_reads_39 : decode cX11_reads 39 = .ok (.aload_n 0, 1) := by decide +kernel
theorem dX11_reads_40 : decode cX11_reads 40 = .ok (.aload_n 0, 1) := by decide +kernel
theorem dX11_reads_41 : decode cX11_reads 41 = .ok (.getfield 178, 3) := by decide +kernel
theorem dX11_reads_44 : decode cX11_reads 44 = .ok (.putfield 184, 3) := by decide +kernel
theorem dX11_reads_47 : decode cX11_reads 47 = .ok (.aload_n 0, 1) := by decide +kernel
theorem dX11_reads_48 : decode cX11_reads 48 = .ok (.iconst 1, 1) := by decide +kernel
theorem dX11_reads_49 : decode cX11_reads 49 = .ok (.putfield 187, 3) := by decide +kernel
theorem dX11_reads_52 : decode cX11_reads 52 = .ok (.aload_n 0, 1) := by decide +kernel
theorem dX11_reads_53 : decode cX11_reads 53 = .ok (.aload_n 0, 1) := by decide +kernel
theorem dX11_reads_54 : decode cX11_reads 54 = .ok (.getfield 178, 3) := by decide +kernel
theorem dX11_reads_57 : decode cX11_reads 57 = .ok (.invokevirtual 181, 3) := by decide +kernel
theorem dX11_reads_60 : decode cX11_reads 60 = .ok (.istore_n 1, 1) := by decide +kernel
theorem dX11_reads_61 : decode cX11_reads 61 = .ok (.iload_n 1, 1) := by decide +kernel
theorem dX11_reads_62 : decode cX11_reads 62 = .ok (.iconst (-1), 1) := by decide +kernel
theorem dX11_reads_63 : decode cX11_reads 63 = .ok (.if_icmp .ne 9, 3) := by decide +kernel
theorem dX11_reads_66 : decode cX11_reads 66 = .ok (.aload_n 0, 1) := by decide +kernel
theorem dX11_reads_67 : decode cX11_reads 67 = .ok (.iconst 0, 1) := by decide +kernel
theorem dX11_reads_68 : decode cX11_reads 68 = .ok (.putfield 187, 3) := by decide +kernel
theorem dX11_reads_71 : decode cX11_reads 71 = .ok (.return_, 1) := by decide +kernel
theorem dX11_reads_72 : decode cX11_reads 72 = .ok (.aload_n 0, 1) := by decide +kernel
theorem dX11_reads_73 : decode cX11_reads 73 = .ok (.aload_n 0, 1) := by decide +kernel
theorem dX11_reads_74 : decode cX11_reads 74 = .ok (.getfield 178, 3) := by decide +kernel
theorem dX11_reads_77 : decode cX11_reads 77 = .ok (.iconst 1, 1) := by decide +kernel
theorem dX11_reads_78 : decode cX11_reads 78 = .ok (.iadd, 1) := by decide +kernel
theorem dX11_reads_79 : decode cX11_reads 79 = .ok (.putfield 178, 3) := by decide +kernel
theorem dX11_reads_82 : decode cX11_reads 82 = .ok (.aload_n 0, 1) := by decide +kernel
theorem dX11_reads_83 : decode cX11_reads 83 = .ok (.iload_n 1, 1) := by decide +kernel
theorem dX11_reads_84 : decode cX11_reads 84 = .ok (.putfield 190, 3) := by decide +kernel
theorem dX11_reads_87 : decode cX11_reads 87 = .ok (.aload_n 0, 1) := by decide +kernel
theorem dX11_reads_88 : decode cX11_reads 88 = .ok (.iload_n 1, 1) := by decide +kernel
theorem dX11_reads_89 : decode cX11_reads 89 = .ok (.invokevirtual 193, 3) := by decide +kernel
theorem dX11_reads_92 : decode cX11_reads 92 = .ok (.ifCond .eq 63, 3) := by decide +kernel
theorem dX11_reads_95 : decode cX11_reads 95 = .ok (.aload_n 0, 1) := by decide +kernel
theorem dX11_reads_96 : decode cX11_reads 96 = .ok (.aload_n 0, 1) := by decide +kernel
theorem dX11_reads_97 : decode cX11_reads 97 = .ok (.aload_n 0, 1) := by decide +kernel
theorem dX11_reads_98 : decode cX11_reads 98 = .ok (.getfield 178, 3) := by decide +kernel
theorem dX11_reads_101 : decode cX11_reads 101 = .ok (.invokevirtual 181, 3) := by decide +kernel
theorem dX11_reads_104 : decode cX11_reads 104 = .ok (.invokevirtual 193, 3) := by decide +kernel
theorem dX11_reads_107 : decode cX11_reads 107 = .ok (.ifCond .eq 16, 3) := by decide +kernel
theorem dX11_reads_110 : decode cX11_reads 110 = .ok (.aload_n 0, 1) := by decide +kernel
theorem dX11_reads_111 : decode cX11_reads 111 = .ok (.aload_n 0, 1) := by decide +kernel
theorem dX11_reads_112 : decode cX11_reads 112 = .ok (.getfield 178, 3) := by decide +kernel
theorem dX11_reads_115 : decode cX11_reads 115 = .ok (.iconst 1, 1) := by decide +kernel
theorem dX11_reads_116 : decode cX11_reads 116 = .ok (.iadd, 1) := by decide +kernel
theorem dX11_reads_117 : decode cX11_reads 117 = .ok (.putfield 178, 3) := by decide +kernel
theorem dX11_reads_120 : decode cX11_reads 120 = .ok (.goto (-25), 3) := by decide +kernel
theorem dX11_reads_123 : decode cX11_reads 123 = .ok (.aload_n 0, 1) := by decide +kernel
theorem dX11_reads_124 : decode cX11_reads 124 = .ok (.aload_n 0, 1) := by decide +kernel
theorem dX11_reads_125 : decode cX11_reads 125 = .ok (.aload_n 0, 1) := by decide +kernel
theorem dX11_reads_126 : decode cX11_reads 126 = .ok (.getfield 184, 3) := by decide +kernel
theorem dX11_reads_129 : decode cX11_reads 129 = .ok (.aload_n 0, 1) := by decide +kernel
theorem dX11_reads_130 : decode cX11_reads 130 = .ok (.getfield 178, 3) := by decide +kernel
theorem dX11_reads_133 : decode cX11_reads 133 = .ok (.invokevirtual 196, 3) := by decide +kernel
theorem dX11_reads_136 : decode cX11_reads 136 = .ok (.putfield 190, 3) := by decide +kernel
theorem dX11_reads_139 : decode cX11_reads 139 = .ok (.aload_n 0, 1) := by decide +kernel
theorem dX11_reads_140 : decode cX11_reads 140 = .ok (.getfield 190, 3) := by decide +kernel
theorem dX11_reads_143 : decode cX11_reads 143 = .ok (.iconst (-1), 1) := by decide +kernel
theorem dX11_reads_144 : decode cX11_reads 144 = .ok (.if_icmp .eq 129, 3) := by decide +kernel
theorem dX11_reads_147 : decode cX11_reads 147 = .ok (.aload_n 0, 1) := by decide +kernel
theorem dX11_reads_148 : decode cX11_reads 148 = .ok (.iconst 2, 1) := by decide +kernel
theorem dX11_reads_149 : decode cX11_reads 149 = .ok (.putfield 187, 3) := by decide +kernel
theorem dX11_reads_152 : decode cX11_reads 152 = .ok (.goto 121, 3) := by decide +kernel
theorem dX11_reads_155 : decode cX11_reads 155 = .ok (.aload_n 0, 1) := by decide +kernel
theorem dX11_reads_156 : decode cX11_reads 156 = .ok (.iload_n 1, 1) := by decide +kernel
theorem dX11_reads_157 : decode cX11_reads 157 = .ok (.invokevirtual 200, 3) := by decide +kernel
theorem dX11_reads_160 : decode cX11_reads 160 = .ok (.ifCond .eq 100, 3) := by decide +kernel
theorem dX11_reads_163 : decode cX11_reads 163 = .ok (.aload_n 0, 1) := by decide +kernel
theorem dX11_reads_164 : decode cX11_reads 164 = .ok (.iload_n 1, 1) := by decide +kernel
theorem dX11_reads_165 : decode cX11_reads 165 = .ok (.bipush 48, 2) := by decide +kernel
theorem dX11_reads_167 : decode cX11_reads 167 = .ok (.isub, 1) := by decide +kernel
theorem dX11_reads_168 : decode cX11_reads 168 = .ok (.putfield 190, 3) := by decide +kernel
theorem dX11_reads_171 : decode cX11_reads 171 = .ok (.aload_n 0, 1) := by decide +kernel
theorem dX11_reads_172 : decode cX11_reads 172 = .ok (.aload_n 0, 1) := by decide +kernel
theorem dX11_reads_173 : decode cX11_reads 173 = .ok (.aload_n 0, 1) := by decide +kernel
theorem dX11_reads_174 : decode cX11_reads 174 = .ok (.getfield 178, 3) := by decide +kernel
theorem dX11_reads_177 : decode cX11_reads 177 = .ok (.invokevirtual 181, 3) := by decide +kernel
theorem dX11_reads_180 : decode cX11_reads 180 = .ok (.invokevirtual 200, 3) := by decide +kernel
theorem dX11_reads_183 : decode cX11_reads 183 = .ok (.ifCond .eq 56, 3) := by decide +kernel
theorem dX11_reads_186 : decode cX11_reads 186 = .ok (.aload_n 0, 1) := by decide +kernel
theorem dX11_reads_187 : decode cX11_reads 187 = .ok (.aload_n 0, 1) := by decide +kernel
theorem dX11_reads_188 : decode cX11_reads 188 = .ok (.getfield 190, 3) := by decide +kernel
theorem dX11_reads_191 : decode cX11_reads 191 = .ok (.sipush 10000, 3) := by decide +kernel
theorem dX11_reads_194 : decode cX11_reads 194 = .ok (.if_icmp .ge 25, 3) := by decide +kernel
theorem dX11_reads_197 : decode cX11_reads 197 = .ok (.bipush 10, 2) := by decide +kernel
theorem dX11_reads_199 : decode cX11_reads 199 = .ok (.aload_n 0, 1) := by decide +kernel
theorem dX11_reads_200 : decode cX11_reads 200 = .ok (.getfield 190, 3) := by decide +kernel
theorem dX11_reads_203 : decode cX11_reads 203 = .ok (.imul, 1) := by decide +kernel
theorem dX11_reads_204 : decode cX11_reads 204 = .ok (.aload_n 0, 1) := by decide +kernel
theorem dX11_reads_205 : decode cX11_reads 205 = .ok (.aload_n 0, 1) := by decide +kernel
theorem dX11_reads_206 : decode cX11_reads 206 = .ok (.getfield 178, 3) := by decide +kernel
theorem dX11_reads_209 : decode cX11_reads 209 = .ok (.invokevirtual 181, 3) := by decide +kernel
theorem dX11_reads_212 : decode cX11_reads 212 = .ok (.iadd, 1) := by decide +kernel
theorem dX11_reads_213 : decode cX11_reads 213 = .ok (.bipush 48, 2) := by decide +kernel
theorem dX11_reads_215 : decode cX11_reads 215 = .ok (.isub, 1) := by decide +kernel
theorem dX11_reads_216 : decode cX11_reads 216 = .ok (.goto 7, 3) := by decide +kernel
theorem dX11_reads_219 : decode cX11_reads 219 = .ok (.aload_n 0, 1) := by decide +kernel
theorem dX11_reads_220 : decode cX11_reads 220 = .ok (.getfield 190, 3) := by decide +kernel
theorem dX11_reads_223 : decode cX11_reads 223 = .ok (.putfield 190, 3) := by decide +kernel
theorem dX11_reads_226 : decode cX11_reads 226 = .ok (.aload_n 0, 1) := by decide +kernel
theorem dX11_reads_227 : decode cX11_reads 227 = .ok (.aload_n 0, 1) := by decide +kernel
theorem dX11_reads_228 : decode cX11_reads 228 = .ok (.getfield 178, 3) := by decide +kernel
theorem dX11_reads_231 : decode cX11_reads 231 = .ok (.iconst 1, 1) := by decide +kernel
theorem dX11_reads_232 : decode cX11_reads 232 = .ok (.iadd, 1) := by decide +kernel
theorem dX11_reads_233 : decode cX11_reads 233 = .ok (.putfield 178, 3) := by decide +kernel
theorem dX11_reads_236 : decode cX11_reads 236 = .ok (.goto (-65), 3) := by decide +kernel
theorem dX11_reads_239 : decode cX11_reads 239 = .ok (.aload_n 0, 1) := by decide +kernel
theorem dX11_reads_240 : decode cX11_reads 240 = .ok (.getfield 178, 3) := by decide +kernel
theorem dX11_reads_243 : decode cX11_reads 243 = .ok (.aload_n 0, 1) := by decide +kernel
theorem dX11_reads_244 : decode cX11_reads 244 = .ok (.getfield 184, 3) := by decide +kernel
theorem dX11_reads_247 : decode cX11_reads 247 = .ok (.isub, 1) := by decide +kernel
theorem dX11_reads_248 : decode cX11_reads 248 = .ok (.iconst 5, 1) := by decide +kernel
theorem dX11_reads_249 : decode cX11_reads 249 = .ok (.if_icmp .ge 24, 3) := by decide +kernel
theorem dX11_reads_252 : decode cX11_reads 252 = .ok (.aload_n 0, 1) := by decide +kernel
theorem dX11_reads_253 : decode cX11_reads 253 = .ok (.iconst 3, 1) := by decide +kernel
theorem dX11_reads_254 : decode cX11_reads 254 = .ok (.putfield 187, 3) := by decide +kernel
theorem dX11_reads_257 : decode cX11_reads 257 = .ok (.goto 16, 3) := by decide +kernel
theorem dX11_reads_260 : decode cX11_reads 260 = .ok (.aload_n 0, 1) := by decide +kernel
theorem dX11_reads_261 : decode cX11_reads 261 = .ok (.iload_n 1, 1) := by decide +kernel
theorem dX11_reads_262 : decode cX11_reads 262 = .ok (.invokevirtual 203, 3) := by decide +kernel
theorem dX11_reads_265 : decode cX11_reads 265 = .ok (.ifCond .eq 8, 3) := by decide +kernel
theorem dX11_reads_268 : decode cX11_reads 268 = .ok (.aload_n 0, 1) := by decide +kernel
theorem dX11_reads_269 : decode cX11_reads 269 = .ok (.iconst 4, 1) := by decide +kernel
theorem dX11_reads_270 : decode cX11_reads 270 = .ok (.putfield 187, 3) := by decide +kernel
theorem dX11_reads_273 : decode cX11_reads 273 = .ok (.return_, 1) := by decide +kernel
def f_X11_reads_223  (k171 : zHp → Option (zHp)) (s0 : Int32) (h : zHp) : Option (zHp) := zlt (zst h 0 16 s0) fun h1 => zlt (zst h1 0 13 ((h1 0 13) + (1 : Int32))) fun h2 => k171 h2
set_option maxHeartbeats 4000000 in
set_option maxRecDepth 100000 in
theorem f_X11_reads_223_s  (k171 : zHp → Option (zHp)) (H171 : ∀ v : zHp, Sim wM mX11_reads 2 rV 171 [(0, .ref 0)] [] v (k171 v)) (s0 : Int32) (h : zHp) : Sim wM mX11_reads 2 rV 223 [(0, .ref 0)] [.int s0, .ref 0] h (f_X11_reads_223 k171 s0 h) := by
  unfold f_X11_reads_223
  refine Sim.put fp_X11_190 dX11_reads_223 mI_16 rfl rfl ?_
  refine Sim.lth (fun h1 => ?_)
  refine Sim.aload_n 0 dX11_reads_226 rfl ?_
  refine Sim.aload_n 0 dX11_reads_227 rfl ?_
  refine Sim.getI fl_X11_178 dX11_reads_228 mI_13 ?_
  refine Sim.iconst (v := (1 : Int32)) dX11_reads_231 rfl ?_
  refine Sim.iadd dX11_reads_232 ?_
  refine Sim.put fp_X11_178 dX11_reads_233 mI_13 rfl rfl ?_
  refine Sim.lth (fun h2 => ?_)
  refine Sim.goto 171 dX11_reads_236 rfl ?_
  exact H171 h2
def f_X11_reads_171  (k171 : zHp → Option (zHp))  (h : zHp) : Option (zHp) := (f_X11_raw (h 0 13) h).bind fun x1 => (f_X11_isDigit x1.1 x1.2).bind fun x2 => (if x2.1 = 0 then (if ((x2.2 0 13) - (x2.2 0 14)) < (5 : Int32) then zlt (zst x2.2 0 15 (3 : Int32)) fun h3 => some h3 else some x2.2) else (if (x2.2 0 16) < (10000 : Int32) then (f_X11_raw (x2.2 0 13) x2.2).bind fun x4 => f_X11_reads_223 k171 ((((10 : Int32) * (x2.2 0 16)) + x4.1) - (48 : Int32)) x4.2 else f_X11_reads_223 k171 (x2.2 0 16) x2.2))
set_option maxHeartbeats 4000000 in
set_option maxRecDepth 100000 in
theorem f_X11_reads_171_s  (k171 : zHp → Option (zHp)) (H171 : ∀ v : zHp, Sim wM mX11_reads 2 rV 171 [(0, .ref 0)] [] v (k171 v))  (h : zHp) : Sim wM mX11_reads 2 rV 171 [(0, .ref 0)] [] h (f_X11_reads_171 k171 h) := by
  unfold f_X11_reads_171
  refine Sim.aload_n 0 dX11_reads_171 rfl ?_
  refine Sim.aload_n 0 dX11_reads_172 rfl ?_
  refine Sim.aload_n 0 dX11_reads_173 rfl ?_
  refine Sim.getI fl_X11_178 dX11_reads_174 mI_13 ?_
  refine Sim.callV1I (d1 := 0) (s_X11_raw (h 0 13) h) dX11_reads_177 ml_X11_181 mv_X11_raw mC (Nat.le_of_ble_eq_true rfl) (Nat.le_of_ble_eq_true rfl) (Nat.le_of_ble_eq_true rfl) (fun x1 => ?_)
  refine Sim.callV1I (d1 := 1) (s_X11_isDigit x1.1 x1.2) dX11_reads_180 ml_X11_200 mv_X11_isDigit mC (Nat.le_of_ble_eq_true rfl) (Nat.le_of_ble_eq_true rfl) (Nat.le_of_ble_eq_true rfl) (fun x2 => ?_)
  refine Sim.if_eq 239 dX11_reads_183 rfl ?_ ?_
  · refine Sim.aload_n 0 dX11_reads_239 rfl ?_
    refine Sim.getI fl_X11_178 dX11_reads_240 mI_13 ?_
    refine Sim.aload_n 0 dX11_reads_243 rfl ?_
    refine Sim.getI fl_X11_184 dX11_reads_244 mI_14 ?_
    refine Sim.isub dX11_reads_247 ?_
    refine Sim.iconst (v := (5 : Int32)) dX11_reads_248 rfl ?_
    refine Sim.icmp_ge 273 dX11_reads_249 rfl ?_ ?_
    · refine Sim.aload_n 0 dX11_reads_252 rfl ?_
      refine Sim.iconst (v := (3 : Int32)) dX11_reads_253 rfl ?_
      refine Sim.put fp_X11_187 dX11_reads_254 mI_15 rfl rfl ?_
      refine Sim.lth (fun h3 => ?_)
      refine Sim.goto 273 dX11_reads_257 rfl ?_
      exact Sim.vret dX11_reads_273 rfl
    · exact Sim.vret dX11_reads_273 rfl
  · refine Sim.aload_n 0 dX11_reads_186 rfl ?_
    refine Sim.aload_n 0 dX11_reads_187 rfl ?_
    refine Sim.getI fl_X11_190 dX11_reads_188 mI_16 ?_
    refine Sim.sipush (v := (10000 : Int32)) dX11_reads_191 rfl ?_
    refine Sim.icmp_ge 219 dX11_reads_194 rfl ?_ ?_
    · refine Sim.bipush (v := (10 : Int32)) dX11_reads_197 rfl ?_
      refine Sim.aload_n 0 dX11_reads_199 rfl ?_
      refine Sim.getI fl_X11_190 dX11_reads_200 mI_16 ?_
      refine Sim.imul dX11_reads_203 ?_
      refine Sim.aload_n 0 dX11_reads_204 rfl ?_
      refine Sim.aload_n 0 dX11_reads_205 rfl ?_
      refine Sim.getI fl_X11_178 dX11_reads_206 mI_13 ?_
      refine Sim.callV1I (d1 := 0) (s_X11_raw (x2.2 0 13) x2.2) dX11_reads_209 ml_X11_181 mv_X11_raw mC (Nat.le_of_ble_eq_true rfl) (Nat.le_of_ble_eq_true rfl) (Nat.le_of_ble_eq_true rfl) (fun x4 => ?_)
      refine Sim.iadd dX11_reads_212 ?_
      refine Sim.bipush (v := (48 : Int32)) dX11_reads_213 rfl ?_
      refine Sim.isub dX11_reads_215 ?_
      refine Sim.goto 223 dX11_reads_216 rfl ?_
      exact f_X11_reads_223_s k171 H171 ((((10 : Int32) * (x2.2 0 16)) + x4.1) - (48 : Int32)) x4.2
    · refine Sim.aload_n 0 dX11_reads_219 rfl ?_
      refine Sim.getI fl_X11_190 dX11_reads_220 mI_16 ?_
      exact f_X11_reads_223_s k171 H171 (x2.2 0 16) x2.2
def f_X11_reads_171_lp   (n : Nat) (v : zHp) : Option (zHp) := zlp (fun k171 v => f_X11_reads_171 k171 v) n v
theorem f_X11_reads_171_ls  (n : Nat) (v : zHp) : Sim wM mX11_reads 2 rV 171 [(0, .ref 0)] [] v (f_X11_reads_171_lp n v) :=
  Sim.lp (V := zHp) (Lf := fun v => [(0, .ref 0)]) (sf := fun v => []) (hf := fun v => v) (fun k171 H171 v => f_X11_reads_171_s k171 H171 v) n v
def f_X11_reads_95  (k95 : zHp → Option (zHp))  (h : zHp) : Option (zHp) := (f_X11_raw (h 0 13) h).bind fun x1 => (f_X11_isLetter x1.1 x1.2).bind fun x2 => (if x2.1 = 0 then (f_X11_wordAt (x2.2 0 14) (x2.2 0 13) x2.2).bind fun x3 => zlt (zst x3.2 0 16 x3.1) fun h4 => (if (h4 0 16) = (-1 : Int32) then some h4 else zlt (zst h4 0 15 (2 : Int32)) fun h5 => some h5) else zlt (zst x2.2 0 13 ((x2.2 0 13) + (1 : Int32))) fun h6 => k95 h6)
set_option maxHeartbeats 4000000 in
set_option maxRecDepth 100000 in
theorem f_X11_reads_95_s  (k95 : zHp → Option (zHp)) (H95 : ∀ v : zHp, Sim wM mX11_reads 2 rV 95 [(0, .ref 0)] [] v (k95 v))  (h : zHp) : Sim wM mX11_reads 2 rV 95 [(0, .ref 0)] [] h (f_X11_reads_95 k95 h) := by
  unfold f_X11_reads_95
  refine Sim.aload_n 0 dX11_reads_95 rfl ?_
  refine Sim.aload_n 0 dX11_reads_96 rfl ?_
  refine Sim.aload_n 0 dX11_reads_97 rfl ?_
  refine Sim.getI fl_X11_178 dX11_reads_98 mI_13 ?_
  refine Sim.callV1I (d1 := 0) (s_X11_raw (h 0 13) h) dX11_reads_101 ml_X11_181 mv_X11_raw mC (Nat.le_of_ble_eq_true rfl) (Nat.le_of_ble_eq_true rfl) (Nat.le_of_ble_eq_true rfl) (fun x1 => ?_)
  refine Sim.callV1I (d1 := 1) (s_X11_isLetter x1.1 x1.2) dX11_reads_104 ml_X11_193 mv_X11_isLetter mC (Nat.le_of_ble_eq_true rfl) (Nat.le_of_ble_eq_true rfl) (Nat.le_of_ble_eq_true rfl) (fun x2 => ?_)
  refine Sim.if_eq 123 dX11_reads_107 rfl ?_ ?_
  · refine Sim.aload_n 0 dX11_reads_123 rfl ?_
    refine Sim.aload_n 0 dX11_reads_124 rfl ?_
    refine Sim.aload_n 0 dX11_reads_125 rfl ?_
    refine Sim.getI fl_X11_184 dX11_reads_126 mI_14 ?_
    refine Sim.aload_n 0 dX11_reads_129 rfl ?_
    refine Sim.getI fl_X11_178 dX11_reads_130 mI_13 ?_
    refine Sim.callV2I (d1 := 0) (s_X11_wordAt (x2.2 0 14) (x2.2 0 13) x2.2) dX11_reads_133 ml_X11_196 mv_X11_wordAt mC (Nat.le_of_ble_eq_true rfl) (Nat.le_of_ble_eq_true rfl) (Nat.le_of_ble_eq_true rfl) (fun x3 => ?_)
    refine Sim.put fp_X11_190 dX11_reads_136 mI_16 rfl rfl ?_
    refine Sim.lth (fun h4 => ?_)
    refine Sim.aload_n 0 dX11_reads_139 rfl ?_
    refine Sim.getI fl_X11_190 dX11_reads_140 mI_16 ?_
    refine Sim.iconst (v := (-1 : Int32)) dX11_reads_143 rfl ?_
    refine Sim.icmp_eq 273 dX11_reads_144 rfl ?_ ?_
    · exact Sim.vret dX11_reads_273 rfl
    · refine Sim.aload_n 0 dX11_reads_147 rfl ?_
      refine Sim.iconst (v := (2 : Int32)) dX11_reads_148 rfl ?_
      refine Sim.put fp_X11_187 dX11_reads_149 mI_15 rfl rfl ?_
      refine Sim.lth (fun h5 => ?_)
      refine Sim.goto 273 dX11_reads_152 rfl ?_
      exact Sim.vret dX11_reads_273 rfl
  · refine Sim.aload_n 0 dX11_reads_110 rfl ?_
    refine Sim.aload_n 0 dX11_reads_111 rfl ?_
    refine Sim.getI fl_X11_178 dX11_reads_112 mI_13 ?_
    refine Sim.iconst (v := (1 : Int32)) dX11_reads_115 rfl ?_
    refine Sim.iadd dX11_reads_116 ?_
    refine Sim.put fp_X11_178 dX11_reads_117 mI_13 rfl rfl ?_
    refine Sim.lth (fun h6 => ?_)
    refine Sim.goto 95 dX11_reads_120 rfl ?_
    exact H95 h6
def f_X11_reads_95_lp   (n : Nat) (v : zHp) : Option (zHp) := zlp (fun k95 v => f_X11_reads_95 k95 v) n v
theorem f_X11_reads_95_ls  (n : Nat) (v : zHp) : Sim wM mX11_reads 2 rV 95 [(0, .ref 0)] [] v (f_X11_reads_95_lp n v) :=
  Sim.lp (V := zHp) (Lf := fun v => [(0, .ref 0)]) (sf := fun v => []) (hf := fun v => v) (fun k95 H95 v => f_X11_reads_95_s k95 H95 v) n v
def f_X11_reads_26  (k0 : zHp → Option (zHp))  (h : zHp) : Option (zHp) := zlt (zst h 0 13 ((h 0 13) + (1 : Int32))) fun h1 => k0 h1
set_option maxHeartbeats 4000000 in
set_option maxRecDepth 100000 in
theorem f_X11_reads_26_s  (k0 : zHp → Option (zHp)) (H0 : ∀ v : zHp, Sim wM mX11_reads 2 rV 0 [(0, .ref 0)] [] v (k0 v))  (h : zHp) : Sim wM mX11_reads 2 rV 26 [(0, .ref 0)] [] h (f_X11_reads_26 k0 h) := by
  unfold f_X11_reads_26
  refine Sim.aload_n 0 dX11_reads_26 rfl ?_
  refine Sim.aload_n 0 dX11_reads_27 rfl ?_
  refine Sim.getI fl_X11_178 dX11_reads_28 mI_13 ?_
  refine Sim.iconst (v := (1 : Int32)) dX11_reads_31 rfl ?_
  refine Sim.iadd dX11_reads_32 ?_
  refine Sim.put fp_X11_178 dX11_reads_33 mI_13 rfl rfl ?_
  refine Sim.lth (fun h1 => ?_)
  refine Sim.goto 0 dX11_reads_36 rfl ?_
  exact H0 h1
def f_X11_reads_0  (k0 : zHp → Option (zHp))  (h : zHp) : Option (zHp) := (f_X11_raw (h 0 13) h).bind fun x1 => (if x1.1 = (32 : Int32) then f_X11_reads_26 k0 x1.2 else (f_X11_raw (x1.2 0 13) x1.2).bind fun x2 => (if x2.1 = (10 : Int32) then f_X11_reads_26 k0 x2.2 else zlt (zst x2.2 0 14 (x2.2 0 13)) fun h3 => zlt (zst h3 0 15 (1 : Int32)) fun h4 => (f_X11_raw (h4 0 13) h4).bind fun x5 => (if x5.1 = (-1 : Int32) then zlt (zst x5.2 0 15 (0 : Int32)) fun h6 => some h6 else zlt (zst x5.2 0 13 ((x5.2 0 13) + (1 : Int32))) fun h7 => zlt (zst h7 0 16 x5.1) fun h8 => (f_X11_isLetter x5.1 h8).bind fun x9 => (if x9.1 = 0 then (f_X11_isDigit x5.1 x9.2).bind fun x10 => (if x10.1 = 0 then (f_X11_isMarkSign x5.1 x10.2).bind fun x11 => (if x11.1 = 0 then some x11.2 else zlt (zst x11.2 0 15 (4 : Int32)) fun h12 => some h12) else zlt (zst x10.2 0 16 (x5.1 - (48 : Int32))) fun h13 => f_X11_reads_171_lp  zN h13) else f_X11_reads_95_lp  zN x9.2))))
set_option maxHeartbeats 4000000 in
set_option maxRecDepth 100000 in
theorem f_X11_reads_0_s  (k0 : zHp → Option (zHp)) (H0 : ∀ v : zHp, Sim wM mX11_reads 2 rV 0 [(0, .ref 0)] [] v (k0 v))  (h : zHp) : Sim wM mX11_reads 2 rV 0 [(0, .ref 0)] [] h (f_X11_reads_0 k0 h) := by
  unfold f_X11_reads_0
  refine Sim.aload_n 0 dX11_reads_0 rfl ?_
  refine Sim.aload_n 0 dX11_reads_1 rfl ?_
  refine Sim.getI fl_X11_178 dX11_reads_2 mI_13 ?_
  refine Sim.callV1I (d1 := 0) (s_X11_raw (h 0 13) h) dX11_reads_5 ml_X11_181 mv_X11_raw mC (Nat.le_of_ble_eq_true rfl) (Nat.le_of_ble_eq_true rfl) (Nat.le_of_ble_eq_true rfl) (fun x1 => ?_)
  refine Sim.bipush (v := (32 : Int32)) dX11_reads_8 rfl ?_
  refine Sim.icmp_eq 26 dX11_reads_10 rfl ?_ ?_
  · exact f_X11_reads_26_s k0 H0 x1.2
  · refine Sim.aload_n 0 dX11_reads_13 rfl ?_
    refine Sim.aload_n 0 dX11_reads_14 rfl ?_
    refine Sim.getI fl_X11_178 dX11_reads_15 mI_13 ?_
    refine Sim.callV1I (d1 := 0) (s_X11_raw (x1.2 0 13) x1.2) dX11_reads_18 ml_X11_181 mv_X11_raw mC (Nat.le_of_ble_eq_true rfl) (Nat.le_of_ble_eq_true rfl) (Nat.le_of_ble_eq_true rfl) (fun x2 => ?_)
    refine Sim.bipush (v := (10 : Int32)) dX11_reads_21 rfl ?_
    refine Sim.icmp_ne 39 dX11_reads_23 rfl ?_ ?_
    · exact f_X11_reads_26_s k0 H0 x2.2
    · refine Sim.aload_n 0 dX11_reads_39 rfl ?_
      refine Sim.aload_n 0 dX11_reads_40 rfl ?_
      refine Sim.getI fl_X11_178 dX11_reads_41 mI_13 ?_
      refine Sim.put fp_X11_184 dX11_reads_44 mI_14 rfl rfl ?_
      refine Sim.lth (fun h3 => ?_)
      refine Sim.aload_n 0 dX11_reads_47 rfl ?_
      refine Sim.iconst (v := (1 : Int32)) dX11_reads_48 rfl ?_
      refine Sim.put fp_X11_187 dX11_reads_49 mI_15 rfl rfl ?_
      refine Sim.lth (fun h4 => ?_)
      refine Sim.aload_n 0 dX11_reads_52 rfl ?_
      refine Sim.aload_n 0 dX11_reads_53 rfl ?_
      refine Sim.getI fl_X11_178 dX11_reads_54 mI_13 ?_
      refine Sim.callV1I (d1 := 0) (s_X11_raw (h4 0 13) h4) dX11_reads_57 ml_X11_181 mv_X11_raw mC (Nat.le_of_ble_eq_true rfl) (Nat.le_of_ble_eq_true rfl) (Nat.le_of_ble_eq_true rfl) (fun x5 => ?_)
      refine Sim.istore_n (L' := [(1, .int x5.1), (0, .ref 0)]) dX11_reads_60 (Nat.le_of_ble_eq_true rfl) rfl ?_
      refine Sim.iload_n 0 dX11_reads_61 rfl ?_
      refine Sim.iconst (v := (-1 : Int32)) dX11_reads_62 rfl ?_
      refine Sim.icmp_ne 72 dX11_reads_63 rfl ?_ ?_
      · refine Sim.aload_n 1 dX11_reads_66 rfl ?_
        refine Sim.iconst (v := (0 : Int32)) dX11_reads_67 rfl ?_
        refine Sim.put fp_X11_187 dX11_reads_68 mI_15 rfl rfl ?_
        refine Sim.lth (fun h6 => ?_)
        exact Sim.vret dX11_reads_71 rfl
      · refine Sim.aload_n 1 dX11_reads_72 rfl ?_
        refine Sim.aload_n 1 dX11_reads_73 rfl ?_
        refine Sim.getI fl_X11_178 dX11_reads_74 mI_13 ?_
        refine Sim.iconst (v := (1 : Int32)) dX11_reads_77 rfl ?_
        refine Sim.iadd dX11_reads_78 ?_
        refine Sim.put fp_X11_178 dX11_reads_79 mI_13 rfl rfl ?_
        refine Sim.lth (fun h7 => ?_)
        refine Sim.aload_n 1 dX11_reads_82 rfl ?_
        refine Sim.iload_n 0 dX11_reads_83 rfl ?_
        refine Sim.put fp_X11_190 dX11_reads_84 mI_16 rfl rfl ?_
        refine Sim.lth (fun h8 => ?_)
        refine Sim.aload_n 1 dX11_reads_87 rfl ?_
        refine Sim.iload_n 0 dX11_reads_88 rfl ?_
        refine Sim.callV1I (d1 := 1) (s_X11_isLetter x5.1 h8) dX11_reads_89 ml_X11_193 mv_X11_isLetter mC (Nat.le_of_ble_eq_true rfl) (Nat.le_of_ble_eq_true rfl) (Nat.le_of_ble_eq_true rfl) (fun x9 => ?_)
        refine Sim.if_eq 155 dX11_reads_92 rfl ?_ ?_
        · refine Sim.aload_n 1 dX11_reads_155 rfl ?_
          refine Sim.iload_n 0 dX11_reads_156 rfl ?_
          refine Sim.callV1I (d1 := 1) (s_X11_isDigit x5.1 x9.2) dX11_reads_157 ml_X11_200 mv_X11_isDigit mC (Nat.le_of_ble_eq_true rfl) (Nat.le_of_ble_eq_true rfl) (Nat.le_of_ble_eq_true rfl) (fun x10 => ?_)
          refine Sim.if_eq 260 dX11_reads_160 rfl ?_ ?_
          · refine Sim.aload_n 1 dX11_reads_260 rfl ?_
            refine Sim.iload_n 0 dX11_reads_261 rfl ?_
            refine Sim.callV1I (d1 := 0) (s_X11_isMarkSign x5.1 x10.2) dX11_reads_262 ml_X11_203 mv_X11_isMarkSign mC (Nat.le_of_ble_eq_true rfl) (Nat.le_of_ble_eq_true rfl) (Nat.le_of_ble_eq_true rfl) (fun x11 => ?_)
            refine Sim.if_eq 273 dX11_reads_265 rfl ?_ ?_
            · exact Sim.vret dX11_reads_273 rfl
            · refine Sim.aload_n 1 dX11_reads_268 rfl ?_
              refine Sim.iconst (v := (4 : Int32)) dX11_reads_269 rfl ?_
              refine Sim.put fp_X11_187 dX11_reads_270 mI_15 rfl rfl ?_
              refine Sim.lth (fun h12 => ?_)
              exact Sim.vret dX11_reads_273 rfl
          · refine Sim.aload_n 1 dX11_reads_163 rfl ?_
            refine Sim.iload_n 0 dX11_reads_164 rfl ?_
            refine Sim.bipush (v := (48 : Int32)) dX11_reads_165 rfl ?_
            refine Sim.isub dX11_reads_167 ?_
            refine Sim.put fp_X11_190 dX11_reads_168 mI_16 rfl rfl ?_
            refine Sim.lth (fun h13 => ?_)
            refine Sim.locs [1] rfl ?_
            exact f_X11_reads_171_ls  zN h13
        · refine Sim.locs [1] rfl ?_
          exact f_X11_reads_95_ls  zN x9.2
def f_X11_reads_0_lp   (n : Nat) (v : zHp) : Option (zHp) := zlp (fun k0 v => f_X11_reads_0 k0 v) n v
theorem f_X11_reads_0_ls  (n : Nat) (v : zHp) : Sim wM mX11_reads 2 rV 0 [(0, .ref 0)] [] v (f_X11_reads_0_lp n v) :=
  Sim.lp (V := zHp) (Lf := fun v => [(0, .ref 0)]) (sf := fun v => []) (hf := fun v => v) (fun k0 H0 v => f_X11_reads_0_s k0 H0 v) n v
def f_X11_reads   (h : zHp) : Option (zHp) := f_X11_reads_0_lp  zN h
set_option maxHeartbeats 4000000 in
set_option maxRecDepth 100000 in
theorem s_X11_reads   (h : zHp) : Fn wM mX11_reads 2 rV [.ref 0] h (f_X11_reads  h) := by
  refine Fn.of rfl (Nat.le_of_ble_eq_true rfl) ?_
  unfold f_X11_reads
  exact f_X11_reads_0_ls  zN h
theorem mv_X11_reads : zMV mX11_reads 0 := ⟨⟨zTb_in 1574 (by decide +kernel) rfl, zTb_in 148 (by decide +kernel) rfl, ⟨by decide +kernel, by decide +kernel⟩, by decide +kernel⟩, zTb_in 1573 (by decide +kernel) rfl, zTb_in 47 (by decide +kernel) rfl⟩
-- ===== RockingPorchModel.errs(I)I
abbrev mX11_errs : zMt := (yX11_errs, cX11_errs, 2, some .int)
theorem fp_X11_206 : zFp RX11 206 11 30 .int := ⟨RX11, TX11, 69, tyX11, rfl, Nat.le_of_ble_eq_true rfl, zTb_in 1329 (by decide +kernel) rfl, in_X11, tyX11_ok, nmX11, rfl, rfl⟩
theorem fp_X11_209 : zFp RX11 209 11 31 .int := ⟨RX11, TX11, 69, tyX11, rfl, Nat.le_of_ble_eq_true rfl, zTb_in 1330 (by decide +kernel) rfl, in_X11, tyX11_ok, nmX11, rfl, rfl⟩
theorem dX11_errs_0 : decode cX11_errs 0 = .ok (.aload_n 0, 1) := by decide +kernel
theorem dX11_errs_1 : decode cX11_errs 1 = .ok (.iload_n 1, 1) := by decide +kernel
theorem dX11_errs_2 : decode cX11_errs 2 = .ok (.putfield 206, 3) := by decide +kernel
theorem dX11_errs_5 : decode cX11_errs 5 = .ok (.aload_n 0, 1) := by decide +kernel
theorem dX11_errs_6 : decode cX11_errs 6 = .ok (.aload_n 0, 1) := by decide +kernel
theorem dX11_errs_7 : decode cX11_errs 7 = .ok (.getfield 184, 3) := by decide +kernel
theorem dX11_errs_10 : decode cX11_errs 10 = .ok (.putfield 209, 3) := by decide +kernel
theorem dX11_errs_13 : decode cX11_errs 13 = .ok (.iconst (-1), 1) := by decide +kernel
theorem dX11_errs_14 : decode cX11_errs 14 = .ok (.ireturn, 1) := by decide +kernel
def f_X11_errs  (a1 : Int32) (h : zHp) : Option (Int32 × zHp) := zlt (zst h 0 30 a1) fun h1 => zlt (zst h1 0 31 (h1 0 14)) fun h2 => some ((-1 : Int32), h2)
set_option maxHeartbeats 4000000 in
set_option maxRecDepth 100000 in
theorem s_X11_errs  (a1 : Int32) (h : zHp) : Fn wM mX11_errs 0 rI [.ref 0, .int a1] h (f_X11_errs a1 h) := by
  refine Fn.of rfl (Nat.le_of_ble_eq_true rfl) ?_
  unfold f_X11_errs
  refine Sim.aload_n 0 dX11_errs_0 rfl ?_
  refine Sim.iload_n 1 dX11_errs_1 rfl ?_
  refine Sim.put fp_X11_206 dX11_errs_2 mI_30 rfl rfl ?_
  refine Sim.lth (fun h1 => ?_)
  refine Sim.aload_n 0 dX11_errs_5 rfl ?_
  refine Sim.aload_n 0 dX11_errs_6 rfl ?_
  refine Sim.getI fl_X11_184 dX11_errs_7 mI_14 ?_
  refine Sim.put fp_X11_209 dX11_errs_10 mI_31 rfl rfl ?_
  refine Sim.lth (fun h2 => ?_)
  refine Sim.iconst (v := (-1 : Int32)) dX11_errs_13 rfl ?_
  exact Sim.iret dX11_errs_14 rfl
theorem mv_X11_errs : zMV mX11_errs 1 := ⟨⟨zTb_in 1606 (by decide +kernel) rfl, zTb_in 148 (by decide +kernel) rfl, ⟨by decide +kernel, by decide +kernel⟩, by decide +kernel⟩, zTb_in 1605 (by decide +kernel) rfl, zTb_in 55 (by decide +kernel) rfl⟩
-- ===== RockingPorchModel.isWord(I)Z
abbrev mX11_isWord : zMt := (yX11_isWord, cX11_isWord, 2, some .boolean)
theorem fl_X11_187 : zF RX11 187 11 15 := ⟨RX11, TX11, 69, rfl, Nat.le_of_ble_eq_true rfl, zTb_in 1314 (by decide +kernel) rfl, in_X11⟩
theorem dX11_isWord_0 : decode cX11_isWord 0 = .ok (.aload_n 0, 1) := by decide +kernel
theorem dX11_isWord_1 : decode cX11_isWord 1 = .ok (.getfield 187, 3) := by decide +kernel
theorem dX11_isWord_4 : decode cX11_isWord 4 = .ok (.iconst 2, 1) := by decide +kernel
theorem dX11_isWord_5 : decode cX11_isWord 5 = .ok (.if_icmp .ne 15, 3) := by decide +kernel
theorem dX11_isWord_8 : decode cX11_isWord 8 = .ok (.aload_n 0, 1) := by decide +kernel
theorem dX11_isWord_9 : decode cX11_isWord 9 = .ok (.getfield 190, 3) := by decide +kernel
theorem dX11_isWord_12 : decode cX11_isWord 12 = .ok (.iload_n 1, 1) := by decide +kernel
theorem dX11_isWord_13 : decode cX11_isWord 13 = .ok (.if_icmp .ne 7, 3) := by decide +kernel
theorem dX11_isWord_16 : decode cX11_isWord 16 = .ok (.iconst 1, 1) := by decide +kernel
theorem dX11_isWord_17 : decode cX11_isWord 17 = .ok (.goto 4, 3) := by decide +kernel
theorem dX11_isWord_20 : decode cX11_isWord 20 = .ok (.iconst 0, 1) := by decide +kernel
theorem dX11_isWord_21 : decode cX11_isWord 21 = .ok (.ireturn, 1) := by decide +kernel
def f_X11_isWord  (a1 : Int32) (h : zHp) : Option (Int32 × zHp) := (if (h 0 15) = (2 : Int32) then (if (h 0 16) = a1 then some ((1 : Int32), h) else some ((0 : Int32), h)) else some ((0 : Int32), h))
set_option maxHeartbeats 4000000 in
set_option maxRecDepth 100000 in
theorem s_X11_isWord  (a1 : Int32) (h : zHp) : Fn wM mX11_isWord 0 rI [.ref 0, .int a1] h (f_X11_isWord a1 h) := by
  refine Fn.of rfl (Nat.le_of_ble_eq_true rfl) ?_
  unfold f_X11_isWord
  refine Sim.aload_n 0 dX11_isWord_0 rfl ?_
  refine Sim.getI fl_X11_187 dX11_isWord_1 mI_15 ?_
  refine Sim.iconst (v := (2 : Int32)) dX11_isWord_4 rfl ?_
  refine Sim.icmp_ne 20 dX11_isWord_5 rfl ?_ ?_
  · refine Sim.aload_n 0 dX11_isWord_8 rfl ?_
    refine Sim.getI fl_X11_190 dX11_isWord_9 mI_16 ?_
    refine Sim.iload_n 1 dX11_isWord_12 rfl ?_
    refine Sim.icmp_ne 20 dX11_isWord_13 rfl ?_ ?_
    · refine Sim.iconst (v := (1 : Int32)) dX11_isWord_16 rfl ?_
      refine Sim.goto 21 dX11_isWord_17 rfl ?_
      exact Sim.nret dX11_isWord_21 rfl rfl
    · refine Sim.iconst (v := (0 : Int32)) dX11_isWord_20 rfl ?_
      exact Sim.nret dX11_isWord_21 rfl rfl
  · refine Sim.iconst (v := (0 : Int32)) dX11_isWord_20 rfl ?_
    exact Sim.nret dX11_isWord_21 rfl rfl
theorem mv_X11_isWord : zMV mX11_isWord 1 := ⟨⟨zTb_in 1602 (by decide +kernel) rfl, zTb_in 148 (by decide +kernel) rfl, ⟨by decide +kernel, by decide +kernel⟩, by decide +kernel⟩, zTb_in 1601 (by decide +kernel) rfl, zTb_in 54 (by decide +kernel) rfl⟩
-- ===== RockingPorchModel.isSign(I)Z
abbrev mX11_isSign : zMt := (yX11_isSign, cX11_isSign, 2, some .boolean)
theorem dX11_isSign_0 : decode cX11_isSign 0 = .ok (.aload_n 0, 1) := by decide +kernel
theorem dX11_isSign_1 : decode cX11_isSign 1 = .ok (.getfield 187, 3) := by decide +kernel
theorem dX11_isSign_4 : decode cX11_isSign 4 = .ok (.iconst 4, 1) := by decide +kernel
theorem dX11_isSign_5 : decode cX11_isSign 5 = .ok (.if_icmp .ne 15, 3) := by decide +kernel
theorem dX11_isSign_8 : decode cX11_isSign 8 = .ok (.aload_n 0, 1) := by decide +kernel
theorem dX11_isSign_9 : decode cX11_isSign 9 = .ok (.getfield 190, 3) := by decide +kernel
theorem dX11_isSign_12 : decode cX11_isSign 12 = .ok (.iload_n 1, 1) := by decide +kernel
theorem dX11_isSign_13 : decode cX11_isSign 13 = .ok (.if_icmp .ne 7, 3) := by decide +kernel
theorem dX11_isSign_16 : decode cX11_isSign 16 = .ok (.iconst 1, 1) := by decide +kernel
theorem dX11_isSign_17 : decode cX11_isSign 17 = .ok (.goto 4, 3) := by decide +kernel
theorem dX11_isSign_20 : decode cX11_isSign 20 = .ok (.iconst 0, 1) := by decide +kernel
theorem dX11_isSign_21 : decode cX11_isSign 21 = .ok (.ireturn, 1) := by decide +kernel
def f_X11_isSign  (a1 : Int32) (h : zHp) : Option (Int32 × zHp) := (if (h 0 15) = (4 : Int32) then (if (h 0 16) = a1 then some ((1 : Int32), h) else some ((0 : Int32), h)) else some ((0 : Int32), h))
set_option maxHeartbeats 4000000 in
set_option maxRecDepth 100000 in
theorem s_X11_isSign  (a1 : Int32) (h : zHp) : Fn wM mX11_isSign 0 rI [.ref 0, .int a1] h (f_X11_isSign a1 h) := by
  refine Fn.of rfl (Nat.le_of_ble_eq_true rfl) ?_
  unfold f_X11_isSign
  refine Sim.aload_n 0 dX11_isSign_0 rfl ?_
  refine Sim.getI fl_X11_187 dX11_isSign_1 mI_15 ?_
  refine Sim.iconst (v := (4 : Int32)) dX11_isSign_4 rfl ?_
  refine Sim.icmp_ne 20 dX11_isSign_5 rfl ?_ ?_
  · refine Sim.aload_n 0 dX11_isSign_8 rfl ?_
    refine Sim.getI fl_X11_190 dX11_isSign_9 mI_16 ?_
    refine Sim.iload_n 1 dX11_isSign_12 rfl ?_
    refine Sim.icmp_ne 20 dX11_isSign_13 rfl ?_ ?_
    · refine Sim.iconst (v := (1 : Int32)) dX11_isSign_16 rfl ?_
      refine Sim.goto 21 dX11_isSign_17 rfl ?_
      exact Sim.nret dX11_isSign_21 rfl rfl
    · refine Sim.iconst (v := (0 : Int32)) dX11_isSign_20 rfl ?_
      exact Sim.nret dX11_isSign_21 rfl rfl
  · refine Sim.iconst (v := (0 : Int32)) dX11_isSign_20 rfl ?_
    exact Sim.nret dX11_isSign_21 rfl rfl
theorem mv_X11_isSign : zMV mX11_isSign 1 := ⟨⟨zTb_in 1626 (by decide +kernel) rfl, zTb_in 148 (by decide +kernel) rfl, ⟨by decide +kernel, by decide +kernel⟩, by decide +kernel⟩, zTb_in 1625 (by decide +kernel) rfl, zTb_in 60 (by decide +kernel) rfl⟩
-- ===== RockingPorchModel.emits(II)V
abbrev mX11_emits : zMt := (yX11_emits, cX11_emits, 3, none)
theorem fl_X11_212 : zF RX11 212 11 26 := ⟨RX11, TX11, 69, rfl, Nat.le_of_ble_eq_true rfl, zTb_in 1325 (by decide +kernel) rfl, in_X11⟩
theorem fl_X11_49 : zF RX11 49 11 23 := ⟨RX11, TX11, 69, rfl, Nat.le_of_ble_eq_true rfl, zTb_in 1322 (by decide +kernel) rfl, in_X11⟩
theorem fl_X11_52 : zF RX11 52 11 24 := ⟨RX11, TX11, 69, rfl, Nat.le_of_ble_eq_true rfl, zTb_in 1323 (by decide +kernel) rfl, in_X11⟩
theorem fp_X11_212 : zFp RX11 212 11 26 .int := ⟨RX11, TX11, 69, tyX11, rfl, Nat.le_of_ble_eq_true rfl, zTb_in 1325 (by decide +kernel) rfl, in_X11, tyX11_ok, nmX11, rfl, rfl⟩
theorem dX11_emits_0 : decode cX11_emits 0 = .ok (.aload_n 0, 1) := by decide +kernel
theorem dX11_emits_1 : decode cX11_emits 1 = .ok (.getfield 49, 3) := by decide +kernel
theorem dX11_emits_4 : decode cX11_emits 4 = .ok (.sipush 800, 3) := by decide +kernel
theorem dX11_emits_7 : decode cX11_emits 7 = .ok (.aload_n 0, 1) := by decide +kernel
theorem dX11_emits_8 : decode cX11_emits 8 = .ok (.getfield 212, 3) := by decide +kernel
theorem dX11_emits_11 : decode cX11_emits 11 = .ok (.iadd, 1) := by decide +kernel
theorem dX11_emits_12 : decode cX11_emits 12 = .ok (.iload_n 1, 1) := by decide +kernel
theorem dX11_emits_13 : decode cX11_emits 13 = .ok (.iastore, 1) := by decide +kernel
theorem dX11_emits_14 : decode cX11_emits 14 = .ok (.aload_n 0, 1) := by decide +kernel
theorem dX11_emits_15 : decode cX11_emits 15 = .ok (.getfield 52, 3) := by decide +kernel
theorem dX11_emits_18 : decode cX11_emits 18 = .ok (.sipush 800, 3) := by decide +kernel
theorem dX11_emits_21 : decode cX11_emits 21 = .ok (.aload_n 0, 1) := by decide +kernel
theorem dX11_emits_22 : decode cX11_emits 22 = .ok (.getfield 212, 3) := by decide +kernel
theorem dX11_emits_25 : decode cX11_emits 25 = .ok (.iadd, 1) := by decide +kernel
theorem dX11_emits_26 : decode cX11_emits 26 = .ok (.iload_n 2, 1) := by decide +kernel
theorem dX11_emits_27 : decode cX11_emits 27 = .ok (.iastore, 1) := by decide +kernel
theorem dX11_emits_28 : decode cX11_emits 28 = .ok (.aload_n 0, 1) := by decide +kernel
theorem dX11_emits_29 : decode cX11_emits 29 = .ok (.aload_n 0, 1) := by decide +kernel
theorem dX11_emits_30 : decode cX11_emits 30 = .ok (.getfield 212, 3) := by decide +kernel
theorem dX11_emits_33 : decode cX11_emits 33 = .ok (.iconst 1, 1) := by decide +kernel
theorem dX11_emits_34 : decode cX11_emits 34 = .ok (.iadd, 1) := by decide +kernel
theorem dX11_emits_35 : decode cX11_emits 35 = .ok (.putfield 212, 3) := by decide +kernel
theorem dX11_emits_38 : decode cX11_emits 38 = .ok (.return_, 1) := by decide +kernel
def f_X11_emits  (a1 : Int32) (a2 : Int32) (h : zHp) : Option (zHp) := zix ((800 : Int32) + (h 0 26)) 1200 (zlt (zst h 14 ((800 : Int32) + (h 0 26)).toNatClampNeg a1) fun h1 => zix ((800 : Int32) + (h1 0 26)) 1200 (zlt (zst h1 15 ((800 : Int32) + (h1 0 26)).toNatClampNeg a2) fun h2 => zlt (zst h2 0 26 ((h2 0 26) + (1 : Int32))) fun h3 => some h3))
set_option maxHeartbeats 4000000 in
set_option maxRecDepth 100000 in
theorem s_X11_emits  (a1 : Int32) (a2 : Int32) (h : zHp) : Fn wM mX11_emits 0 rV [.ref 0, .int a1, .int a2] h (f_X11_emits a1 a2 h) := by
  refine Fn.of rfl (Nat.le_of_ble_eq_true rfl) ?_
  unfold f_X11_emits
  refine Sim.aload_n 0 dX11_emits_0 rfl ?_
  refine Sim.getR (j := 14) fl_X11_49 dX11_emits_1 mR_23 ?_
  refine Sim.sipush (v := (800 : Int32)) dX11_emits_4 rfl ?_
  refine Sim.aload_n 0 dX11_emits_7 rfl ?_
  refine Sim.getI fl_X11_212 dX11_emits_8 mI_26 ?_
  refine Sim.iadd dX11_emits_11 ?_
  refine Sim.iload_n 1 dX11_emits_12 rfl ?_
  refine Sim.iast (n := 1200) dX11_emits_13 mA_14 ?_
  refine Sim.lth (fun h1 => ?_)
  refine Sim.aload_n 0 dX11_emits_14 rfl ?_
  refine Sim.getR (j := 15) fl_X11_52 dX11_emits_15 mR_24 ?_
  refine Sim.sipush (v := (800 : Int32)) dX11_emits_18 rfl ?_
  refine Sim.aload_n 0 dX11_emits_21 rfl ?_
  refine Sim.getI fl_X11_212 dX11_emits_22 mI_26 ?_
  refine Sim.iadd dX11_emits_25 ?_
  refine Sim.iload_n 2 dX11_emits_26 rfl ?_
  refine Sim.iast (n := 1200) dX11_emits_27 mA_15 ?_
  refine Sim.lth (fun h2 => ?_)
  refine Sim.aload_n 0 dX11_emits_28 rfl ?_
  refine Sim.aload_n 0 dX11_emits_29 rfl ?_
  refine Sim.getI fl_X11_212 dX11_emits_30 mI_26 ?_
  refine Sim.iconst (v := (1 : Int32)) dX11_emits_33 rfl ?_
  refine Sim.iadd dX11_emits_34 ?_
  refine Sim.put fp_X11_212 dX11_emits_35 mI_26 rfl rfl ?_
  refine Sim.lth (fun h3 => ?_)
  exact Sim.vret dX11_emits_38 rfl
theorem mv_X11_emits : zMV mX11_emits 2 := ⟨⟨zTb_in 1670 (by decide +kernel) rfl, zTb_in 148 (by decide +kernel) rfl, ⟨by decide +kernel, by decide +kernel⟩, by decide +kernel⟩, zTb_in 1669 (by decide +kernel) rfl, zTb_in 71 (by decide +kernel) rfl⟩
-- ===== RockingPorchModel.canAsk(I)Z
abbrev mX11_canAsk : zMt := (yX11_canAsk, cX11_canAsk, 2, some .boolean)
theorem dX11_canAsk_0 : decode cX11_canAsk 0 = .ok (.aload_n 0, 1) := by decide +kernel
theorem dX11_canAsk_1 : decode cX11_canAsk 1 = .ok (.iload_n 1, 1) := by decide +kernel
theorem dX11_canAsk_2 : decode cX11_canAsk 2 = .ok (.bipush 7, 2) := by decide +kernel
theorem dX11_canAsk_4 : decode cX11_canAsk 4 = .ok (.bipush 15, 2) := by decide +kernel
theorem dX11_canAsk_6 : decode cX11_canAsk 6 = .ok (.invokevirtual 154, 3) := by decide +kernel
theorem dX11_canAsk_9 : decode cX11_canAsk 9 = .ok (.ireturn, 1) := by decide +kernel
def f_X11_canAsk  (a1 : Int32) (h : zHp) : Option (Int32 × zHp) := (f_X11_isIn a1 (7 : Int32) (15 : Int32) h).bind fun x1 => zzb x1.1 (some (x1.1, x1.2))
set_option maxHeartbeats 4000000 in
set_option maxRecDepth 100000 in
theorem s_X11_canAsk  (a1 : Int32) (h : zHp) : Fn wM mX11_canAsk 1 rI [.ref 0, .int a1] h (f_X11_canAsk a1 h) := by
  refine Fn.of rfl (Nat.le_of_ble_eq_true rfl) ?_
  unfold f_X11_canAsk
  refine Sim.aload_n 0 dX11_canAsk_0 rfl ?_
  refine Sim.iload_n 1 dX11_canAsk_1 rfl ?_
  refine Sim.bipush (v := (7 : Int32)) dX11_canAsk_2 rfl ?_
  refine Sim.bipush (v := (15 : Int32)) dX11_canAsk_4 rfl ?_
  refine Sim.callV3I (d1 := 0) (s_X11_isIn a1 (7 : Int32) (15 : Int32) h) dX11_canAsk_6 ml_X11_154 mv_X11_isIn mC (Nat.le_of_ble_eq_true rfl) (Nat.le_of_ble_eq_true rfl) (Nat.le_of_ble_eq_true rfl) (fun x1 => ?_)
  exact Sim.zret dX11_canAsk_9 rfl
theorem mv_X11_canAsk : zMV mX11_canAsk 1 := ⟨⟨zTb_in 1666 (by decide +kernel) rfl, zTb_in 148 (by decide +kernel) rfl, ⟨by decide +kernel, by decide +kernel⟩, by decide +kernel⟩, zTb_in 1665 (by decide +kernel) rfl, zTb_in 70 (by decide +kernel) rfl⟩
-- ===== RockingPorchModel.readUnit()I
abbrev mX11_readUnit : zMt := (yX11_readUnit, cX11_readUnit, 2, some .int)
theorem ml_X11_215 : Cond.methodLink RX11 215 yX11_canAsk ∈ zTb := zTb_in 1663 (by decide +kernel) rfl
theorem ml_X11_218 : Cond.methodLink RX11 218 yX11_errs ∈ zTb := zTb_in 1603 (by decide +kernel) rfl
theorem ml_X11_221 : Cond.methodLink RX11 221 yX11_emits ∈ zTb := zTb_in 1667 (by decide +kernel) rfl
theorem ml_X11_224 : Cond.methodLink RX11 224 yX11_reads ∈ zTb := zTb_in 1571 (by decide +kernel) rfl
theorem dX11_readUnit_0 : decode cX11_readUnit 0 = .ok (.aload_n 0, 1) := by decide +kernel
theorem dX11_readUnit_1 : decode cX11_readUnit 1 = .ok (.getfield 187, 3) := by decide +kernel
theorem dX11_readUnit_4 : decode cX11_readUnit 4 = .ok (.iconst 2, 1) := by decide +kernel
theorem dX11_readUnit_5 : decode cX11_readUnit 5 = .ok (.if_icmp .ne 18, 3) := by decide +kernel
theorem dX11_readUnit_8 : decode cX11_readUnit 8 = .ok (.aload_n 0, 1) := by decide +kernel
theorem dX11_readUnit_9 : decode cX11_readUnit 9 = .ok (.aload_n 0, 1) := by decide +kernel
theorem dX11_readUnit_10 : decode cX11_readUnit 10 = .ok (.getfield 190, 3) := by decide +kernel
theorem dX11_readUnit_13 : decode cX11_readUnit 13 = .ok (.invokevirtual 215, 3) := by decide +kernel
theorem dX11_readUnit_16 : decode cX11_readUnit 16 = .ok (.ifCond .eq 7, 3) := by decide +kernel
theorem dX11_readUnit_19 : decode cX11_readUnit 19 = .ok (.iconst 1, 1) := by decide +kernel
theorem dX11_readUnit_20 : decode cX11_readUnit 20 = .ok (.goto 4, 3) := by decide +kernel
theorem dX11_readUnit_23 : decode cX11_readUnit 23 = .ok (.iconst 0, 1) := by decide +kernel
theorem dX11_readUnit_24 : decode cX11_readUnit 24 = .ok (.istore_n 1, 1) := by decide +kernel
theorem dX11_readUnit_25 : decode cX11_readUnit 25 = .ok (.iload_n 1, 1) := by decide +kernel
theorem dX11_readUnit_26 : decode cX11_readUnit 26 = .ok (.ifCond .ne 17, 3) := by decide +kernel
theorem dX11_readUnit_29 : decode cX11_readUnit 29 = .ok (.aload_n 0, 1) := by decide +kernel
theorem dX11_readUnit_30 : decode cX11_readUnit 30 = .ok (.getfield 187, 3) := by decide +kernel
theorem dX11_readUnit_33 : decode cX11_readUnit 33 = .ok (.iconst 3, 1) := by decide +kernel
theorem dX11_readUnit_34 : decode cX11_readUnit 34 = .ok (.if_icmp .eq 9, 3) := by decide +kernel
theorem dX11_readUnit_37 : decode cX11_readUnit 37 = .ok (.aload_n 0, 1) := by decide +kernel
theorem dX11_readUnit_38 : decode cX11_readUnit 38 = .ok (.iconst 1, 1) := by decide +kernel
theorem dX11_readUnit_39 : decode cX11_readUnit 39 = .ok (.invokevirtual 218, 3) := by decide +kernel
theorem dX11_readUnit_42 : decode cX11_readUnit 42 = .ok (.ireturn, 1) := by decide +kernel
theorem dX11_readUnit_43 : decode cX11_readUnit 43 = .ok (.aload_n 0, 1) := by decide +kernel
theorem dX11_readUnit_44 : decode cX11_readUnit 44 = .ok (.iload_n 1, 1) := by decide +kernel
theorem dX11_readUnit_45 : decode cX11_readUnit 45 = .ok (.ifCond .eq 7, 3) := by decide +kernel
theorem dX11_readUnit_48 : decode cX11_readUnit 48 = .ok (.iconst 1, 1) := by decide +kernel
theorem dX11_readUnit_49 : decode cX11_readUnit 49 = .ok (.goto 4, 3) := by decide +kernel
theorem dX11_readUnit_52 : decode cX11_readUnit 52 = .ok (.iconst 0, 1) := by decide +kernel
theorem dX11_readUnit_53 : decode cX11_readUnit 53 = .ok (.iload_n 1, 1) := by decide +kernel
theorem dX11_readUnit_54 : decode cX11_readUnit 54 = .ok (.ifCond .eq 13, 3) := by decide +kernel
theorem dX11_readUnit_57 : decode cX11_readUnit 57 = .ok (.aload_n 0, 1) := by decide +kernel
theorem dX11_readUnit_58 : decode cX11_readUnit 58 = .ok (.getfield 190, 3) := by decide +kernel
theorem dX11_readUnit_61 : decode cX11_readUnit 61 = .ok (.bipush 7, 2) := by decide +kernel
theorem dX11_readUnit_63 : decode cX11_readUnit 63 = .ok (.isub, 1) := by decide +kernel
theorem dX11_readUnit_64 : decode cX11_readUnit 64 = .ok (.goto 7, 3) := by decide +kernel
theorem dX11_readUnit_67 : decode cX11_readUnit 67 = .ok (.aload_n 0, 1) := by decide +kernel
theorem dX11_readUnit_68 : decode cX11_readUnit 68 = .ok (.getfield 190, 3) := by decide +kernel
theorem dX11_readUnit_71 : decode cX11_readUnit 71 = .ok (.invokevirtual 221, 3) := by decide +kernel
theorem dX11_readUnit_74 : decode cX11_readUnit 74 = .ok (.aload_n 0, 1) := by decide +kernel
theorem dX11_readUnit_75 : decode cX11_readUnit 75 = .ok (.invokevirtual 224, 3) := by decide +kernel
theorem dX11_readUnit_78 : decode cX11_readUnit 78 = .ok (.iconst 0, 1) := by decide +kernel
theorem dX11_readUnit_79 : decode cX11_readUnit 79 = .ok (.ireturn, 1) := by decide +kernel
def f_X11_readUnit_53   (v1 : Int32) (s0 : Int32) (h : zHp) : Option (Int32 × zHp) := (if v1 = 0 then (f_X11_emits s0 (h 0 16) h).bind fun x1 => (f_X11_reads x1).bind fun x2 => some ((0 : Int32), x2) else (f_X11_emits s0 ((h 0 16) - (7 : Int32)) h).bind fun x3 => (f_X11_reads x3).bind fun x4 => some ((0 : Int32), x4))
set_option maxHeartbeats 4000000 in
set_option maxRecDepth 100000 in
theorem f_X11_readUnit_53_s  (v1 : Int32) (s0 : Int32) (h : zHp) : Sim wM mX11_readUnit 3 rI 53 [(0, .ref 0), (1, .int v1)] [.int s0, .ref 0] h (f_X11_readUnit_53 v1 s0 h) := by
  unfold f_X11_readUnit_53
  refine Sim.iload_n 1 dX11_readUnit_53 rfl ?_
  refine Sim.if_eq 67 dX11_readUnit_54 rfl ?_ ?_
  · refine Sim.aload_n 0 dX11_readUnit_67 rfl ?_
    refine Sim.getI fl_X11_190 dX11_readUnit_68 mI_16 ?_
    refine Sim.callV2U (d1 := 0) (s_X11_emits s0 (h 0 16) h) dX11_readUnit_71 ml_X11_221 mv_X11_emits mC (Nat.le_of_ble_eq_true rfl) (Nat.le_of_ble_eq_true rfl) (Nat.le_of_ble_eq_true rfl) (fun x1 => ?_)
    refine Sim.aload_n 0 dX11_readUnit_74 rfl ?_
    refine Sim.callV0U (d1 := 2) (s_X11_reads x1) dX11_readUnit_75 ml_X11_224 mv_X11_reads mC (Nat.le_of_ble_eq_true rfl) (Nat.le_of_ble_eq_true rfl) (Nat.le_of_ble_eq_true rfl) (fun x2 => ?_)
    refine Sim.iconst (v := (0 : Int32)) dX11_readUnit_78 rfl ?_
    exact Sim.iret dX11_readUnit_79 rfl
  · refine Sim.aload_n 0 dX11_readUnit_57 rfl ?_
    refine Sim.getI fl_X11_190 dX11_readUnit_58 mI_16 ?_
    refine Sim.bipush (v := (7 : Int32)) dX11_readUnit_61 rfl ?_
    refine Sim.isub dX11_readUnit_63 ?_
    refine Sim.goto 71 dX11_readUnit_64 rfl ?_
    refine Sim.callV2U (d1 := 0) (s_X11_emits s0 ((h 0 16) - (7 : Int32)) h) dX11_readUnit_71 ml_X11_221 mv_X11_emits mC (Nat.le_of_ble_eq_true rfl) (Nat.le_of_ble_eq_true rfl) (Nat.le_of_ble_eq_true rfl) (fun x3 => ?_)
    refine Sim.aload_n 0 dX11_readUnit_74 rfl ?_
    refine Sim.callV0U (d1 := 2) (s_X11_reads x3) dX11_readUnit_75 ml_X11_224 mv_X11_reads mC (Nat.le_of_ble_eq_true rfl) (Nat.le_of_ble_eq_true rfl) (Nat.le_of_ble_eq_true rfl) (fun x4 => ?_)
    refine Sim.iconst (v := (0 : Int32)) dX11_readUnit_78 rfl ?_
    exact Sim.iret dX11_readUnit_79 rfl
def f_X11_readUnit_43   (v1 : Int32) (h : zHp) : Option (Int32 × zHp) := (if v1 = 0 then f_X11_readUnit_53 v1 (0 : Int32) h else f_X11_readUnit_53 v1 (1 : Int32) h)
set_option maxHeartbeats 4000000 in
set_option maxRecDepth 100000 in
theorem f_X11_readUnit_43_s  (v1 : Int32) (h : zHp) : Sim wM mX11_readUnit 3 rI 43 [(0, .ref 0), (1, .int v1)] [] h (f_X11_readUnit_43 v1 h) := by
  unfold f_X11_readUnit_43
  refine Sim.aload_n 0 dX11_readUnit_43 rfl ?_
  refine Sim.iload_n 1 dX11_readUnit_44 rfl ?_
  refine Sim.if_eq 52 dX11_readUnit_45 rfl ?_ ?_
  · refine Sim.iconst (v := (0 : Int32)) dX11_readUnit_52 rfl ?_
    exact f_X11_readUnit_53_s v1 (0 : Int32) h
  · refine Sim.iconst (v := (1 : Int32)) dX11_readUnit_48 rfl ?_
    refine Sim.goto 53 dX11_readUnit_49 rfl ?_
    exact f_X11_readUnit_53_s v1 (1 : Int32) h
def f_X11_readUnit_24   (s0 : Int32) (h : zHp) : Option (Int32 × zHp) := (if s0 = 0 then (if (h 0 15) = (3 : Int32) then f_X11_readUnit_43 s0 h else (f_X11_errs (1 : Int32) h).bind fun x1 => some (x1.1, x1.2)) else f_X11_readUnit_43 s0 h)
set_option maxHeartbeats 4000000 in
set_option maxRecDepth 100000 in
theorem f_X11_readUnit_24_s  (s0 : Int32) (h : zHp) : Sim wM mX11_readUnit 3 rI 24 [(0, .ref 0)] [.int s0] h (f_X11_readUnit_24 s0 h) := by
  unfold f_X11_readUnit_24
  refine Sim.istore_n (L' := [(1, .int s0), (0, .ref 0)]) dX11_readUnit_24 (Nat.le_of_ble_eq_true rfl) rfl ?_
  refine Sim.iload_n 0 dX11_readUnit_25 rfl ?_
  refine Sim.if_ne 43 dX11_readUnit_26 rfl ?_ ?_
  · refine Sim.aload_n 1 dX11_readUnit_29 rfl ?_
    refine Sim.getI fl_X11_187 dX11_readUnit_30 mI_15 ?_
    refine Sim.iconst (v := (3 : Int32)) dX11_readUnit_33 rfl ?_
    refine Sim.icmp_eq 43 dX11_readUnit_34 rfl ?_ ?_
    · refine Sim.locs [1, 0] rfl ?_
      exact f_X11_readUnit_43_s s0 h
    · refine Sim.aload_n 1 dX11_readUnit_37 rfl ?_
      refine Sim.iconst (v := (1 : Int32)) dX11_readUnit_38 rfl ?_
      refine Sim.callV1I (d1 := 0) (s_X11_errs (1 : Int32) h) dX11_readUnit_39 ml_X11_218 mv_X11_errs mC (Nat.le_of_ble_eq_true rfl) (Nat.le_of_ble_eq_true rfl) (Nat.le_of_ble_eq_true rfl) (fun x1 => ?_)
      exact Sim.iret dX11_readUnit_42 rfl
  · refine Sim.locs [1, 0] rfl ?_
    exact f_X11_readUnit_43_s s0 h
def f_X11_readUnit   (h : zHp) : Option (Int32 × zHp) := (if (h 0 15) = (2 : Int32) then (f_X11_canAsk (h 0 16) h).bind fun x1 => (if x1.1 = 0 then f_X11_readUnit_24 (0 : Int32) x1.2 else f_X11_readUnit_24 (1 : Int32) x1.2) else f_X11_readUnit_24 (0 : Int32) h)
set_option maxHeartbeats 4000000 in
set_option maxRecDepth 100000 in
theorem s_X11_readUnit   (h : zHp) : Fn wM mX11_readUnit 3 rI [.ref 0] h (f_X11_readUnit  h) := by
  refine Fn.of rfl (Nat.le_of_ble_eq_true rfl) ?_
  unfold f_X11_readUnit
  refine Sim.aload_n 0 dX11_readUnit_0 rfl ?_
  refine Sim.getI fl_X11_187 dX11_readUnit_1 mI_15 ?_
  refine Sim.iconst (v := (2 : Int32)) dX11_readUnit_4 rfl ?_
  refine Sim.icmp_ne 23 dX11_readUnit_5 rfl ?_ ?_
  · refine Sim.aload_n 0 dX11_readUnit_8 rfl ?_
    refine Sim.aload_n 0 dX11_readUnit_9 rfl ?_
    refine Sim.getI fl_X11_190 dX11_readUnit_10 mI_16 ?_
    refine Sim.callV1I (d1 := 1) (s_X11_canAsk (h 0 16) h) dX11_readUnit_13 ml_X11_215 mv_X11_canAsk mC (Nat.le_of_ble_eq_true rfl) (Nat.le_of_ble_eq_true rfl) (Nat.le_of_ble_eq_true rfl) (fun x1 => ?_)
    refine Sim.if_eq 23 dX11_readUnit_16 rfl ?_ ?_
    · refine Sim.iconst (v := (0 : Int32)) dX11_readUnit_23 rfl ?_
      exact f_X11_readUnit_24_s (0 : Int32) x1.2
    · refine Sim.iconst (v := (1 : Int32)) dX11_readUnit_19 rfl ?_
      refine Sim.goto 24 dX11_readUnit_20 rfl ?_
      exact f_X11_readUnit_24_s (1 : Int32) x1.2
  · refine Sim.iconst (v := (0 : Int32)) dX11_readUnit_23 rfl ?_
    exact f_X11_readUnit_24_s (0 : Int32) h
theorem mv_X11_readUnit : zMV mX11_readUnit 0 := ⟨⟨zTb_in 1662 (by decide +kernel) rfl, zTb_in 148 (by decide +kernel) rfl, ⟨by decide +kernel, by decide +kernel⟩, by decide +kernel⟩, zTb_in 1661 (by decide +kernel) rfl, zTb_in 69 (by decide +kernel) rfl⟩
-- ===== RockingPorchModel.readProduct()I
abbrev mX11_readProduct : zMt := (yX11_readProduct, cX11_readProduct, 2, some .int)
theorem ml_X11_227 : Cond.methodLink RX11 227 yX11_readUnit ∈ zTb := zTb_in 1659 (by decide +kernel) rfl
theorem ml_X11_231 : Cond.methodLink RX11 231 yX11_isSign ∈ zTb := zTb_in 1623 (by decide +kernel) rfl
theorem dX11_readProduct_0 : decode cX11_readProduct 0 = .ok (.aload_n 0, 1) := by decide +kernel
theorem dX11_readProduct_1 : decode cX11_readProduct 1 = .ok (.invokevirtual 227, 3) := by decide +kernel
theorem dX11_readProduct_4 : decode cX11_readProduct 4 = .ok (.iconst (-1), 1) := by decide +kernel
theorem dX11_readProduct_5 : decode cX11_readProduct 5 = .ok (.if_icmp .ne 5, 3) := by decide +kernel
theorem dX11_readProduct_8 : decode cX11_readProduct 8 = .ok (.iconst (-1), 1) := by decide +kernel
theorem dX11_readProduct_9 : decode cX11_readProduct 9 = .ok (.ireturn, 1) := by decide +kernel
theorem dX11_readProduct_10 : decode cX11_readProduct 10 = .ok (.aload_n 0, 1) := by decide +kernel
theorem dX11_readProduct_11 : decode cX11_readProduct 11 = .ok (.bipush 42, 2) := by decide +kernel
theorem dX11_readProduct_13 : decode cX11_readProduct 13 = .ok (.invokevirtual 231, 3) := by decide +kernel
theorem dX11_readProduct_16 : decode cX11_readProduct 16 = .ok (.ifCond .ne 12, 3) := by decide +kernel
theorem dX11_readProduct_19 : decode cX11_readProduct 19 = .ok (.aload_n 0, 1) := by decide +kernel
theorem dX11_readProduct_20 : decode cX11_readProduct 20 = .ok (.bipush 47, 2) := by decide +kernel
theorem dX11_readProduct_22 : decode cX11_readProduct 22 = .ok (.invokevirtual 231, 3) := by decide +kernel
theorem dX11_readProduct_25 : decode cX11_readProduct 25 = .ok (.ifCond .eq 76, 3) := by decide +kernel
theorem dX11_readProduct_28 : decode cX11_readProduct 28 = .ok (.aload_n 0, 1) := by decide +kernel
theorem dX11_readProduct_29 : decode cX11_readProduct 29 = .ok (.bipush 42, 2) := by decide +kernel
theorem dX11_readProduct_31 : decode cX11_readProduct 31 = .ok (.invokevirtual 231, 3) := by decide +kernel
theorem dX11_readProduct_34 : decode cX11_readProduct 34 = .ok (.istore_n 1, 1) := by decide +kernel
theorem dX11_readProduct_35 : decode cX11_readProduct 35 = .ok (.aload_n 0, 1) := by decide +kernel
theorem dX11_readProduct_36 : decode cX11_readProduct 36 = .ok (.invokevirtual 224, 3) := by decide +kernel
theorem dX11_readProduct_39 : decode cX11_readProduct 39 = .ok (.iload_n 1, 1) := by decide +kernel
theorem dX11_readProduct_40 : decode cX11_readProduct 40 = .ok (.ifCond .ne 17, 3) := by decide +kernel
theorem dX11_readProduct_43 : decode cX11_readProduct 43 = .ok (.aload_n 0, 1) := by decide +kernel
theorem dX11_readProduct_44 : decode cX11_readProduct 44 = .ok (.getfield 187, 3) := by decide +kernel
theorem dX11_readProduct_47 : decode cX11_readProduct 47 = .ok (.iconst 3, 1) := by decide +kernel
theorem dX11_readProduct_48 : decode cX11_readProduct 48 = .ok (.if_icmp .eq 9, 3) := by decide +kernel
theorem dX11_readProduct_51 : decode cX11_readProduct 51 = .ok (.aload_n 0, 1) := by decide +kernel
theorem dX11_readProduct_52 : decode cX11_readProduct 52 = .ok (.iconst 1, 1) := by decide +kernel
theorem dX11_readProduct_53 : decode cX11_readProduct 53 = .ok (.invokevirtual 218, 3) := by decide +kernel
theorem dX11_readProduct_56 : decode cX11_readProduct 56 = .ok (.ireturn, 1) := by decide +kernel
theorem dX11_readProduct_57 : decode cX11_readProduct 57 = .ok (.iload_n 1, 1) := by decide +kernel
theorem dX11_readProduct_58 : decode cX11_readProduct 58 = .ok (.ifCond .ne 16, 3) := by decide +kernel
theorem dX11_readProduct_61 : decode cX11_readProduct 61 = .ok (.aload_n 0, 1) := by decide +kernel
theorem dX11_readProduct_62 : decode cX11_readProduct 62 = .ok (.getfield 190, 3) := by decide +kernel
theorem dX11_readProduct_65 : decode cX11_readProduct 65 = .ok (.ifCond .ne 9, 3) := by decide +kernel
theorem dX11_readProduct_68 : decode cX11_readProduct 68 = .ok (.aload_n 0, 1) := by decide +kernel
theorem dX11_readProduct_69 : decode cX11_readProduct 69 = .ok (.iconst 2, 1) := by decide +kernel
theorem dX11_readProduct_70 : decode cX11_readProduct 70 = .ok (.invokevirtual 218, 3) := by decide +kernel
theorem dX11_readProduct_73 : decode cX11_readProduct 73 = .ok (.ireturn, 1) := by decide +kernel
theorem dX11_readProduct_74 : decode cX11_readProduct 74 = .ok (.aload_n 0, 1) := by decide +kernel
theorem dX11_readProduct_75 : decode cX11_readProduct 75 = .ok (.invokevirtual 227, 3) := by decide +kernel
theorem dX11_readProduct_78 : decode cX11_readProduct 78 = .ok (.iconst (-1), 1) := by decide +kernel
theorem dX11_readProduct_79 : decode cX11_readProduct 79 = .ok (.if_icmp .ne 5, 3) := by decide +kernel
theorem dX11_readProduct_82 : decode cX11_readProduct 82 = .ok (.iconst (-1), 1) := by decide +kernel
theorem dX11_readProduct_83 : decode cX11_readProduct 83 = .ok (.ireturn, 1) := by decide +kernel
theorem dX11_readProduct_84 : decode cX11_readProduct 84 = .ok (.aload_n 0, 1) := by decide +kernel
theorem dX11_readProduct_85 : decode cX11_readProduct 85 = .ok (.iload_n 1, 1) := by decide +kernel
theorem dX11_readProduct_86 : decode cX11_readProduct 86 = .ok (.ifCond .eq 7, 3) := by decide +kernel
theorem dX11_readProduct_89 : decode cX11_readProduct 89 = .ok (.iconst 4, 1) := by decide +kernel
theorem dX11_readProduct_90 : decode cX11_readProduct 90 = .ok (.goto 4, 3) := by decide +kernel
theorem dX11_readProduct_93 : decode cX11_readProduct 93 = .ok (.iconst 5, 1) := by decide +kernel
theorem dX11_readProduct_94 : decode cX11_readProduct 94 = .ok (.iconst 0, 1) := by decide +kernel
theorem dX11_readProduct_95 : decode cX11_readProduct 95 = .ok (.invokevirtual 221, 3) := by decide +kernel
theorem dX11_readProduct_98 : decode cX11_readProduct 98 = .ok (.goto (-88), 3) := by decide +kernel
theorem dX11_readProduct_101 : decode cX11_readProduct 101 = .ok (.iconst 0, 1) := by decide +kernel
theorem dX11_readProduct_102 : decode cX11_readProduct 102 = .ok (.ireturn, 1) := by decide +kernel
def f_X11_readProduct_74  (k10 : zHp → Option (Int32 × zHp)) (v1 : Int32) (h : zHp) : Option (Int32 × zHp) := (f_X11_readUnit h).bind fun x1 => (if x1.1 = (-1 : Int32) then some ((-1 : Int32), x1.2) else (if v1 = 0 then (f_X11_emits (5 : Int32) (0 : Int32) x1.2).bind fun x2 => k10 x2 else (f_X11_emits (4 : Int32) (0 : Int32) x1.2).bind fun x3 => k10 x3))
set_option maxHeartbeats 4000000 in
set_option maxRecDepth 100000 in
theorem f_X11_readProduct_74_s  (k10 : zHp → Option (Int32 × zHp)) (H10 : ∀ v : zHp, Sim wM mX11_readProduct 4 rI 10 [(0, .ref 0)] [] v (k10 v)) (v1 : Int32) (h : zHp) : Sim wM mX11_readProduct 4 rI 74 [(0, .ref 0), (1, .int v1)] [] h (f_X11_readProduct_74 k10 v1 h) := by
  unfold f_X11_readProduct_74
  refine Sim.aload_n 0 dX11_readProduct_74 rfl ?_
  refine Sim.callV0I (d1 := 3) (s_X11_readUnit h) dX11_readProduct_75 ml_X11_227 mv_X11_readUnit mC (Nat.le_of_ble_eq_true rfl) (Nat.le_of_ble_eq_true rfl) (Nat.le_of_ble_eq_true rfl) (fun x1 => ?_)
  refine Sim.iconst (v := (-1 : Int32)) dX11_readProduct_78 rfl ?_
  refine Sim.icmp_ne 84 dX11_readProduct_79 rfl ?_ ?_
  · refine Sim.iconst (v := (-1 : Int32)) dX11_readProduct_82 rfl ?_
    exact Sim.iret dX11_readProduct_83 rfl
  · refine Sim.aload_n 0 dX11_readProduct_84 rfl ?_
    refine Sim.iload_n 1 dX11_readProduct_85 rfl ?_
    refine Sim.if_eq 93 dX11_readProduct_86 rfl ?_ ?_
    · refine Sim.iconst (v := (5 : Int32)) dX11_readProduct_93 rfl ?_
      refine Sim.iconst (v := (0 : Int32)) dX11_readProduct_94 rfl ?_
      refine Sim.callV2U (d1 := 0) (s_X11_emits (5 : Int32) (0 : Int32) x1.2) dX11_readProduct_95 ml_X11_221 mv_X11_emits mC (Nat.le_of_ble_eq_true rfl) (Nat.le_of_ble_eq_true rfl) (Nat.le_of_ble_eq_true rfl) (fun x2 => ?_)
      refine Sim.goto 10 dX11_readProduct_98 rfl ?_
      refine Sim.locs [0] rfl ?_
      exact H10 x2
    · refine Sim.iconst (v := (4 : Int32)) dX11_readProduct_89 rfl ?_
      refine Sim.goto 94 dX11_readProduct_90 rfl ?_
      refine Sim.iconst (v := (0 : Int32)) dX11_readProduct_94 rfl ?_
      refine Sim.callV2U (d1 := 0) (s_X11_emits (4 : Int32) (0 : Int32) x1.2) dX11_readProduct_95 ml_X11_221 mv_X11_emits mC (Nat.le_of_ble_eq_true rfl) (Nat.le_of_ble_eq_true rfl) (Nat.le_of_ble_eq_true rfl) (fun x3 => ?_)
      refine Sim.goto 10 dX11_readProduct_98 rfl ?_
      refine Sim.locs [0] rfl ?_
      exact H10 x3
def f_X11_readProduct_57  (k10 : zHp → Option (Int32 × zHp)) (v1 : Int32) (h : zHp) : Option (Int32 × zHp) := (if v1 = 0 then (if (h 0 16) = 0 then (f_X11_errs (2 : Int32) h).bind fun x1 => some (x1.1, x1.2) else f_X11_readProduct_74 k10 v1 h) else f_X11_readProduct_74 k10 v1 h)
set_option maxHeartbeats 4000000 in
set_option maxRecDepth 100000 in
theorem f_X11_readProduct_57_s  (k10 : zHp → Option (Int32 × zHp)) (H10 : ∀ v : zHp, Sim wM mX11_readProduct 4 rI 10 [(0, .ref 0)] [] v (k10 v)) (v1 : Int32) (h : zHp) : Sim wM mX11_readProduct 4 rI 57 [(0, .ref 0), (1, .int v1)] [] h (f_X11_readProduct_57 k10 v1 h) := by
  unfold f_X11_readProduct_57
  refine Sim.iload_n 1 dX11_readProduct_57 rfl ?_
  refine Sim.if_ne 74 dX11_readProduct_58 rfl ?_ ?_
  · refine Sim.aload_n 0 dX11_readProduct_61 rfl ?_
    refine Sim.getI fl_X11_190 dX11_readProduct_62 mI_16 ?_
    refine Sim.if_ne 74 dX11_readProduct_65 rfl ?_ ?_
    · refine Sim.aload_n 0 dX11_readProduct_68 rfl ?_
      refine Sim.iconst (v := (2 : Int32)) dX11_readProduct_69 rfl ?_
      refine Sim.callV1I (d1 := 0) (s_X11_errs (2 : Int32) h) dX11_readProduct_70 ml_X11_218 mv_X11_errs mC (Nat.le_of_ble_eq_true rfl) (Nat.le_of_ble_eq_true rfl) (Nat.le_of_ble_eq_true rfl) (fun x1 => ?_)
      exact Sim.iret dX11_readProduct_73 rfl
    · exact f_X11_readProduct_74_s k10 H10 v1 h
  · exact f_X11_readProduct_74_s k10 H10 v1 h
def f_X11_readProduct_28  (k10 : zHp → Option (Int32 × zHp))  (h : zHp) : Option (Int32 × zHp) := (f_X11_isSign (42 : Int32) h).bind fun x1 => (f_X11_reads x1.2).bind fun x2 => (if x1.1 = 0 then (if (x2 0 15) = (3 : Int32) then f_X11_readProduct_57 k10 x1.1 x2 else (f_X11_errs (1 : Int32) x2).bind fun x3 => some (x3.1, x3.2)) else f_X11_readProduct_57 k10 x1.1 x2)
set_option maxHeartbeats 4000000 in
set_option maxRecDepth 100000 in
theorem f_X11_readProduct_28_s  (k10 : zHp → Option (Int32 × zHp)) (H10 : ∀ v : zHp, Sim wM mX11_readProduct 4 rI 10 [(0, .ref 0)] [] v (k10 v))  (h : zHp) : Sim wM mX11_readProduct 4 rI 28 [(0, .ref 0)] [] h (f_X11_readProduct_28 k10 h) := by
  unfold f_X11_readProduct_28
  refine Sim.aload_n 0 dX11_readProduct_28 rfl ?_
  refine Sim.bipush (v := (42 : Int32)) dX11_readProduct_29 rfl ?_
  refine Sim.callV1I (d1 := 0) (s_X11_isSign (42 : Int32) h) dX11_readProduct_31 ml_X11_231 mv_X11_isSign mC (Nat.le_of_ble_eq_true rfl) (Nat.le_of_ble_eq_true rfl) (Nat.le_of_ble_eq_true rfl) (fun x1 => ?_)
  refine Sim.istore_n (L' := [(1, .int x1.1), (0, .ref 0)]) dX11_readProduct_34 (Nat.le_of_ble_eq_true rfl) rfl ?_
  refine Sim.aload_n 1 dX11_readProduct_35 rfl ?_
  refine Sim.callV0U (d1 := 2) (s_X11_reads x1.2) dX11_readProduct_36 ml_X11_224 mv_X11_reads mC (Nat.le_of_ble_eq_true rfl) (Nat.le_of_ble_eq_true rfl) (Nat.le_of_ble_eq_true rfl) (fun x2 => ?_)
  refine Sim.iload_n 0 dX11_readProduct_39 rfl ?_
  refine Sim.if_ne 57 dX11_readProduct_40 rfl ?_ ?_
  · refine Sim.aload_n 1 dX11_readProduct_43 rfl ?_
    refine Sim.getI fl_X11_187 dX11_readProduct_44 mI_15 ?_
    refine Sim.iconst (v := (3 : Int32)) dX11_readProduct_47 rfl ?_
    refine Sim.icmp_eq 57 dX11_readProduct_48 rfl ?_ ?_
    · refine Sim.locs [1, 0] rfl ?_
      exact f_X11_readProduct_57_s k10 H10 x1.1 x2
    · refine Sim.aload_n 1 dX11_readProduct_51 rfl ?_
      refine Sim.iconst (v := (1 : Int32)) dX11_readProduct_52 rfl ?_
      refine Sim.callV1I (d1 := 0) (s_X11_errs (1 : Int32) x2) dX11_readProduct_53 ml_X11_218 mv_X11_errs mC (Nat.le_of_ble_eq_true rfl) (Nat.le_of_ble_eq_true rfl) (Nat.le_of_ble_eq_true rfl) (fun x3 => ?_)
      exact Sim.iret dX11_readProduct_56 rfl
  · refine Sim.locs [1, 0] rfl ?_
    exact f_X11_readProduct_57_s k10 H10 x1.1 x2
def f_X11_readProduct_10  (k10 : zHp → Option (Int32 × zHp))  (h : zHp) : Option (Int32 × zHp) := (f_X11_isSign (42 : Int32) h).bind fun x1 => (if x1.1 = 0 then (f_X11_isSign (47 : Int32) x1.2).bind fun x2 => (if x2.1 = 0 then some ((0 : Int32), x2.2) else f_X11_readProduct_28 k10 x2.2) else f_X11_readProduct_28 k10 x1.2)
set_option maxHeartbeats 4000000 in
set_option maxRecDepth 100000 in
theorem f_X11_readProduct_10_s  (k10 : zHp → Option (Int32 × zHp)) (H10 : ∀ v : zHp, Sim wM mX11_readProduct 4 rI 10 [(0, .ref 0)] [] v (k10 v))  (h : zHp) : Sim wM mX11_readProduct 4 rI 10 [(0, .ref 0)] [] h (f_X11_readProduct_10 k10 h) := by
  unfold f_X11_readProduct_10
  refine Sim.aload_n 0 dX11_readProduct_10 rfl ?_
  refine Sim.bipush (v := (42 : Int32)) dX11_readProduct_11 rfl ?_
  refine Sim.callV1I (d1 := 0) (s_X11_isSign (42 : Int32) h) dX11_readProduct_13 ml_X11_231 mv_X11_isSign mC (Nat.le_of_ble_eq_true rfl) (Nat.le_of_ble_eq_true rfl) (Nat.le_of_ble_eq_true rfl) (fun x1 => ?_)
  refine Sim.if_ne 28 dX11_readProduct_16 rfl ?_ ?_
  · refine Sim.aload_n 0 dX11_readProduct_19 rfl ?_
    refine Sim.bipush (v := (47 : Int32)) dX11_readProduct_20 rfl ?_
    refine Sim.callV1I (d1 := 0) (s_X11_isSign (47 : Int32) x1.2) dX11_readProduct_22 ml_X11_231 mv_X11_isSign mC (Nat.le_of_ble_eq_true rfl) (Nat.le_of_ble_eq_true rfl) (Nat.le_of_ble_eq_true rfl) (fun x2 => ?_)
    refine Sim.if_eq 101 dX11_readProduct_25 rfl ?_ ?_
    · refine Sim.iconst (v := (0 : Int32)) dX11_readProduct_101 rfl ?_
      exact Sim.iret dX11_readProduct_102 rfl
    · exact f_X11_readProduct_28_s k10 H10 x2.2
  · exact f_X11_readProduct_28_s k10 H10 x1.2
def f_X11_readProduct_10_lp   (n : Nat) (v : zHp) : Option (Int32 × zHp) := zlp (fun k10 v => f_X11_readProduct_10 k10 v) n v
theorem f_X11_readProduct_10_ls  (n : Nat) (v : zHp) : Sim wM mX11_readProduct 4 rI 10 [(0, .ref 0)] [] v (f_X11_readProduct_10_lp n v) :=
  Sim.lp (V := zHp) (Lf := fun v => [(0, .ref 0)]) (sf := fun v => []) (hf := fun v => v) (fun k10 H10 v => f_X11_readProduct_10_s k10 H10 v) n v
def f_X11_readProduct   (h : zHp) : Option (Int32 × zHp) := (f_X11_readUnit h).bind fun x1 => (if x1.1 = (-1 : Int32) then some ((-1 : Int32), x1.2) else f_X11_readProduct_10_lp  zN x1.2)
set_option maxHeartbeats 4000000 in
set_option maxRecDepth 100000 in
theorem s_X11_readProduct   (h : zHp) : Fn wM mX11_readProduct 4 rI [.ref 0] h (f_X11_readProduct  h) := by
  refine Fn.of rfl (Nat.le_of_ble_eq_true rfl) ?_
  unfold f_X11_readProduct
  refine Sim.aload_n 0 dX11_readProduct_0 rfl ?_
  refine Sim.callV0I (d1 := 3) (s_X11_readUnit h) dX11_readProduct_1 ml_X11_227 mv_X11_readUnit mC (Nat.le_of_ble_eq_true rfl) (Nat.le_of_ble_eq_true rfl) (Nat.le_of_ble_eq_true rfl) (fun x1 => ?_)
  refine Sim.iconst (v := (-1 : Int32)) dX11_readProduct_4 rfl ?_
  refine Sim.icmp_ne 10 dX11_readProduct_5 rfl ?_ ?_
  · refine Sim.iconst (v := (-1 : Int32)) dX11_readProduct_8 rfl ?_
    exact Sim.iret dX11_readProduct_9 rfl
  · exact f_X11_readProduct_10_ls  zN x1.2
theorem mv_X11_readProduct : zMV mX11_readProduct 0 := ⟨⟨zTb_in 1658 (by decide +kernel) rfl, zTb_in 148 (by decide +kernel) rfl, ⟨by decide +kernel, by decide +kernel⟩, by decide +kernel⟩, zTb_in 1657 (by decide +kernel) rfl, zTb_in 68 (by decide +kernel) rfl⟩
-- ===== RockingPorchModel.readSum()I
abbrev mX11_readSum : zMt := (yX11_readSum, cX11_readSum, 2, some .int)
theorem ml_X11_234 : Cond.methodLink RX11 234 yX11_readProduct ∈ zTb := zTb_in 1655 (by decide +kernel) rfl
theorem dX11_readSum_0 : decode cX11_readSum 0 = .ok (.aload_n 0, 1) := by decide +kernel
theorem dX11_readSum_1 : decode cX11_readSum 1 = .ok (.invokevirtual 234, 3) := by decide +kernel
theorem dX11_readSum_4 : decode cX11_readSum 4 = .ok (.iconst (-1), 1) := by decide +kernel
theorem dX11_readSum_5 : decode cX11_readSum 5 = .ok (.if_icmp .ne 5, 3) := by decide +kernel
theorem dX11_readSum_8 : decode cX11_readSum 8 = .ok (.iconst (-1), 1) := by decide +kernel
theorem dX11_readSum_9 : decode cX11_readSum 9 = .ok (.ireturn, 1) := by decide +kernel
theorem dX11_readSum_10 : decode cX11_readSum 10 = .ok (.aload_n 0, 1) := by decide +kernel
theorem dX11_readSum_11 : decode cX11_readSum 11 = .ok (.bipush 43, 2) := by decide +kernel
theorem dX11_readSum_13 : decode cX11_readSum 13 = .ok (.invokevirtual 231, 3) := by decide +kernel
theorem dX11_readSum_16 : decode cX11_readSum 16 = .ok (.ifCond .ne 12, 3) := by decide +kernel
theorem dX11_readSum_19 : decode cX11_readSum 19 = .ok (.aload_n 0, 1) := by decide +kernel
theorem dX11_readSum_20 : decode cX11_readSum 20 = .ok (.bipush 45, 2) := by decide +kernel
theorem dX11_readSum_22 : decode cX11_readSum 22 = .ok (.invokevirtual 231, 3) := by decide +kernel
theorem dX11_readSum_25 : decode cX11_readSum 25 = .ok (.ifCond .eq 41, 3) := by decide +kernel
theorem dX11_readSum_28 : decode cX11_readSum 28 = .ok (.aload_n 0, 1) := by decide +kernel
theorem dX11_readSum_29 : decode cX11_readSum 29 = .ok (.getfield 190, 3) := by decide +kernel
theorem dX11_readSum_32 : decode cX11_readSum 32 = .ok (.bipush 43, 2) := by decide +kernel
theorem dX11_readSum_34 : decode cX11_readSum 34 = .ok (.if_icmp .ne 7, 3) := by decide +kernel
theorem dX11_readSum_37 : decode cX11_readSum 37 = .ok (.iconst 2, 1) := by decide +kernel
theorem dX11_readSum_38 : decode cX11_readSum 38 = .ok (.goto 4, 3) := by decide +kernel
theorem dX11_readSum_41 : decode cX11_readSum 41 = .ok (.iconst 3, 1) := by decide +kernel
theorem dX11_readSum_42 : decode cX11_readSum 42 = .ok (.istore_n 1, 1) := by decide +kernel
theorem dX11_readSum_43 : decode cX11_readSum 43 = .ok (.aload_n 0, 1) := by decide +kernel
theorem dX11_readSum_44 : decode cX11_readSum 44 = .ok (.invokevirtual 224, 3) := by decide +kernel
theorem dX11_readSum_47 : decode cX11_readSum 47 = .ok (.aload_n 0, 1) := by decide +kernel
theorem dX11_readSum_48 : decode cX11_readSum 48 = .ok (.invokevirtual 234, 3) := by decide +kernel
theorem dX11_readSum_51 : decode cX11_readSum 51 = .ok (.iconst (-1), 1) := by decide +kernel
theorem dX11_readSum_52 : decode cX11_readSum 52 = .ok (.if_icmp .ne 5, 3) := by decide +kernel
theorem dX11_readSum_55 : decode cX11_readSum 55 = .ok (.iconst (-1), 1) := by decide +kernel
theorem dX11_readSum_56 : decode cX11_readSum 56 = .ok (.ireturn, 1) := by decide +kernel
theorem dX11_readSum_57 : decode cX11_readSum 57 = .ok (.aload_n 0, 1) := by decide +kernel
theorem dX11_readSum_58 : decode cX11_readSum 58 = .ok (.iload_n 1, 1) := by decide +kernel
theorem dX11_readSum_59 : decode cX11_readSum 59 = .ok (.iconst 0, 1) := by decide +kernel
theorem dX11_readSum_60 : decode cX11_readSum 60 = .ok (.invokevirtual 221, 3) := by decide +kernel
theorem dX11_readSum_63 : decode cX11_readSum 63 = .ok (.goto (-53), 3) := by decide +kernel
theorem dX11_readSum_66 : decode cX11_readSum 66 = .ok (.iconst 0, 1) := by decide +kernel
theorem dX11_readSum_67 : decode cX11_readSum 67 = .ok (.ireturn, 1) := by decide +kernel
def f_X11_readSum_42  (k10 : zHp → Option (Int32 × zHp)) (s0 : Int32) (h : zHp) : Option (Int32 × zHp) := (f_X11_reads h).bind fun x1 => (f_X11_readProduct x1).bind fun x2 => (if x2.1 = (-1 : Int32) then some ((-1 : Int32), x2.2) else (f_X11_emits s0 (0 : Int32) x2.2).bind fun x3 => k10 x3)
set_option maxHeartbeats 4000000 in
set_option maxRecDepth 100000 in
theorem f_X11_readSum_42_s  (k10 : zHp → Option (Int32 × zHp)) (H10 : ∀ v : zHp, Sim wM mX11_readSum 5 rI 10 [(0, .ref 0)] [] v (k10 v)) (s0 : Int32) (h : zHp) : Sim wM mX11_readSum 5 rI 42 [(0, .ref 0)] [.int s0] h (f_X11_readSum_42 k10 s0 h) := by
  unfold f_X11_readSum_42
  refine Sim.istore_n (L' := [(1, .int s0), (0, .ref 0)]) dX11_readSum_42 (Nat.le_of_ble_eq_true rfl) rfl ?_
  refine Sim.aload_n 1 dX11_readSum_43 rfl ?_
  refine Sim.callV0U (d1 := 2) (s_X11_reads h) dX11_readSum_44 ml_X11_224 mv_X11_reads mC (Nat.le_of_ble_eq_true rfl) (Nat.le_of_ble_eq_true rfl) (Nat.le_of_ble_eq_true rfl) (fun x1 => ?_)
  refine Sim.aload_n 1 dX11_readSum_47 rfl ?_
  refine Sim.callV0I (d1 := 4) (s_X11_readProduct x1) dX11_readSum_48 ml_X11_234 mv_X11_readProduct mC (Nat.le_of_ble_eq_true rfl) (Nat.le_of_ble_eq_true rfl) (Nat.le_of_ble_eq_true rfl) (fun x2 => ?_)
  refine Sim.iconst (v := (-1 : Int32)) dX11_readSum_51 rfl ?_
  refine Sim.icmp_ne 57 dX11_readSum_52 rfl ?_ ?_
  · refine Sim.iconst (v := (-1 : Int32)) dX11_readSum_55 rfl ?_
    exact Sim.iret dX11_readSum_56 rfl
  · refine Sim.aload_n 1 dX11_readSum_57 rfl ?_
    refine Sim.iload_n 0 dX11_readSum_58 rfl ?_
    refine Sim.iconst (v := (0 : Int32)) dX11_readSum_59 rfl ?_
    refine Sim.callV2U (d1 := 0) (s_X11_emits s0 (0 : Int32) x2.2) dX11_readSum_60 ml_X11_221 mv_X11_emits mC (Nat.le_of_ble_eq_true rfl) (Nat.le_of_ble_eq_true rfl) (Nat.le_of_ble_eq_true rfl) (fun x3 => ?_)
    refine Sim.goto 10 dX11_readSum_63 rfl ?_
    refine Sim.locs [1] rfl ?_
    exact H10 x3
def f_X11_readSum_28  (k10 : zHp → Option (Int32 × zHp))  (h : zHp) : Option (Int32 × zHp) := (if (h 0 16) = (43 : Int32) then f_X11_readSum_42 k10 (2 : Int32) h else f_X11_readSum_42 k10 (3 : Int32) h)
set_option maxHeartbeats 4000000 in
set_option maxRecDepth 100000 in
theorem f_X11_readSum_28_s  (k10 : zHp → Option (Int32 × zHp)) (H10 : ∀ v : zHp, Sim wM mX11_readSum 5 rI 10 [(0, .ref 0)] [] v (k10 v))  (h : zHp) : Sim wM mX11_readSum 5 rI 28 [(0, .ref 0)] [] h (f_X11_readSum_28 k10 h) := by
  unfold f_X11_readSum_28
  refine Sim.aload_n 0 dX11_readSum_28 rfl ?_
  refine Sim.getI fl_X11_190 dX11_readSum_29 mI_16 ?_
  refine Sim.bipush (v := (43 : Int32)) dX11_readSum_32 rfl ?_
  refine Sim.icmp_ne 41 dX11_readSum_34 rfl ?_ ?_
  · refine Sim.iconst (v := (2 : Int32)) dX11_readSum_37 rfl ?_
    refine Sim.goto 42 dX11_readSum_38 rfl ?_
    exact f_X11_readSum_42_s k10 H10 (2 : Int32) h
  · refine Sim.iconst (v := (3 : Int32)) dX11_readSum_41 rfl ?_
    exact f_X11_readSum_42_s k10 H10 (3 : Int32) h
def f_X11_readSum_10  (k10 : zHp → Option (Int32 × zHp))  (h : zHp) : Option (Int32 × zHp) := (f_X11_isSign (43 : Int32) h).bind fun x1 => (if x1.1 = 0 then (f_X11_isSign (45 : Int32) x1.2).bind fun x2 => (if x2.1 = 0 then some ((0 : Int32), x2.2) else f_X11_readSum_28 k10 x2.2) else f_X11_readSum_28 k10 x1.2)
set_option maxHeartbeats 4000000 in
set_option maxRecDepth 100000 in
theorem f_X11_readSum_10_s  (k10 : zHp → Option (Int32 × zHp)) (H10 : ∀ v : zHp, Sim wM mX11_readSum 5 rI 10 [(0, .ref 0)] [] v (k10 v))  (h : zHp) : Sim wM mX11_readSum 5 rI 10 [(0, .ref 0)] [] h (f_X11_readSum_10 k10 h) := by
  unfold f_X11_readSum_10
  refine Sim.aload_n 0 dX11_readSum_10 rfl ?_
  refine Sim.bipush (v := (43 : Int32)) dX11_readSum_11 rfl ?_
  refine Sim.callV1I (d1 := 0) (s_X11_isSign (43 : Int32) h) dX11_readSum_13 ml_X11_231 mv_X11_isSign mC (Nat.le_of_ble_eq_true rfl) (Nat.le_of_ble_eq_true rfl) (Nat.le_of_ble_eq_true rfl) (fun x1 => ?_)
  refine Sim.if_ne 28 dX11_readSum_16 rfl ?_ ?_
  · refine Sim.aload_n 0 dX11_readSum_19 rfl ?_
    refine Sim.bipush (v := (45 : Int32)) dX11_readSum_20 rfl ?_
    refine Sim.callV1I (d1 := 0) (s_X11_isSign (45 : Int32) x1.2) dX11_readSum_22 ml_X11_231 mv_X11_isSign mC (Nat.le_of_ble_eq_true rfl) (Nat.le_of_ble_eq_true rfl) (Nat.le_of_ble_eq_true rfl) (fun x2 => ?_)
    refine Sim.if_eq 66 dX11_readSum_25 rfl ?_ ?_
    · refine Sim.iconst (v := (0 : Int32)) dX11_readSum_66 rfl ?_
      exact Sim.iret dX11_readSum_67 rfl
    · exact f_X11_readSum_28_s k10 H10 x2.2
  · exact f_X11_readSum_28_s k10 H10 x1.2
def f_X11_readSum_10_lp   (n : Nat) (v : zHp) : Option (Int32 × zHp) := zlp (fun k10 v => f_X11_readSum_10 k10 v) n v
theorem f_X11_readSum_10_ls  (n : Nat) (v : zHp) : Sim wM mX11_readSum 5 rI 10 [(0, .ref 0)] [] v (f_X11_readSum_10_lp n v) :=
  Sim.lp (V := zHp) (Lf := fun v => [(0, .ref 0)]) (sf := fun v => []) (hf := fun v => v) (fun k10 H10 v => f_X11_readSum_10_s k10 H10 v) n v
def f_X11_readSum   (h : zHp) : Option (Int32 × zHp) := (f_X11_readProduct h).bind fun x1 => (if x1.1 = (-1 : Int32) then some ((-1 : Int32), x1.2) else f_X11_readSum_10_lp  zN x1.2)
set_option maxHeartbeats 4000000 in
set_option maxRecDepth 100000 in
theorem s_X11_readSum   (h : zHp) : Fn wM mX11_readSum 5 rI [.ref 0] h (f_X11_readSum  h) := by
  refine Fn.of rfl (Nat.le_of_ble_eq_true rfl) ?_
  unfold f_X11_readSum
  refine Sim.aload_n 0 dX11_readSum_0 rfl ?_
  refine Sim.callV0I (d1 := 4) (s_X11_readProduct h) dX11_readSum_1 ml_X11_234 mv_X11_readProduct mC (Nat.le_of_ble_eq_true rfl) (Nat.le_of_ble_eq_true rfl) (Nat.le_of_ble_eq_true rfl) (fun x1 => ?_)
  refine Sim.iconst (v := (-1 : Int32)) dX11_readSum_4 rfl ?_
  refine Sim.icmp_ne 10 dX11_readSum_5 rfl ?_ ?_
  · refine Sim.iconst (v := (-1 : Int32)) dX11_readSum_8 rfl ?_
    exact Sim.iret dX11_readSum_9 rfl
  · exact f_X11_readSum_10_ls  zN x1.2
theorem mv_X11_readSum : zMV mX11_readSum 0 := ⟨⟨zTb_in 1654 (by decide +kernel) rfl, zTb_in 148 (by decide +kernel) rfl, ⟨by decide +kernel, by decide +kernel⟩, by decide +kernel⟩, zTb_in 1653 (by decide +kernel) rfl, zTb_in 67 (by decide +kernel) rfl⟩
-- ===== RockingPorchModel.readCompared()I
abbrev mX11_readCompared : zMt := (yX11_readCompared, cX11_readCompared, 2, some .int)
theorem ml_X11_237 : Cond.methodLink RX11 237 yX11_readSum ∈ zTb := zTb_in 1651 (by decide +kernel) rfl
theorem dX11_readCompared_0 : decode cX11_readCompared 0 = .ok (.aload_n 0, 1) := by decide +kernel
theorem dX11_readCompared_1 : decode cX11_readCompared 1 = .ok (.invokevirtual 237, 3) := by decide +kernel
theorem dX11_readCompared_4 : decode cX11_readCompared 4 = .ok (.iconst (-1), 1) := by decide +kernel
theorem dX11_readCompared_5 : decode cX11_readCompared 5 = .ok (.if_icmp .ne 5, 3) := by decide +kernel
theorem dX11_readCompared_8 : decode cX11_readCompared 8 = .ok (.iconst (-1), 1) := by decide +kernel
theorem dX11_readCompared_9 : decode cX11_readCompared 9 = .ok (.ireturn, 1) := by decide +kernel
theorem dX11_readCompared_10 : decode cX11_readCompared 10 = .ok (.aload_n 0, 1) := by decide +kernel
theorem dX11_readCompared_11 : decode cX11_readCompared 11 = .ok (.bipush 60, 2) := by decide +kernel
theorem dX11_readCompared_13 : decode cX11_readCompared 13 = .ok (.invokevirtual 231, 3) := by decide +kernel
theorem dX11_readCompared_16 : decode cX11_readCompared 16 = .ok (.ifCond .ne 27, 3) := by decide +kernel
theorem dX11_readCompared_19 : decode cX11_readCompared 19 = .ok (.aload_n 0, 1) := by decide +kernel
theorem dX11_readCompared_20 : decode cX11_readCompared 20 = .ok (.bipush 61, 2) := by decide +kernel
theorem dX11_readCompared_22 : decode cX11_readCompared 22 = .ok (.invokevirtual 231, 3) := by decide +kernel
theorem dX11_readCompared_25 : decode cX11_readCompared 25 = .ok (.ifCond .ne 18, 3) := by decide +kernel
theorem dX11_readCompared_28 : decode cX11_readCompared 28 = .ok (.aload_n 0, 1) := by decide +kernel
theorem dX11_readCompared_29 : decode cX11_readCompared 29 = .ok (.bipush 62, 2) := by decide +kernel
theorem dX11_readCompared_31 : decode cX11_readCompared 31 = .ok (.invokevirtual 231, 3) := by decide +kernel
theorem dX11_readCompared_34 : decode cX11_readCompared 34 = .ok (.ifCond .ne 9, 3) := by decide +kernel
theorem dX11_readCompared_37 : decode cX11_readCompared 37 = .ok (.aload_n 0, 1) := by decide +kernel
theorem dX11_readCompared_38 : decode cX11_readCompared 38 = .ok (.iconst 1, 1) := by decide +kernel
theorem dX11_readCompared_39 : decode cX11_readCompared 39 = .ok (.invokevirtual 218, 3) := by decide +kernel
theorem dX11_readCompared_42 : decode cX11_readCompared 42 = .ok (.ireturn, 1) := by decide +kernel
theorem dX11_readCompared_43 : decode cX11_readCompared 43 = .ok (.aload_n 0, 1) := by decide +kernel
theorem dX11_readCompared_44 : decode cX11_readCompared 44 = .ok (.getfield 190, 3) := by decide +kernel
theorem dX11_readCompared_47 : decode cX11_readCompared 47 = .ok (.bipush 60, 2) := by decide +kernel
theorem dX11_readCompared_49 : decode cX11_readCompared 49 = .ok (.if_icmp .ne 8, 3) := by decide +kernel
theorem dX11_readCompared_52 : decode cX11_readCompared 52 = .ok (.bipush 6, 2) := by decide +kernel
theorem dX11_readCompared_54 : decode cX11_readCompared 54 = .ok (.goto 19, 3) := by decide +kernel
theorem dX11_readCompared_57 : decode cX11_readCompared 57 = .ok (.aload_n 0, 1) := by decide +kernel
theorem dX11_readCompared_58 : decode cX11_readCompared 58 = .ok (.getfield 190, 3) := by decide +kernel
theorem dX11_readCompared_61 : decode cX11_readCompared 61 = .ok (.bipush 61, 2) := by decide +kernel
theorem dX11_readCompared_63 : decode cX11_readCompared 63 = .ok (.if_icmp .ne 8, 3) := by decide +kernel
theorem dX11_readCompared_66 : decode cX11_readCompared 66 = .ok (.bipush 7, 2) := by decide +kernel
theorem dX11_readCompared_68 : decode cX11_readCompared 68 = .ok (.goto 5, 3) := by decide +kernel
theorem dX11_readCompared_71 : decode cX11_readCompared 71 = .ok (.bipush 8, 2) := by decide +kernel
theorem dX11_readCompared_73 : decode cX11_readCompared 73 = .ok (.istore_n 1, 1) := by decide +kernel
theorem dX11_readCompared_74 : decode cX11_readCompared 74 = .ok (.aload_n 0, 1) := by decide +kernel
theorem dX11_readCompared_75 : decode cX11_readCompared 75 = .ok (.invokevirtual 224, 3) := by decide +kernel
theorem dX11_readCompared_78 : decode cX11_readCompared 78 = .ok (.aload_n 0, 1) := by decide +kernel
theorem dX11_readCompared_79 : decode cX11_readCompared 79 = .ok (.invokevirtual 237, 3) := by decide +kernel
theorem dX11_readCompared_82 : decode cX11_readCompared 82 = .ok (.iconst (-1), 1) := by decide +kernel
theorem dX11_readCompared_83 : decode cX11_readCompared 83 = .ok (.if_icmp .ne 5, 3) := by decide +kernel
theorem dX11_readCompared_86 : decode cX11_readCompared 86 = .ok (.iconst (-1), 1) := by decide +kernel
theorem dX11_readCompared_87 : decode cX11_readCompared 87 = .ok (.ireturn, 1) := by decide +kernel
theorem dX11_readCompared_88 : decode cX11_readCompared 88 = .ok (.aload_n 0, 1) := by decide +kernel
theorem dX11_readCompared_89 : decode cX11_readCompared 89 = .ok (.iload_n 1, 1) := by decide +kernel
theorem dX11_readCompared_90 : decode cX11_readCompared 90 = .ok (.iconst 0, 1) := by decide +kernel
theorem dX11_readCompared_91 : decode cX11_readCompared 91 = .ok (.invokevirtual 221, 3) := by decide +kernel
theorem dX11_readCompared_94 : decode cX11_readCompared 94 = .ok (.iconst 0, 1) := by decide +kernel
theorem dX11_readCompared_95 : decode cX11_readCompared 95 = .ok (.ireturn, 1) := by decide +kernel
def f_X11_readCompared_73   (s0 : Int32) (h : zHp) : Option (Int32 × zHp) := (f_X11_reads h).bind fun x1 => (f_X11_readSum x1).bind fun x2 => (if x2.1 = (-1 : Int32) then some ((-1 : Int32), x2.2) else (f_X11_emits s0 (0 : Int32) x2.2).bind fun x3 => some ((0 : Int32), x3))
set_option maxHeartbeats 4000000 in
set_option maxRecDepth 100000 in
theorem f_X11_readCompared_73_s  (s0 : Int32) (h : zHp) : Sim wM mX11_readCompared 6 rI 73 [(0, .ref 0)] [.int s0] h (f_X11_readCompared_73 s0 h) := by
  unfold f_X11_readCompared_73
  refine Sim.istore_n (L' := [(1, .int s0), (0, .ref 0)]) dX11_readCompared_73 (Nat.le_of_ble_eq_true rfl) rfl ?_
  refine Sim.aload_n 1 dX11_readCompared_74 rfl ?_
  refine Sim.callV0U (d1 := 2) (s_X11_reads h) dX11_readCompared_75 ml_X11_224 mv_X11_reads mC (Nat.le_of_ble_eq_true rfl) (Nat.le_of_ble_eq_true rfl) (Nat.le_of_ble_eq_true rfl) (fun x1 => ?_)
  refine Sim.aload_n 1 dX11_readCompared_78 rfl ?_
  refine Sim.callV0I (d1 := 5) (s_X11_readSum x1) dX11_readCompared_79 ml_X11_237 mv_X11_readSum mC (Nat.le_of_ble_eq_true rfl) (Nat.le_of_ble_eq_true rfl) (Nat.le_of_ble_eq_true rfl) (fun x2 => ?_)
  refine Sim.iconst (v := (-1 : Int32)) dX11_readCompared_82 rfl ?_
  refine Sim.icmp_ne 88 dX11_readCompared_83 rfl ?_ ?_
  · refine Sim.iconst (v := (-1 : Int32)) dX11_readCompared_86 rfl ?_
    exact Sim.iret dX11_readCompared_87 rfl
  · refine Sim.aload_n 1 dX11_readCompared_88 rfl ?_
    refine Sim.iload_n 0 dX11_readCompared_89 rfl ?_
    refine Sim.iconst (v := (0 : Int32)) dX11_readCompared_90 rfl ?_
    refine Sim.callV2U (d1 := 0) (s_X11_emits s0 (0 : Int32) x2.2) dX11_readCompared_91 ml_X11_221 mv_X11_emits mC (Nat.le_of_ble_eq_true rfl) (Nat.le_of_ble_eq_true rfl) (Nat.le_of_ble_eq_true rfl) (fun x3 => ?_)
    refine Sim.iconst (v := (0 : Int32)) dX11_readCompared_94 rfl ?_
    exact Sim.iret dX11_readCompared_95 rfl
def f_X11_readCompared_43    (h : zHp) : Option (Int32 × zHp) := (if (h 0 16) = (60 : Int32) then f_X11_readCompared_73 (6 : Int32) h else (if (h 0 16) = (61 : Int32) then f_X11_readCompared_73 (7 : Int32) h else f_X11_readCompared_73 (8 : Int32) h))
set_option maxHeartbeats 4000000 in
set_option maxRecDepth 100000 in
theorem f_X11_readCompared_43_s   (h : zHp) : Sim wM mX11_readCompared 6 rI 43 [(0, .ref 0)] [] h (f_X11_readCompared_43 h) := by
  unfold f_X11_readCompared_43
  refine Sim.aload_n 0 dX11_readCompared_43 rfl ?_
  refine Sim.getI fl_X11_190 dX11_readCompared_44 mI_16 ?_
  refine Sim.bipush (v := (60 : Int32)) dX11_readCompared_47 rfl ?_
  refine Sim.icmp_ne 57 dX11_readCompared_49 rfl ?_ ?_
  · refine Sim.bipush (v := (6 : Int32)) dX11_readCompared_52 rfl ?_
    refine Sim.goto 73 dX11_readCompared_54 rfl ?_
    exact f_X11_readCompared_73_s (6 : Int32) h
  · refine Sim.aload_n 0 dX11_readCompared_57 rfl ?_
    refine Sim.getI fl_X11_190 dX11_readCompared_58 mI_16 ?_
    refine Sim.bipush (v := (61 : Int32)) dX11_readCompared_61 rfl ?_
    refine Sim.icmp_ne 71 dX11_readCompared_63 rfl ?_ ?_
    · refine Sim.bipush (v := (7 : Int32)) dX11_readCompared_66 rfl ?_
      refine Sim.goto 73 dX11_readCompared_68 rfl ?_
      exact f_X11_readCompared_73_s (7 : Int32) h
    · refine Sim.bipush (v := (8 : Int32)) dX11_readCompared_71 rfl ?_
      exact f_X11_readCompared_73_s (8 : Int32) h
def f_X11_readCompared   (h : zHp) : Option (Int32 × zHp) := (f_X11_readSum h).bind fun x1 => (if x1.1 = (-1 : Int32) then some ((-1 : Int32), x1.2) else (f_X11_isSign (60 : Int32) x1.2).bind fun x2 => (if x2.1 = 0 then (f_X11_isSign (61 : Int32) x2.2).bind fun x3 => (if x3.1 = 0 then (f_X11_isSign (62 : Int32) x3.2).bind fun x4 => (if x4.1 = 0 then (f_X11_errs (1 : Int32) x4.2).bind fun x5 => some (x5.1, x5.2) else f_X11_readCompared_43 x4.2) else f_X11_readCompared_43 x3.2) else f_X11_readCompared_43 x2.2))
set_option maxHeartbeats 4000000 in
set_option maxRecDepth 100000 in
theorem s_X11_readCompared   (h : zHp) : Fn wM mX11_readCompared 6 rI [.ref 0] h (f_X11_readCompared  h) := by
  refine Fn.of rfl (Nat.le_of_ble_eq_true rfl) ?_
  unfold f_X11_readCompared
  refine Sim.aload_n 0 dX11_readCompared_0 rfl ?_
  refine Sim.callV0I (d1 := 5) (s_X11_readSum h) dX11_readCompared_1 ml_X11_237 mv_X11_readSum mC (Nat.le_of_ble_eq_true rfl) (Nat.le_of_ble_eq_true rfl) (Nat.le_of_ble_eq_true rfl) (fun x1 => ?_)
  refine Sim.iconst (v := (-1 : Int32)) dX11_readCompared_4 rfl ?_
  refine Sim.icmp_ne 10 dX11_readCompared_5 rfl ?_ ?_
  · refine Sim.iconst (v := (-1 : Int32)) dX11_readCompared_8 rfl ?_
    exact Sim.iret dX11_readCompared_9 rfl
  · refine Sim.aload_n 0 dX11_readCompared_10 rfl ?_
    refine Sim.bipush (v := (60 : Int32)) dX11_readCompared_11 rfl ?_
    refine Sim.callV1I (d1 := 0) (s_X11_isSign (60 : Int32) x1.2) dX11_readCompared_13 ml_X11_231 mv_X11_isSign mC (Nat.le_of_ble_eq_true rfl) (Nat.le_of_ble_eq_true rfl) (Nat.le_of_ble_eq_true rfl) (fun x2 => ?_)
    refine Sim.if_ne 43 dX11_readCompared_16 rfl ?_ ?_
    · refine Sim.aload_n 0 dX11_readCompared_19 rfl ?_
      refine Sim.bipush (v := (61 : Int32)) dX11_readCompared_20 rfl ?_
      refine Sim.callV1I (d1 := 0) (s_X11_isSign (61 : Int32) x2.2) dX11_readCompared_22 ml_X11_231 mv_X11_isSign mC (Nat.le_of_ble_eq_true rfl) (Nat.le_of_ble_eq_true rfl) (Nat.le_of_ble_eq_true rfl) (fun x3 => ?_)
      refine Sim.if_ne 43 dX11_readCompared_25 rfl ?_ ?_
      · refine Sim.aload_n 0 dX11_readCompared_28 rfl ?_
        refine Sim.bipush (v := (62 : Int32)) dX11_readCompared_29 rfl ?_
        refine Sim.callV1I (d1 := 0) (s_X11_isSign (62 : Int32) x3.2) dX11_readCompared_31 ml_X11_231 mv_X11_isSign mC (Nat.le_of_ble_eq_true rfl) (Nat.le_of_ble_eq_true rfl) (Nat.le_of_ble_eq_true rfl) (fun x4 => ?_)
        refine Sim.if_ne 43 dX11_readCompared_34 rfl ?_ ?_
        · refine Sim.aload_n 0 dX11_readCompared_37 rfl ?_
          refine Sim.iconst (v := (1 : Int32)) dX11_readCompared_38 rfl ?_
          refine Sim.callV1I (d1 := 0) (s_X11_errs (1 : Int32) x4.2) dX11_readCompared_39 ml_X11_218 mv_X11_errs mC (Nat.le_of_ble_eq_true rfl) (Nat.le_of_ble_eq_true rfl) (Nat.le_of_ble_eq_true rfl) (fun x5 => ?_)
          exact Sim.iret dX11_readCompared_42 rfl
        · exact f_X11_readCompared_43_s x4.2
      · exact f_X11_readCompared_43_s x3.2
    · exact f_X11_readCompared_43_s x2.2
theorem mv_X11_readCompared : zMV mX11_readCompared 0 := ⟨⟨zTb_in 1682 (by decide +kernel) rfl, zTb_in 148 (by decide +kernel) rfl, ⟨by decide +kernel, by decide +kernel⟩, by decide +kernel⟩, zTb_in 1681 (by decide +kernel) rfl, zTb_in 74 (by decide +kernel) rfl⟩
-- ===== RockingPorchModel.waits(I)V
abbrev mX11_waits : zMt := (yX11_waits, cX11_waits, 2, none)
theorem fl_X11_240 : zF RX11 240 11 29 := ⟨RX11, TX11, 69, rfl, Nat.le_of_ble_eq_true rfl, zTb_in 1328 (by decide +kernel) rfl, in_X11⟩
theorem fl_X11_55 : zF RX11 55 11 28 := ⟨RX11, TX11, 69, rfl, Nat.le_of_ble_eq_true rfl, zTb_in 1327 (by decide +kernel) rfl, in_X11⟩
theorem fp_X11_240 : zFp RX11 240 11 29 .int := ⟨RX11, TX11, 69, tyX11, rfl, Nat.le_of_ble_eq_true rfl, zTb_in 1328 (by decide +kernel) rfl, in_X11, tyX11_ok, nmX11, rfl, rfl⟩
theorem dX11_waits_0 : decode cX11_waits 0 = .ok (.aload_n 0, 1) := by decide +kernel
theorem dX11_waits_1 : decode cX11_waits 1 = .ok (.getfield 55, 3) := by decide +kernel
theorem dX11_waits_4 : decode cX11_waits 4 = .ok (.aload_n 0, 1) := by decide +kernel
theorem dX11_waits_5 : decode cX11_waits 5 = .ok (.getfield 240, 3) := by decide +kernel
theorem dX11_waits_8 : decode cX11_waits 8 = .ok (.iload_n 1, 1) := by decide +kernel
theorem dX11_waits_9 : decode cX11_waits 9 = .ok (.iastore, 1) := by decide +kernel
theorem dX11_waits_10 : decode cX11_waits 10 = .ok (.aload_n 0, 1) := by decide +kernel
theorem dX11_waits_11 : decode cX11_waits 11 = .ok (.aload_n 0, 1) := by decide +kernel
theorem dX11_waits_12 : decode cX11_waits 12 = .ok (.getfield 240, 3) := by decide +kernel
theorem dX11_waits_15 : decode cX11_waits 15 = .ok (.iconst 1, 1) := by decide +kernel
theorem dX11_waits_16 : decode cX11_waits 16 = .ok (.iadd, 1) := by decide +kernel
theorem dX11_waits_17 : decode cX11_waits 17 = .ok (.putfield 240, 3) := by decide +kernel
theorem dX11_waits_20 : decode cX11_waits 20 = .ok (.return_, 1) := by decide +kernel
def f_X11_waits  (a1 : Int32) (h : zHp) : Option (zHp) := zix (h 0 29) 40 (zlt (zst h 16 (h 0 29).toNatClampNeg a1) fun h1 => zlt (zst h1 0 29 ((h1 0 29) + (1 : Int32))) fun h2 => some h2)
set_option maxHeartbeats 4000000 in
set_option maxRecDepth 100000 in
theorem s_X11_waits  (a1 : Int32) (h : zHp) : Fn wM mX11_waits 0 rV [.ref 0, .int a1] h (f_X11_waits a1 h) := by
  refine Fn.of rfl (Nat.le_of_ble_eq_true rfl) ?_
  unfold f_X11_waits
  refine Sim.aload_n 0 dX11_waits_0 rfl ?_
  refine Sim.getR (j := 16) fl_X11_55 dX11_waits_1 mR_28 ?_
  refine Sim.aload_n 0 dX11_waits_4 rfl ?_
  refine Sim.getI fl_X11_240 dX11_waits_5 mI_29 ?_
  refine Sim.iload_n 1 dX11_waits_8 rfl ?_
  refine Sim.iast (n := 40) dX11_waits_9 mA_16 ?_
  refine Sim.lth (fun h1 => ?_)
  refine Sim.aload_n 0 dX11_waits_10 rfl ?_
  refine Sim.aload_n 0 dX11_waits_11 rfl ?_
  refine Sim.getI fl_X11_240 dX11_waits_12 mI_29 ?_
  refine Sim.iconst (v := (1 : Int32)) dX11_waits_15 rfl ?_
  refine Sim.iadd dX11_waits_16 ?_
  refine Sim.put fp_X11_240 dX11_waits_17 mI_29 rfl rfl ?_
  refine Sim.lth (fun h2 => ?_)
  exact Sim.vret dX11_waits_20 rfl
theorem mv_X11_waits : zMV mX11_waits 1 := ⟨⟨zTb_in 1678 (by decide +kernel) rfl, zTb_in 148 (by decide +kernel) rfl, ⟨by decide +kernel, by decide +kernel⟩, by decide +kernel⟩, zTb_in 1677 (by decide +kernel) rfl, zTb_in 73 (by decide +kernel) rfl⟩
-- ===== RockingPorchModel.settles(I)V
abbrev mX11_settles : zMt := (yX11_settles, cX11_settles, 2, none)
theorem fl_X11_243 : zF RX11 243 11 27 := ⟨RX11, TX11, 69, rfl, Nat.le_of_ble_eq_true rfl, zTb_in 1326 (by decide +kernel) rfl, in_X11⟩
theorem fp_X11_243 : zFp RX11 243 11 27 .int := ⟨RX11, TX11, 69, tyX11, rfl, Nat.le_of_ble_eq_true rfl, zTb_in 1326 (by decide +kernel) rfl, in_X11, tyX11_ok, nmX11, rfl, rfl⟩
theorem dX11_settles_0 : decode cX11_settles 0 = .ok (.aload_n 0, 1) := by decide +kernel
theorem dX11_settles_1 : decode cX11_settles 1 = .ok (.getfield 240, 3) := by decide +kernel
theorem dX11_settles_4 : decode cX11_settles 4 = .ok (.ifCond .le 53, 3) := by decide +kernel
theorem dX11_settles_7 : decode cX11_settles 7 = .ok (.aload_n 0, 1) := by decide +kernel
theorem dX11_settles_8 : decode cX11_settles 8 = .ok (.getfield 55, 3) := by decide +kernel
theorem dX11_settles_11 : decode cX11_settles 11 = .ok (.aload_n 0, 1) := by decide +kernel
theorem dX11_settles_12 : decode cX11_settles 12 = .ok (.getfield 240, 3) := by decide +kernel
theorem dX11_settles_15 : decode cX11_settles 15 = .ok (.iconst 1, 1) := by decide +kernel
theorem dX11_settles_16 : decode cX11_settles 16 = .ok (.isub, 1) := by decide +kernel
theorem dX11_settles_17 : decode cX11_settles 17 = .ok (.iaload, 1) := by decide +kernel
theorem dX11_settles_18 : decode cX11_settles 18 = .ok (.iload_n 1, 1) := by decide +kernel
theorem dX11_settles_19 : decode cX11_settles 19 = .ok (.if_icmp .ne 38, 3) := by decide +kernel
theorem dX11_settles_22 : decode cX11_settles 22 = .ok (.aload_n 0, 1) := by decide +kernel
theorem dX11_settles_23 : decode cX11_settles 23 = .ok (.aload_n 0, 1) := by decide +kernel
theorem dX11_settles_24 : decode cX11_settles 24 = .ok (.getfield 240, 3) := by decide +kernel
theorem dX11_settles_27 : decode cX11_settles 27 = .ok (.iconst 1, 1) := by decide +kernel
theorem dX11_settles_28 : decode cX11_settles 28 = .ok (.isub, 1) := by decide +kernel
theorem dX11_settles_29 : decode cX11_settles 29 = .ok (.putfield 240, 3) := by decide +kernel
theorem dX11_settles_32 : decode cX11_settles 32 = .ok (.aload_n 0, 1) := by decide +kernel
theorem dX11_settles_33 : decode cX11_settles 33 = .ok (.iload_n 1, 1) := by decide +kernel
theorem dX11_settles_34 : decode cX11_settles 34 = .ok (.iconst 0, 1) := by decide +kernel
theorem dX11_settles_35 : decode cX11_settles 35 = .ok (.invokevirtual 221, 3) := by decide +kernel
theorem dX11_settles_38 : decode cX11_settles 38 = .ok (.iload_n 1, 1) := by decide +kernel
theorem dX11_settles_39 : decode cX11_settles 39 = .ok (.bipush 9, 2) := by decide +kernel
theorem dX11_settles_41 : decode cX11_settles 41 = .ok (.if_icmp .ne (-41), 3) := by decide +kernel
theorem dX11_settles_44 : decode cX11_settles 44 = .ok (.aload_n 0, 1) := by decide +kernel
theorem dX11_settles_45 : decode cX11_settles 45 = .ok (.aload_n 0, 1) := by decide +kernel
theorem dX11_settles_46 : decode cX11_settles 46 = .ok (.getfield 243, 3) := by decide +kernel
theorem dX11_settles_49 : decode cX11_settles 49 = .ok (.iconst 1, 1) := by decide +kernel
theorem dX11_settles_50 : decode cX11_settles 50 = .ok (.isub, 1) := by decide +kernel
theorem dX11_settles_51 : decode cX11_settles 51 = .ok (.putfield 243, 3) := by decide +kernel
theorem dX11_settles_54 : decode cX11_settles 54 = .ok (.goto (-54), 3) := by decide +kernel
theorem dX11_settles_57 : decode cX11_settles 57 = .ok (.return_, 1) := by decide +kernel
def f_X11_settles_0  (k0 : Int32 × zHp → Option (zHp)) (v1 : Int32) (h : zHp) : Option (zHp) := (if 0 < (h 0 29) then zix ((h 0 29) - (1 : Int32)) 40 ((if (h 16 ((h 0 29) - (1 : Int32)).toNatClampNeg) = v1 then zlt (zst h 0 29 ((h 0 29) - (1 : Int32))) fun h1 => (f_X11_emits v1 (0 : Int32) h1).bind fun x2 => (if v1 = (9 : Int32) then zlt (zst x2 0 27 ((x2 0 27) - (1 : Int32))) fun h3 => k0 (v1, h3) else k0 (v1, x2)) else some h)) else some h)
set_option maxHeartbeats 4000000 in
set_option maxRecDepth 100000 in
theorem f_X11_settles_0_s  (k0 : Int32 × zHp → Option (zHp)) (H0 : ∀ v : Int32 × zHp, Sim wM mX11_settles 1 rV 0 [(0, .ref 0), (1, .int v.1)] [] v.2 (k0 v)) (v1 : Int32) (h : zHp) : Sim wM mX11_settles 1 rV 0 [(0, .ref 0), (1, .int v1)] [] h (f_X11_settles_0 k0 v1 h) := by
  unfold f_X11_settles_0
  refine Sim.aload_n 0 dX11_settles_0 rfl ?_
  refine Sim.getI fl_X11_240 dX11_settles_1 mI_29 ?_
  refine Sim.if_le 57 dX11_settles_4 rfl ?_ ?_
  · refine Sim.aload_n 0 dX11_settles_7 rfl ?_
    refine Sim.getR (j := 16) fl_X11_55 dX11_settles_8 mR_28 ?_
    refine Sim.aload_n 0 dX11_settles_11 rfl ?_
    refine Sim.getI fl_X11_240 dX11_settles_12 mI_29 ?_
    refine Sim.iconst (v := (1 : Int32)) dX11_settles_15 rfl ?_
    refine Sim.isub dX11_settles_16 ?_
    refine Sim.iald (n := 40) dX11_settles_17 mA_16 ?_
    refine Sim.iload_n 1 dX11_settles_18 rfl ?_
    refine Sim.icmp_ne 57 dX11_settles_19 rfl ?_ ?_
    · refine Sim.aload_n 0 dX11_settles_22 rfl ?_
      refine Sim.aload_n 0 dX11_settles_23 rfl ?_
      refine Sim.getI fl_X11_240 dX11_settles_24 mI_29 ?_
      refine Sim.iconst (v := (1 : Int32)) dX11_settles_27 rfl ?_
      refine Sim.isub dX11_settles_28 ?_
      refine Sim.put fp_X11_240 dX11_settles_29 mI_29 rfl rfl ?_
      refine Sim.lth (fun h1 => ?_)
      refine Sim.aload_n 0 dX11_settles_32 rfl ?_
      refine Sim.iload_n 1 dX11_settles_33 rfl ?_
      refine Sim.iconst (v := (0 : Int32)) dX11_settles_34 rfl ?_
      refine Sim.callV2U (d1 := 0) (s_X11_emits v1 (0 : Int32) h1) dX11_settles_35 ml_X11_221 mv_X11_emits mC (Nat.le_of_ble_eq_true rfl) (Nat.le_of_ble_eq_true rfl) (Nat.le_of_ble_eq_true rfl) (fun x2 => ?_)
      refine Sim.iload_n 1 dX11_settles_38 rfl ?_
      refine Sim.bipush (v := (9 : Int32)) dX11_settles_39 rfl ?_
      refine Sim.icmp_ne 0 dX11_settles_41 rfl ?_ ?_
      · refine Sim.aload_n 0 dX11_settles_44 rfl ?_
        refine Sim.aload_n 0 dX11_settles_45 rfl ?_
        refine Sim.getI fl_X11_243 dX11_settles_46 mI_27 ?_
        refine Sim.iconst (v := (1 : Int32)) dX11_settles_49 rfl ?_
        refine Sim.isub dX11_settles_50 ?_
        refine Sim.put fp_X11_243 dX11_settles_51 mI_27 rfl rfl ?_
        refine Sim.lth (fun h3 => ?_)
        refine Sim.goto 0 dX11_settles_54 rfl ?_
        exact H0 (v1, h3)
      · exact H0 (v1, x2)
    · exact Sim.vret dX11_settles_57 rfl
  · exact Sim.vret dX11_settles_57 rfl
def f_X11_settles_0_lp   (n : Nat) (v : Int32 × zHp) : Option (zHp) := zlp (fun k0 v => f_X11_settles_0 k0 v.1 v.2) n v
theorem f_X11_settles_0_ls  (n : Nat) (v : Int32 × zHp) : Sim wM mX11_settles 1 rV 0 [(0, .ref 0), (1, .int v.1)] [] v.2 (f_X11_settles_0_lp n v) :=
  Sim.lp (V := Int32 × zHp) (Lf := fun v => [(0, .ref 0), (1, .int v.1)]) (sf := fun v => []) (hf := fun v => v.2) (fun k0 H0 v => f_X11_settles_0_s k0 H0 v.1 v.2) n v
def f_X11_settles  (a1 : Int32) (h : zHp) : Option (zHp) := f_X11_settles_0_lp  zN (a1, h)
set_option maxHeartbeats 4000000 in
set_option maxRecDepth 100000 in
theorem s_X11_settles  (a1 : Int32) (h : zHp) : Fn wM mX11_settles 1 rV [.ref 0, .int a1] h (f_X11_settles a1 h) := by
  refine Fn.of rfl (Nat.le_of_ble_eq_true rfl) ?_
  unfold f_X11_settles
  exact f_X11_settles_0_ls  zN (a1, h)
theorem mv_X11_settles : zMV mX11_settles 1 := ⟨⟨zTb_in 1686 (by decide +kernel) rfl, zTb_in 148 (by decide +kernel) rfl, ⟨by decide +kernel, by decide +kernel⟩, by decide +kernel⟩, zTb_in 1685 (by decide +kernel) rfl, zTb_in 75 (by decide +kernel) rfl⟩
-- ===== RockingPorchModel.readAny()I
abbrev mX11_readAny : zMt := (yX11_readAny, cX11_readAny, 4, some .int)
theorem ml_X11_246 : Cond.methodLink RX11 246 yX11_isWord ∈ zTb := zTb_in 1599 (by decide +kernel) rfl
theorem ml_X11_249 : Cond.methodLink RX11 249 yX11_waits ∈ zTb := zTb_in 1675 (by decide +kernel) rfl
theorem ml_X11_252 : Cond.methodLink RX11 252 yX11_readCompared ∈ zTb := zTb_in 1679 (by decide +kernel) rfl
theorem ml_X11_255 : Cond.methodLink RX11 255 yX11_settles ∈ zTb := zTb_in 1683 (by decide +kernel) rfl
theorem dX11_readAny_0 : decode cX11_readAny 0 = .ok (.iconst 0, 1) := by decide +kernel
theorem dX11_readAny_1 : decode cX11_readAny 1 = .ok (.istore_n 1, 1) := by decide +kernel
theorem dX11_readAny_2 : decode cX11_readAny 2 = .ok (.aload_n 0, 1) := by decide +kernel
theorem dX11_readAny_3 : decode cX11_readAny 3 = .ok (.iconst 0, 1) := by decide +kernel
theorem dX11_readAny_4 : decode cX11_readAny 4 = .ok (.putfield 240, 3) := by decide +kernel
theorem dX11_readAny_7 : decode cX11_readAny 7 = .ok (.iconst 1, 1) := by decide +kernel
theorem dX11_readAny_8 : decode cX11_readAny 8 = .ok (.istore_n 2, 1) := by decide +kernel
theorem dX11_readAny_9 : decode cX11_readAny 9 = .ok (.iload_n 2, 1) := by decide +kernel
theorem dX11_readAny_10 : decode cX11_readAny 10 = .ok (.ifCond .eq 99, 3) := by decide +kernel
theorem dX11_readAny_13 : decode cX11_readAny 13 = .ok (.aload_n 0, 1) := by decide +kernel
theorem dX11_readAny_14 : decode cX11_readAny 14 = .ok (.bipush 6, 2) := by decide +kernel
theorem dX11_readAny_16 : decode cX11_readAny 16 = .ok (.invokevirtual 246, 3) := by decide +kernel
theorem dX11_readAny_19 : decode cX11_readAny 19 = .ok (.istore_n 3, 1) := by decide +kernel
theorem dX11_readAny_20 : decode cX11_readAny 20 = .ok (.iload_n 3, 1) := by decide +kernel
theorem dX11_readAny_21 : decode cX11_readAny 21 = .ok (.ifCond .ne 12, 3) := by decide +kernel
theorem dX11_readAny_24 : decode cX11_readAny 24 = .ok (.aload_n 0, 1) := by decide +kernel
theorem dX11_readAny_25 : decode cX11_readAny 25 = .ok (.bipush 40, 2) := by decide +kernel
theorem dX11_readAny_27 : decode cX11_readAny 27 = .ok (.invokevirtual 231, 3) := by decide +kernel
theorem dX11_readAny_30 : decode cX11_readAny 30 = .ok (.ifCond .eq 58, 3) := by decide +kernel
theorem dX11_readAny_33 : decode cX11_readAny 33 = .ok (.aload_n 0, 1) := by decide +kernel
theorem dX11_readAny_34 : decode cX11_readAny 34 = .ok (.getfield 243, 3) := by decide +kernel
theorem dX11_readAny_37 : decode cX11_readAny 37 = .ok (.bipush 8, 2) := by decide +kernel
theorem dX11_readAny_39 : decode cX11_readAny 39 = .ok (.if_icmp .ne 9, 3) := by decide +kernel
theorem dX11_readAny_42 : decode cX11_readAny 42 = .ok (.aload_n 0, 1) := by decide +kernel
theorem dX11_readAny_43 : decode cX11_readAny 43 = .ok (.iconst 3, 1) := by decide +kernel
theorem dX11_readAny_44 : decode cX11_readAny 44 = .ok (.invokevirtual 218, 3) := by decide +kernel
theorem dX11_readAny_47 : decode cX11_readAny 47 = .ok (.ireturn, 1) := by decide +kernel
theorem dX11_readAny_48 : decode cX11_readAny 48 = .ok (.aload_n 0, 1) := by decide +kernel
theorem dX11_readAny_49 : decode cX11_readAny 49 = .ok (.aload_n 0, 1) := by decide +kernel
theorem dX11_readAny_50 : decode cX11_readAny 50 = .ok (.getfield 243, 3) := by decide +kernel
theorem dX11_readAny_53 : decode cX11_readAny 53 = .ok (.iconst 1, 1) := by decide +kernel
theorem dX11_readAny_54 : decode cX11_readAny 54 = .ok (.iadd, 1) := by decide +kernel
theorem dX11_readAny_55 : decode cX11_readAny 55 = .ok (.putfield 243, 3) := by decide +kernel
theorem dX11_readAny_58 : decode cX11_readAny 58 = .ok (.iload_n 3, 1) := by decide +kernel
theorem dX11_readAny_59 : decode cX11_readAny 59 = .ok (.ifCond .ne 7, 3) := by decide +kernel
theorem dX11_readAny_62 : decode cX11_readAny 62 = .ok (.iload_n 1, 1) := by decide +kernel
theorem dX11_readAny_63 : decode cX11_readAny 63 = .ok (.iconst 1, 1) := by decide +kernel
theorem dX11_readAny_64 : decode cX11_readAny 64 = .ok (.iadd, 1) := by decide +kernel
theorem dX11_readAny_65 : decode cX11_readAny 65 = .ok (.istore_n 1, 1) := by decide +kernel
theorem dX11_readAny_66 : decode cX11_readAny 66 = .ok (.aload_n 0, 1) := by decide +kernel
theorem dX11_readAny_67 : decode cX11_readAny 67 = .ok (.iload_n 3, 1) := by decide +kernel
theorem dX11_readAny_68 : decode cX11_readAny 68 = .ok (.ifCond .eq 8, 3) := by decide +kernel
theorem dX11_readAny_71 : decode cX11_readAny 71 = .ok (.bipush 9, 2) := by decide +kernel
theorem dX11_readAny_73 : decode cX11_readAny 73 = .ok (.goto 5, 3) := by decide +kernel
theorem dX11_readAny_76 : decode cX11_readAny 76 = .ok (.bipush 12, 2) := by decide +kernel
theorem dX11_readAny_78 : decode cX11_readAny 78 = .ok (.invokevirtual 249, 3) := by decide +kernel
theorem dX11_readAny_81 : decode cX11_readAny 81 = .ok (.aload_n 0, 1) := by decide +kernel
theorem dX11_readAny_82 : decode cX11_readAny 82 = .ok (.invokevirtual 224, 3) := by decide +kernel
theorem dX11_readAny_85 : decode cX11_readAny 85 = .ok (.goto (-76), 3) := by decide +kernel
theorem dX11_readAny_88 : decode cX11_readAny 88 = .ok (.aload_n 0, 1) := by decide +kernel
theorem dX11_readAny_89 : decode cX11_readAny 89 = .ok (.invokevirtual 252, 3) := by decide +kernel
theorem dX11_readAny_92 : decode cX11_readAny 92 = .ok (.iconst (-1), 1) := by decide +kernel
theorem dX11_readAny_93 : decode cX11_readAny 93 = .ok (.if_icmp .ne 5, 3) := by decide +kernel
theorem dX11_readAny_96 : decode cX11_readAny 96 = .ok (.iconst (-1), 1) := by decide +kernel
theorem dX11_readAny_97 : decode cX11_readAny 97 = .ok (.ireturn, 1) := by decide +kernel
theorem dX11_readAny_98 : decode cX11_readAny 98 = .ok (.aload_n 0, 1) := by decide +kernel
theorem dX11_readAny_99 : decode cX11_readAny 99 = .ok (.bipush 9, 2) := by decide +kernel
theorem dX11_readAny_101 : decode cX11_readAny 101 = .ok (.invokevirtual 255, 3) := by decide +kernel
theorem dX11_readAny_104 : decode cX11_readAny 104 = .ok (.iconst 0, 1) := by decide +kernel
theorem dX11_readAny_105 : decode cX11_readAny 105 = .ok (.istore_n 2, 1) := by decide +kernel
theorem dX11_readAny_106 : decode cX11_readAny 106 = .ok (.goto (-97), 3) := by decide +kernel
theorem dX11_readAny_109 : decode cX11_readAny 109 = .ok (.aload_n 0, 1) := by decide +kernel
theorem dX11_readAny_110 : decode cX11_readAny 110 = .ok (.iconst 5, 1) := by decide +kernel
theorem dX11_readAny_111 : decode cX11_readAny 111 = .ok (.invokevirtual 246, 3) := by decide +kernel
theorem dX11_readAny_114 : decode cX11_readAny 114 = .ok (.ifCond .eq 24, 3) := by decide +kernel
theorem dX11_readAny_117 : decode cX11_readAny 117 = .ok (.aload_n 0, 1) := by decide +kernel
theorem dX11_readAny_118 : decode cX11_readAny 118 = .ok (.bipush 10, 2) := by decide +kernel
theorem dX11_readAny_120 : decode cX11_readAny 120 = .ok (.invokevirtual 255, 3) := by decide +kernel
theorem dX11_readAny_123 : decode cX11_readAny 123 = .ok (.aload_n 0, 1) := by decide +kernel
theorem dX11_readAny_124 : decode cX11_readAny 124 = .ok (.bipush 10, 2) := by decide +kernel
theorem dX11_readAny_126 : decode cX11_readAny 126 = .ok (.invokevirtual 249, 3) := by decide +kernel
theorem dX11_readAny_129 : decode cX11_readAny 129 = .ok (.aload_n 0, 1) := by decide +kernel
theorem dX11_readAny_130 : decode cX11_readAny 130 = .ok (.invokevirtual 224, 3) := by decide +kernel
theorem dX11_readAny_133 : decode cX11_readAny 133 = .ok (.iconst 1, 1) := by decide +kernel
theorem dX11_readAny_134 : decode cX11_readAny 134 = .ok (.istore_n 2, 1) := by decide +kernel
theorem dX11_readAny_135 : decode cX11_readAny 135 = .ok (.goto (-126), 3) := by decide +kernel
theorem dX11_readAny_138 : decode cX11_readAny 138 = .ok (.aload_n 0, 1) := by decide +kernel
theorem dX11_readAny_139 : decode cX11_readAny 139 = .ok (.iconst 4, 1) := by decide +kernel
theorem dX11_readAny_140 : decode cX11_readAny 140 = .ok (.invokevirtual 246, 3) := by decide +kernel
theorem dX11_readAny_143 : decode cX11_readAny 143 = .ok (.ifCond .eq 30, 3) := by decide +kernel
theorem dX11_readAny_146 : decode cX11_readAny 146 = .ok (.aload_n 0, 1) := by decide +kernel
theorem dX11_readAny_147 : decode cX11_readAny 147 = .ok (.bipush 10, 2) := by decide +kernel
theorem dX11_readAny_149 : decode cX11_readAny 149 = .ok (.invokevirtual 255, 3) := by decide +kernel
theorem dX11_readAny_152 : decode cX11_readAny 152 = .ok (.aload_n 0, 1) := by decide +kernel
theorem dX11_readAny_153 : decode cX11_readAny 153 = .ok (.bipush 11, 2) := by decide +kernel
theorem dX11_readAny_155 : decode cX11_readAny 155 = .ok (.invokevirtual 255, 3) := by decide +kernel
theorem dX11_readAny_158 : decode cX11_readAny 158 = .ok (.aload_n 0, 1) := by decide +kernel
theorem dX11_readAny_159 : decode cX11_readAny 159 = .ok (.bipush 11, 2) := by decide +kernel
theorem dX11_readAny_161 : decode cX11_readAny 161 = .ok (.invokevirtual 249, 3) := by decide +kernel
theorem dX11_readAny_164 : decode cX11_readAny 164 = .ok (.aload_n 0, 1) := by decide +kernel
theorem dX11_readAny_165 : decode cX11_readAny 165 = .ok (.invokevirtual 224, 3) := by decide +kernel
theorem dX11_readAny_168 : decode cX11_readAny 168 = .ok (.iconst 1, 1) := by decide +kernel
theorem dX11_readAny_169 : decode cX11_readAny 169 = .ok (.istore_n 2, 1) := by decide +kernel
theorem dX11_readAny_170 : decode cX11_readAny 170 = .ok (.goto (-161), 3) := by decide +kernel
theorem dX11_readAny_173 : decode cX11_readAny 173 = .ok (.aload_n 0, 1) := by decide +kernel
theorem dX11_readAny_174 : decode cX11_readAny 174 = .ok (.bipush 10, 2) := by decide +kernel
theorem dX11_readAny_176 : decode cX11_readAny 176 = .ok (.invokevirtual 255, 3) := by decide +kernel
theorem dX11_readAny_179 : decode cX11_readAny 179 = .ok (.aload_n 0, 1) := by decide +kernel
theorem dX11_readAny_180 : decode cX11_readAny 180 = .ok (.bipush 11, 2) := by decide +kernel
theorem dX11_readAny_182 : decode cX11_readAny 182 = .ok (.invokevirtual 255, 3) := by decide +kernel
theorem dX11_readAny_185 : decode cX11_readAny 185 = .ok (.iload_n 1, 1) := by decide +kernel
theorem dX11_readAny_186 : decode cX11_readAny 186 = .ok (.ifCond .ne 5, 3) := by decide +kernel
theorem dX11_readAny_189 : decode cX11_readAny 189 = .ok (.iconst 0, 1) := by decide +kernel
theorem dX11_readAny_190 : decode cX11_readAny 190 = .ok (.ireturn, 1) := by decide +kernel
theorem dX11_readAny_191 : decode cX11_readAny 191 = .ok (.aload_n 0, 1) := by decide +kernel
theorem dX11_readAny_192 : decode cX11_readAny 192 = .ok (.bipush 41, 2) := by decide +kernel
theorem dX11_readAny_194 : decode cX11_readAny 194 = .ok (.invokevirtual 231, 3) := by decide +kernel
theorem dX11_readAny_197 : decode cX11_readAny 197 = .ok (.ifCond .ne 9, 3) := by decide +kernel
theorem dX11_readAny_200 : decode cX11_readAny 200 = .ok (.aload_n 0, 1) := by decide +kernel
theorem dX11_readAny_201 : decode cX11_readAny 201 = .ok (.iconst 1, 1) := by decide +kernel
theorem dX11_readAny_202 : decode cX11_readAny 202 = .ok (.invokevirtual 218, 3) := by decide +kernel
theorem dX11_readAny_205 : decode cX11_readAny 205 = .ok (.ireturn, 1) := by decide +kernel
theorem dX11_readAny_206 : decode cX11_readAny 206 = .ok (.aload_n 0, 1) := by decide +kernel
theorem dX11_readAny_207 : decode cX11_readAny 207 = .ok (.aload_n 0, 1) := by decide +kernel
theorem dX11_readAny_208 : decode cX11_readAny 208 = .ok (.getfield 240, 3) := by decide +kernel
theorem dX11_readAny_211 : decode cX11_readAny 211 = .ok (.iconst 1, 1) := by decide +kernel
theorem dX11_readAny_212 : decode cX11_readAny 212 = .ok (.isub, 1) := by decide +kernel
theorem dX11_readAny_213 : decode cX11_readAny 213 = .ok (.putfield 240, 3) := by decide +kernel
theorem dX11_readAny_216 : decode cX11_readAny 216 = .ok (.iload_n 1, 1) := by decide +kernel
theorem dX11_readAny_217 : decode cX11_readAny 217 = .ok (.iconst 1, 1) := by decide +kernel
theorem dX11_readAny_218 : decode cX11_readAny 218 = .ok (.isub, 1) := by decide +kernel
theorem dX11_readAny_219 : decode cX11_readAny 219 = .ok (.istore_n 1, 1) := by decide +kernel
theorem dX11_readAny_220 : decode cX11_readAny 220 = .ok (.aload_n 0, 1) := by decide +kernel
theorem dX11_readAny_221 : decode cX11_readAny 221 = .ok (.aload_n 0, 1) := by decide +kernel
theorem dX11_readAny_222 : decode cX11_readAny 222 = .ok (.getfield 243, 3) := by decide +kernel
theorem dX11_readAny_225 : decode cX11_readAny 225 = .ok (.iconst 1, 1) := by decide +kernel
theorem dX11_readAny_226 : decode cX11_readAny 226 = .ok (.isub, 1) := by decide +kernel
theorem dX11_readAny_227 : decode cX11_readAny 227 = .ok (.putfield 243, 3) := by decide +kernel
theorem dX11_readAny_230 : decode cX11_readAny 230 = .ok (.aload_n 0, 1) := by decide +kernel
theorem dX11_readAny_231 : decode cX11_readAny 231 = .ok (.bipush 9, 2) := by decide +kernel
theorem dX11_readAny_233 : decode cX11_readAny 233 = .ok (.invokevirtual 255, 3) := by decide +kernel
theorem dX11_readAny_236 : decode cX11_readAny 236 = .ok (.aload_n 0, 1) := by decide +kernel
theorem dX11_readAny_237 : decode cX11_readAny 237 = .ok (.invokevirtual 224, 3) := by decide +kernel
theorem dX11_readAny_240 : decode cX11_readAny 240 = .ok (.goto (-231), 3) := by decide +kernel
def f_X11_readAny_66  (k9 : Int32 × Int32 × zHp → Option (Int32 × zHp)) (v1 : Int32) (v2 : Int32) (v3 : Int32) (h : zHp) : Option (Int32 × zHp) := (if v3 = 0 then (f_X11_waits (12 : Int32) h).bind fun x1 => (f_X11_reads x1).bind fun x2 => k9 (v1, v2, x2) else (f_X11_waits (9 : Int32) h).bind fun x3 => (f_X11_reads x3).bind fun x4 => k9 (v1, v2, x4))
set_option maxHeartbeats 4000000 in
set_option maxRecDepth 100000 in
theorem f_X11_readAny_66_s  (k9 : Int32 × Int32 × zHp → Option (Int32 × zHp)) (H9 : ∀ v : Int32 × Int32 × zHp, Sim wM mX11_readAny 7 rI 9 [(0, .ref 0), (1, .int v.1), (2, .int v.2.1)] [] v.2.2 (k9 v)) (v1 : Int32) (v2 : Int32) (v3 : Int32) (h : zHp) : Sim wM mX11_readAny 7 rI 66 [(0, .ref 0), (1, .int v1), (2, .int v2), (3, .int v3)] [] h (f_X11_readAny_66 k9 v1 v2 v3 h) := by
  unfold f_X11_readAny_66
  refine Sim.aload_n 0 dX11_readAny_66 rfl ?_
  refine Sim.iload_n 3 dX11_readAny_67 rfl ?_
  refine Sim.if_eq 76 dX11_readAny_68 rfl ?_ ?_
  · refine Sim.bipush (v := (12 : Int32)) dX11_readAny_76 rfl ?_
    refine Sim.callV1U (d1 := 0) (s_X11_waits (12 : Int32) h) dX11_readAny_78 ml_X11_249 mv_X11_waits mC (Nat.le_of_ble_eq_true rfl) (Nat.le_of_ble_eq_true rfl) (Nat.le_of_ble_eq_true rfl) (fun x1 => ?_)
    refine Sim.aload_n 0 dX11_readAny_81 rfl ?_
    refine Sim.callV0U (d1 := 2) (s_X11_reads x1) dX11_readAny_82 ml_X11_224 mv_X11_reads mC (Nat.le_of_ble_eq_true rfl) (Nat.le_of_ble_eq_true rfl) (Nat.le_of_ble_eq_true rfl) (fun x2 => ?_)
    refine Sim.goto 9 dX11_readAny_85 rfl ?_
    refine Sim.locs [0, 1, 2] rfl ?_
    exact H9 (v1, v2, x2)
  · refine Sim.bipush (v := (9 : Int32)) dX11_readAny_71 rfl ?_
    refine Sim.goto 78 dX11_readAny_73 rfl ?_
    refine Sim.callV1U (d1 := 0) (s_X11_waits (9 : Int32) h) dX11_readAny_78 ml_X11_249 mv_X11_waits mC (Nat.le_of_ble_eq_true rfl) (Nat.le_of_ble_eq_true rfl) (Nat.le_of_ble_eq_true rfl) (fun x3 => ?_)
    refine Sim.aload_n 0 dX11_readAny_81 rfl ?_
    refine Sim.callV0U (d1 := 2) (s_X11_reads x3) dX11_readAny_82 ml_X11_224 mv_X11_reads mC (Nat.le_of_ble_eq_true rfl) (Nat.le_of_ble_eq_true rfl) (Nat.le_of_ble_eq_true rfl) (fun x4 => ?_)
    refine Sim.goto 9 dX11_readAny_85 rfl ?_
    refine Sim.locs [0, 1, 2] rfl ?_
    exact H9 (v1, v2, x4)
def f_X11_readAny_33  (k9 : Int32 × Int32 × zHp → Option (Int32 × zHp)) (v1 : Int32) (v2 : Int32) (v3 : Int32) (h : zHp) : Option (Int32 × zHp) := (if (h 0 27) = (8 : Int32) then (f_X11_errs (3 : Int32) h).bind fun x1 => some (x1.1, x1.2) else zlt (zst h 0 27 ((h 0 27) + (1 : Int32))) fun h2 => (if v3 = 0 then zlt (v1 + (1 : Int32)) fun x3 => f_X11_readAny_66 k9 x3 v2 v3 h2 else f_X11_readAny_66 k9 v1 v2 v3 h2))
set_option maxHeartbeats 4000000 in
set_option maxRecDepth 100000 in
theorem f_X11_readAny_33_s  (k9 : Int32 × Int32 × zHp → Option (Int32 × zHp)) (H9 : ∀ v : Int32 × Int32 × zHp, Sim wM mX11_readAny 7 rI 9 [(0, .ref 0), (1, .int v.1), (2, .int v.2.1)] [] v.2.2 (k9 v)) (v1 : Int32) (v2 : Int32) (v3 : Int32) (h : zHp) : Sim wM mX11_readAny 7 rI 33 [(0, .ref 0), (1, .int v1), (2, .int v2), (3, .int v3)] [] h (f_X11_readAny_33 k9 v1 v2 v3 h) := by
  unfold f_X11_readAny_33
  refine Sim.aload_n 0 dX11_readAny_33 rfl ?_
  refine Sim.getI fl_X11_243 dX11_readAny_34 mI_27 ?_
  refine Sim.bipush (v := (8 : Int32)) dX11_readAny_37 rfl ?_
  refine Sim.icmp_ne 48 dX11_readAny_39 rfl ?_ ?_
  · refine Sim.aload_n 0 dX11_readAny_42 rfl ?_
    refine Sim.iconst (v := (3 : Int32)) dX11_readAny_43 rfl ?_
    refine Sim.callV1I (d1 := 0) (s_X11_errs (3 : Int32) h) dX11_readAny_44 ml_X11_218 mv_X11_errs mC (Nat.le_of_ble_eq_true rfl) (Nat.le_of_ble_eq_true rfl) (Nat.le_of_ble_eq_true rfl) (fun x1 => ?_)
    exact Sim.iret dX11_readAny_47 rfl
  · refine Sim.aload_n 0 dX11_readAny_48 rfl ?_
    refine Sim.aload_n 0 dX11_readAny_49 rfl ?_
    refine Sim.getI fl_X11_243 dX11_readAny_50 mI_27 ?_
    refine Sim.iconst (v := (1 : Int32)) dX11_readAny_53 rfl ?_
    refine Sim.iadd dX11_readAny_54 ?_
    refine Sim.put fp_X11_243 dX11_readAny_55 mI_27 rfl rfl ?_
    refine Sim.lth (fun h2 => ?_)
    refine Sim.iload_n 3 dX11_readAny_58 rfl ?_
    refine Sim.if_ne 66 dX11_readAny_59 rfl ?_ ?_
    · refine Sim.iload_n 1 dX11_readAny_62 rfl ?_
      refine Sim.iconst (v := (1 : Int32)) dX11_readAny_63 rfl ?_
      refine Sim.iadd dX11_readAny_64 ?_
      refine Sim.lti (fun x3 => ?_)
      refine Sim.istore_n (L' := [(1, .int x3), (0, .ref 0), (2, .int v2), (3, .int v3)]) dX11_readAny_65 (Nat.le_of_ble_eq_true rfl) rfl ?_
      refine Sim.locs [1, 0, 2, 3] rfl ?_
      exact f_X11_readAny_66_s k9 H9 x3 v2 v3 h2
    · exact f_X11_readAny_66_s k9 H9 v1 v2 v3 h2
def f_X11_readAny_9  (k9 : Int32 × Int32 × zHp → Option (Int32 × zHp)) (v1 : Int32) (v2 : Int32) (h : zHp) : Option (Int32 × zHp) := (if v2 = 0 then (f_X11_isWord (5 : Int32) h).bind fun x1 => (if x1.1 = 0 then (f_X11_isWord (4 : Int32) x1.2).bind fun x2 => (if x2.1 = 0 then (f_X11_settles (10 : Int32) x2.2).bind fun x3 => (f_X11_settles (11 : Int32) x3).bind fun x4 => (if v1 = 0 then some ((0 : Int32), x4) else (f_X11_isSign (41 : Int32) x4).bind fun x5 => (if x5.1 = 0 then (f_X11_errs (1 : Int32) x5.2).bind fun x6 => some (x6.1, x6.2) else zlt (zst x5.2 0 29 ((x5.2 0 29) - (1 : Int32))) fun h7 => zlt (v1 - (1 : Int32)) fun x8 => zlt (zst h7 0 27 ((h7 0 27) - (1 : Int32))) fun h9 => (f_X11_settles (9 : Int32) h9).bind fun x10 => (f_X11_reads x10).bind fun x11 => k9 (x8, v2, x11))) else (f_X11_settles (10 : Int32) x2.2).bind fun x12 => (f_X11_settles (11 : Int32) x12).bind fun x13 => (f_X11_waits (11 : Int32) x13).bind fun x14 => (f_X11_reads x14).bind fun x15 => k9 (v1, (1 : Int32), x15)) else (f_X11_settles (10 : Int32) x1.2).bind fun x16 => (f_X11_waits (10 : Int32) x16).bind fun x17 => (f_X11_reads x17).bind fun x18 => k9 (v1, (1 : Int32), x18)) else (f_X11_isWord (6 : Int32) h).bind fun x19 => (if x19.1 = 0 then (f_X11_isSign (40 : Int32) x19.2).bind fun x20 => (if x20.1 = 0 then (f_X11_readCompared x20.2).bind fun x21 => (if x21.1 = (-1 : Int32) then some ((-1 : Int32), x21.2) else (f_X11_settles (9 : Int32) x21.2).bind fun x22 => k9 (v1, (0 : Int32), x22)) else f_X11_readAny_33 k9 v1 v2 x19.1 x20.2) else f_X11_readAny_33 k9 v1 v2 x19.1 x19.2))
set_option maxHeartbeats 4000000 in
set_option maxRecDepth 100000 in
theorem f_X11_readAny_9_s  (k9 : Int32 × Int32 × zHp → Option (Int32 × zHp)) (H9 : ∀ v : Int32 × Int32 × zHp, Sim wM mX11_readAny 7 rI 9 [(0, .ref 0), (1, .int v.1), (2, .int v.2.1)] [] v.2.2 (k9 v)) (v1 : Int32) (v2 : Int32) (h : zHp) : Sim wM mX11_readAny 7 rI 9 [(0, .ref 0), (1, .int v1), (2, .int v2)] [] h (f_X11_readAny_9 k9 v1 v2 h) := by
  unfold f_X11_readAny_9
  refine Sim.iload_n 2 dX11_readAny_9 rfl ?_
  refine Sim.if_eq 109 dX11_readAny_10 rfl ?_ ?_
  · refine Sim.aload_n 0 dX11_readAny_109 rfl ?_
    refine Sim.iconst (v := (5 : Int32)) dX11_readAny_110 rfl ?_
    refine Sim.callV1I (d1 := 0) (s_X11_isWord (5 : Int32) h) dX11_readAny_111 ml_X11_246 mv_X11_isWord mC (Nat.le_of_ble_eq_true rfl) (Nat.le_of_ble_eq_true rfl) (Nat.le_of_ble_eq_true rfl) (fun x1 => ?_)
    refine Sim.if_eq 138 dX11_readAny_114 rfl ?_ ?_
    · refine Sim.aload_n 0 dX11_readAny_138 rfl ?_
      refine Sim.iconst (v := (4 : Int32)) dX11_readAny_139 rfl ?_
      refine Sim.callV1I (d1 := 0) (s_X11_isWord (4 : Int32) x1.2) dX11_readAny_140 ml_X11_246 mv_X11_isWord mC (Nat.le_of_ble_eq_true rfl) (Nat.le_of_ble_eq_true rfl) (Nat.le_of_ble_eq_true rfl) (fun x2 => ?_)
      refine Sim.if_eq 173 dX11_readAny_143 rfl ?_ ?_
      · refine Sim.aload_n 0 dX11_readAny_173 rfl ?_
        refine Sim.bipush (v := (10 : Int32)) dX11_readAny_174 rfl ?_
        refine Sim.callV1U (d1 := 1) (s_X11_settles (10 : Int32) x2.2) dX11_readAny_176 ml_X11_255 mv_X11_settles mC (Nat.le_of_ble_eq_true rfl) (Nat.le_of_ble_eq_true rfl) (Nat.le_of_ble_eq_true rfl) (fun x3 => ?_)
        refine Sim.aload_n 0 dX11_readAny_179 rfl ?_
        refine Sim.bipush (v := (11 : Int32)) dX11_readAny_180 rfl ?_
        refine Sim.callV1U (d1 := 1) (s_X11_settles (11 : Int32) x3) dX11_readAny_182 ml_X11_255 mv_X11_settles mC (Nat.le_of_ble_eq_true rfl) (Nat.le_of_ble_eq_true rfl) (Nat.le_of_ble_eq_true rfl) (fun x4 => ?_)
        refine Sim.iload_n 1 dX11_readAny_185 rfl ?_
        refine Sim.if_ne 191 dX11_readAny_186 rfl ?_ ?_
        · refine Sim.iconst (v := (0 : Int32)) dX11_readAny_189 rfl ?_
          exact Sim.iret dX11_readAny_190 rfl
        · refine Sim.aload_n 0 dX11_readAny_191 rfl ?_
          refine Sim.bipush (v := (41 : Int32)) dX11_readAny_192 rfl ?_
          refine Sim.callV1I (d1 := 0) (s_X11_isSign (41 : Int32) x4) dX11_readAny_194 ml_X11_231 mv_X11_isSign mC (Nat.le_of_ble_eq_true rfl) (Nat.le_of_ble_eq_true rfl) (Nat.le_of_ble_eq_true rfl) (fun x5 => ?_)
          refine Sim.if_ne 206 dX11_readAny_197 rfl ?_ ?_
          · refine Sim.aload_n 0 dX11_readAny_200 rfl ?_
            refine Sim.iconst (v := (1 : Int32)) dX11_readAny_201 rfl ?_
            refine Sim.callV1I (d1 := 0) (s_X11_errs (1 : Int32) x5.2) dX11_readAny_202 ml_X11_218 mv_X11_errs mC (Nat.le_of_ble_eq_true rfl) (Nat.le_of_ble_eq_true rfl) (Nat.le_of_ble_eq_true rfl) (fun x6 => ?_)
            exact Sim.iret dX11_readAny_205 rfl
          · refine Sim.aload_n 0 dX11_readAny_206 rfl ?_
            refine Sim.aload_n 0 dX11_readAny_207 rfl ?_
            refine Sim.getI fl_X11_240 dX11_readAny_208 mI_29 ?_
            refine Sim.iconst (v := (1 : Int32)) dX11_readAny_211 rfl ?_
            refine Sim.isub dX11_readAny_212 ?_
            refine Sim.put fp_X11_240 dX11_readAny_213 mI_29 rfl rfl ?_
            refine Sim.lth (fun h7 => ?_)
            refine Sim.iload_n 1 dX11_readAny_216 rfl ?_
            refine Sim.iconst (v := (1 : Int32)) dX11_readAny_217 rfl ?_
            refine Sim.isub dX11_readAny_218 ?_
            refine Sim.lti (fun x8 => ?_)
            refine Sim.istore_n (L' := [(1, .int x8), (0, .ref 0), (2, .int v2)]) dX11_readAny_219 (Nat.le_of_ble_eq_true rfl) rfl ?_
            refine Sim.aload_n 1 dX11_readAny_220 rfl ?_
            refine Sim.aload_n 1 dX11_readAny_221 rfl ?_
            refine Sim.getI fl_X11_243 dX11_readAny_222 mI_27 ?_
            refine Sim.iconst (v := (1 : Int32)) dX11_readAny_225 rfl ?_
            refine Sim.isub dX11_readAny_226 ?_
            refine Sim.put fp_X11_243 dX11_readAny_227 mI_27 rfl rfl ?_
            refine Sim.lth (fun h9 => ?_)
            refine Sim.aload_n 1 dX11_readAny_230 rfl ?_
            refine Sim.bipush (v := (9 : Int32)) dX11_readAny_231 rfl ?_
            refine Sim.callV1U (d1 := 1) (s_X11_settles (9 : Int32) h9) dX11_readAny_233 ml_X11_255 mv_X11_settles mC (Nat.le_of_ble_eq_true rfl) (Nat.le_of_ble_eq_true rfl) (Nat.le_of_ble_eq_true rfl) (fun x10 => ?_)
            refine Sim.aload_n 1 dX11_readAny_236 rfl ?_
            refine Sim.callV0U (d1 := 2) (s_X11_reads x10) dX11_readAny_237 ml_X11_224 mv_X11_reads mC (Nat.le_of_ble_eq_true rfl) (Nat.le_of_ble_eq_true rfl) (Nat.le_of_ble_eq_true rfl) (fun x11 => ?_)
            refine Sim.goto 9 dX11_readAny_240 rfl ?_
            refine Sim.locs [1, 0, 2] rfl ?_
            exact H9 (x8, v2, x11)
      · refine Sim.aload_n 0 dX11_readAny_146 rfl ?_
        refine Sim.bipush (v := (10 : Int32)) dX11_readAny_147 rfl ?_
        refine Sim.callV1U (d1 := 1) (s_X11_settles (10 : Int32) x2.2) dX11_readAny_149 ml_X11_255 mv_X11_settles mC (Nat.le_of_ble_eq_true rfl) (Nat.le_of_ble_eq_true rfl) (Nat.le_of_ble_eq_true rfl) (fun x12 => ?_)
        refine Sim.aload_n 0 dX11_readAny_152 rfl ?_
        refine Sim.bipush (v := (11 : Int32)) dX11_readAny_153 rfl ?_
        refine Sim.callV1U (d1 := 1) (s_X11_settles (11 : Int32) x12) dX11_readAny_155 ml_X11_255 mv_X11_settles mC (Nat.le_of_ble_eq_true rfl) (Nat.le_of_ble_eq_true rfl) (Nat.le_of_ble_eq_true rfl) (fun x13 => ?_)
        refine Sim.aload_n 0 dX11_readAny_158 rfl ?_
        refine Sim.bipush (v := (11 : Int32)) dX11_readAny_159 rfl ?_
        refine Sim.callV1U (d1 := 0) (s_X11_waits (11 : Int32) x13) dX11_readAny_161 ml_X11_249 mv_X11_waits mC (Nat.le_of_ble_eq_true rfl) (Nat.le_of_ble_eq_true rfl) (Nat.le_of_ble_eq_true rfl) (fun x14 => ?_)
        refine Sim.aload_n 0 dX11_readAny_164 rfl ?_
        refine Sim.callV0U (d1 := 2) (s_X11_reads x14) dX11_readAny_165 ml_X11_224 mv_X11_reads mC (Nat.le_of_ble_eq_true rfl) (Nat.le_of_ble_eq_true rfl) (Nat.le_of_ble_eq_true rfl) (fun x15 => ?_)
        refine Sim.iconst (v := (1 : Int32)) dX11_readAny_168 rfl ?_
        refine Sim.istore_n (L' := [(2, .int (1 : Int32)), (0, .ref 0), (1, .int v1)]) dX11_readAny_169 (Nat.le_of_ble_eq_true rfl) rfl ?_
        refine Sim.goto 9 dX11_readAny_170 rfl ?_
        refine Sim.locs [1, 2, 0] rfl ?_
        exact H9 (v1, (1 : Int32), x15)
    · refine Sim.aload_n 0 dX11_readAny_117 rfl ?_
      refine Sim.bipush (v := (10 : Int32)) dX11_readAny_118 rfl ?_
      refine Sim.callV1U (d1 := 1) (s_X11_settles (10 : Int32) x1.2) dX11_readAny_120 ml_X11_255 mv_X11_settles mC (Nat.le_of_ble_eq_true rfl) (Nat.le_of_ble_eq_true rfl) (Nat.le_of_ble_eq_true rfl) (fun x16 => ?_)
      refine Sim.aload_n 0 dX11_readAny_123 rfl ?_
      refine Sim.bipush (v := (10 : Int32)) dX11_readAny_124 rfl ?_
      refine Sim.callV1U (d1 := 0) (s_X11_waits (10 : Int32) x16) dX11_readAny_126 ml_X11_249 mv_X11_waits mC (Nat.le_of_ble_eq_true rfl) (Nat.le_of_ble_eq_true rfl) (Nat.le_of_ble_eq_true rfl) (fun x17 => ?_)
      refine Sim.aload_n 0 dX11_readAny_129 rfl ?_
      refine Sim.callV0U (d1 := 2) (s_X11_reads x17) dX11_readAny_130 ml_X11_224 mv_X11_reads mC (Nat.le_of_ble_eq_true rfl) (Nat.le_of_ble_eq_true rfl) (Nat.le_of_ble_eq_true rfl) (fun x18 => ?_)
      refine Sim.iconst (v := (1 : Int32)) dX11_readAny_133 rfl ?_
      refine Sim.istore_n (L' := [(2, .int (1 : Int32)), (0, .ref 0), (1, .int v1)]) dX11_readAny_134 (Nat.le_of_ble_eq_true rfl) rfl ?_
      refine Sim.goto 9 dX11_readAny_135 rfl ?_
      refine Sim.locs [1, 2, 0] rfl ?_
      exact H9 (v1, (1 : Int32), x18)
  · refine Sim.aload_n 0 dX11_readAny_13 rfl ?_
    refine Sim.bipush (v := (6 : Int32)) dX11_readAny_14 rfl ?_
    refine Sim.callV1I (d1 := 0) (s_X11_isWord (6 : Int32) h) dX11_readAny_16 ml_X11_246 mv_X11_isWord mC (Nat.le_of_ble_eq_true rfl) (Nat.le_of_ble_eq_true rfl) (Nat.le_of_ble_eq_true rfl) (fun x19 => ?_)
    refine Sim.istore_n (L' := [(3, .int x19.1), (0, .ref 0), (1, .int v1), (2, .int v2)]) dX11_readAny_19 (Nat.le_of_ble_eq_true rfl) rfl ?_
    refine Sim.iload_n 0 dX11_readAny_20 rfl ?_
    refine Sim.if_ne 33 dX11_readAny_21 rfl ?_ ?_
    · refine Sim.aload_n 1 dX11_readAny_24 rfl ?_
      refine Sim.bipush (v := (40 : Int32)) dX11_readAny_25 rfl ?_
      refine Sim.callV1I (d1 := 0) (s_X11_isSign (40 : Int32) x19.2) dX11_readAny_27 ml_X11_231 mv_X11_isSign mC (Nat.le_of_ble_eq_true rfl) (Nat.le_of_ble_eq_true rfl) (Nat.le_of_ble_eq_true rfl) (fun x20 => ?_)
      refine Sim.if_eq 88 dX11_readAny_30 rfl ?_ ?_
      · refine Sim.aload_n 1 dX11_readAny_88 rfl ?_
        refine Sim.callV0I (d1 := 6) (s_X11_readCompared x20.2) dX11_readAny_89 ml_X11_252 mv_X11_readCompared mC (Nat.le_of_ble_eq_true rfl) (Nat.le_of_ble_eq_true rfl) (Nat.le_of_ble_eq_true rfl) (fun x21 => ?_)
        refine Sim.iconst (v := (-1 : Int32)) dX11_readAny_92 rfl ?_
        refine Sim.icmp_ne 98 dX11_readAny_93 rfl ?_ ?_
        · refine Sim.iconst (v := (-1 : Int32)) dX11_readAny_96 rfl ?_
          exact Sim.iret dX11_readAny_97 rfl
        · refine Sim.aload_n 1 dX11_readAny_98 rfl ?_
          refine Sim.bipush (v := (9 : Int32)) dX11_readAny_99 rfl ?_
          refine Sim.callV1U (d1 := 1) (s_X11_settles (9 : Int32) x21.2) dX11_readAny_101 ml_X11_255 mv_X11_settles mC (Nat.le_of_ble_eq_true rfl) (Nat.le_of_ble_eq_true rfl) (Nat.le_of_ble_eq_true rfl) (fun x22 => ?_)
          refine Sim.iconst (v := (0 : Int32)) dX11_readAny_104 rfl ?_
          refine Sim.istore_n (L' := [(2, .int (0 : Int32)), (3, .int x19.1), (0, .ref 0), (1, .int v1)]) dX11_readAny_105 (Nat.le_of_ble_eq_true rfl) rfl ?_
          refine Sim.goto 9 dX11_readAny_106 rfl ?_
          refine Sim.locs [2, 3, 0] rfl ?_
          exact H9 (v1, (0 : Int32), x22)
      · refine Sim.locs [1, 2, 3, 0] rfl ?_
        exact f_X11_readAny_33_s k9 H9 v1 v2 x19.1 x20.2
    · refine Sim.locs [1, 2, 3, 0] rfl ?_
      exact f_X11_readAny_33_s k9 H9 v1 v2 x19.1 x19.2
def f_X11_readAny_9_lp   (n : Nat) (v : Int32 × Int32 × zHp) : Option (Int32 × zHp) := zlp (fun k9 v => f_X11_readAny_9 k9 v.1 v.2.1 v.2.2) n v
theorem f_X11_readAny_9_ls  (n : Nat) (v : Int32 × Int32 × zHp) : Sim wM mX11_readAny 7 rI 9 [(0, .ref 0), (1, .int v.1), (2, .int v.2.1)] [] v.2.2 (f_X11_readAny_9_lp n v) :=
  Sim.lp (V := Int32 × Int32 × zHp) (Lf := fun v => [(0, .ref 0), (1, .int v.1), (2, .int v.2.1)]) (sf := fun v => []) (hf := fun v => v.2.2) (fun k9 H9 v => f_X11_readAny_9_s k9 H9 v.1 v.2.1 v.2.2) n v
def f_X11_readAny   (h : zHp) : Option (Int32 × zHp) := zlt (zst h 0 29 (0 : Int32)) fun h1 => f_X11_readAny_9_lp  zN ((0 : Int32), (1 : Int32), h1)
set_option maxHeartbeats 4000000 in
set_option maxRecDepth 100000 in
theorem s_X11_readAny   (h : zHp) : Fn wM mX11_readAny 7 rI [.ref 0] h (f_X11_readAny  h) := by
  refine Fn.of rfl (Nat.le_of_ble_eq_true rfl) ?_
  unfold f_X11_readAny
  refine Sim.iconst (v := (0 : Int32)) dX11_readAny_0 rfl ?_
  refine Sim.istore_n (L' := [(1, .int (0 : Int32)), (0, .ref 0)]) dX11_readAny_1 (Nat.le_of_ble_eq_true rfl) rfl ?_
  refine Sim.aload_n 1 dX11_readAny_2 rfl ?_
  refine Sim.iconst (v := (0 : Int32)) dX11_readAny_3 rfl ?_
  refine Sim.put fp_X11_240 dX11_readAny_4 mI_29 rfl rfl ?_
  refine Sim.lth (fun h1 => ?_)
  refine Sim.iconst (v := (1 : Int32)) dX11_readAny_7 rfl ?_
  refine Sim.istore_n (L' := [(2, .int (1 : Int32)), (1, .int (0 : Int32)), (0, .ref 0)]) dX11_readAny_8 (Nat.le_of_ble_eq_true rfl) rfl ?_
  refine Sim.locs [2, 1, 0] rfl ?_
  exact f_X11_readAny_9_ls  zN ((0 : Int32), (1 : Int32), h1)
theorem mv_X11_readAny : zMV mX11_readAny 0 := ⟨⟨zTb_in 1674 (by decide +kernel) rfl, zTb_in 148 (by decide +kernel) rfl, ⟨by decide +kernel, by decide +kernel⟩, by decide +kernel⟩, zTb_in 1673 (by decide +kernel) rfl, zTb_in 72 (by decide +kernel) rfl⟩
-- ===== RockingPorchModel.isLineWord()Z
abbrev mX11_isLineWord : zMt := (yX11_isLineWord, cX11_isLineWord, 1, some .boolean)
theorem dX11_isLineWord_0 : decode cX11_isLineWord 0 = .ok (.aload_n 0, 1) := by decide +kernel
theorem dX11_isLineWord_1 : decode cX11_isLineWord 1 = .ok (.getfield 187, 3) := by decide +kernel
theorem dX11_isLineWord_4 : decode cX11_isLineWord 4 = .ok (.iconst 2, 1) := by decide +kernel
theorem dX11_isLineWord_5 : decode cX11_isLineWord 5 = .ok (.if_icmp .ne 20, 3) := by decide +kernel
theorem dX11_isLineWord_8 : decode cX11_isLineWord 8 = .ok (.aload_n 0, 1) := by decide +kernel
theorem dX11_isLineWord_9 : decode cX11_isLineWord 9 = .ok (.aload_n 0, 1) := by decide +kernel
theorem dX11_isLineWord_10 : decode cX11_isLineWord 10 = .ok (.getfield 190, 3) := by decide +kernel
theorem dX11_isLineWord_13 : decode cX11_isLineWord 13 = .ok (.iconst 0, 1) := by decide +kernel
theorem dX11_isLineWord_14 : decode cX11_isLineWord 14 = .ok (.iconst 2, 1) := by decide +kernel
theorem dX11_isLineWord_15 : decode cX11_isLineWord 15 = .ok (.invokevirtual 154, 3) := by decide +kernel
theorem dX11_isLineWord_18 : decode cX11_isLineWord 18 = .ok (.ifCond .eq 7, 3) := by decide +kernel
theorem dX11_isLineWord_21 : decode cX11_isLineWord 21 = .ok (.iconst 1, 1) := by decide +kernel
theorem dX11_isLineWord_22 : decode cX11_isLineWord 22 = .ok (.goto 4, 3) := by decide +kernel
theorem dX11_isLineWord_25 : decode cX11_isLineWord 25 = .ok (.iconst 0, 1) := by decide +kernel
theorem dX11_isLineWord_26 : decode cX11_isLineWord 26 = .ok (.ireturn, 1) := by decide +kernel
def f_X11_isLineWord   (h : zHp) : Option (Int32 × zHp) := (if (h 0 15) = (2 : Int32) then (f_X11_isIn (h 0 16) (0 : Int32) (2 : Int32) h).bind fun x1 => (if x1.1 = 0 then some ((0 : Int32), x1.2) else some ((1 : Int32), x1.2)) else some ((0 : Int32), h))
set_option maxHeartbeats 4000000 in
set_option maxRecDepth 100000 in
theorem s_X11_isLineWord   (h : zHp) : Fn wM mX11_isLineWord 1 rI [.ref 0] h (f_X11_isLineWord  h) := by
  refine Fn.of rfl (Nat.le_of_ble_eq_true rfl) ?_
  unfold f_X11_isLineWord
  refine Sim.aload_n 0 dX11_isLineWord_0 rfl ?_
  refine Sim.getI fl_X11_187 dX11_isLineWord_1 mI_15 ?_
  refine Sim.iconst (v := (2 : Int32)) dX11_isLineWord_4 rfl ?_
  refine Sim.icmp_ne 25 dX11_isLineWord_5 rfl ?_ ?_
  · refine Sim.aload_n 0 dX11_isLineWord_8 rfl ?_
    refine Sim.aload_n 0 dX11_isLineWord_9 rfl ?_
    refine Sim.getI fl_X11_190 dX11_isLineWord_10 mI_16 ?_
    refine Sim.iconst (v := (0 : Int32)) dX11_isLineWord_13 rfl ?_
    refine Sim.iconst (v := (2 : Int32)) dX11_isLineWord_14 rfl ?_
    refine Sim.callV3I (d1 := 0) (s_X11_isIn (h 0 16) (0 : Int32) (2 : Int32) h) dX11_isLineWord_15 ml_X11_154 mv_X11_isIn mC (Nat.le_of_ble_eq_true rfl) (Nat.le_of_ble_eq_true rfl) (Nat.le_of_ble_eq_true rfl) (fun x1 => ?_)
    refine Sim.if_eq 25 dX11_isLineWord_18 rfl ?_ ?_
    · refine Sim.iconst (v := (0 : Int32)) dX11_isLineWord_25 rfl ?_
      exact Sim.nret dX11_isLineWord_26 rfl rfl
    · refine Sim.iconst (v := (1 : Int32)) dX11_isLineWord_21 rfl ?_
      refine Sim.goto 26 dX11_isLineWord_22 rfl ?_
      exact Sim.nret dX11_isLineWord_26 rfl rfl
  · refine Sim.iconst (v := (0 : Int32)) dX11_isLineWord_25 rfl ?_
    exact Sim.nret dX11_isLineWord_26 rfl rfl
theorem mv_X11_isLineWord : zMV mX11_isLineWord 0 := ⟨⟨zTb_in 1650 (by decide +kernel) rfl, zTb_in 148 (by decide +kernel) rfl, ⟨by decide +kernel, by decide +kernel⟩, by decide +kernel⟩, zTb_in 1649 (by decide +kernel) rfl, zTb_in 66 (by decide +kernel) rfl⟩
-- ===== RockingPorchModel.readLaw()I
abbrev mX11_readLaw : zMt := (yX11_readLaw, cX11_readLaw, 3, some .int)
theorem fl_X11_37 : zF RX11 37 11 19 := ⟨RX11, TX11, 69, rfl, Nat.le_of_ble_eq_true rfl, zTb_in 1318 (by decide +kernel) rfl, in_X11⟩
theorem fl_X11_40 : zF RX11 40 11 20 := ⟨RX11, TX11, 69, rfl, Nat.le_of_ble_eq_true rfl, zTb_in 1319 (by decide +kernel) rfl, in_X11⟩
theorem fl_X11_43 : zF RX11 43 11 21 := ⟨RX11, TX11, 69, rfl, Nat.le_of_ble_eq_true rfl, zTb_in 1320 (by decide +kernel) rfl, in_X11⟩
theorem fl_X11_46 : zF RX11 46 11 22 := ⟨RX11, TX11, 69, rfl, Nat.le_of_ble_eq_true rfl, zTb_in 1321 (by decide +kernel) rfl, in_X11⟩
theorem ml_X11_258 : Cond.methodLink RX11 258 yX11_isLineWord ∈ zTb := zTb_in 1647 (by decide +kernel) rfl
theorem ml_X11_262 : Cond.methodLink RX11 262 yX11_readAny ∈ zTb := zTb_in 1671 (by decide +kernel) rfl
theorem dX11_readLaw_0 : decode cX11_readLaw 0 = .ok (.iconst 0, 1) := by decide +kernel
theorem dX11_readLaw_1 : decode cX11_readLaw 1 = .ok (.istore_n 1, 1) := by decide +kernel
theorem dX11_readLaw_2 : decode cX11_readLaw 2 = .ok (.aload_n 0, 1) := by decide +kernel
theorem dX11_readLaw_3 : decode cX11_readLaw 3 = .ok (.invokevirtual 258, 3) := by decide +kernel
theorem dX11_readLaw_6 : decode cX11_readLaw 6 = .ok (.ifCond .eq 122, 3) := by decide +kernel
theorem dX11_readLaw_9 : decode cX11_readLaw 9 = .ok (.iload_n 1, 1) := by decide +kernel
theorem dX11_readLaw_10 : decode cX11_readLaw 10 = .ok (.bipush 16, 2) := by decide +kernel
theorem dX11_readLaw_12 : decode cX11_readLaw 12 = .ok (.if_icmp .ne 9, 3) := by decide +kernel
theorem dX11_readLaw_15 : decode cX11_readLaw 15 = .ok (.aload_n 0, 1) := by decide +kernel
theorem dX11_readLaw_16 : decode cX11_readLaw 16 = .ok (.iconst 3, 1) := by decide +kernel
theorem dX11_readLaw_17 : decode cX11_readLaw 17 = .ok (.invokevirtual 218, 3) := by decide +kernel
theorem dX11_readLaw_20 : decode cX11_readLaw 20 = .ok (.ireturn, 1) := by decide +kernel
theorem dX11_readLaw_21 : decode cX11_readLaw 21 = .ok (.bipush 32, 2) := by decide +kernel
theorem dX11_readLaw_23 : decode cX11_readLaw 23 = .ok (.iload_n 1, 1) := by decide +kernel
theorem dX11_readLaw_24 : decode cX11_readLaw 24 = .ok (.iadd, 1) := by decide +kernel
theorem dX11_readLaw_25 : decode cX11_readLaw 25 = .ok (.istore_n 2, 1) := by decide +kernel
theorem dX11_readLaw_26 : decode cX11_readLaw 26 = .ok (.aload_n 0, 1) := by decide +kernel
theorem dX11_readLaw_27 : decode cX11_readLaw 27 = .ok (.getfield 37, 3) := by decide +kernel
theorem dX11_readLaw_30 : decode cX11_readLaw 30 = .ok (.iload_n 2, 1) := by decide +kernel
theorem dX11_readLaw_31 : decode cX11_readLaw 31 = .ok (.aload_n 0, 1) := by decide +kernel
theorem dX11_readLaw_32 : decode cX11_readLaw 32 = .ok (.getfield 190, 3) := by decide +kernel
theorem dX11_readLaw_35 : decode cX11_readLaw 35 = .ok (.iastore, 1) := by decide +kernel
theorem dX11_readLaw_36 : decode cX11_readLaw 36 = .ok (.aload_n 0, 1) := by decide +kernel
theorem dX11_readLaw_37 : decode cX11_readLaw 37 = .ok (.invokevirtual 224, 3) := by decide +kernel
theorem dX11_readLaw_40 : decode cX11_readLaw 40 = .ok (.aload_n 0, 1) := by decide +kernel
theorem dX11_readLaw_41 : decode cX11_readLaw 41 = .ok (.getfield 40, 3) := by decide +kernel
theorem dX11_readLaw_44 : decode cX11_readLaw 44 = .ok (.iload_n 2, 1) := by decide +kernel
theorem dX11_readLaw_45 : decode cX11_readLaw 45 = .ok (.aload_n 0, 1) := by decide +kernel
theorem dX11_readLaw_46 : decode cX11_readLaw 46 = .ok (.getfield 212, 3) := by decide +kernel
theorem dX11_readLaw_49 : decode cX11_readLaw 49 = .ok (.iastore, 1) := by decide +kernel
theorem dX11_readLaw_50 : decode cX11_readLaw 50 = .ok (.aload_n 0, 1) := by decide +kernel
theorem dX11_readLaw_51 : decode cX11_readLaw 51 = .ok (.invokevirtual 237, 3) := by decide +kernel
theorem dX11_readLaw_54 : decode cX11_readLaw 54 = .ok (.iconst (-1), 1) := by decide +kernel
theorem dX11_readLaw_55 : decode cX11_readLaw 55 = .ok (.if_icmp .ne 5, 3) := by decide +kernel
theorem dX11_readLaw_58 : decode cX11_readLaw 58 = .ok (.iconst (-1), 1) := by decide +kernel
theorem dX11_readLaw_59 : decode cX11_readLaw 59 = .ok (.ireturn, 1) := by decide +kernel
theorem dX11_readLaw_60 : decode cX11_readLaw 60 = .ok (.aload_n 0, 1) := by decide +kernel
theorem dX11_readLaw_61 : decode cX11_readLaw 61 = .ok (.getfield 43, 3) := by decide +kernel
theorem dX11_readLaw_64 : decode cX11_readLaw 64 = .ok (.iload_n 2, 1) := by decide +kernel
theorem dX11_readLaw_65 : decode cX11_readLaw 65 = .ok (.aload_n 0, 1) := by decide +kernel
theorem dX11_readLaw_66 : decode cX11_readLaw 66 = .ok (.getfield 212, 3) := by decide +kernel
theorem dX11_readLaw_69 : decode cX11_readLaw 69 = .ok (.iastore, 1) := by decide +kernel
theorem dX11_readLaw_70 : decode cX11_readLaw 70 = .ok (.aload_n 0, 1) := by decide +kernel
theorem dX11_readLaw_71 : decode cX11_readLaw 71 = .ok (.iconst 3, 1) := by decide +kernel
theorem dX11_readLaw_72 : decode cX11_readLaw 72 = .ok (.invokevirtual 246, 3) := by decide +kernel
theorem dX11_readLaw_75 : decode cX11_readLaw 75 = .ok (.ifCond .eq 17, 3) := by decide +kernel
theorem dX11_readLaw_78 : decode cX11_readLaw 78 = .ok (.aload_n 0, 1) := by decide +kernel
theorem dX11_readLaw_79 : decode cX11_readLaw 79 = .ok (.invokevirtual 224, 3) := by decide +kernel
theorem dX11_readLaw_82 : decode cX11_readLaw 82 = .ok (.aload_n 0, 1) := by decide +kernel
theorem dX11_readLaw_83 : decode cX11_readLaw 83 = .ok (.invokevirtual 262, 3) := by decide +kernel
theorem dX11_readLaw_86 : decode cX11_readLaw 86 = .ok (.iconst (-1), 1) := by decide +kernel
theorem dX11_readLaw_87 : decode cX11_readLaw 87 = .ok (.if_icmp .ne 5, 3) := by decide +kernel
theorem dX11_readLaw_90 : decode cX11_readLaw 90 = .ok (.iconst (-1), 1) := by decide +kernel
theorem dX11_readLaw_91 : decode cX11_readLaw 91 = .ok (.ireturn, 1) := by decide +kernel
theorem dX11_readLaw_92 : decode cX11_readLaw 92 = .ok (.aload_n 0, 1) := by decide +kernel
theorem dX11_readLaw_93 : decode cX11_readLaw 93 = .ok (.getfield 46, 3) := by decide +kernel
theorem dX11_readLaw_96 : decode cX11_readLaw 96 = .ok (.iload_n 2, 1) := by decide +kernel
theorem dX11_readLaw_97 : decode cX11_readLaw 97 = .ok (.aload_n 0, 1) := by decide +kernel
theorem dX11_readLaw_98 : decode cX11_readLaw 98 = .ok (.getfield 212, 3) := by decide +kernel
theorem dX11_readLaw_101 : decode cX11_readLaw 101 = .ok (.iastore, 1) := by decide +kernel
theorem dX11_readLaw_102 : decode cX11_readLaw 102 = .ok (.aload_n 0, 1) := by decide +kernel
theorem dX11_readLaw_103 : decode cX11_readLaw 103 = .ok (.bipush 59, 2) := by decide +kernel
theorem dX11_readLaw_105 : decode cX11_readLaw 105 = .ok (.invokevirtual 231, 3) := by decide +kernel
theorem dX11_readLaw_108 : decode cX11_readLaw 108 = .ok (.ifCond .ne 9, 3) := by decide +kernel
theorem dX11_readLaw_111 : decode cX11_readLaw 111 = .ok (.aload_n 0, 1) := by decide +kernel
theorem dX11_readLaw_112 : decode cX11_readLaw 112 = .ok (.iconst 1, 1) := by decide +kernel
theorem dX11_readLaw_113 : decode cX11_readLaw 113 = .ok (.invokevirtual 218, 3) := by decide +kernel
theorem dX11_readLaw_116 : decode cX11_readLaw 116 = .ok (.ireturn, 1) := by decide +kernel
theorem dX11_readLaw_117 : decode cX11_readLaw 117 = .ok (.aload_n 0, 1) := by decide +kernel
theorem dX11_readLaw_118 : decode cX11_readLaw 118 = .ok (.invokevirtual 224, 3) := by decide +kernel
theorem dX11_readLaw_121 : decode cX11_readLaw 121 = .ok (.iload_n 1, 1) := by decide +kernel
theorem dX11_readLaw_122 : decode cX11_readLaw 122 = .ok (.iconst 1, 1) := by decide +kernel
theorem dX11_readLaw_123 : decode cX11_readLaw 123 = .ok (.iadd, 1) := by decide +kernel
theorem dX11_readLaw_124 : decode cX11_readLaw 124 = .ok (.istore_n 1, 1) := by decide +kernel
theorem dX11_readLaw_125 : decode cX11_readLaw 125 = .ok (.goto (-123), 3) := by decide +kernel
theorem dX11_readLaw_128 : decode cX11_readLaw 128 = .ok (.aload_n 0, 1) := by decide +kernel
theorem dX11_readLaw_129 : decode cX11_readLaw 129 = .ok (.getfield 187, 3) := by decide +kernel
theorem dX11_readLaw_132 : decode cX11_readLaw 132 = .ok (.ifCond .ne 7, 3) := by decide +kernel
theorem dX11_readLaw_135 : decode cX11_readLaw 135 = .ok (.iload_n 1, 1) := by decide +kernel
theorem dX11_readLaw_136 : decode cX11_readLaw 136 = .ok (.goto 8, 3) := by decide +kernel
theorem dX11_readLaw_139 : decode cX11_readLaw 139 = .ok (.aload_n 0, 1) := by decide +kernel
theorem dX11_readLaw_140 : decode cX11_readLaw 140 = .ok (.iconst 1, 1) := by decide +kernel
theorem dX11_readLaw_141 : decode cX11_readLaw 141 = .ok (.invokevirtual 218, 3) := by decide +kernel
theorem dX11_readLaw_144 : decode cX11_readLaw 144 = .ok (.ireturn, 1) := by decide +kernel
def f_X11_readLaw_92  (k2 : Int32 × zHp → Option (Int32 × zHp)) (v1 : Int32) (v2 : Int32) (h : zHp) : Option (Int32 × zHp) := zix v2 48 (zlt (zst h 13 v2.toNatClampNeg (h 0 26)) fun h1 => (f_X11_isSign (59 : Int32) h1).bind fun x2 => (if x2.1 = 0 then (f_X11_errs (1 : Int32) x2.2).bind fun x3 => some (x3.1, x3.2) else (f_X11_reads x2.2).bind fun x4 => zlt (v1 + (1 : Int32)) fun x5 => k2 (x5, x4)))
set_option maxHeartbeats 4000000 in
set_option maxRecDepth 100000 in
theorem f_X11_readLaw_92_s  (k2 : Int32 × zHp → Option (Int32 × zHp)) (H2 : ∀ v : Int32 × zHp, Sim wM mX11_readLaw 8 rI 2 [(0, .ref 0), (1, .int v.1)] [] v.2 (k2 v)) (v1 : Int32) (v2 : Int32) (h : zHp) : Sim wM mX11_readLaw 8 rI 92 [(0, .ref 0), (1, .int v1), (2, .int v2)] [] h (f_X11_readLaw_92 k2 v1 v2 h) := by
  unfold f_X11_readLaw_92
  refine Sim.aload_n 0 dX11_readLaw_92 rfl ?_
  refine Sim.getR (j := 13) fl_X11_46 dX11_readLaw_93 mR_22 ?_
  refine Sim.iload_n 2 dX11_readLaw_96 rfl ?_
  refine Sim.aload_n 0 dX11_readLaw_97 rfl ?_
  refine Sim.getI fl_X11_212 dX11_readLaw_98 mI_26 ?_
  refine Sim.iast (n := 48) dX11_readLaw_101 mA_13 ?_
  refine Sim.lth (fun h1 => ?_)
  refine Sim.aload_n 0 dX11_readLaw_102 rfl ?_
  refine Sim.bipush (v := (59 : Int32)) dX11_readLaw_103 rfl ?_
  refine Sim.callV1I (d1 := 0) (s_X11_isSign (59 : Int32) h1) dX11_readLaw_105 ml_X11_231 mv_X11_isSign mC (Nat.le_of_ble_eq_true rfl) (Nat.le_of_ble_eq_true rfl) (Nat.le_of_ble_eq_true rfl) (fun x2 => ?_)
  refine Sim.if_ne 117 dX11_readLaw_108 rfl ?_ ?_
  · refine Sim.aload_n 0 dX11_readLaw_111 rfl ?_
    refine Sim.iconst (v := (1 : Int32)) dX11_readLaw_112 rfl ?_
    refine Sim.callV1I (d1 := 0) (s_X11_errs (1 : Int32) x2.2) dX11_readLaw_113 ml_X11_218 mv_X11_errs mC (Nat.le_of_ble_eq_true rfl) (Nat.le_of_ble_eq_true rfl) (Nat.le_of_ble_eq_true rfl) (fun x3 => ?_)
    exact Sim.iret dX11_readLaw_116 rfl
  · refine Sim.aload_n 0 dX11_readLaw_117 rfl ?_
    refine Sim.callV0U (d1 := 2) (s_X11_reads x2.2) dX11_readLaw_118 ml_X11_224 mv_X11_reads mC (Nat.le_of_ble_eq_true rfl) (Nat.le_of_ble_eq_true rfl) (Nat.le_of_ble_eq_true rfl) (fun x4 => ?_)
    refine Sim.iload_n 1 dX11_readLaw_121 rfl ?_
    refine Sim.iconst (v := (1 : Int32)) dX11_readLaw_122 rfl ?_
    refine Sim.iadd dX11_readLaw_123 ?_
    refine Sim.lti (fun x5 => ?_)
    refine Sim.istore_n (L' := [(1, .int x5), (0, .ref 0), (2, .int v2)]) dX11_readLaw_124 (Nat.le_of_ble_eq_true rfl) rfl ?_
    refine Sim.goto 2 dX11_readLaw_125 rfl ?_
    refine Sim.locs [1, 0] rfl ?_
    exact H2 (x5, x4)
def f_X11_readLaw_2  (k2 : Int32 × zHp → Option (Int32 × zHp)) (v1 : Int32) (h : zHp) : Option (Int32 × zHp) := (f_X11_isLineWord h).bind fun x1 => (if x1.1 = 0 then (if (x1.2 0 15) = 0 then some (v1, x1.2) else (f_X11_errs (1 : Int32) x1.2).bind fun x2 => some (x2.1, x2.2)) else (if v1 = (16 : Int32) then (f_X11_errs (3 : Int32) x1.2).bind fun x3 => some (x3.1, x3.2) else zlt ((32 : Int32) + v1) fun x4 => zix x4 48 (zlt (zst x1.2 10 x4.toNatClampNeg (x1.2 0 16)) fun h5 => (f_X11_reads h5).bind fun x6 => zix x4 48 (zlt (zst x6 11 x4.toNatClampNeg (x6 0 26)) fun h7 => (f_X11_readSum h7).bind fun x8 => (if x8.1 = (-1 : Int32) then some ((-1 : Int32), x8.2) else zix x4 48 (zlt (zst x8.2 12 x4.toNatClampNeg (x8.2 0 26)) fun h9 => (f_X11_isWord (3 : Int32) h9).bind fun x10 => (if x10.1 = 0 then f_X11_readLaw_92 k2 v1 x4 x10.2 else (f_X11_reads x10.2).bind fun x11 => (f_X11_readAny x11).bind fun x12 => (if x12.1 = (-1 : Int32) then some ((-1 : Int32), x12.2) else f_X11_readLaw_92 k2 v1 x4 x12.2))))))))
set_option maxHeartbeats 4000000 in
set_option maxRecDepth 100000 in
theorem f_X11_readLaw_2_s  (k2 : Int32 × zHp → Option (Int32 × zHp)) (H2 : ∀ v : Int32 × zHp, Sim wM mX11_readLaw 8 rI 2 [(0, .ref 0), (1, .int v.1)] [] v.2 (k2 v)) (v1 : Int32) (h : zHp) : Sim wM mX11_readLaw 8 rI 2 [(0, .ref 0), (1, .int v1)] [] h (f_X11_readLaw_2 k2 v1 h) := by
  unfold f_X11_readLaw_2
  refine Sim.aload_n 0 dX11_readLaw_2 rfl ?_
  refine Sim.callV0I (d1 := 1) (s_X11_isLineWord h) dX11_readLaw_3 ml_X11_258 mv_X11_isLineWord mC (Nat.le_of_ble_eq_true rfl) (Nat.le_of_ble_eq_true rfl) (Nat.le_of_ble_eq_true rfl) (fun x1 => ?_)
  refine Sim.if_eq 128 dX11_readLaw_6 rfl ?_ ?_
  · refine Sim.aload_n 0 dX11_readLaw_128 rfl ?_
    refine Sim.getI fl_X11_187 dX11_readLaw_129 mI_15 ?_
    refine Sim.if_ne 139 dX11_readLaw_132 rfl ?_ ?_
    · refine Sim.iload_n 1 dX11_readLaw_135 rfl ?_
      refine Sim.goto 144 dX11_readLaw_136 rfl ?_
      exact Sim.iret dX11_readLaw_144 rfl
    · refine Sim.aload_n 0 dX11_readLaw_139 rfl ?_
      refine Sim.iconst (v := (1 : Int32)) dX11_readLaw_140 rfl ?_
      refine Sim.callV1I (d1 := 0) (s_X11_errs (1 : Int32) x1.2) dX11_readLaw_141 ml_X11_218 mv_X11_errs mC (Nat.le_of_ble_eq_true rfl) (Nat.le_of_ble_eq_true rfl) (Nat.le_of_ble_eq_true rfl) (fun x2 => ?_)
      exact Sim.iret dX11_readLaw_144 rfl
  · refine Sim.iload_n 1 dX11_readLaw_9 rfl ?_
    refine Sim.bipush (v := (16 : Int32)) dX11_readLaw_10 rfl ?_
    refine Sim.icmp_ne 21 dX11_readLaw_12 rfl ?_ ?_
    · refine Sim.aload_n 0 dX11_readLaw_15 rfl ?_
      refine Sim.iconst (v := (3 : Int32)) dX11_readLaw_16 rfl ?_
      refine Sim.callV1I (d1 := 0) (s_X11_errs (3 : Int32) x1.2) dX11_readLaw_17 ml_X11_218 mv_X11_errs mC (Nat.le_of_ble_eq_true rfl) (Nat.le_of_ble_eq_true rfl) (Nat.le_of_ble_eq_true rfl) (fun x3 => ?_)
      exact Sim.iret dX11_readLaw_20 rfl
    · refine Sim.bipush (v := (32 : Int32)) dX11_readLaw_21 rfl ?_
      refine Sim.iload_n 1 dX11_readLaw_23 rfl ?_
      refine Sim.iadd dX11_readLaw_24 ?_
      refine Sim.lti (fun x4 => ?_)
      refine Sim.istore_n (L' := [(2, .int x4), (0, .ref 0), (1, .int v1)]) dX11_readLaw_25 (Nat.le_of_ble_eq_true rfl) rfl ?_
      refine Sim.aload_n 1 dX11_readLaw_26 rfl ?_
      refine Sim.getR (j := 10) fl_X11_37 dX11_readLaw_27 mR_19 ?_
      refine Sim.iload_n 0 dX11_readLaw_30 rfl ?_
      refine Sim.aload_n 1 dX11_readLaw_31 rfl ?_
      refine Sim.getI fl_X11_190 dX11_readLaw_32 mI_16 ?_
      refine Sim.iast (n := 48) dX11_readLaw_35 mA_10 ?_
      refine Sim.lth (fun h5 => ?_)
      refine Sim.aload_n 1 dX11_readLaw_36 rfl ?_
      refine Sim.callV0U (d1 := 2) (s_X11_reads h5) dX11_readLaw_37 ml_X11_224 mv_X11_reads mC (Nat.le_of_ble_eq_true rfl) (Nat.le_of_ble_eq_true rfl) (Nat.le_of_ble_eq_true rfl) (fun x6 => ?_)
      refine Sim.aload_n 1 dX11_readLaw_40 rfl ?_
      refine Sim.getR (j := 11) fl_X11_40 dX11_readLaw_41 mR_20 ?_
      refine Sim.iload_n 0 dX11_readLaw_44 rfl ?_
      refine Sim.aload_n 1 dX11_readLaw_45 rfl ?_
      refine Sim.getI fl_X11_212 dX11_readLaw_46 mI_26 ?_
      refine Sim.iast (n := 48) dX11_readLaw_49 mA_11 ?_
      refine Sim.lth (fun h7 => ?_)
      refine Sim.aload_n 1 dX11_readLaw_50 rfl ?_
      refine Sim.callV0I (d1 := 5) (s_X11_readSum h7) dX11_readLaw_51 ml_X11_237 mv_X11_readSum mC (Nat.le_of_ble_eq_true rfl) (Nat.le_of_ble_eq_true rfl) (Nat.le_of_ble_eq_true rfl) (fun x8 => ?_)
      refine Sim.iconst (v := (-1 : Int32)) dX11_readLaw_54 rfl ?_
      refine Sim.icmp_ne 60 dX11_readLaw_55 rfl ?_ ?_
      · refine Sim.iconst (v := (-1 : Int32)) dX11_readLaw_58 rfl ?_
        exact Sim.iret dX11_readLaw_59 rfl
      · refine Sim.aload_n 1 dX11_readLaw_60 rfl ?_
        refine Sim.getR (j := 12) fl_X11_43 dX11_readLaw_61 mR_21 ?_
        refine Sim.iload_n 0 dX11_readLaw_64 rfl ?_
        refine Sim.aload_n 1 dX11_readLaw_65 rfl ?_
        refine Sim.getI fl_X11_212 dX11_readLaw_66 mI_26 ?_
        refine Sim.iast (n := 48) dX11_readLaw_69 mA_12 ?_
        refine Sim.lth (fun h9 => ?_)
        refine Sim.aload_n 1 dX11_readLaw_70 rfl ?_
        refine Sim.iconst (v := (3 : Int32)) dX11_readLaw_71 rfl ?_
        refine Sim.callV1I (d1 := 0) (s_X11_isWord (3 : Int32) h9) dX11_readLaw_72 ml_X11_246 mv_X11_isWord mC (Nat.le_of_ble_eq_true rfl) (Nat.le_of_ble_eq_true rfl) (Nat.le_of_ble_eq_true rfl) (fun x10 => ?_)
        refine Sim.if_eq 92 dX11_readLaw_75 rfl ?_ ?_
        · refine Sim.locs [1, 2, 0] rfl ?_
          exact f_X11_readLaw_92_s k2 H2 v1 x4 x10.2
        · refine Sim.aload_n 1 dX11_readLaw_78 rfl ?_
          refine Sim.callV0U (d1 := 2) (s_X11_reads x10.2) dX11_readLaw_79 ml_X11_224 mv_X11_reads mC (Nat.le_of_ble_eq_true rfl) (Nat.le_of_ble_eq_true rfl) (Nat.le_of_ble_eq_true rfl) (fun x11 => ?_)
          refine Sim.aload_n 1 dX11_readLaw_82 rfl ?_
          refine Sim.callV0I (d1 := 7) (s_X11_readAny x11) dX11_readLaw_83 ml_X11_262 mv_X11_readAny mC (Nat.le_of_ble_eq_true rfl) (Nat.le_of_ble_eq_true rfl) (Nat.le_of_ble_eq_true rfl) (fun x12 => ?_)
          refine Sim.iconst (v := (-1 : Int32)) dX11_readLaw_86 rfl ?_
          refine Sim.icmp_ne 92 dX11_readLaw_87 rfl ?_ ?_
          · refine Sim.iconst (v := (-1 : Int32)) dX11_readLaw_90 rfl ?_
            exact Sim.iret dX11_readLaw_91 rfl
          · refine Sim.locs [1, 2, 0] rfl ?_
            exact f_X11_readLaw_92_s k2 H2 v1 x4 x12.2
def f_X11_readLaw_2_lp   (n : Nat) (v : Int32 × zHp) : Option (Int32 × zHp) := zlp (fun k2 v => f_X11_readLaw_2 k2 v.1 v.2) n v
theorem f_X11_readLaw_2_ls  (n : Nat) (v : Int32 × zHp) : Sim wM mX11_readLaw 8 rI 2 [(0, .ref 0), (1, .int v.1)] [] v.2 (f_X11_readLaw_2_lp n v) :=
  Sim.lp (V := Int32 × zHp) (Lf := fun v => [(0, .ref 0), (1, .int v.1)]) (sf := fun v => []) (hf := fun v => v.2) (fun k2 H2 v => f_X11_readLaw_2_s k2 H2 v.1 v.2) n v
def f_X11_readLaw   (h : zHp) : Option (Int32 × zHp) := f_X11_readLaw_2_lp  zN ((0 : Int32), h)
set_option maxHeartbeats 4000000 in
set_option maxRecDepth 100000 in
theorem s_X11_readLaw   (h : zHp) : Fn wM mX11_readLaw 8 rI [.ref 0] h (f_X11_readLaw  h) := by
  refine Fn.of rfl (Nat.le_of_ble_eq_true rfl) ?_
  unfold f_X11_readLaw
  refine Sim.iconst (v := (0 : Int32)) dX11_readLaw_0 rfl ?_
  refine Sim.istore_n (L' := [(1, .int (0 : Int32)), (0, .ref 0)]) dX11_readLaw_1 (Nat.le_of_ble_eq_true rfl) rfl ?_
  refine Sim.locs [1, 0] rfl ?_
  exact f_X11_readLaw_2_ls  zN ((0 : Int32), h)
theorem mv_X11_readLaw : zMV mX11_readLaw 0 := ⟨⟨zTb_in 1646 (by decide +kernel) rfl, zTb_in 148 (by decide +kernel) rfl, ⟨by decide +kernel, by decide +kernel⟩, by decide +kernel⟩, zTb_in 1645 (by decide +kernel) rfl, zTb_in 65 (by decide +kernel) rfl⟩
-- ===== RockingPorchModel.takesLaw(I)V
abbrev mX11_takesLaw : zMt := (yX11_takesLaw, cX11_takesLaw, 3, none)
theorem fl_X11_265 : zF RX11 265 11 25 := ⟨RX11, TX11, 69, rfl, Nat.le_of_ble_eq_true rfl, zTb_in 1324 (by decide +kernel) rfl, in_X11⟩
theorem fl_X11_34 : zF RX11 34 11 18 := ⟨RX11, TX11, 69, rfl, Nat.le_of_ble_eq_true rfl, zTb_in 1317 (by decide +kernel) rfl, in_X11⟩
theorem dX11_takesLaw_0 : decode cX11_takesLaw 0 = .ok (.iconst 0, 1) := by decide +kernel
theorem dX11_takesLaw_1 : decode cX11_takesLaw 1 = .ok (.istore_n 2, 1) := by decide +kernel
theorem dX11_takesLaw_2 : decode cX11_takesLaw 2 = .ok (.iload_n 2, 1) := by decide +kernel
theorem dX11_takesLaw_3 : decode cX11_takesLaw 3 = .ok (.iload_n 1, 1) := by decide +kernel
theorem dX11_takesLaw_4 : decode cX11_takesLaw 4 = .ok (.if_icmp .ge 101, 3) := by decide +kernel
theorem dX11_takesLaw_7 : decode cX11_takesLaw 7 = .ok (.aload_n 0, 1) := by decide +kernel
theorem dX11_takesLaw_8 : decode cX11_takesLaw 8 = .ok (.getfield 37, 3) := by decide +kernel
theorem dX11_takesLaw_11 : decode cX11_takesLaw 11 = .ok (.bipush 16, 2) := by decide +kernel
theorem dX11_takesLaw_13 : decode cX11_takesLaw 13 = .ok (.aload_n 0, 1) := by decide +kernel
theorem dX11_takesLaw_14 : decode cX11_takesLaw 14 = .ok (.getfield 265, 3) := by decide +kernel
theorem dX11_takesLaw_17 : decode cX11_takesLaw 17 = .ok (.imul, 1) := by decide +kernel
theorem dX11_takesLaw_18 : decode cX11_takesLaw 18 = .ok (.iload_n 2, 1) := by decide +kernel
theorem dX11_takesLaw_19 : decode cX11_takesLaw 19 = .ok (.iadd, 1) := by decide +kernel
theorem dX11_takesLaw_20 : decode cX11_takesLaw 20 = .ok (.aload_n 0, 1) := by decide +kernel
theorem dX11_takesLaw_21 : decode cX11_takesLaw 21 = .ok (.getfield 37, 3) := by decide +kernel
theorem dX11_takesLaw_24 : decode cX11_takesLaw 24 = .ok (.bipush 32, 2) := by decide +kernel
theorem dX11_takesLaw_26 : decode cX11_takesLaw 26 = .ok (.iload_n 2, 1) := by decide +kernel
theorem dX11_takesLaw_27 : decode cX11_takesLaw 27 = .ok (.iadd, 1) := by decide +kernel
theorem dX11_takesLaw_28 : decode cX11_takesLaw 28 = .ok (.iaload, 1) := by decide +kernel
theorem dX11_takesLaw_29 : decode cX11_takesLaw 29 = .ok (.iastore, 1) := by decide +kernel
theorem dX11_takesLaw_30 : decode cX11_takesLaw 30 = .ok (.aload_n 0, 1) := by decide +kernel
theorem dX11_takesLaw_31 : decode cX11_takesLaw 31 = .ok (.getfield 40, 3) := by decide +kernel
theorem dX11_takesLaw_34 : decode cX11_takesLaw 34 = .ok (.bipush 16, 2) := by decide +kernel
theorem dX11_takesLaw_36 : decode cX11_takesLaw 36 = .ok (.aload_n 0, 1) := by decide +kernel
theorem dX11_takesLaw_37 : decode cX11_takesLaw 37 = .ok (.getfield 265, 3) := by decide +kernel
theorem dX11_takesLaw_40 : decode cX11_takesLaw 40 = .ok (.imul, 1) := by decide +kernel
theorem dX11_takesLaw_41 : decode cX11_takesLaw 41 = .ok (.iload_n 2, 1) := by decide +kernel
theorem dX11_takesLaw_42 : decode cX11_takesLaw 42 = .ok (.iadd, 1) := by decide +kernel
theorem dX11_takesLaw_43 : decode cX11_takesLaw 43 = .ok (.aload_n 0, 1) := by decide +kernel
theorem dX11_takesLaw_44 : decode cX11_takesLaw 44 = .ok (.getfield 40, 3) := by decide +kernel
theorem dX11_takesLaw_47 : decode cX11_takesLaw 47 = .ok (.bipush 32, 2) := by decide +kernel
theorem dX11_takesLaw_49 : decode cX11_takesLaw 49 = .ok (.iload_n 2, 1) := by decide +kernel
theorem dX11_takesLaw_50 : decode cX11_takesLaw 50 = .ok (.iadd, 1) := by decide +kernel
theorem dX11_takesLaw_51 : decode cX11_takesLaw 51 = .ok (.iaload, 1) := by decide +kernel
theorem dX11_takesLaw_52 : decode cX11_takesLaw 52 = .ok (.iastore, 1) := by decide +kernel
theorem dX11_takesLaw_53 : decode cX11_takesLaw 53 = .ok (.aload_n 0, 1) := by decide +kernel
theorem dX11_takesLaw_54 : decode cX11_takesLaw 54 = .ok (.getfield 43, 3) := by decide +kernel
theorem dX11_takesLaw_57 : decode cX11_takesLaw 57 = .ok (.bipush 16, 2) := by decide +kernel
theorem dX11_takesLaw_59 : decode cX11_takesLaw 59 = .ok (.aload_n 0, 1) := by decide +kernel
theorem dX11_takesLaw_60 : decode cX11_takesLaw 60 = .ok (.getfield 265, 3) := by decide +kernel
theorem dX11_takesLaw_63 : decode cX11_takesLaw 63 = .ok (.imul, 1) := by decide +kernel
theorem dX11_takesLaw_64 : decode cX11_takesLaw 64 = .ok (.iload_n 2, 1) := by decide +kernel
theorem dX11_takesLaw_65 : decode cX11_takesLaw 65 = .ok (.iadd, 1) := by decide +kernel
theorem dX11_takesLaw_66 : decode cX11_takesLaw 66 = .ok (.aload_n 0, 1) := by decide +kernel
theorem dX11_takesLaw_67 : decode cX11_takesLaw 67 = .ok (.getfield 43, 3) := by decide +kernel
theorem dX11_takesLaw_70 : decode cX11_takesLaw 70 = .ok (.bipush 32, 2) := by decide +kernel
theorem dX11_takesLaw_72 : decode cX11_takesLaw 72 = .ok (.iload_n 2, 1) := by decide +kernel
theorem dX11_takesLaw_73 : decode cX11_takesLaw 73 = .ok (.iadd, 1) := by decide +kernel
theorem dX11_takesLaw_74 : decode cX11_takesLaw 74 = .ok (.iaload, 1) := by decide +kernel
theorem dX11_takesLaw_75 : decode cX11_takesLaw 75 = .ok (.iastore, 1) := by decide +kernel
theorem dX11_takesLaw_76 : decode cX11_takesLaw 76 = .ok (.aload_n 0, 1) := by decide +kernel
theorem dX11_takesLaw_77 : decode cX11_takesLaw 77 = .ok (.getfield 46, 3) := by decide +kernel
theorem dX11_takesLaw_80 : decode cX11_takesLaw 80 = .ok (.bipush 16, 2) := by decide +kernel
theorem dX11_takesLaw_82 : decode cX11_takesLaw 82 = .ok (.aload_n 0, 1) := by decide +kernel
theorem dX11_takesLaw_83 : decode cX11_takesLaw 83 = .ok (.getfield 265, 3) := by decide +kernel
theorem dX11_takesLaw_86 : decode cX11_takesLaw 86 = .ok (.imul, 1) := by decide +kernel
theorem dX11_takesLaw_87 : decode cX11_takesLaw 87 = .ok (.iload_n 2, 1) := by decide +kernel
theorem dX11_takesLaw_88 : decode cX11_takesLaw 88 = .ok (.iadd, 1) := by decide +kernel
theorem dX11_takesLaw_89 : decode cX11_takesLaw 89 = .ok (.aload_n 0, 1) := by decide +kernel
theorem dX11_takesLaw_90 : decode cX11_takesLaw 90 = .ok (.getfield 46, 3) := by decide +kernel
theorem dX11_takesLaw_93 : decode cX11_takesLaw 93 = .ok (.bipush 32, 2) := by decide +kernel
theorem dX11_takesLaw_95 : decode cX11_takesLaw 95 = .ok (.iload_n 2, 1) := by decide +kernel
theorem dX11_takesLaw_96 : decode cX11_takesLaw 96 = .ok (.iadd, 1) := by decide +kernel
theorem dX11_takesLaw_97 : decode cX11_takesLaw 97 = .ok (.iaload, 1) := by decide +kernel
theorem dX11_takesLaw_98 : decode cX11_takesLaw 98 = .ok (.iastore, 1) := by decide +kernel
theorem dX11_takesLaw_99 : decode cX11_takesLaw 99 = .ok (.iinc 2 1, 3) := by decide +kernel
theorem dX11_takesLaw_102 : decode cX11_takesLaw 102 = .ok (.goto (-100), 3) := by decide +kernel
theorem dX11_takesLaw_105 : decode cX11_takesLaw 105 = .ok (.iconst 0, 1) := by decide +kernel
theorem dX11_takesLaw_106 : decode cX11_takesLaw 106 = .ok (.istore_n 2, 1) := by decide +kernel
theorem dX11_takesLaw_107 : decode cX11_takesLaw 107 = .ok (.iload_n 2, 1) := by decide +kernel
theorem dX11_takesLaw_108 : decode cX11_takesLaw 108 = .ok (.aload_n 0, 1) := by decide +kernel
theorem dX11_takesLaw_109 : decode cX11_takesLaw 109 = .ok (.getfield 212, 3) := by decide +kernel
theorem dX11_takesLaw_112 : decode cX11_takesLaw 112 = .ok (.if_icmp .ge 59, 3) := by decide +kernel
theorem dX11_takesLaw_115 : decode cX11_takesLaw 115 = .ok (.aload_n 0, 1) := by decide +kernel
theorem dX11_takesLaw_116 : decode cX11_takesLaw 116 = .ok (.getfield 49, 3) := by decide +kernel
theorem dX11_takesLaw_119 : decode cX11_takesLaw 119 = .ok (.sipush 400, 3) := by decide +kernel
theorem dX11_takesLaw_122 : decode cX11_takesLaw 122 = .ok (.aload_n 0, 1) := by decide +kernel
theorem dX11_takesLaw_123 : decode cX11_takesLaw 123 = .ok (.getfield 265, 3) := by decide +kernel
theorem dX11_takesLaw_126 : decode cX11_takesLaw 126 = .ok (.imul, 1) := by decide +kernel
theorem dX11_takesLaw_127 : decode cX11_takesLaw 127 = .ok (.iload_n 2, 1) := by decide +kernel
theorem dX11_takesLaw_128 : decode cX11_takesLaw 128 = .ok (.iadd, 1) := by decide +kernel
theorem dX11_takesLaw_129 : decode cX11_takesLaw 129 = .ok (.aload_n 0, 1) := by decide +kernel
theorem dX11_takesLaw_130 : decode cX11_takesLaw 130 = .ok (.getfield 49, 3) := by decide +kernel
theorem dX11_takesLaw_133 : decode cX11_takesLaw 133 = .ok (.sipush 800, 3) := by decide +kernel
theorem dX11_takesLaw_136 : decode cX11_takesLaw 136 = .ok (.iload_n 2, 1) := by decide +kernel
theorem dX11_takesLaw_137 : decode cX11_takesLaw 137 = .ok (.iadd, 1) := by decide +kernel
theorem dX11_takesLaw_138 : decode cX11_takesLaw 138 = .ok (.iaload, 1) := by decide +kernel
theorem dX11_takesLaw_139 : decode cX11_takesLaw 139 = .ok (.iastore, 1) := by decide +kernel
theorem dX11_takesLaw_140 : decode cX11_takesLaw 140 = .ok (.aload_n 0, 1) := by decide +kernel
theorem dX11_takesLaw_141 : decode cX11_takesLaw 141 = .ok (.getfield 52, 3) := by decide +kernel
theorem dX11_takesLaw_144 : decode cX11_takesLaw 144 = .ok (.sipush 400, 3) := by decide +kernel
theorem dX11_takesLaw_147 : decode cX11_takesLaw 147 = .ok (.aload_n 0, 1) := by decide +kernel
theorem dX11_takesLaw_148 : decode cX11_takesLaw 148 = .ok (.getfield 265, 3) := by decide +kernel
theorem dX11_takesLaw_151 : decode cX11_takesLaw 151 = .ok (.imul, 1) := by decide +kernel
theorem dX11_takesLaw_152 : decode cX11_takesLaw 152 = .ok (.iload_n 2, 1) := by decide +kernel
theorem dX11_takesLaw_153 : decode cX11_takesLaw 153 = .ok (.iadd, 1) := by decide +kernel
theorem dX11_takesLaw_154 : decode cX11_takesLaw 154 = .ok (.aload_n 0, 1) := by decide +kernel
theorem dX11_takesLaw_155 : decode cX11_takesLaw 155 = .ok (.getfield 52, 3) := by decide +kernel
theorem dX11_takesLaw_158 : decode cX11_takesLaw 158 = .ok (.sipush 800, 3) := by decide +kernel
theorem dX11_takesLaw_161 : decode cX11_takesLaw 161 = .ok (.iload_n 2, 1) := by decide +kernel
theorem dX11_takesLaw_162 : decode cX11_takesLaw 162 = .ok (.iadd, 1) := by decide +kernel
theorem dX11_takesLaw_163 : decode cX11_takesLaw 163 = .ok (.iaload, 1) := by decide +kernel
theorem dX11_takesLaw_164 : decode cX11_takesLaw 164 = .ok (.iastore, 1) := by decide +kernel
theorem dX11_takesLaw_165 : decode cX11_takesLaw 165 = .ok (.iinc 2 1, 3) := by decide +kernel
theorem dX11_takesLaw_168 : decode cX11_takesLaw 168 = .ok (.goto (-61), 3) := by decide +kernel
theorem dX11_takesLaw_171 : decode cX11_takesLaw 171 = .ok (.aload_n 0, 1) := by decide +kernel
theorem dX11_takesLaw_172 : decode cX11_takesLaw 172 = .ok (.getfield 34, 3) := by decide +kernel
theorem dX11_takesLaw_175 : decode cX11_takesLaw 175 = .ok (.aload_n 0, 1) := by decide +kernel
theorem dX11_takesLaw_176 : decode cX11_takesLaw 176 = .ok (.getfield 265, 3) := by decide +kernel
theorem dX11_takesLaw_179 : decode cX11_takesLaw 179 = .ok (.iload_n 1, 1) := by decide +kernel
theorem dX11_takesLaw_180 : decode cX11_takesLaw 180 = .ok (.iastore, 1) := by decide +kernel
theorem dX11_takesLaw_181 : decode cX11_takesLaw 181 = .ok (.return_, 1) := by decide +kernel
def f_X11_takesLaw_107  (k107 : Int32 × Int32 × zHp → Option (zHp)) (v1 : Int32) (v2 : Int32) (h : zHp) : Option (zHp) := (if v2 < (h 0 26) then zix ((800 : Int32) + v2) 1200 (zix (((400 : Int32) * (h 0 25)) + v2) 1200 (zlt (zst h 14 (((400 : Int32) * (h 0 25)) + v2).toNatClampNeg (h 14 ((800 : Int32) + v2).toNatClampNeg)) fun h1 => zix ((800 : Int32) + v2) 1200 (zix (((400 : Int32) * (h1 0 25)) + v2) 1200 (zlt (zst h1 15 (((400 : Int32) * (h1 0 25)) + v2).toNatClampNeg (h1 15 ((800 : Int32) + v2).toNatClampNeg)) fun h2 => k107 (v1, (v2 + (1 : Int32)), h2))))) else zix (h 0 25) 2 (zlt (zst h 9 (h 0 25).toNatClampNeg v1) fun h3 => some h3))
set_option maxHeartbeats 4000000 in
set_option maxRecDepth 100000 in
theorem f_X11_takesLaw_107_s  (k107 : Int32 × Int32 × zHp → Option (zHp)) (H107 : ∀ v : Int32 × Int32 × zHp, Sim wM mX11_takesLaw 0 rV 107 [(0, .ref 0), (1, .int v.1), (2, .int v.2.1)] [] v.2.2 (k107 v)) (v1 : Int32) (v2 : Int32) (h : zHp) : Sim wM mX11_takesLaw 0 rV 107 [(0, .ref 0), (1, .int v1), (2, .int v2)] [] h (f_X11_takesLaw_107 k107 v1 v2 h) := by
  unfold f_X11_takesLaw_107
  refine Sim.iload_n 2 dX11_takesLaw_107 rfl ?_
  refine Sim.aload_n 0 dX11_takesLaw_108 rfl ?_
  refine Sim.getI fl_X11_212 dX11_takesLaw_109 mI_26 ?_
  refine Sim.icmp_ge 171 dX11_takesLaw_112 rfl ?_ ?_
  · refine Sim.aload_n 0 dX11_takesLaw_115 rfl ?_
    refine Sim.getR (j := 14) fl_X11_49 dX11_takesLaw_116 mR_23 ?_
    refine Sim.sipush (v := (400 : Int32)) dX11_takesLaw_119 rfl ?_
    refine Sim.aload_n 0 dX11_takesLaw_122 rfl ?_
    refine Sim.getI fl_X11_265 dX11_takesLaw_123 mI_25 ?_
    refine Sim.imul dX11_takesLaw_126 ?_
    refine Sim.iload_n 2 dX11_takesLaw_127 rfl ?_
    refine Sim.iadd dX11_takesLaw_128 ?_
    refine Sim.aload_n 0 dX11_takesLaw_129 rfl ?_
    refine Sim.getR (j := 14) fl_X11_49 dX11_takesLaw_130 mR_23 ?_
    refine Sim.sipush (v := (800 : Int32)) dX11_takesLaw_133 rfl ?_
    refine Sim.iload_n 2 dX11_takesLaw_136 rfl ?_
    refine Sim.iadd dX11_takesLaw_137 ?_
    refine Sim.iald (n := 1200) dX11_takesLaw_138 mA_14 ?_
    refine Sim.iast (n := 1200) dX11_takesLaw_139 mA_14 ?_
    refine Sim.lth (fun h1 => ?_)
    refine Sim.aload_n 0 dX11_takesLaw_140 rfl ?_
    refine Sim.getR (j := 15) fl_X11_52 dX11_takesLaw_141 mR_24 ?_
    refine Sim.sipush (v := (400 : Int32)) dX11_takesLaw_144 rfl ?_
    refine Sim.aload_n 0 dX11_takesLaw_147 rfl ?_
    refine Sim.getI fl_X11_265 dX11_takesLaw_148 mI_25 ?_
    refine Sim.imul dX11_takesLaw_151 ?_
    refine Sim.iload_n 2 dX11_takesLaw_152 rfl ?_
    refine Sim.iadd dX11_takesLaw_153 ?_
    refine Sim.aload_n 0 dX11_takesLaw_154 rfl ?_
    refine Sim.getR (j := 15) fl_X11_52 dX11_takesLaw_155 mR_24 ?_
    refine Sim.sipush (v := (800 : Int32)) dX11_takesLaw_158 rfl ?_
    refine Sim.iload_n 2 dX11_takesLaw_161 rfl ?_
    refine Sim.iadd dX11_takesLaw_162 ?_
    refine Sim.iald (n := 1200) dX11_takesLaw_163 mA_15 ?_
    refine Sim.iast (n := 1200) dX11_takesLaw_164 mA_15 ?_
    refine Sim.lth (fun h2 => ?_)
    refine Sim.iinc (L' := [(2, .int (v2 + (1 : Int32))), (0, .ref 0), (1, .int v1)]) 2 dX11_takesLaw_165 rfl rfl (Nat.le_of_ble_eq_true rfl) rfl ?_
    refine Sim.goto 107 dX11_takesLaw_168 rfl ?_
    refine Sim.locs [1, 2, 0] rfl ?_
    exact H107 (v1, (v2 + (1 : Int32)), h2)
  · refine Sim.aload_n 0 dX11_takesLaw_171 rfl ?_
    refine Sim.getR (j := 9) fl_X11_34 dX11_takesLaw_172 mR_18 ?_
    refine Sim.aload_n 0 dX11_takesLaw_175 rfl ?_
    refine Sim.getI fl_X11_265 dX11_takesLaw_176 mI_25 ?_
    refine Sim.iload_n 1 dX11_takesLaw_179 rfl ?_
    refine Sim.iast (n := 2) dX11_takesLaw_180 mA_9 ?_
    refine Sim.lth (fun h3 => ?_)
    exact Sim.vret dX11_takesLaw_181 rfl
def f_X11_takesLaw_107_lp   (n : Nat) (v : Int32 × Int32 × zHp) : Option (zHp) := zlp (fun k107 v => f_X11_takesLaw_107 k107 v.1 v.2.1 v.2.2) n v
theorem f_X11_takesLaw_107_ls  (n : Nat) (v : Int32 × Int32 × zHp) : Sim wM mX11_takesLaw 0 rV 107 [(0, .ref 0), (1, .int v.1), (2, .int v.2.1)] [] v.2.2 (f_X11_takesLaw_107_lp n v) :=
  Sim.lp (V := Int32 × Int32 × zHp) (Lf := fun v => [(0, .ref 0), (1, .int v.1), (2, .int v.2.1)]) (sf := fun v => []) (hf := fun v => v.2.2) (fun k107 H107 v => f_X11_takesLaw_107_s k107 H107 v.1 v.2.1 v.2.2) n v
def f_X11_takesLaw_2  (k2 : Int32 × Int32 × zHp → Option (zHp)) (v1 : Int32) (v2 : Int32) (h : zHp) : Option (zHp) := (if v2 < v1 then zix ((32 : Int32) + v2) 48 (zix (((16 : Int32) * (h 0 25)) + v2) 48 (zlt (zst h 10 (((16 : Int32) * (h 0 25)) + v2).toNatClampNeg (h 10 ((32 : Int32) + v2).toNatClampNeg)) fun h1 => zix ((32 : Int32) + v2) 48 (zix (((16 : Int32) * (h1 0 25)) + v2) 48 (zlt (zst h1 11 (((16 : Int32) * (h1 0 25)) + v2).toNatClampNeg (h1 11 ((32 : Int32) + v2).toNatClampNeg)) fun h2 => zix ((32 : Int32) + v2) 48 (zix (((16 : Int32) * (h2 0 25)) + v2) 48 (zlt (zst h2 12 (((16 : Int32) * (h2 0 25)) + v2).toNatClampNeg (h2 12 ((32 : Int32) + v2).toNatClampNeg)) fun h3 => zix ((32 : Int32) + v2) 48 (zix (((16 : Int32) * (h3 0 25)) + v2) 48 (zlt (zst h3 13 (((16 : Int32) * (h3 0 25)) + v2).toNatClampNeg (h3 13 ((32 : Int32) + v2).toNatClampNeg)) fun h4 => k2 (v1, (v2 + (1 : Int32)), h4))))))))) else f_X11_takesLaw_107_lp  zN (v1, (0 : Int32), h))
set_option maxHeartbeats 4000000 in
set_option maxRecDepth 100000 in
theorem f_X11_takesLaw_2_s  (k2 : Int32 × Int32 × zHp → Option (zHp)) (H2 : ∀ v : Int32 × Int32 × zHp, Sim wM mX11_takesLaw 0 rV 2 [(0, .ref 0), (1, .int v.1), (2, .int v.2.1)] [] v.2.2 (k2 v)) (v1 : Int32) (v2 : Int32) (h : zHp) : Sim wM mX11_takesLaw 0 rV 2 [(0, .ref 0), (1, .int v1), (2, .int v2)] [] h (f_X11_takesLaw_2 k2 v1 v2 h) := by
  unfold f_X11_takesLaw_2
  refine Sim.iload_n 2 dX11_takesLaw_2 rfl ?_
  refine Sim.iload_n 1 dX11_takesLaw_3 rfl ?_
  refine Sim.icmp_ge 105 dX11_takesLaw_4 rfl ?_ ?_
  · refine Sim.aload_n 0 dX11_takesLaw_7 rfl ?_
    refine Sim.getR (j := 10) fl_X11_37 dX11_takesLaw_8 mR_19 ?_
    refine Sim.bipush (v := (16 : Int32)) dX11_takesLaw_11 rfl ?_
    refine Sim.aload_n 0 dX11_takesLaw_13 rfl ?_
    refine Sim.getI fl_X11_265 dX11_takesLaw_14 mI_25 ?_
    refine Sim.imul dX11_takesLaw_17 ?_
    refine Sim.iload_n 2 dX11_takesLaw_18 rfl ?_
    refine Sim.iadd dX11_takesLaw_19 ?_
    refine Sim.aload_n 0 dX11_takesLaw_20 rfl ?_
    refine Sim.getR (j := 10) fl_X11_37 dX11_takesLaw_21 mR_19 ?_
    refine Sim.bipush (v := (32 : Int32)) dX11_takesLaw_24 rfl ?_
    refine Sim.iload_n 2 dX11_takesLaw_26 rfl ?_
    refine Sim.iadd dX11_takesLaw_27 ?_
    refine Sim.iald (n := 48) dX11_takesLaw_28 mA_10 ?_
    refine Sim.iast (n := 48) dX11_takesLaw_29 mA_10 ?_
    refine Sim.lth (fun h1 => ?_)
    refine Sim.aload_n 0 dX11_takesLaw_30 rfl ?_
    refine Sim.getR (j := 11) fl_X11_40 dX11_takesLaw_31 mR_20 ?_
    refine Sim.bipush (v := (16 : Int32)) dX11_takesLaw_34 rfl ?_
    refine Sim.aload_n 0 dX11_takesLaw_36 rfl ?_
    refine Sim.getI fl_X11_265 dX11_takesLaw_37 mI_25 ?_
    refine Sim.imul dX11_takesLaw_40 ?_
    refine Sim.iload_n 2 dX11_takesLaw_41 rfl ?_
    refine Sim.iadd dX11_takesLaw_42 ?_
    refine Sim.aload_n 0 dX11_takesLaw_43 rfl ?_
    refine Sim.getR (j := 11) fl_X11_40 dX11_takesLaw_44 mR_20 ?_
    refine Sim.bipush (v := (32 : Int32)) dX11_takesLaw_47 rfl ?_
    refine Sim.iload_n 2 dX11_takesLaw_49 rfl ?_
    refine Sim.iadd dX11_takesLaw_50 ?_
    refine Sim.iald (n := 48) dX11_takesLaw_51 mA_11 ?_
    refine Sim.iast (n := 48) dX11_takesLaw_52 mA_11 ?_
    refine Sim.lth (fun h2 => ?_)
    refine Sim.aload_n 0 dX11_takesLaw_53 rfl ?_
    refine Sim.getR (j := 12) fl_X11_43 dX11_takesLaw_54 mR_21 ?_
    refine Sim.bipush (v := (16 : Int32)) dX11_takesLaw_57 rfl ?_
    refine Sim.aload_n 0 dX11_takesLaw_59 rfl ?_
    refine Sim.getI fl_X11_265 dX11_takesLaw_60 mI_25 ?_
    refine Sim.imul dX11_takesLaw_63 ?_
    refine Sim.iload_n 2 dX11_takesLaw_64 rfl ?_
    refine Sim.iadd dX11_takesLaw_65 ?_
    refine Sim.aload_n 0 dX11_takesLaw_66 rfl ?_
    refine Sim.getR (j := 12) fl_X11_43 dX11_takesLaw_67 mR_21 ?_
    refine Sim.bipush (v := (32 : Int32)) dX11_takesLaw_70 rfl ?_
    refine Sim.iload_n 2 dX11_takesLaw_72 rfl ?_
    refine Sim.iadd dX11_takesLaw_73 ?_
    refine Sim.iald (n := 48) dX11_takesLaw_74 mA_12 ?_
    refine Sim.iast (n := 48) dX11_takesLaw_75 mA_12 ?_
    refine Sim.lth (fun h3 => ?_)
    refine Sim.aload_n 0 dX11_takesLaw_76 rfl ?_
    refine Sim.getR (j := 13) fl_X11_46 dX11_takesLaw_77 mR_22 ?_
    refine Sim.bipush (v := (16 : Int32)) dX11_takesLaw_80 rfl ?_
    refine Sim.aload_n 0 dX11_takesLaw_82 rfl ?_
    refine Sim.getI fl_X11_265 dX11_takesLaw_83 mI_25 ?_
    refine Sim.imul dX11_takesLaw_86 ?_
    refine Sim.iload_n 2 dX11_takesLaw_87 rfl ?_
    refine Sim.iadd dX11_takesLaw_88 ?_
    refine Sim.aload_n 0 dX11_takesLaw_89 rfl ?_
    refine Sim.getR (j := 13) fl_X11_46 dX11_takesLaw_90 mR_22 ?_
    refine Sim.bipush (v := (32 : Int32)) dX11_takesLaw_93 rfl ?_
    refine Sim.iload_n 2 dX11_takesLaw_95 rfl ?_
    refine Sim.iadd dX11_takesLaw_96 ?_
    refine Sim.iald (n := 48) dX11_takesLaw_97 mA_13 ?_
    refine Sim.iast (n := 48) dX11_takesLaw_98 mA_13 ?_
    refine Sim.lth (fun h4 => ?_)
    refine Sim.iinc (L' := [(2, .int (v2 + (1 : Int32))), (0, .ref 0), (1, .int v1)]) 2 dX11_takesLaw_99 rfl rfl (Nat.le_of_ble_eq_true rfl) rfl ?_
    refine Sim.goto 2 dX11_takesLaw_102 rfl ?_
    refine Sim.locs [1, 2, 0] rfl ?_
    exact H2 (v1, (v2 + (1 : Int32)), h4)
  · refine Sim.iconst (v := (0 : Int32)) dX11_takesLaw_105 rfl ?_
    refine Sim.istore_n (L' := [(2, .int (0 : Int32)), (0, .ref 0), (1, .int v1)]) dX11_takesLaw_106 (Nat.le_of_ble_eq_true rfl) rfl ?_
    refine Sim.locs [1, 2, 0] rfl ?_
    exact f_X11_takesLaw_107_ls  zN (v1, (0 : Int32), h)
def f_X11_takesLaw_2_lp   (n : Nat) (v : Int32 × Int32 × zHp) : Option (zHp) := zlp (fun k2 v => f_X11_takesLaw_2 k2 v.1 v.2.1 v.2.2) n v
theorem f_X11_takesLaw_2_ls  (n : Nat) (v : Int32 × Int32 × zHp) : Sim wM mX11_takesLaw 0 rV 2 [(0, .ref 0), (1, .int v.1), (2, .int v.2.1)] [] v.2.2 (f_X11_takesLaw_2_lp n v) :=
  Sim.lp (V := Int32 × Int32 × zHp) (Lf := fun v => [(0, .ref 0), (1, .int v.1), (2, .int v.2.1)]) (sf := fun v => []) (hf := fun v => v.2.2) (fun k2 H2 v => f_X11_takesLaw_2_s k2 H2 v.1 v.2.1 v.2.2) n v
def f_X11_takesLaw  (a1 : Int32) (h : zHp) : Option (zHp) := f_X11_takesLaw_2_lp  zN (a1, (0 : Int32), h)
set_option maxHeartbeats 4000000 in
set_option maxRecDepth 100000 in
theorem s_X11_takesLaw  (a1 : Int32) (h : zHp) : Fn wM mX11_takesLaw 0 rV [.ref 0, .int a1] h (f_X11_takesLaw a1 h) := by
  refine Fn.of rfl (Nat.le_of_ble_eq_true rfl) ?_
  unfold f_X11_takesLaw
  refine Sim.iconst (v := (0 : Int32)) dX11_takesLaw_0 rfl ?_
  refine Sim.istore_n (L' := [(2, .int (0 : Int32)), (0, .ref 0), (1, .int a1)]) dX11_takesLaw_1 (Nat.le_of_ble_eq_true rfl) rfl ?_
  refine Sim.locs [1, 2, 0] rfl ?_
  exact f_X11_takesLaw_2_ls  zN (a1, (0 : Int32), h)
theorem mv_X11_takesLaw : zMV mX11_takesLaw 1 := ⟨⟨zTb_in 1690 (by decide +kernel) rfl, zTb_in 148 (by decide +kernel) rfl, ⟨by decide +kernel, by decide +kernel⟩, by decide +kernel⟩, zTb_in 1689 (by decide +kernel) rfl, zTb_in 76 (by decide +kernel) rfl⟩
