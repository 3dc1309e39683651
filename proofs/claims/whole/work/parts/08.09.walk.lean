set_option maxHeartbeats 4000000 in
set_option maxRecDepth 100000 in
theorem w_X11_parted_110 {E : KE} {A : Nat → Prop} {D : va_G} {T : KT} (h : Nat → Nat) (C : kx_C E cX11_parted 34 none RX11 3 82 D T) (N : Nat) (x : Int64 × Int64 × Int32 × Int64 × Int64 × Int64 × Int64 × Int64 × Int64 × Int64 × Int64) (m_taped m_states m_threes m_primes m_ones m_unit : Int32) (m_allParts m_allNorms m_allClasses : Int64) (m_odd : Int32) (m_boxWide m_boxHigh m_boxStep : Int64) (m_listed m_tells m_wanted m_found : Int32) (m_bits : Int64) (m_power2 m_rings m_ringA m_ringB m_seedNow : Int32) (m_tape m_has m_keptHas m_first m_second m_keptFirst m_keptSecond m_pa m_pb m_pNorm m_cubed m_isOpen m_signs m_often m_la0 m_lb0 : Nat → Int32) (R : kx_RV E cX11_parted D A (wM T h m_taped m_states x.1 x.2.1 m_threes m_primes m_ones m_unit m_allParts m_allNorms m_allClasses m_odd m_boxWide m_boxHigh m_boxStep x.2.2.1 x.2.2.2.1 x.2.2.2.2.1 x.2.2.2.2.2.1 x.2.2.2.2.2.2.1 x.2.2.2.2.2.2.2.1 x.2.2.2.2.2.2.2.2.1 x.2.2.2.2.2.2.2.2.2.1 x.2.2.2.2.2.2.2.2.2.2 m_listed m_tells m_wanted m_found m_bits m_power2 m_rings m_ringA m_ringB m_seedNow m_tape m_has m_keptHas m_first m_second m_keptFirst m_keptSecond m_pa m_pb m_pNorm m_cubed m_isOpen m_signs m_often m_la0 m_lb0)) (k51 : Int32 → Int64 → Int64 → Int64 → Int64 → Int64 → Int64 → Int64 → Int64 → Int64 → Int64 → Int32 → Int64 → Int64 → Int64 → Int64 → Int64 → Int64 → Option (Int64 × Int64 × Int32 × Int64 × Int64 × Int64 × Int64 × Int64 × Int64 × Int64 × Int64)) (hk51 : ∀ (m_ra m_rb : Int64) (m_partingMany : Int32) (m_qa m_qb m_la m_lb m_sa m_sb m_ta m_tb : Int64) (v9 : Int32) (v10 v12 v14 v16 v18 v20 v22 v24 : Int64) (H : Heap) (locs : List Loc) (ls : Array Slot), kx_H E D A H locs (wM T h m_taped m_states m_ra m_rb m_threes m_primes m_ones m_unit m_allParts m_allNorms m_allClasses m_odd m_boxWide m_boxHigh m_boxStep m_partingMany m_qa m_qb m_la m_lb m_sa m_sb m_ta m_tb m_listed m_tells m_wanted m_found m_bits m_power2 m_rings m_ringA m_ringB m_seedNow m_tape m_has m_keptHas m_first m_second m_keptFirst m_keptSecond m_pa m_pb m_pNorm m_cubed m_isOpen m_signs m_often m_la0 m_lb0) → lv_has ls 34 [(0, .ref (h 0)), (9, .int v9), (10, .long v10), (12, .long v12), (14, .long v14), (16, .long v16), (18, .long v18), (20, .long v20), (22, .long v22), (24, .long v24)] → k51 v9 v10 v12 v14 v16 v18 v20 v22 v24 m_ra m_rb m_partingMany m_qa m_qb m_sa m_sb m_ta m_tb = some x → kx_W E H locs 51 ls []) : ∀ (m_ra m_rb : Int64) (m_partingMany : Int32) (m_qa m_qb m_la m_lb m_sa m_sb m_ta m_tb : Int64) (v9 : Int32) (v10 v12 v14 v16 v18 v20 v22 v24 v26 v28 : Int64) (H : Heap) (locs : List Loc) (ls : Array Slot), kx_H E D A H locs (wM T h m_taped m_states m_ra m_rb m_threes m_primes m_ones m_unit m_allParts m_allNorms m_allClasses m_odd m_boxWide m_boxHigh m_boxStep m_partingMany m_qa m_qb m_la m_lb m_sa m_sb m_ta m_tb m_listed m_tells m_wanted m_found m_bits m_power2 m_rings m_ringA m_ringB m_seedNow m_tape m_has m_keptHas m_first m_second m_keptFirst m_keptSecond m_pa m_pb m_pNorm m_cubed m_isOpen m_signs m_often m_la0 m_lb0) → lv_has ls 34 [(0, .ref (h 0)), (9, .int v9), (10, .long v10), (12, .long v12), (14, .long v14), (16, .long v16), (18, .long v18), (20, .long v20), (22, .long v22), (24, .long v24), (26, .long v26), (28, .long v28)] → f_X11_parted_110 N k51 v9 v10 v12 v14 v16 v18 v20 v22 v24 v26 v28 m_partingMany m_qa m_qb m_sa m_sb m_ta m_tb = some x → kx_W E H locs 110 ls [] := by
  intro m_ra m_rb m_partingMany m_qa m_qb m_la m_lb m_sa m_sb m_ta m_tb v9 v10 v12 v14 v16 v18 v20 v22 v24 v26 v28 H locs ls X hl hf
  rw [f_X11_parted_110] at hf
  refine x_aload_n 111 C dX11_parted_110 hl 0 rfl rfl ?_
  refine x_aload_n 112 C dX11_parted_111 hl 0 rfl rfl ?_
  refine x_get 115 C dX11_parted_112 X kf_X11_296 0 rfl rfl rfl ?_
  refine x_iconst 116 C dX11_parted_115 (1 : Int32) kv_iconst_1 rfl ?_
  refine x_iadd 117 C dX11_parted_116 rfl ?_
  refine x_put 120 C dX11_parted_117 X kp_X11_296 0 rfl rfl rfl rfl (wM T h m_taped m_states m_ra m_rb m_threes m_primes m_ones m_unit m_allParts m_allNorms m_allClasses m_odd m_boxWide m_boxHigh m_boxStep (m_partingMany + (1 : Int32)) m_qa m_qb m_la m_lb m_sa m_sb m_ta m_tb m_listed m_tells m_wanted m_found m_bits m_power2 m_rings m_ringA m_ringB m_seedNow m_tape m_has m_keptHas m_first m_second m_keptFirst m_keptSecond m_pa m_pb m_pNorm m_cubed m_isOpen m_signs m_often m_la0 m_lb0) rfl rfl (fun H locs X => ?_)
  refine x_aload_n 121 C dX11_parted_120 hl 0 rfl rfl ?_
  refine x_lload 123 C dX11_parted_121 hl 10 rfl rfl ?_
  refine x_lload 125 C dX11_parted_123 hl 11 rfl rfl ?_
  refine x_lload 127 C dX11_parted_125 hl 4 rfl rfl ?_
  refine x_lload 129 C dX11_parted_127 hl 5 rfl rfl ?_
  obtain ⟨y129, hy129, hf⟩ := kx_bind hf
  refine x_callVv0 132 C dX11_parted_129 X hl kl_X11_121 (c_X11_times E.2.1 D T h v26 v28 v14 v16 m_taped m_states m_ra m_rb m_threes m_primes m_ones m_unit m_allParts m_allNorms m_allClasses m_odd m_boxWide m_boxHigh m_boxStep (m_partingMany + (1 : Int32)) m_qa m_qb m_la m_lb m_sa m_sb m_ta m_tb m_listed m_tells m_wanted m_found m_bits m_power2 m_rings m_ringA m_ringB m_seedNow m_tape m_has m_keptHas m_first m_second m_keptFirst m_keptSecond m_pa m_pb m_pNorm m_cubed m_isOpen m_signs m_often m_la0 m_lb0 y129 hy129) rfl rfl [] rfl rfl rfl rfl rfl rfl (fun H locs X => ?_)
  refine x_lload 134 C dX11_parted_132 hl 2 rfl rfl ?_
  refine x_aload_n 135 C dX11_parted_134 hl 0 rfl rfl ?_
  refine x_get 138 C dX11_parted_135 X kf_X11_105 0 rfl rfl rfl ?_
  refine x_lsub 139 C dX11_parted_138 rfl ?_
  refine x_lstore 141 C dX11_parted_139 [(30, .long (v10 - y129.1)), (0, .ref (h 0)), (9, .int v9), (10, .long v10), (12, .long v12), (14, .long v14), (16, .long v16), (18, .long v18), (20, .long v20), (22, .long v22), (24, .long v24), (26, .long v26), (28, .long v28)] hl rfl rfl rfl (fun ls hl => ?_)
  refine x_lload 143 C dX11_parted_141 hl 4 rfl rfl ?_
  refine x_aload_n 144 C dX11_parted_143 hl 1 rfl rfl ?_
  refine x_get 147 C dX11_parted_144 X kf_X11_109 0 rfl rfl rfl ?_
  refine x_lsub 148 C dX11_parted_147 rfl ?_
  refine x_lstore 150 C dX11_parted_148 [(32, .long (v12 - y129.2)), (30, .long (v10 - y129.1)), (0, .ref (h 0)), (9, .int v9), (10, .long v10), (12, .long v12), (14, .long v14), (16, .long v16), (18, .long v18), (20, .long v20), (22, .long v22), (24, .long v24), (26, .long v26), (28, .long v28)] hl rfl rfl rfl (fun ls hl => ?_)
  refine x_lload 152 C dX11_parted_150 hl 6 rfl rfl ?_
  refine x_lstore 154 C dX11_parted_152 [(10, .long v14), (32, .long (v12 - y129.2)), (30, .long (v10 - y129.1)), (0, .ref (h 0)), (9, .int v9), (12, .long v12), (14, .long v14), (16, .long v16), (18, .long v18), (20, .long v20), (22, .long v22), (24, .long v24), (26, .long v26), (28, .long v28)] hl rfl rfl rfl (fun ls hl => ?_)
  refine x_lload 156 C dX11_parted_154 hl 7 rfl rfl ?_
  refine x_lstore 158 C dX11_parted_156 [(12, .long v16), (10, .long v14), (32, .long (v12 - y129.2)), (30, .long (v10 - y129.1)), (0, .ref (h 0)), (9, .int v9), (14, .long v14), (16, .long v16), (18, .long v18), (20, .long v20), (22, .long v22), (24, .long v24), (26, .long v26), (28, .long v28)] hl rfl rfl rfl (fun ls hl => ?_)
  refine x_lload 160 C dX11_parted_158 hl 3 rfl rfl ?_
  refine x_lstore 162 C dX11_parted_160 [(14, .long (v10 - y129.1)), (12, .long v16), (10, .long v14), (32, .long (v12 - y129.2)), (30, .long (v10 - y129.1)), (0, .ref (h 0)), (9, .int v9), (16, .long v16), (18, .long v18), (20, .long v20), (22, .long v22), (24, .long v24), (26, .long v26), (28, .long v28)] hl rfl rfl rfl (fun ls hl => ?_)
  refine x_lload 164 C dX11_parted_162 hl 3 rfl rfl ?_
  refine x_lstore 166 C dX11_parted_164 [(16, .long (v12 - y129.2)), (14, .long (v10 - y129.1)), (12, .long v16), (10, .long v14), (32, .long (v12 - y129.2)), (30, .long (v10 - y129.1)), (0, .ref (h 0)), (9, .int v9), (18, .long v18), (20, .long v20), (22, .long v22), (24, .long v24), (26, .long v26), (28, .long v28)] hl rfl rfl rfl (fun ls hl => ?_)
  refine x_aload_n 167 C dX11_parted_166 hl 6 rfl rfl ?_
  refine x_lload 169 C dX11_parted_167 hl 12 rfl rfl ?_
  refine x_lload 171 C dX11_parted_169 hl 13 rfl rfl ?_
  refine x_lload 173 C dX11_parted_171 hl 8 rfl rfl ?_
  refine x_lload 175 C dX11_parted_173 hl 9 rfl rfl ?_
  obtain ⟨y175, hy175, hf⟩ := kx_bind hf
  refine x_callVv0 178 C dX11_parted_175 X hl kl_X11_121 (c_X11_times E.2.1 D T h v26 v28 v18 v20 m_taped m_states y129.1 y129.2 m_threes m_primes m_ones m_unit m_allParts m_allNorms m_allClasses m_odd m_boxWide m_boxHigh m_boxStep (m_partingMany + (1 : Int32)) m_qa m_qb m_la m_lb m_sa m_sb m_ta m_tb m_listed m_tells m_wanted m_found m_bits m_power2 m_rings m_ringA m_ringB m_seedNow m_tape m_has m_keptHas m_first m_second m_keptFirst m_keptSecond m_pa m_pb m_pNorm m_cubed m_isOpen m_signs m_often m_la0 m_lb0 y175 hy175) rfl rfl [] rfl rfl rfl rfl rfl rfl (fun H locs X => ?_)
  refine x_aload_n 179 C dX11_parted_178 hl 6 rfl rfl ?_
  refine x_get 182 C dX11_parted_179 X kf_X11_284 0 rfl rfl rfl ?_
  refine x_aload_n 183 C dX11_parted_182 hl 6 rfl rfl ?_
  refine x_get 186 C dX11_parted_183 X kf_X11_105 0 rfl rfl rfl ?_
  refine x_lsub 187 C dX11_parted_186 rfl ?_
  refine x_lstore 189 C dX11_parted_187 [(30, .long (m_sa - y175.1)), (16, .long (v12 - y129.2)), (14, .long (v10 - y129.1)), (12, .long v16), (10, .long v14), (32, .long (v12 - y129.2)), (0, .ref (h 0)), (9, .int v9), (18, .long v18), (20, .long v20), (22, .long v22), (24, .long v24), (26, .long v26), (28, .long v28)] hl rfl rfl rfl (fun ls hl => ?_)
  refine x_aload_n 190 C dX11_parted_189 hl 6 rfl rfl ?_
  refine x_get 193 C dX11_parted_190 X kf_X11_287 0 rfl rfl rfl ?_
  refine x_aload_n 194 C dX11_parted_193 hl 6 rfl rfl ?_
  refine x_get 197 C dX11_parted_194 X kf_X11_109 0 rfl rfl rfl ?_
  refine x_lsub 198 C dX11_parted_197 rfl ?_
  refine x_lstore 200 C dX11_parted_198 [(32, .long (m_sb - y175.2)), (30, .long (m_sa - y175.1)), (16, .long (v12 - y129.2)), (14, .long (v10 - y129.1)), (12, .long v16), (10, .long v14), (0, .ref (h 0)), (9, .int v9), (18, .long v18), (20, .long v20), (22, .long v22), (24, .long v24), (26, .long v26), (28, .long v28)] hl rfl rfl rfl (fun ls hl => ?_)
  refine x_aload_n 201 C dX11_parted_200 hl 6 rfl rfl ?_
  refine x_lload 203 C dX11_parted_201 hl 8 rfl rfl ?_
  refine x_put 206 C dX11_parted_203 X kp_X11_284 0 rfl rfl rfl rfl (wM T h m_taped m_states y175.1 y175.2 m_threes m_primes m_ones m_unit m_allParts m_allNorms m_allClasses m_odd m_boxWide m_boxHigh m_boxStep (m_partingMany + (1 : Int32)) m_qa m_qb m_la m_lb v18 m_sb m_ta m_tb m_listed m_tells m_wanted m_found m_bits m_power2 m_rings m_ringA m_ringB m_seedNow m_tape m_has m_keptHas m_first m_second m_keptFirst m_keptSecond m_pa m_pb m_pNorm m_cubed m_isOpen m_signs m_often m_la0 m_lb0) rfl rfl (fun H locs X => ?_)
  refine x_aload_n 207 C dX11_parted_206 hl 6 rfl rfl ?_
  refine x_lload 209 C dX11_parted_207 hl 9 rfl rfl ?_
  refine x_put 212 C dX11_parted_209 X kp_X11_287 0 rfl rfl rfl rfl (wM T h m_taped m_states y175.1 y175.2 m_threes m_primes m_ones m_unit m_allParts m_allNorms m_allClasses m_odd m_boxWide m_boxHigh m_boxStep (m_partingMany + (1 : Int32)) m_qa m_qb m_la m_lb v18 v20 m_ta m_tb m_listed m_tells m_wanted m_found m_bits m_power2 m_rings m_ringA m_ringB m_seedNow m_tape m_has m_keptHas m_first m_second m_keptFirst m_keptSecond m_pa m_pb m_pNorm m_cubed m_isOpen m_signs m_often m_la0 m_lb0) rfl rfl (fun H locs X => ?_)
  refine x_lload 214 C dX11_parted_212 hl 1 rfl rfl ?_
  refine x_lstore 216 C dX11_parted_214 [(18, .long (m_sa - y175.1)), (32, .long (m_sb - y175.2)), (30, .long (m_sa - y175.1)), (16, .long (v12 - y129.2)), (14, .long (v10 - y129.1)), (12, .long v16), (10, .long v14), (0, .ref (h 0)), (9, .int v9), (20, .long v20), (22, .long v22), (24, .long v24), (26, .long v26), (28, .long v28)] hl rfl rfl rfl (fun ls hl => ?_)
  refine x_lload 218 C dX11_parted_216 hl 1 rfl rfl ?_
  refine x_lstore 220 C dX11_parted_218 [(20, .long (m_sb - y175.2)), (18, .long (m_sa - y175.1)), (32, .long (m_sb - y175.2)), (30, .long (m_sa - y175.1)), (16, .long (v12 - y129.2)), (14, .long (v10 - y129.1)), (12, .long v16), (10, .long v14), (0, .ref (h 0)), (9, .int v9), (22, .long v22), (24, .long v24), (26, .long v26), (28, .long v28)] hl rfl rfl rfl (fun ls hl => ?_)
  refine x_aload_n 221 C dX11_parted_220 hl 8 rfl rfl ?_
  refine x_lload 223 C dX11_parted_221 hl 12 rfl rfl ?_
  refine x_lload 225 C dX11_parted_223 hl 13 rfl rfl ?_
  refine x_lload 227 C dX11_parted_225 hl 10 rfl rfl ?_
  refine x_lload 229 C dX11_parted_227 hl 11 rfl rfl ?_
  obtain ⟨y229, hy229, hf⟩ := kx_bind hf
  refine x_callVv0 232 C dX11_parted_229 X hl kl_X11_121 (c_X11_times E.2.1 D T h v26 v28 v22 v24 m_taped m_states y175.1 y175.2 m_threes m_primes m_ones m_unit m_allParts m_allNorms m_allClasses m_odd m_boxWide m_boxHigh m_boxStep (m_partingMany + (1 : Int32)) m_qa m_qb m_la m_lb v18 v20 m_ta m_tb m_listed m_tells m_wanted m_found m_bits m_power2 m_rings m_ringA m_ringB m_seedNow m_tape m_has m_keptHas m_first m_second m_keptFirst m_keptSecond m_pa m_pb m_pNorm m_cubed m_isOpen m_signs m_often m_la0 m_lb0 y229 hy229) rfl rfl [] rfl rfl rfl rfl rfl rfl (fun H locs X => ?_)
  refine x_aload_n 233 C dX11_parted_232 hl 8 rfl rfl ?_
  refine x_get 236 C dX11_parted_233 X kf_X11_290 0 rfl rfl rfl ?_
  refine x_aload_n 237 C dX11_parted_236 hl 8 rfl rfl ?_
  refine x_get 240 C dX11_parted_237 X kf_X11_105 0 rfl rfl rfl ?_
  refine x_lsub 241 C dX11_parted_240 rfl ?_
  refine x_lstore 243 C dX11_parted_241 [(30, .long (m_ta - y229.1)), (20, .long (m_sb - y175.2)), (18, .long (m_sa - y175.1)), (32, .long (m_sb - y175.2)), (16, .long (v12 - y129.2)), (14, .long (v10 - y129.1)), (12, .long v16), (10, .long v14), (0, .ref (h 0)), (9, .int v9), (22, .long v22), (24, .long v24), (26, .long v26), (28, .long v28)] hl rfl rfl rfl (fun ls hl => ?_)
  refine x_aload_n 244 C dX11_parted_243 hl 8 rfl rfl ?_
  refine x_get 247 C dX11_parted_244 X kf_X11_293 0 rfl rfl rfl ?_
  refine x_aload_n 248 C dX11_parted_247 hl 8 rfl rfl ?_
  refine x_get 251 C dX11_parted_248 X kf_X11_109 0 rfl rfl rfl ?_
  refine x_lsub 252 C dX11_parted_251 rfl ?_
  refine x_lstore 254 C dX11_parted_252 [(32, .long (m_tb - y229.2)), (30, .long (m_ta - y229.1)), (20, .long (m_sb - y175.2)), (18, .long (m_sa - y175.1)), (16, .long (v12 - y129.2)), (14, .long (v10 - y129.1)), (12, .long v16), (10, .long v14), (0, .ref (h 0)), (9, .int v9), (22, .long v22), (24, .long v24), (26, .long v26), (28, .long v28)] hl rfl rfl rfl (fun ls hl => ?_)
  refine x_aload_n 255 C dX11_parted_254 hl 8 rfl rfl ?_
  refine x_lload 257 C dX11_parted_255 hl 10 rfl rfl ?_
  refine x_put 260 C dX11_parted_257 X kp_X11_290 0 rfl rfl rfl rfl (wM T h m_taped m_states y229.1 y229.2 m_threes m_primes m_ones m_unit m_allParts m_allNorms m_allClasses m_odd m_boxWide m_boxHigh m_boxStep (m_partingMany + (1 : Int32)) m_qa m_qb m_la m_lb v18 v20 v22 m_tb m_listed m_tells m_wanted m_found m_bits m_power2 m_rings m_ringA m_ringB m_seedNow m_tape m_has m_keptHas m_first m_second m_keptFirst m_keptSecond m_pa m_pb m_pNorm m_cubed m_isOpen m_signs m_often m_la0 m_lb0) rfl rfl (fun H locs X => ?_)
  refine x_aload_n 261 C dX11_parted_260 hl 8 rfl rfl ?_
  refine x_lload 263 C dX11_parted_261 hl 11 rfl rfl ?_
  refine x_put 266 C dX11_parted_263 X kp_X11_293 0 rfl rfl rfl rfl (wM T h m_taped m_states y229.1 y229.2 m_threes m_primes m_ones m_unit m_allParts m_allNorms m_allClasses m_odd m_boxWide m_boxHigh m_boxStep (m_partingMany + (1 : Int32)) m_qa m_qb m_la m_lb v18 v20 v22 v24 m_listed m_tells m_wanted m_found m_bits m_power2 m_rings m_ringA m_ringB m_seedNow m_tape m_has m_keptHas m_first m_second m_keptFirst m_keptSecond m_pa m_pb m_pNorm m_cubed m_isOpen m_signs m_often m_la0 m_lb0) rfl rfl (fun H locs X => ?_)
  refine x_lload 268 C dX11_parted_266 hl 1 rfl rfl ?_
  refine x_lstore 270 C dX11_parted_268 [(22, .long (m_ta - y229.1)), (32, .long (m_tb - y229.2)), (30, .long (m_ta - y229.1)), (20, .long (m_sb - y175.2)), (18, .long (m_sa - y175.1)), (16, .long (v12 - y129.2)), (14, .long (v10 - y129.1)), (12, .long v16), (10, .long v14), (0, .ref (h 0)), (9, .int v9), (24, .long v24), (26, .long v26), (28, .long v28)] hl rfl rfl rfl (fun ls hl => ?_)
  refine x_lload 272 C dX11_parted_270 hl 1 rfl rfl ?_
  refine x_lstore 274 C dX11_parted_272 [(24, .long (m_tb - y229.2)), (22, .long (m_ta - y229.1)), (32, .long (m_tb - y229.2)), (30, .long (m_ta - y229.1)), (20, .long (m_sb - y175.2)), (18, .long (m_sa - y175.1)), (16, .long (v12 - y129.2)), (14, .long (v10 - y129.1)), (12, .long v16), (10, .long v14), (0, .ref (h 0)), (9, .int v9), (26, .long v26), (28, .long v28)] hl rfl rfl rfl (fun ls hl => ?_)
  refine x_goto 51 C dX11_parted_274 rfl ?_
  exact hk51 y229.1 y229.2 (m_partingMany + (1 : Int32)) m_qa m_qb m_la m_lb v18 v20 v22 v24 v9 v14 v16 (v10 - y129.1) (v12 - y129.2) (m_sa - y175.1) (m_sb - y175.2) (m_ta - y229.1) (m_tb - y229.2) _ _ _ X (lv_sub hl [10, 11, 9, 8, 7, 6, 5, 4, 1, 0] rfl) hf
set_option maxHeartbeats 4000000 in
set_option maxRecDepth 100000 in
theorem w_X11_parted_65 {E : KE} {A : Nat → Prop} {D : va_G} {T : KT} (h : Nat → Nat) (C : kx_C E cX11_parted 34 none RX11 3 82 D T) (N : Nat) (x : Int64 × Int64 × Int32 × Int64 × Int64 × Int64 × Int64 × Int64 × Int64 × Int64 × Int64) (m_taped m_states m_threes m_primes m_ones m_unit : Int32) (m_allParts m_allNorms m_allClasses : Int64) (m_odd : Int32) (m_boxWide m_boxHigh m_boxStep : Int64) (m_listed m_tells m_wanted m_found : Int32) (m_bits : Int64) (m_power2 m_rings m_ringA m_ringB m_seedNow : Int32) (m_tape m_has m_keptHas m_first m_second m_keptFirst m_keptSecond m_pa m_pb m_pNorm m_cubed m_isOpen m_signs m_often m_la0 m_lb0 : Nat → Int32) (R : kx_RV E cX11_parted D A (wM T h m_taped m_states x.1 x.2.1 m_threes m_primes m_ones m_unit m_allParts m_allNorms m_allClasses m_odd m_boxWide m_boxHigh m_boxStep x.2.2.1 x.2.2.2.1 x.2.2.2.2.1 x.2.2.2.2.2.1 x.2.2.2.2.2.2.1 x.2.2.2.2.2.2.2.1 x.2.2.2.2.2.2.2.2.1 x.2.2.2.2.2.2.2.2.2.1 x.2.2.2.2.2.2.2.2.2.2 m_listed m_tells m_wanted m_found m_bits m_power2 m_rings m_ringA m_ringB m_seedNow m_tape m_has m_keptHas m_first m_second m_keptFirst m_keptSecond m_pa m_pb m_pNorm m_cubed m_isOpen m_signs m_often m_la0 m_lb0)) (k51 : Int32 → Int64 → Int64 → Int64 → Int64 → Int64 → Int64 → Int64 → Int64 → Int64 → Int64 → Int32 → Int64 → Int64 → Int64 → Int64 → Int64 → Int64 → Option (Int64 × Int64 × Int32 × Int64 × Int64 × Int64 × Int64 × Int64 × Int64 × Int64 × Int64)) (hk51 : ∀ (m_ra m_rb : Int64) (m_partingMany : Int32) (m_qa m_qb m_la m_lb m_sa m_sb m_ta m_tb : Int64) (v9 : Int32) (v10 v12 v14 v16 v18 v20 v22 v24 : Int64) (H : Heap) (locs : List Loc) (ls : Array Slot), kx_H E D A H locs (wM T h m_taped m_states m_ra m_rb m_threes m_primes m_ones m_unit m_allParts m_allNorms m_allClasses m_odd m_boxWide m_boxHigh m_boxStep m_partingMany m_qa m_qb m_la m_lb m_sa m_sb m_ta m_tb m_listed m_tells m_wanted m_found m_bits m_power2 m_rings m_ringA m_ringB m_seedNow m_tape m_has m_keptHas m_first m_second m_keptFirst m_keptSecond m_pa m_pb m_pNorm m_cubed m_isOpen m_signs m_often m_la0 m_lb0) → lv_has ls 34 [(0, .ref (h 0)), (9, .int v9), (10, .long v10), (12, .long v12), (14, .long v14), (16, .long v16), (18, .long v18), (20, .long v20), (22, .long v22), (24, .long v24)] → k51 v9 v10 v12 v14 v16 v18 v20 v22 v24 m_ra m_rb m_partingMany m_qa m_qb m_sa m_sb m_ta m_tb = some x → kx_W E H locs 51 ls []) : ∀ (m_ra m_rb : Int64) (m_partingMany : Int32) (m_qa m_qb m_la m_lb m_sa m_sb m_ta m_tb : Int64) (v9 : Int32) (v10 v12 v14 v16 v18 v20 v22 v24 : Int64) (H : Heap) (locs : List Loc) (ls : Array Slot), kx_H E D A H locs (wM T h m_taped m_states m_ra m_rb m_threes m_primes m_ones m_unit m_allParts m_allNorms m_allClasses m_odd m_boxWide m_boxHigh m_boxStep m_partingMany m_qa m_qb m_la m_lb m_sa m_sb m_ta m_tb m_listed m_tells m_wanted m_found m_bits m_power2 m_rings m_ringA m_ringB m_seedNow m_tape m_has m_keptHas m_first m_second m_keptFirst m_keptSecond m_pa m_pb m_pNorm m_cubed m_isOpen m_signs m_often m_la0 m_lb0) → lv_has ls 34 [(0, .ref (h 0)), (9, .int v9), (10, .long v10), (12, .long v12), (14, .long v14), (16, .long v16), (18, .long v18), (20, .long v20), (22, .long v22), (24, .long v24)] → f_X11_parted_65 N k51 v9 v10 v12 v14 v16 v18 v20 v22 v24 m_partingMany m_qa m_qb m_sa m_sb m_ta m_tb = some x → kx_W E H locs 65 ls [] := by
  intro m_ra m_rb m_partingMany m_qa m_qb m_la m_lb m_sa m_sb m_ta m_tb v9 v10 v12 v14 v16 v18 v20 v22 v24 H locs ls X hl hf
  rw [f_X11_parted_65] at hf
  refine x_aload_n 66 C dX11_parted_65 hl 0 rfl rfl ?_
  refine x_lload 68 C dX11_parted_66 hl 2 rfl rfl ?_
  refine x_lload 70 C dX11_parted_68 hl 3 rfl rfl ?_
  refine x_lload 72 C dX11_parted_70 hl 4 rfl rfl ?_
  refine x_lload 74 C dX11_parted_72 hl 5 rfl rfl ?_
  obtain ⟨y74, hy74, hf⟩ := kx_bind hf
  refine x_callVv0 77 C dX11_parted_74 X hl kl_X11_128 (c_X11_parts E.2.1 D T h v10 v12 v14 v16 m_taped m_states m_ra m_rb m_threes m_primes m_ones m_unit m_allParts m_allNorms m_allClasses m_odd m_boxWide m_boxHigh m_boxStep m_partingMany m_qa m_qb m_la m_lb m_sa m_sb m_ta m_tb m_listed m_tells m_wanted m_found m_bits m_power2 m_rings m_ringA m_ringB m_seedNow m_tape m_has m_keptHas m_first m_second m_keptFirst m_keptSecond m_pa m_pb m_pNorm m_cubed m_isOpen m_signs m_often m_la0 m_lb0 y74 hy74) rfl rfl [] rfl rfl rfl rfl rfl rfl (fun H locs X => ?_)
  refine x_aload_n 78 C dX11_parted_77 hl 0 rfl rfl ?_
  refine x_get 81 C dX11_parted_78 X kf_X11_105 0 rfl rfl rfl ?_
  refine x_lstore 83 C dX11_parted_81 [(26, .long y74.1), (0, .ref (h 0)), (9, .int v9), (10, .long v10), (12, .long v12), (14, .long v14), (16, .long v16), (18, .long v18), (20, .long v20), (22, .long v22), (24, .long v24)] hl rfl rfl rfl (fun ls hl => ?_)
  refine x_aload_n 84 C dX11_parted_83 hl 1 rfl rfl ?_
  refine x_get 87 C dX11_parted_84 X kf_X11_109 0 rfl rfl rfl ?_
  refine x_lstore 89 C dX11_parted_87 [(28, .long y74.2), (26, .long y74.1), (0, .ref (h 0)), (9, .int v9), (10, .long v10), (12, .long v12), (14, .long v14), (16, .long v16), (18, .long v18), (20, .long v20), (22, .long v22), (24, .long v24)] hl rfl rfl rfl (fun ls hl => ?_)
  refine x_aload_n 90 C dX11_parted_89 hl 2 rfl rfl ?_
  refine x_get 93 C dX11_parted_90 X kf_X11_296 0 rfl rfl rfl ?_
  refine x_iload 95 C dX11_parted_93 hl 3 rfl rfl ?_
  refine x_icmp_ne 110 98 C dX11_parted_95 rfl rfl hf (fun hf => ?_) (fun hf => ?_)
  · exact w_X11_parted_110 h C N x m_taped m_states m_threes m_primes m_ones m_unit m_allParts m_allNorms m_allClasses m_odd m_boxWide m_boxHigh m_boxStep m_listed m_tells m_wanted m_found m_bits m_power2 m_rings m_ringA m_ringB m_seedNow m_tape m_has m_keptHas m_first m_second m_keptFirst m_keptSecond m_pa m_pb m_pNorm m_cubed m_isOpen m_signs m_often m_la0 m_lb0 R (k51) hk51 y74.1 y74.2 m_partingMany m_qa m_qb m_la m_lb m_sa m_sb m_ta m_tb v9 v10 v12 v14 v16 v18 v20 v22 v24 y74.1 y74.2 _ _ _ X (lv_sub hl [2, 3, 4, 5, 6, 7, 8, 9, 10, 11, 1, 0] rfl) hf
  refine x_aload_n 99 C dX11_parted_98 hl 2 rfl rfl ?_
  refine x_lload 101 C dX11_parted_99 hl 1 rfl rfl ?_
  refine x_put 104 C dX11_parted_101 X kp_X11_299 0 rfl rfl rfl rfl (wM T h m_taped m_states y74.1 y74.2 m_threes m_primes m_ones m_unit m_allParts m_allNorms m_allClasses m_odd m_boxWide m_boxHigh m_boxStep m_partingMany y74.1 m_qb m_la m_lb m_sa m_sb m_ta m_tb m_listed m_tells m_wanted m_found m_bits m_power2 m_rings m_ringA m_ringB m_seedNow m_tape m_has m_keptHas m_first m_second m_keptFirst m_keptSecond m_pa m_pb m_pNorm m_cubed m_isOpen m_signs m_often m_la0 m_lb0) rfl rfl (fun H locs X => ?_)
  refine x_aload_n 105 C dX11_parted_104 hl 2 rfl rfl ?_
  refine x_lload 107 C dX11_parted_105 hl 0 rfl rfl ?_
  refine x_put 110 C dX11_parted_107 X kp_X11_302 0 rfl rfl rfl rfl (wM T h m_taped m_states y74.1 y74.2 m_threes m_primes m_ones m_unit m_allParts m_allNorms m_allClasses m_odd m_boxWide m_boxHigh m_boxStep m_partingMany y74.1 y74.2 m_la m_lb m_sa m_sb m_ta m_tb m_listed m_tells m_wanted m_found m_bits m_power2 m_rings m_ringA m_ringB m_seedNow m_tape m_has m_keptHas m_first m_second m_keptFirst m_keptSecond m_pa m_pb m_pNorm m_cubed m_isOpen m_signs m_often m_la0 m_lb0) rfl rfl (fun H locs X => ?_)
  exact w_X11_parted_110 h C N x m_taped m_states m_threes m_primes m_ones m_unit m_allParts m_allNorms m_allClasses m_odd m_boxWide m_boxHigh m_boxStep m_listed m_tells m_wanted m_found m_bits m_power2 m_rings m_ringA m_ringB m_seedNow m_tape m_has m_keptHas m_first m_second m_keptFirst m_keptSecond m_pa m_pb m_pNorm m_cubed m_isOpen m_signs m_often m_la0 m_lb0 R (k51) hk51 y74.1 y74.2 m_partingMany y74.1 y74.2 m_la m_lb m_sa m_sb m_ta m_tb v9 v10 v12 v14 v16 v18 v20 v22 v24 y74.1 y74.2 _ _ _ X (lv_sub hl [2, 3, 4, 5, 6, 7, 8, 9, 10, 11, 1, 0] rfl) hf
set_option maxHeartbeats 4000000 in
set_option maxRecDepth 100000 in
theorem w_X11_parted_51 {E : KE} {A : Nat → Prop} {D : va_G} {T : KT} (h : Nat → Nat) (C : kx_C E cX11_parted 34 none RX11 3 82 D T) (N : Nat) (x : Int64 × Int64 × Int32 × Int64 × Int64 × Int64 × Int64 × Int64 × Int64 × Int64 × Int64) (m_taped m_states m_threes m_primes m_ones m_unit : Int32) (m_allParts m_allNorms m_allClasses : Int64) (m_odd : Int32) (m_boxWide m_boxHigh m_boxStep : Int64) (m_listed m_tells m_wanted m_found : Int32) (m_bits : Int64) (m_power2 m_rings m_ringA m_ringB m_seedNow : Int32) (m_tape m_has m_keptHas m_first m_second m_keptFirst m_keptSecond m_pa m_pb m_pNorm m_cubed m_isOpen m_signs m_often m_la0 m_lb0 : Nat → Int32) (R : kx_RV E cX11_parted D A (wM T h m_taped m_states x.1 x.2.1 m_threes m_primes m_ones m_unit m_allParts m_allNorms m_allClasses m_odd m_boxWide m_boxHigh m_boxStep x.2.2.1 x.2.2.2.1 x.2.2.2.2.1 x.2.2.2.2.2.1 x.2.2.2.2.2.2.1 x.2.2.2.2.2.2.2.1 x.2.2.2.2.2.2.2.2.1 x.2.2.2.2.2.2.2.2.2.1 x.2.2.2.2.2.2.2.2.2.2 m_listed m_tells m_wanted m_found m_bits m_power2 m_rings m_ringA m_ringB m_seedNow m_tape m_has m_keptHas m_first m_second m_keptFirst m_keptSecond m_pa m_pb m_pNorm m_cubed m_isOpen m_signs m_often m_la0 m_lb0)) : ∀ (k : Nat), ∀ (m_ra m_rb : Int64) (m_partingMany : Int32) (m_qa m_qb m_la m_lb m_sa m_sb m_ta m_tb : Int64) (v9 : Int32) (v10 v12 v14 v16 v18 v20 v22 v24 : Int64) (H : Heap) (locs : List Loc) (ls : Array Slot), kx_H E D A H locs (wM T h m_taped m_states m_ra m_rb m_threes m_primes m_ones m_unit m_allParts m_allNorms m_allClasses m_odd m_boxWide m_boxHigh m_boxStep m_partingMany m_qa m_qb m_la m_lb m_sa m_sb m_ta m_tb m_listed m_tells m_wanted m_found m_bits m_power2 m_rings m_ringA m_ringB m_seedNow m_tape m_has m_keptHas m_first m_second m_keptFirst m_keptSecond m_pa m_pb m_pNorm m_cubed m_isOpen m_signs m_often m_la0 m_lb0) → lv_has ls 34 [(0, .ref (h 0)), (9, .int v9), (10, .long v10), (12, .long v12), (14, .long v14), (16, .long v16), (18, .long v18), (20, .long v20), (22, .long v22), (24, .long v24)] → f_X11_parted_51 N k v9 v10 v12 v14 v16 v18 v20 v22 v24 m_ra m_rb m_partingMany m_qa m_qb m_sa m_sb m_ta m_tb = some x → kx_W E H locs 51 ls [] := by
  intro k
  induction k with
  | zero =>
    intro m_ra m_rb m_partingMany m_qa m_qb m_la m_lb m_sa m_sb m_ta m_tb v9 v10 v12 v14 v16 v18 v20 v22 v24 H locs ls X hl hf
    cases (show (none : Option (Int64 × Int64 × Int32 × Int64 × Int64 × Int64 × Int64 × Int64 × Int64 × Int64 × Int64)) = some x from hf)
  | succ k ih =>
    intro m_ra m_rb m_partingMany m_qa m_qb m_la m_lb m_sa m_sb m_ta m_tb v9 v10 v12 v14 v16 v18 v20 v22 v24 H locs ls X hl hf
    rw [f_X11_parted_51] at hf
    refine x_lload 53 C dX11_parted_51 hl 4 rfl rfl ?_
    refine x_lconst 54 C dX11_parted_53 (0 : Int64) kv_lconst_0 rfl ?_
    refine x_lcmp_ne 65 55 58 C dX11_parted_54 dX11_parted_55 rfl rfl rfl hf (fun hf => ?_) (fun hf => ?_)
    · exact w_X11_parted_65 h C N x m_taped m_states m_threes m_primes m_ones m_unit m_allParts m_allNorms m_allClasses m_odd m_boxWide m_boxHigh m_boxStep m_listed m_tells m_wanted m_found m_bits m_power2 m_rings m_ringA m_ringB m_seedNow m_tape m_has m_keptHas m_first m_second m_keptFirst m_keptSecond m_pa m_pb m_pNorm m_cubed m_isOpen m_signs m_often m_la0 m_lb0 R (f_X11_parted_51 N k) ih m_ra m_rb m_partingMany m_qa m_qb m_la m_lb m_sa m_sb m_ta m_tb v9 v10 v12 v14 v16 v18 v20 v22 v24 _ _ _ X (lv_sub hl [0, 1, 2, 3, 4, 5, 6, 7, 8, 9] rfl) hf
    refine x_lload 60 C dX11_parted_58 hl 5 rfl rfl ?_
    refine x_lconst 61 C dX11_parted_60 (0 : Int64) kv_lconst_0 rfl ?_
    refine x_lcmp_eq 277 62 65 C dX11_parted_61 dX11_parted_62 rfl rfl rfl hf (fun hf => ?_) (fun hf => ?_)
    · refine x_aload_n 278 C dX11_parted_277 hl 0 rfl rfl ?_
      refine x_lload 280 C dX11_parted_278 hl 2 rfl rfl ?_
      refine x_put 283 C dX11_parted_280 X kp_X11_305 0 rfl rfl rfl rfl (wM T h m_taped m_states m_ra m_rb m_threes m_primes m_ones m_unit m_allParts m_allNorms m_allClasses m_odd m_boxWide m_boxHigh m_boxStep m_partingMany m_qa m_qb v10 m_lb m_sa m_sb m_ta m_tb m_listed m_tells m_wanted m_found m_bits m_power2 m_rings m_ringA m_ringB m_seedNow m_tape m_has m_keptHas m_first m_second m_keptFirst m_keptSecond m_pa m_pb m_pNorm m_cubed m_isOpen m_signs m_often m_la0 m_lb0) rfl rfl (fun H locs X => ?_)
      refine x_aload_n 284 C dX11_parted_283 hl 0 rfl rfl ?_
      refine x_lload 286 C dX11_parted_284 hl 3 rfl rfl ?_
      refine x_put 289 C dX11_parted_286 X kp_X11_308 0 rfl rfl rfl rfl (wM T h m_taped m_states m_ra m_rb m_threes m_primes m_ones m_unit m_allParts m_allNorms m_allClasses m_odd m_boxWide m_boxHigh m_boxStep m_partingMany m_qa m_qb v10 v12 m_sa m_sb m_ta m_tb m_listed m_tells m_wanted m_found m_bits m_power2 m_rings m_ringA m_ringB m_seedNow m_tape m_has m_keptHas m_first m_second m_keptFirst m_keptSecond m_pa m_pb m_pNorm m_cubed m_isOpen m_signs m_often m_la0 m_lb0) rfl rfl (fun H locs X => ?_)
      obtain rfl := Option.some.inj hf
      exact R _ _ _ _ X dX11_parted_289
    exact w_X11_parted_65 h C N x m_taped m_states m_threes m_primes m_ones m_unit m_allParts m_allNorms m_allClasses m_odd m_boxWide m_boxHigh m_boxStep m_listed m_tells m_wanted m_found m_bits m_power2 m_rings m_ringA m_ringB m_seedNow m_tape m_has m_keptHas m_first m_second m_keptFirst m_keptSecond m_pa m_pb m_pNorm m_cubed m_isOpen m_signs m_often m_la0 m_lb0 R (f_X11_parted_51 N k) ih m_ra m_rb m_partingMany m_qa m_qb m_la m_lb m_sa m_sb m_ta m_tb v9 v10 v12 v14 v16 v18 v20 v22 v24 _ _ _ X (lv_sub hl [0, 1, 2, 3, 4, 5, 6, 7, 8, 9] rfl) hf
set_option maxHeartbeats 4000000 in
set_option maxRecDepth 100000 in
theorem c_X11_parted (l : Launch) (D : va_G) (T : KT) (h : Nat → Nat) (N : Nat) (v1 v3 v5 v7 : Int64) (v9 : Int32) (m_taped m_states : Int32) (m_ra m_rb : Int64) (m_threes m_primes m_ones m_unit : Int32) (m_allParts m_allNorms m_allClasses : Int64) (m_odd : Int32) (m_boxWide m_boxHigh m_boxStep : Int64) (m_partingMany : Int32) (m_qa m_qb m_la m_lb m_sa m_sb m_ta m_tb : Int64) (m_listed m_tells m_wanted m_found : Int32) (m_bits : Int64) (m_power2 m_rings m_ringA m_ringB m_seedNow : Int32) (m_tape m_has m_keptHas m_first m_second m_keptFirst m_keptSecond m_pa m_pb m_pNorm m_cubed m_isOpen m_signs m_often m_la0 m_lb0 : Nat → Int32) (x : Int64 × Int64 × Int32 × Int64 × Int64 × Int64 × Int64 × Int64 × Int64 × Int64 × Int64) (hf : f_X11_parted N v1 v3 v5 v7 v9 m_ra m_rb m_qa m_qb = some x) : kx_MV l yX11_parted cX11_parted 34 none 3 82 D T [.ref (h 0), .long v1, .long v3, .long v5, .long v7, .int v9] (wM T h m_taped m_states m_ra m_rb m_threes m_primes m_ones m_unit m_allParts m_allNorms m_allClasses m_odd m_boxWide m_boxHigh m_boxStep m_partingMany m_qa m_qb m_la m_lb m_sa m_sb m_ta m_tb m_listed m_tells m_wanted m_found m_bits m_power2 m_rings m_ringA m_ringB m_seedNow m_tape m_has m_keptHas m_first m_second m_keptFirst m_keptSecond m_pa m_pb m_pNorm m_cubed m_isOpen m_signs m_often m_la0 m_lb0) (wM T h m_taped m_states x.1 x.2.1 m_threes m_primes m_ones m_unit m_allParts m_allNorms m_allClasses m_odd m_boxWide m_boxHigh m_boxStep x.2.2.1 x.2.2.2.1 x.2.2.2.2.1 x.2.2.2.2.2.1 x.2.2.2.2.2.2.1 x.2.2.2.2.2.2.2.1 x.2.2.2.2.2.2.2.2.1 x.2.2.2.2.2.2.2.2.2.1 x.2.2.2.2.2.2.2.2.2.2 m_listed m_tells m_wanted m_found m_bits m_power2 m_rings m_ringA m_ringB m_seedNow m_tape m_has m_keptHas m_first m_second m_keptFirst m_keptSecond m_pa m_pb m_pNorm m_cubed m_isOpen m_signs m_often m_la0 m_lb0) := by
  refine kx_ofMV RX11 rfl (plainFor_of_name (x := yX11_parted) kpn_X11) rfl ?_
  intro E A H ls _ C X R hl
  have hl : lv_has ls 34 [(0, .ref (h 0)), (1, .long v1), (3, .long v3), (5, .long v5), (7, .long v7), (9, .int v9)] := hl
  rw [f_X11_parted] at hf
  refine x_lload_n 1 C dX11_parted_0 hl 1 rfl rfl ?_
  refine x_lstore 3 C dX11_parted_1 [(10, .long v1), (0, .ref (h 0)), (1, .long v1), (3, .long v3), (5, .long v5), (7, .long v7), (9, .int v9)] hl rfl rfl rfl (fun ls hl => ?_)
  refine x_lload_n 4 C dX11_parted_3 hl 3 rfl rfl ?_
  refine x_lstore 6 C dX11_parted_4 [(12, .long v3), (10, .long v1), (0, .ref (h 0)), (1, .long v1), (3, .long v3), (5, .long v5), (7, .long v7), (9, .int v9)] hl rfl rfl rfl (fun ls hl => ?_)
  refine x_lload 8 C dX11_parted_6 hl 5 rfl rfl ?_
  refine x_lstore 10 C dX11_parted_8 [(14, .long v5), (12, .long v3), (10, .long v1), (0, .ref (h 0)), (1, .long v1), (3, .long v3), (5, .long v5), (7, .long v7), (9, .int v9)] hl rfl rfl rfl (fun ls hl => ?_)
  refine x_lload 12 C dX11_parted_10 hl 7 rfl rfl ?_
  refine x_lstore 14 C dX11_parted_12 [(16, .long v7), (14, .long v5), (12, .long v3), (10, .long v1), (0, .ref (h 0)), (1, .long v1), (3, .long v3), (5, .long v5), (7, .long v7), (9, .int v9)] hl rfl rfl rfl (fun ls hl => ?_)
  refine x_aload_n 15 C dX11_parted_14 hl 4 rfl rfl ?_
  refine x_lconst 16 C dX11_parted_15 (1 : Int64) kv_lconst_1 rfl ?_
  refine x_put 19 C dX11_parted_16 X kp_X11_284 0 rfl rfl rfl rfl (wM T h m_taped m_states m_ra m_rb m_threes m_primes m_ones m_unit m_allParts m_allNorms m_allClasses m_odd m_boxWide m_boxHigh m_boxStep m_partingMany m_qa m_qb m_la m_lb (1 : Int64) m_sb m_ta m_tb m_listed m_tells m_wanted m_found m_bits m_power2 m_rings m_ringA m_ringB m_seedNow m_tape m_has m_keptHas m_first m_second m_keptFirst m_keptSecond m_pa m_pb m_pNorm m_cubed m_isOpen m_signs m_often m_la0 m_lb0) rfl rfl (fun H locs X => ?_)
  refine x_aload_n 20 C dX11_parted_19 hl 4 rfl rfl ?_
  refine x_lconst 21 C dX11_parted_20 (0 : Int64) kv_lconst_0 rfl ?_
  refine x_put 24 C dX11_parted_21 X kp_X11_287 0 rfl rfl rfl rfl (wM T h m_taped m_states m_ra m_rb m_threes m_primes m_ones m_unit m_allParts m_allNorms m_allClasses m_odd m_boxWide m_boxHigh m_boxStep m_partingMany m_qa m_qb m_la m_lb (1 : Int64) (0 : Int64) m_ta m_tb m_listed m_tells m_wanted m_found m_bits m_power2 m_rings m_ringA m_ringB m_seedNow m_tape m_has m_keptHas m_first m_second m_keptFirst m_keptSecond m_pa m_pb m_pNorm m_cubed m_isOpen m_signs m_often m_la0 m_lb0) rfl rfl (fun H locs X => ?_)
  refine x_aload_n 25 C dX11_parted_24 hl 4 rfl rfl ?_
  refine x_lconst 26 C dX11_parted_25 (0 : Int64) kv_lconst_0 rfl ?_
  refine x_put 29 C dX11_parted_26 X kp_X11_290 0 rfl rfl rfl rfl (wM T h m_taped m_states m_ra m_rb m_threes m_primes m_ones m_unit m_allParts m_allNorms m_allClasses m_odd m_boxWide m_boxHigh m_boxStep m_partingMany m_qa m_qb m_la m_lb (1 : Int64) (0 : Int64) (0 : Int64) m_tb m_listed m_tells m_wanted m_found m_bits m_power2 m_rings m_ringA m_ringB m_seedNow m_tape m_has m_keptHas m_first m_second m_keptFirst m_keptSecond m_pa m_pb m_pNorm m_cubed m_isOpen m_signs m_often m_la0 m_lb0) rfl rfl (fun H locs X => ?_)
  refine x_aload_n 30 C dX11_parted_29 hl 4 rfl rfl ?_
  refine x_lconst 31 C dX11_parted_30 (0 : Int64) kv_lconst_0 rfl ?_
  refine x_put 34 C dX11_parted_31 X kp_X11_293 0 rfl rfl rfl rfl (wM T h m_taped m_states m_ra m_rb m_threes m_primes m_ones m_unit m_allParts m_allNorms m_allClasses m_odd m_boxWide m_boxHigh m_boxStep m_partingMany m_qa m_qb m_la m_lb (1 : Int64) (0 : Int64) (0 : Int64) (0 : Int64) m_listed m_tells m_wanted m_found m_bits m_power2 m_rings m_ringA m_ringB m_seedNow m_tape m_has m_keptHas m_first m_second m_keptFirst m_keptSecond m_pa m_pb m_pNorm m_cubed m_isOpen m_signs m_often m_la0 m_lb0) rfl rfl (fun H locs X => ?_)
  refine x_lconst 35 C dX11_parted_34 (0 : Int64) kv_lconst_0 rfl ?_
  refine x_lstore 37 C dX11_parted_35 [(18, .long (0 : Int64)), (16, .long v7), (14, .long v5), (12, .long v3), (10, .long v1), (0, .ref (h 0)), (1, .long v1), (3, .long v3), (5, .long v5), (7, .long v7), (9, .int v9)] hl rfl rfl rfl (fun ls hl => ?_)
  refine x_lconst 38 C dX11_parted_37 (0 : Int64) kv_lconst_0 rfl ?_
  refine x_lstore 40 C dX11_parted_38 [(20, .long (0 : Int64)), (18, .long (0 : Int64)), (16, .long v7), (14, .long v5), (12, .long v3), (10, .long v1), (0, .ref (h 0)), (1, .long v1), (3, .long v3), (5, .long v5), (7, .long v7), (9, .int v9)] hl rfl rfl rfl (fun ls hl => ?_)
  refine x_lconst 41 C dX11_parted_40 (1 : Int64) kv_lconst_1 rfl ?_
  refine x_lstore 43 C dX11_parted_41 [(22, .long (1 : Int64)), (20, .long (0 : Int64)), (18, .long (0 : Int64)), (16, .long v7), (14, .long v5), (12, .long v3), (10, .long v1), (0, .ref (h 0)), (1, .long v1), (3, .long v3), (5, .long v5), (7, .long v7), (9, .int v9)] hl rfl rfl rfl (fun ls hl => ?_)
  refine x_lconst 44 C dX11_parted_43 (0 : Int64) kv_lconst_0 rfl ?_
  refine x_lstore 46 C dX11_parted_44 [(24, .long (0 : Int64)), (22, .long (1 : Int64)), (20, .long (0 : Int64)), (18, .long (0 : Int64)), (16, .long v7), (14, .long v5), (12, .long v3), (10, .long v1), (0, .ref (h 0)), (1, .long v1), (3, .long v3), (5, .long v5), (7, .long v7), (9, .int v9)] hl rfl rfl rfl (fun ls hl => ?_)
  refine x_aload_n 47 C dX11_parted_46 hl 8 rfl rfl ?_
  refine x_iconst 48 C dX11_parted_47 (0 : Int32) kv_iconst_0 rfl ?_
  refine x_put 51 C dX11_parted_48 X kp_X11_296 0 rfl rfl rfl rfl (wM T h m_taped m_states m_ra m_rb m_threes m_primes m_ones m_unit m_allParts m_allNorms m_allClasses m_odd m_boxWide m_boxHigh m_boxStep (0 : Int32) m_qa m_qb m_la m_lb (1 : Int64) (0 : Int64) (0 : Int64) (0 : Int64) m_listed m_tells m_wanted m_found m_bits m_power2 m_rings m_ringA m_ringB m_seedNow m_tape m_has m_keptHas m_first m_second m_keptFirst m_keptSecond m_pa m_pb m_pNorm m_cubed m_isOpen m_signs m_often m_la0 m_lb0) rfl rfl (fun H locs X => ?_)
  exact w_X11_parted_51 h C N x m_taped m_states m_threes m_primes m_ones m_unit m_allParts m_allNorms m_allClasses m_odd m_boxWide m_boxHigh m_boxStep m_listed m_tells m_wanted m_found m_bits m_power2 m_rings m_ringA m_ringB m_seedNow m_tape m_has m_keptHas m_first m_second m_keptFirst m_keptSecond m_pa m_pb m_pNorm m_cubed m_isOpen m_signs m_often m_la0 m_lb0 R  N m_ra m_rb (0 : Int32) m_qa m_qb m_la m_lb (1 : Int64) (0 : Int64) (0 : Int64) (0 : Int64) v9 v1 v3 v5 v7 (0 : Int64) (0 : Int64) (1 : Int64) (0 : Int64) _ _ _ X (lv_sub hl [8, 13, 7, 6, 5, 4, 3, 2, 1, 0] rfl) hf
set_option maxHeartbeats 4000000 in
set_option maxRecDepth 100000 in
theorem c_X11_inverts (l : Launch) (D : va_G) (T : KT) (h : Nat → Nat) (N : Nat) (v1 v3 v5 v7 : Int64) (m_taped m_states : Int32) (m_ra m_rb : Int64) (m_threes m_primes m_ones m_unit : Int32) (m_allParts m_allNorms m_allClasses : Int64) (m_odd : Int32) (m_boxWide m_boxHigh m_boxStep : Int64) (m_partingMany : Int32) (m_qa m_qb m_la m_lb m_sa m_sb m_ta m_tb : Int64) (m_listed m_tells m_wanted m_found : Int32) (m_bits : Int64) (m_power2 m_rings m_ringA m_ringB m_seedNow : Int32) (m_tape m_has m_keptHas m_first m_second m_keptFirst m_keptSecond m_pa m_pb m_pNorm m_cubed m_isOpen m_signs m_often m_la0 m_lb0 : Nat → Int32) (x : Int64 × Int64 × Int32 × Int64 × Int64 × Int64 × Int64 × Int64 × Int64 × Int64 × Int64) (hf : f_X11_inverts N v1 v3 v5 v7 m_ra m_rb m_qa m_qb = some x) : kx_MV l yX11_inverts cX11_inverts 9 none 4 135 D T [.ref (h 0), .long v1, .long v3, .long v5, .long v7] (wM T h m_taped m_states m_ra m_rb m_threes m_primes m_ones m_unit m_allParts m_allNorms m_allClasses m_odd m_boxWide m_boxHigh m_boxStep m_partingMany m_qa m_qb m_la m_lb m_sa m_sb m_ta m_tb m_listed m_tells m_wanted m_found m_bits m_power2 m_rings m_ringA m_ringB m_seedNow m_tape m_has m_keptHas m_first m_second m_keptFirst m_keptSecond m_pa m_pb m_pNorm m_cubed m_isOpen m_signs m_often m_la0 m_lb0) (wM T h m_taped m_states x.1 x.2.1 m_threes m_primes m_ones m_unit m_allParts m_allNorms m_allClasses m_odd m_boxWide m_boxHigh m_boxStep x.2.2.1 x.2.2.2.1 x.2.2.2.2.1 x.2.2.2.2.2.1 x.2.2.2.2.2.2.1 x.2.2.2.2.2.2.2.1 x.2.2.2.2.2.2.2.2.1 x.2.2.2.2.2.2.2.2.2.1 x.2.2.2.2.2.2.2.2.2.2 m_listed m_tells m_wanted m_found m_bits m_power2 m_rings m_ringA m_ringB m_seedNow m_tape m_has m_keptHas m_first m_second m_keptFirst m_keptSecond m_pa m_pb m_pNorm m_cubed m_isOpen m_signs m_often m_la0 m_lb0) := by
  refine kx_ofMV RX11 rfl (plainFor_of_name (x := yX11_inverts) kpn_X11) rfl ?_
  intro E A H ls _ C X R hl
  have hl : lv_has ls 9 [(0, .ref (h 0)), (1, .long v1), (3, .long v3), (5, .long v5), (7, .long v7)] := hl
  rw [f_X11_inverts] at hf
  refine x_aload_n 1 C dX11_inverts_0 hl 0 rfl rfl ?_
  refine x_lload_n 2 C dX11_inverts_1 hl 1 rfl rfl ?_
  refine x_lload_n 3 C dX11_inverts_2 hl 2 rfl rfl ?_
  refine x_lload 5 C dX11_inverts_3 hl 3 rfl rfl ?_
  refine x_lload 7 C dX11_inverts_5 hl 4 rfl rfl ?_
  refine x_iconst 8 C dX11_inverts_7 (-1 : Int32) kv_iconst_m1 rfl ?_
  obtain ⟨y8, hy8, hf⟩ := kx_bind hf
  refine x_callVv0 11 C dX11_inverts_8 X hl kl_X11_311 (c_X11_parted E.2.1 D T h N v1 v3 v5 v7 (-1 : Int32) m_taped m_states m_ra m_rb m_threes m_primes m_ones m_unit m_allParts m_allNorms m_allClasses m_odd m_boxWide m_boxHigh m_boxStep m_partingMany m_qa m_qb m_la m_lb m_sa m_sb m_ta m_tb m_listed m_tells m_wanted m_found m_bits m_power2 m_rings m_ringA m_ringB m_seedNow m_tape m_has m_keptHas m_first m_second m_keptFirst m_keptSecond m_pa m_pb m_pNorm m_cubed m_isOpen m_signs m_often m_la0 m_lb0 y8 hy8) rfl rfl [] rfl rfl rfl rfl rfl rfl (fun H locs X => ?_)
  refine x_aload_n 12 C dX11_inverts_11 hl 0 rfl rfl ?_
  refine x_aload_n 13 C dX11_inverts_12 hl 0 rfl rfl ?_
  refine x_get 16 C dX11_inverts_13 X kf_X11_284 0 rfl rfl rfl ?_
  refine x_aload_n 17 C dX11_inverts_16 hl 0 rfl rfl ?_
  refine x_get 20 C dX11_inverts_17 X kf_X11_287 0 rfl rfl rfl ?_
  refine x_aload_n 21 C dX11_inverts_20 hl 0 rfl rfl ?_
  refine x_get 24 C dX11_inverts_21 X kf_X11_305 0 rfl rfl rfl ?_
  refine x_aload_n 25 C dX11_inverts_24 hl 0 rfl rfl ?_
  refine x_get 28 C dX11_inverts_25 X kf_X11_308 0 rfl rfl rfl ?_
  refine x_lsub 29 C dX11_inverts_28 rfl ?_
  refine x_aload_n 30 C dX11_inverts_29 hl 0 rfl rfl ?_
  refine x_get 33 C dX11_inverts_30 X kf_X11_308 0 rfl rfl rfl ?_
  refine x_lneg 34 C dX11_inverts_33 rfl ?_
  obtain ⟨y34, hy34, hf⟩ := kx_bind hf
  refine x_callVv0 37 C dX11_inverts_34 X hl kl_X11_121 (c_X11_times E.2.1 D T h y8.2.2.2.2.2.2.2.1 y8.2.2.2.2.2.2.2.2.1 (y8.2.2.2.2.2.1 - y8.2.2.2.2.2.2.1) (-y8.2.2.2.2.2.2.1) m_taped m_states y8.1 y8.2.1 m_threes m_primes m_ones m_unit m_allParts m_allNorms m_allClasses m_odd m_boxWide m_boxHigh m_boxStep y8.2.2.1 y8.2.2.2.1 y8.2.2.2.2.1 y8.2.2.2.2.2.1 y8.2.2.2.2.2.2.1 y8.2.2.2.2.2.2.2.1 y8.2.2.2.2.2.2.2.2.1 y8.2.2.2.2.2.2.2.2.2.1 y8.2.2.2.2.2.2.2.2.2.2 m_listed m_tells m_wanted m_found m_bits m_power2 m_rings m_ringA m_ringB m_seedNow m_tape m_has m_keptHas m_first m_second m_keptFirst m_keptSecond m_pa m_pb m_pNorm m_cubed m_isOpen m_signs m_often m_la0 m_lb0 y34 hy34) rfl rfl [] rfl rfl rfl rfl rfl rfl (fun H locs X => ?_)
  obtain rfl := Option.some.inj hf
  exact R _ _ _ _ X dX11_inverts_37
set_option maxHeartbeats 4000000 in
set_option maxRecDepth 100000 in
theorem c_X11_inverse (l : Launch) (D : va_G) (T : KT) (h : Nat → Nat) (N : Nat) (v1 v2 v3 : Int32) (m_taped m_states : Int32) (m_ra m_rb : Int64) (m_threes m_primes m_ones m_unit : Int32) (m_allParts m_allNorms m_allClasses : Int64) (m_odd : Int32) (m_boxWide m_boxHigh m_boxStep : Int64) (m_partingMany : Int32) (m_qa m_qb m_la m_lb m_sa m_sb m_ta m_tb : Int64) (m_listed m_tells m_wanted m_found : Int32) (m_bits : Int64) (m_power2 m_rings m_ringA m_ringB m_seedNow : Int32) (m_tape m_has m_keptHas m_first m_second m_keptFirst m_keptSecond m_pa m_pb m_pNorm m_cubed m_isOpen m_signs m_often m_la0 m_lb0 : Nat → Int32) (x : Int32 × Int64 × Int64 × Int64 × Int64 × Int64 × Int32 × Int64 × Int64 × Int64 × Int64 × Int64 × Int64 × Int64 × Int64) (hf : f_X11_inverse N v1 v2 v3 m_ra m_rb m_boxWide m_boxHigh m_boxStep m_partingMany m_qa m_qb m_la m_lb m_sa m_sb m_ta m_tb m_has m_first m_second = some x) : kx_MI l yX11_inverse cX11_inverse 4 (some .int) 6 174 D T [.ref (h 0), .int v1, .int v2, .int v3] (wM T h m_taped m_states m_ra m_rb m_threes m_primes m_ones m_unit m_allParts m_allNorms m_allClasses m_odd m_boxWide m_boxHigh m_boxStep m_partingMany m_qa m_qb m_la m_lb m_sa m_sb m_ta m_tb m_listed m_tells m_wanted m_found m_bits m_power2 m_rings m_ringA m_ringB m_seedNow m_tape m_has m_keptHas m_first m_second m_keptFirst m_keptSecond m_pa m_pb m_pNorm m_cubed m_isOpen m_signs m_often m_la0 m_lb0) (wM T h m_taped m_states x.2.1 x.2.2.1 m_threes m_primes m_ones m_unit m_allParts m_allNorms m_allClasses m_odd x.2.2.2.1 x.2.2.2.2.1 x.2.2.2.2.2.1 x.2.2.2.2.2.2.1 x.2.2.2.2.2.2.2.1 x.2.2.2.2.2.2.2.2.1 x.2.2.2.2.2.2.2.2.2.1 x.2.2.2.2.2.2.2.2.2.2.1 x.2.2.2.2.2.2.2.2.2.2.2.1 x.2.2.2.2.2.2.2.2.2.2.2.2.1 x.2.2.2.2.2.2.2.2.2.2.2.2.2.1 x.2.2.2.2.2.2.2.2.2.2.2.2.2.2 m_listed m_tells m_wanted m_found m_bits m_power2 m_rings m_ringA m_ringB m_seedNow m_tape m_has m_keptHas m_first m_second m_keptFirst m_keptSecond m_pa m_pb m_pNorm m_cubed m_isOpen m_signs m_often m_la0 m_lb0) x.1 := by
  refine kx_ofMI RX11 rfl (plainFor_of_name (x := yX11_inverse) kpn_X11) rfl ?_
  intro E A H ls _ C X R hl
  have hl : lv_has ls 4 [(0, .ref (h 0)), (1, .int v1), (2, .int v2), (3, .int v3)] := hl
  rw [f_X11_inverse] at hf
  refine x_iload_n 1 C dX11_inverse_0 hl 1 rfl rfl ?_
  refine x_iload_n 2 C dX11_inverse_1 hl 2 rfl rfl ?_
  refine x_iload_n 3 C dX11_inverse_2 hl 3 rfl rfl ?_
  obtain ⟨y3, hy3, hf⟩ := kx_bind hf
  refine x_callSi 6 C dX11_inverse_3 X hl kl_X11_265 (c_X11_areDrawers E.2.1 D T  v1 v2 v3  y3 hy3) [] rfl rfl rfl rfl rfl cb_7 rfl (fun H locs X => ?_)
  refine x_if_ne 11 9 C dX11_inverse_6 rfl rfl hf (fun hf => ?_) (fun hf => ?_)
  · refine x_aload_n 12 C dX11_inverse_11 hl 0 rfl rfl ?_
    refine x_iload_n 13 C dX11_inverse_12 hl 1 rfl rfl ?_
    refine x_iload_n 14 C dX11_inverse_13 hl 2 rfl rfl ?_
    obtain ⟨y14, hy14, hf⟩ := kx_bind hf
    refine x_callVi0 17 C dX11_inverse_14 X hl kl_X11_269 (c_X11_hasBoth E.2.1 D T h v1 v2 m_taped m_states m_ra m_rb m_threes m_primes m_ones m_unit m_allParts m_allNorms m_allClasses m_odd m_boxWide m_boxHigh m_boxStep m_partingMany m_qa m_qb m_la m_lb m_sa m_sb m_ta m_tb m_listed m_tells m_wanted m_found m_bits m_power2 m_rings m_ringA m_ringB m_seedNow m_tape m_has m_keptHas m_first m_second m_keptFirst m_keptSecond m_pa m_pb m_pNorm m_cubed m_isOpen m_signs m_often m_la0 m_lb0 y14 hy14) rfl rfl [] rfl rfl rfl rfl rfl rfl (fun H locs X => ?_)
    refine x_if_ne 23 20 C dX11_inverse_17 rfl rfl hf (fun hf => ?_) (fun hf => ?_)
    · refine x_aload_n 24 C dX11_inverse_23 hl 0 rfl rfl ?_
      refine x_iload_n 25 C dX11_inverse_24 hl 2 rfl rfl ?_
      obtain ⟨y25, hy25, hf⟩ := kx_bind hf
      refine x_callVi0 28 C dX11_inverse_25 X hl kl_X11_178 (c_X11_isNothing E.2.1 D T h v2 m_taped m_states m_ra m_rb m_threes m_primes m_ones m_unit m_allParts m_allNorms m_allClasses m_odd m_boxWide m_boxHigh m_boxStep m_partingMany m_qa m_qb m_la m_lb m_sa m_sb m_ta m_tb m_listed m_tells m_wanted m_found m_bits m_power2 m_rings m_ringA m_ringB m_seedNow m_tape m_has m_keptHas m_first m_second m_keptFirst m_keptSecond m_pa m_pb m_pNorm m_cubed m_isOpen m_signs m_often m_la0 m_lb0 y25 hy25) rfl rfl [] rfl rfl rfl rfl rfl rfl (fun H locs X => ?_)
      refine x_if_eq 34 31 C dX11_inverse_28 rfl rfl hf (fun hf => ?_) (fun hf => ?_)
      · refine x_aload_n 35 C dX11_inverse_34 hl 0 rfl rfl ?_
        refine x_aload_n 36 C dX11_inverse_35 hl 0 rfl rfl ?_
        refine x_get 39 C dX11_inverse_36 X kf_X11_20 0 rfl rfl rfl ?_
        refine x_iload_n 40 C dX11_inverse_39 hl 1 rfl rfl ?_
        refine x_iald 41 C dX11_inverse_40 X 4 rfl hf rfl (fun hf => ?_)
        refine x_i2l 42 C dX11_inverse_41 rfl ?_
        refine x_aload_n 43 C dX11_inverse_42 hl 0 rfl rfl ?_
        refine x_get 46 C dX11_inverse_43 X kf_X11_24 0 rfl rfl rfl ?_
        refine x_iload_n 47 C dX11_inverse_46 hl 1 rfl rfl ?_
        refine x_iald 48 C dX11_inverse_47 X 5 rfl hf rfl (fun hf => ?_)
        refine x_i2l 49 C dX11_inverse_48 rfl ?_
        refine x_aload_n 50 C dX11_inverse_49 hl 0 rfl rfl ?_
        refine x_get 53 C dX11_inverse_50 X kf_X11_20 0 rfl rfl rfl ?_
        refine x_iload_n 54 C dX11_inverse_53 hl 2 rfl rfl ?_
        refine x_iald 55 C dX11_inverse_54 X 4 rfl hf rfl (fun hf => ?_)
        refine x_i2l 56 C dX11_inverse_55 rfl ?_
        refine x_aload_n 57 C dX11_inverse_56 hl 0 rfl rfl ?_
        refine x_get 60 C dX11_inverse_57 X kf_X11_24 0 rfl rfl rfl ?_
        refine x_iload_n 61 C dX11_inverse_60 hl 2 rfl rfl ?_
        refine x_iald 62 C dX11_inverse_61 X 5 rfl hf rfl (fun hf => ?_)
        refine x_i2l 63 C dX11_inverse_62 rfl ?_
        obtain ⟨y63, hy63, hf⟩ := kx_bind hf
        refine x_callVi0 66 C dX11_inverse_63 X hl kl_X11_195 (c_X11_arePrimeTo E.2.1 D T h N ((m_first (v1).toNatClampNeg)).toInt64 ((m_second (v1).toNatClampNeg)).toInt64 ((m_first (v2).toNatClampNeg)).toInt64 ((m_second (v2).toNatClampNeg)).toInt64 m_taped m_states m_ra m_rb m_threes m_primes m_ones m_unit m_allParts m_allNorms m_allClasses m_odd m_boxWide m_boxHigh m_boxStep m_partingMany m_qa m_qb m_la m_lb m_sa m_sb m_ta m_tb m_listed m_tells m_wanted m_found m_bits m_power2 m_rings m_ringA m_ringB m_seedNow m_tape m_has m_keptHas m_first m_second m_keptFirst m_keptSecond m_pa m_pb m_pNorm m_cubed m_isOpen m_signs m_often m_la0 m_lb0 y63 hy63) rfl rfl [] rfl rfl rfl rfl rfl rfl (fun H locs X => ?_)
        refine x_if_ne 72 69 C dX11_inverse_66 rfl rfl hf (fun hf => ?_) (fun hf => ?_)
        · refine x_aload_n 73 C dX11_inverse_72 hl 0 rfl rfl ?_
          refine x_aload_n 74 C dX11_inverse_73 hl 0 rfl rfl ?_
          refine x_get 77 C dX11_inverse_74 X kf_X11_20 0 rfl rfl rfl ?_
          refine x_iload_n 78 C dX11_inverse_77 hl 2 rfl rfl ?_
          refine x_iald 79 C dX11_inverse_78 X 4 rfl hf rfl (fun hf => ?_)
          refine x_i2l 80 C dX11_inverse_79 rfl ?_
          refine x_aload_n 81 C dX11_inverse_80 hl 0 rfl rfl ?_
          refine x_get 84 C dX11_inverse_81 X kf_X11_24 0 rfl rfl rfl ?_
          refine x_iload_n 85 C dX11_inverse_84 hl 2 rfl rfl ?_
          refine x_iald 86 C dX11_inverse_85 X 5 rfl hf rfl (fun hf => ?_)
          refine x_i2l 87 C dX11_inverse_86 rfl ?_
          obtain ⟨y87, hy87, hf⟩ := kx_bind hf
          refine x_callVv0 90 C dX11_inverse_87 X hl kl_X11_273 (c_X11_laysBox E.2.1 D T h N ((m_first (v2).toNatClampNeg)).toInt64 ((m_second (v2).toNatClampNeg)).toInt64 m_taped m_states y63.2.1 y63.2.2 m_threes m_primes m_ones m_unit m_allParts m_allNorms m_allClasses m_odd m_boxWide m_boxHigh m_boxStep m_partingMany m_qa m_qb m_la m_lb m_sa m_sb m_ta m_tb m_listed m_tells m_wanted m_found m_bits m_power2 m_rings m_ringA m_ringB m_seedNow m_tape m_has m_keptHas m_first m_second m_keptFirst m_keptSecond m_pa m_pb m_pNorm m_cubed m_isOpen m_signs m_often m_la0 m_lb0 y87 hy87) rfl rfl [] rfl rfl rfl rfl rfl rfl (fun H locs X => ?_)
          refine x_aload_n 91 C dX11_inverse_90 hl 0 rfl rfl ?_
          refine x_aload_n 92 C dX11_inverse_91 hl 0 rfl rfl ?_
          refine x_get 95 C dX11_inverse_92 X kf_X11_20 0 rfl rfl rfl ?_
          refine x_iload_n 96 C dX11_inverse_95 hl 1 rfl rfl ?_
          refine x_iald 97 C dX11_inverse_96 X 4 rfl hf rfl (fun hf => ?_)
          refine x_i2l 98 C dX11_inverse_97 rfl ?_
          refine x_aload_n 99 C dX11_inverse_98 hl 0 rfl rfl ?_
          refine x_get 102 C dX11_inverse_99 X kf_X11_24 0 rfl rfl rfl ?_
          refine x_iload_n 103 C dX11_inverse_102 hl 1 rfl rfl ?_
          refine x_iald 104 C dX11_inverse_103 X 5 rfl hf rfl (fun hf => ?_)
          refine x_i2l 105 C dX11_inverse_104 rfl ?_
          refine x_aload_n 106 C dX11_inverse_105 hl 0 rfl rfl ?_
          refine x_get 109 C dX11_inverse_106 X kf_X11_20 0 rfl rfl rfl ?_
          refine x_iload_n 110 C dX11_inverse_109 hl 2 rfl rfl ?_
          refine x_iald 111 C dX11_inverse_110 X 4 rfl hf rfl (fun hf => ?_)
          refine x_i2l 112 C dX11_inverse_111 rfl ?_
          refine x_aload_n 113 C dX11_inverse_112 hl 0 rfl rfl ?_
          refine x_get 116 C dX11_inverse_113 X kf_X11_24 0 rfl rfl rfl ?_
          refine x_iload_n 117 C dX11_inverse_116 hl 2 rfl rfl ?_
          refine x_iald 118 C dX11_inverse_117 X 5 rfl hf rfl (fun hf => ?_)
          refine x_i2l 119 C dX11_inverse_118 rfl ?_
          obtain ⟨y119, hy119, hf⟩ := kx_bind hf
          refine x_callVv0 122 C dX11_inverse_119 X hl kl_X11_315 (c_X11_inverts E.2.1 D T h N ((m_first (v1).toNatClampNeg)).toInt64 ((m_second (v1).toNatClampNeg)).toInt64 ((m_first (v2).toNatClampNeg)).toInt64 ((m_second (v2).toNatClampNeg)).toInt64 m_taped m_states y63.2.1 y63.2.2 m_threes m_primes m_ones m_unit m_allParts m_allNorms m_allClasses m_odd y87.1 y87.2.1 y87.2.2 m_partingMany m_qa m_qb m_la m_lb m_sa m_sb m_ta m_tb m_listed m_tells m_wanted m_found m_bits m_power2 m_rings m_ringA m_ringB m_seedNow m_tape m_has m_keptHas m_first m_second m_keptFirst m_keptSecond m_pa m_pb m_pNorm m_cubed m_isOpen m_signs m_often m_la0 m_lb0 y119 hy119) rfl rfl [] rfl rfl rfl rfl rfl rfl (fun H locs X => ?_)
          refine x_aload_n 123 C dX11_inverse_122 hl 0 rfl rfl ?_
          refine x_aload_n 124 C dX11_inverse_123 hl 0 rfl rfl ?_
          refine x_get 127 C dX11_inverse_124 X kf_X11_105 0 rfl rfl rfl ?_
          refine x_aload_n 128 C dX11_inverse_127 hl 0 rfl rfl ?_
          refine x_get 131 C dX11_inverse_128 X kf_X11_109 0 rfl rfl rfl ?_
          obtain ⟨y131, hy131, hf⟩ := kx_bind hf
          refine x_callVv0 134 C dX11_inverse_131 X hl kl_X11_259 (c_X11_boxes E.2.1 D T h y119.1 y119.2.1 m_taped m_states y119.1 y119.2.1 m_threes m_primes m_ones m_unit m_allParts m_allNorms m_allClasses m_odd y87.1 y87.2.1 y87.2.2 y119.2.2.1 y119.2.2.2.1 y119.2.2.2.2.1 y119.2.2.2.2.2.1 y119.2.2.2.2.2.2.1 y119.2.2.2.2.2.2.2.1 y119.2.2.2.2.2.2.2.2.1 y119.2.2.2.2.2.2.2.2.2.1 y119.2.2.2.2.2.2.2.2.2.2 m_listed m_tells m_wanted m_found m_bits m_power2 m_rings m_ringA m_ringB m_seedNow m_tape m_has m_keptHas m_first m_second m_keptFirst m_keptSecond m_pa m_pb m_pNorm m_cubed m_isOpen m_signs m_often m_la0 m_lb0 y131 hy131) rfl rfl [] rfl rfl rfl rfl rfl rfl (fun H locs X => ?_)
          refine x_aload_n 135 C dX11_inverse_134 hl 0 rfl rfl ?_
          refine x_iload_n 136 C dX11_inverse_135 hl 3 rfl rfl ?_
          obtain ⟨y136, hy136, hf⟩ := kx_bind hf
          refine x_callVi0 139 C dX11_inverse_136 X hl kl_X11_276 (c_X11_part E.2.1 D T h v3 m_taped m_states y131.1 y131.2 m_threes m_primes m_ones m_unit m_allParts m_allNorms m_allClasses m_odd y87.1 y87.2.1 y87.2.2 y119.2.2.1 y119.2.2.2.1 y119.2.2.2.2.1 y119.2.2.2.2.2.1 y119.2.2.2.2.2.2.1 y119.2.2.2.2.2.2.2.1 y119.2.2.2.2.2.2.2.2.1 y119.2.2.2.2.2.2.2.2.2.1 y119.2.2.2.2.2.2.2.2.2.2 m_listed m_tells m_wanted m_found m_bits m_power2 m_rings m_ringA m_ringB m_seedNow m_tape m_has m_keptHas m_first m_second m_keptFirst m_keptSecond m_pa m_pb m_pNorm m_cubed m_isOpen m_signs m_often m_la0 m_lb0 y136 hy136) rfl rfl [] rfl rfl rfl rfl rfl rfl (fun H locs X => ?_)
          obtain rfl := Option.some.inj hf
          exact R _ _ _ _ X dX11_inverse_139
        refine x_bipush 71 C dX11_inverse_69 (-4 : Int32) kv_bipush_m4 rfl ?_
        obtain rfl := Option.some.inj hf
        exact R _ _ _ _ X dX11_inverse_71
      refine x_bipush 33 C dX11_inverse_31 (-3 : Int32) kv_bipush_m3 rfl ?_
      obtain rfl := Option.some.inj hf
      exact R _ _ _ _ X dX11_inverse_33
    refine x_bipush 22 C dX11_inverse_20 (-2 : Int32) kv_bipush_m2 rfl ?_
    obtain rfl := Option.some.inj hf
    exact R _ _ _ _ X dX11_inverse_22
  refine x_iconst 10 C dX11_inverse_9 (-1 : Int32) kv_iconst_m1 rfl ?_
  obtain rfl := Option.some.inj hf
  exact R _ _ _ _ X dX11_inverse_10
set_option maxHeartbeats 4000000 in
set_option maxRecDepth 100000 in
theorem c_X5_cube (l : Launch) (D : va_G) (T : KT) (h0 : Nat)  (m_a m_b : Int64) (x : Int64 × Int64) (hf : f_X5_cube m_a m_b = some x) : kx_MV l yX5_cube cX5_cube 3 none 0 0 D T [.ref h0] (w7_X5 T h0 m_a m_b) (w7_X5 T h0 x.1 x.2) := by
  refine kx_ofMV RX5 rfl (plainFor_of_name (x := yX5_cube) kpn_X5) rfl ?_
  intro E A H ls _ C X R hl
  have hl : lv_has ls 3 [(0, .ref h0)] := hl
  rw [f_X5_cube] at hf
  refine x_ldc2_w 3 C dX5_cube_0 (3 : Int64) kc_X5_26 rfl ?_
  refine x_aload_n 4 C dX5_cube_3 hl 0 rfl rfl ?_
  refine x_get 7 C dX5_cube_4 X kf_X5_9 0 rfl rfl rfl ?_
  refine x_lmul 8 C dX5_cube_7 rfl ?_
  refine x_aload_n 9 C dX5_cube_8 hl 0 rfl rfl ?_
  refine x_get 12 C dX5_cube_9 X kf_X5_15 0 rfl rfl rfl ?_
  refine x_lmul 13 C dX5_cube_12 rfl ?_
  refine x_aload_n 14 C dX5_cube_13 hl 0 rfl rfl ?_
  refine x_get 17 C dX5_cube_14 X kf_X5_9 0 rfl rfl rfl ?_
  refine x_aload_n 18 C dX5_cube_17 hl 0 rfl rfl ?_
  refine x_get 21 C dX5_cube_18 X kf_X5_15 0 rfl rfl rfl ?_
  refine x_lsub 22 C dX5_cube_21 rfl ?_
  refine x_lmul 23 C dX5_cube_22 rfl ?_
  refine x_lstore_n 24 C dX5_cube_23 [(1, .long ((((3 : Int64) * m_a) * m_b) * (m_a - m_b))), (0, .ref h0)] hl rfl rfl rfl (fun ls hl => ?_)
  refine x_aload_n 25 C dX5_cube_24 hl 1 rfl rfl ?_
  refine x_aload_n 26 C dX5_cube_25 hl 1 rfl rfl ?_
  refine x_get 29 C dX5_cube_26 X kf_X5_9 0 rfl rfl rfl ?_
  refine x_aload_n 30 C dX5_cube_29 hl 1 rfl rfl ?_
  refine x_get 33 C dX5_cube_30 X kf_X5_9 0 rfl rfl rfl ?_
  refine x_lmul 34 C dX5_cube_33 rfl ?_
  refine x_aload_n 35 C dX5_cube_34 hl 1 rfl rfl ?_
  refine x_get 38 C dX5_cube_35 X kf_X5_9 0 rfl rfl rfl ?_
  refine x_lmul 39 C dX5_cube_38 rfl ?_
  refine x_aload_n 40 C dX5_cube_39 hl 1 rfl rfl ?_
  refine x_get 43 C dX5_cube_40 X kf_X5_15 0 rfl rfl rfl ?_
  refine x_aload_n 44 C dX5_cube_43 hl 1 rfl rfl ?_
  refine x_get 47 C dX5_cube_44 X kf_X5_15 0 rfl rfl rfl ?_
  refine x_lmul 48 C dX5_cube_47 rfl ?_
  refine x_aload_n 49 C dX5_cube_48 hl 1 rfl rfl ?_
  refine x_get 52 C dX5_cube_49 X kf_X5_15 0 rfl rfl rfl ?_
  refine x_lmul 53 C dX5_cube_52 rfl ?_
  refine x_ladd 54 C dX5_cube_53 rfl ?_
  refine x_ldc2_w 57 C dX5_cube_54 (3 : Int64) kc_X5_26 rfl ?_
  refine x_aload_n 58 C dX5_cube_57 hl 1 rfl rfl ?_
  refine x_get 61 C dX5_cube_58 X kf_X5_9 0 rfl rfl rfl ?_
  refine x_lmul 62 C dX5_cube_61 rfl ?_
  refine x_aload_n 63 C dX5_cube_62 hl 1 rfl rfl ?_
  refine x_get 66 C dX5_cube_63 X kf_X5_15 0 rfl rfl rfl ?_
  refine x_lmul 67 C dX5_cube_66 rfl ?_
  refine x_aload_n 68 C dX5_cube_67 hl 1 rfl rfl ?_
  refine x_get 71 C dX5_cube_68 X kf_X5_15 0 rfl rfl rfl ?_
  refine x_lmul 72 C dX5_cube_71 rfl ?_
  refine x_lsub 73 C dX5_cube_72 rfl ?_
  refine x_put 76 C dX5_cube_73 X kp_X5_9 0 rfl rfl rfl rfl (w7_X5 T h0 ((((m_a * m_a) * m_a) + ((m_b * m_b) * m_b)) - ((((3 : Int64) * m_a) * m_b) * m_b)) m_b) rfl rfl (fun H locs X => ?_)
  refine x_aload_n 77 C dX5_cube_76 hl 1 rfl rfl ?_
  refine x_lload_n 78 C dX5_cube_77 hl 0 rfl rfl ?_
  refine x_put 81 C dX5_cube_78 X kp_X5_15 0 rfl rfl rfl rfl (w7_X5 T h0 ((((m_a * m_a) * m_a) + ((m_b * m_b) * m_b)) - ((((3 : Int64) * m_a) * m_b) * m_b)) ((((3 : Int64) * m_a) * m_b) * (m_a - m_b))) rfl rfl (fun H locs X => ?_)
  obtain rfl := Option.some.inj hf
  exact R _ _ _ _ X dX5_cube_81
set_option maxHeartbeats 4000000 in
set_option maxRecDepth 100000 in
theorem w_X10_seekResidue_p2_one_71 {E : KE} {A : Nat → Prop} {D : va_G} {T : KT} (h : Nat → Nat) (C : kx_C E cX10_seekResidue 9 (some .int) RX10 2 48 D T) (N : Nat) (x : Int32 × Int64 × Int64) (m_drawers_full m_drawers_kept : Int32) (m_drawers_partA m_drawers_partB m_drawers_keptA m_drawers_keptB m_drawers_keptFull : Nat → Int32) (m_tape_size m_tape_plain m_tape_omegas m_tape_end m_tape_place m_tape_plainTold m_tape_omegasTold : Int32) (m_tape_bytes : Nat → Int32) (m_euclid_count : Int32) (m_euclid_last_a m_euclid_last_b m_euclid_lastOfFirst_a m_euclid_lastOfFirst_b m_euclid_lastOfSecond_a m_euclid_lastOfSecond_b m_euclid_next_a m_euclid_next_b m_euclid_nextOfFirst_a m_euclid_nextOfFirst_b m_euclid_nextOfSecond_a m_euclid_nextOfSecond_b m_euclid_q_a m_euclid_q_b : Int64) (m_euclid_quotientA m_euclid_quotientB : Nat → Int64) (m_modulus_step m_modulus_width m_modulus_slant m_modulus_square_a m_modulus_square_b : Int64) (m_factors_count m_factors_threes m_factors_unit : Int32) (m_factors_primeA m_factors_primeB m_factors_norms : Nat → Int64) (m_factors_euclid_count : Int32) (m_factors_euclid_last_a m_factors_euclid_last_b m_factors_euclid_lastOfFirst_a m_factors_euclid_lastOfFirst_b m_factors_euclid_lastOfSecond_a m_factors_euclid_lastOfSecond_b m_factors_euclid_next_a m_factors_euclid_next_b m_factors_euclid_nextOfFirst_a m_factors_euclid_nextOfFirst_b m_factors_euclid_nextOfSecond_a m_factors_euclid_nextOfSecond_b m_factors_euclid_q_a m_factors_euclid_q_b : Int64) (m_factors_euclid_quotientA m_factors_euclid_quotientB : Nat → Int64) (m_factors_left_a m_factors_left_b m_factors_found_a m_factors_found_b m_factors_product_a m_factors_product_b : Int64) (m_primes_count : Int32) (m_primes_primeA m_primes_primeB : Nat → Int32) (m_primes_found_a m_primes_found_b : Int64) (m_rings_foundA m_rings_foundB m_rings_all m_rings_mostOfOneRow m_letters_count : Int32) (m_letters_bytes : Nat → Int32) (m_one_a m_one_b m_two_a m_two_b m_three_a m_three_b m_four_a m_four_b m_spare_a m_spare_b : Int64) (m_marks : Nat → Int32) (R : kx_RI E cX10_seekResidue D A (wC T h m_drawers_full m_drawers_kept m_drawers_partA m_drawers_partB m_drawers_keptA m_drawers_keptB m_drawers_keptFull m_tape_size m_tape_plain m_tape_omegas m_tape_end m_tape_place m_tape_plainTold m_tape_omegasTold m_tape_bytes m_euclid_count m_euclid_last_a m_euclid_last_b m_euclid_lastOfFirst_a m_euclid_lastOfFirst_b m_euclid_lastOfSecond_a m_euclid_lastOfSecond_b m_euclid_next_a m_euclid_next_b m_euclid_nextOfFirst_a m_euclid_nextOfFirst_b m_euclid_nextOfSecond_a m_euclid_nextOfSecond_b m_euclid_q_a m_euclid_q_b m_euclid_quotientA m_euclid_quotientB m_modulus_step m_modulus_width m_modulus_slant m_modulus_square_a m_modulus_square_b m_factors_count m_factors_threes m_factors_unit m_factors_primeA m_factors_primeB m_factors_norms m_factors_euclid_count m_factors_euclid_last_a m_factors_euclid_last_b m_factors_euclid_lastOfFirst_a m_factors_euclid_lastOfFirst_b m_factors_euclid_lastOfSecond_a m_factors_euclid_lastOfSecond_b m_factors_euclid_next_a m_factors_euclid_next_b m_factors_euclid_nextOfFirst_a m_factors_euclid_nextOfFirst_b m_factors_euclid_nextOfSecond_a m_factors_euclid_nextOfSecond_b m_factors_euclid_q_a m_factors_euclid_q_b m_factors_euclid_quotientA m_factors_euclid_quotientB m_factors_left_a m_factors_left_b m_factors_found_a m_factors_found_b m_factors_product_a m_factors_product_b m_primes_count m_primes_primeA m_primes_primeB m_primes_found_a m_primes_found_b m_rings_foundA m_rings_foundB m_rings_all m_rings_mostOfOneRow m_letters_count m_letters_bytes m_one_a m_one_b m_two_a m_two_b m_three_a m_three_b m_four_a m_four_b x.2.1 x.2.2 m_spare_a m_spare_b m_marks) x.1) (k22 : Int32 → Int32 → Int32 → Int64 → Int64 → Int64 → Int64 → Int64 → Int64 → Int64 → Int64 → Int64 → Int64 → Int64 → Option (Int32 × Int64 × Int64)) (hk22 : ∀ (m_out_a m_out_b : Int64) (v1 v3 v4 : Int32) (v5 v7 : Int64) (H : Heap) (locs : List Loc) (ls : Array Slot), kx_H E D A H locs (wC T h m_drawers_full m_drawers_kept m_drawers_partA m_drawers_partB m_drawers_keptA m_drawers_keptB m_drawers_keptFull m_tape_size m_tape_plain m_tape_omegas m_tape_end m_tape_place m_tape_plainTold m_tape_omegasTold m_tape_bytes m_euclid_count m_euclid_last_a m_euclid_last_b m_euclid_lastOfFirst_a m_euclid_lastOfFirst_b m_euclid_lastOfSecond_a m_euclid_lastOfSecond_b m_euclid_next_a m_euclid_next_b m_euclid_nextOfFirst_a m_euclid_nextOfFirst_b m_euclid_nextOfSecond_a m_euclid_nextOfSecond_b m_euclid_q_a m_euclid_q_b m_euclid_quotientA m_euclid_quotientB m_modulus_step m_modulus_width m_modulus_slant m_modulus_square_a m_modulus_square_b m_factors_count m_factors_threes m_factors_unit m_factors_primeA m_factors_primeB m_factors_norms m_factors_euclid_count m_factors_euclid_last_a m_factors_euclid_last_b m_factors_euclid_lastOfFirst_a m_factors_euclid_lastOfFirst_b m_factors_euclid_lastOfSecond_a m_factors_euclid_lastOfSecond_b m_factors_euclid_next_a m_factors_euclid_next_b m_factors_euclid_nextOfFirst_a m_factors_euclid_nextOfFirst_b m_factors_euclid_nextOfSecond_a m_factors_euclid_nextOfSecond_b m_factors_euclid_q_a m_factors_euclid_q_b m_factors_euclid_quotientA m_factors_euclid_quotientB m_factors_left_a m_factors_left_b m_factors_found_a m_factors_found_b m_factors_product_a m_factors_product_b m_primes_count m_primes_primeA m_primes_primeB m_primes_found_a m_primes_found_b m_rings_foundA m_rings_foundB m_rings_all m_rings_mostOfOneRow m_letters_count m_letters_bytes m_one_a m_one_b m_two_a m_two_b m_three_a m_three_b m_four_a m_four_b m_out_a m_out_b m_spare_a m_spare_b m_marks) → lv_has ls 9 [(0, .ref (h 0)), (1, .int v1), (2, .ref (h 45)), (3, .int v3), (4, .int v4), (5, .long v5), (7, .long v7)] → k22 v1 v3 v4 v5 v7 m_modulus_step m_modulus_width m_modulus_slant m_one_a m_one_b m_out_a m_out_b m_one_a m_one_b = some x → kx_W E H locs 22 ls []) : ∀ (m_out_a m_out_b : Int64) (v1 v3 v4 : Int32) (v5 v7 : Int64) (H : Heap) (locs : List Loc) (ls : Array Slot), kx_H E D A H locs (wC T h m_drawers_full m_drawers_kept m_drawers_partA m_drawers_partB m_drawers_keptA m_drawers_keptB m_drawers_keptFull m_tape_size m_tape_plain m_tape_omegas m_tape_end m_tape_place m_tape_plainTold m_tape_omegasTold m_tape_bytes m_euclid_count m_euclid_last_a m_euclid_last_b m_euclid_lastOfFirst_a m_euclid_lastOfFirst_b m_euclid_lastOfSecond_a m_euclid_lastOfSecond_b m_euclid_next_a m_euclid_next_b m_euclid_nextOfFirst_a m_euclid_nextOfFirst_b m_euclid_nextOfSecond_a m_euclid_nextOfSecond_b m_euclid_q_a m_euclid_q_b m_euclid_quotientA m_euclid_quotientB m_modulus_step m_modulus_width m_modulus_slant m_modulus_square_a m_modulus_square_b m_factors_count m_factors_threes m_factors_unit m_factors_primeA m_factors_primeB m_factors_norms m_factors_euclid_count m_factors_euclid_last_a m_factors_euclid_last_b m_factors_euclid_lastOfFirst_a m_factors_euclid_lastOfFirst_b m_factors_euclid_lastOfSecond_a m_factors_euclid_lastOfSecond_b m_factors_euclid_next_a m_factors_euclid_next_b m_factors_euclid_nextOfFirst_a m_factors_euclid_nextOfFirst_b m_factors_euclid_nextOfSecond_a m_factors_euclid_nextOfSecond_b m_factors_euclid_q_a m_factors_euclid_q_b m_factors_euclid_quotientA m_factors_euclid_quotientB m_factors_left_a m_factors_left_b m_factors_found_a m_factors_found_b m_factors_product_a m_factors_product_b m_primes_count m_primes_primeA m_primes_primeB m_primes_found_a m_primes_found_b m_rings_foundA m_rings_foundB m_rings_all m_rings_mostOfOneRow m_letters_count m_letters_bytes m_one_a m_one_b m_two_a m_two_b m_three_a m_three_b m_four_a m_four_b m_out_a m_out_b m_spare_a m_spare_b m_marks) → lv_has ls 9 [(0, .ref (h 0)), (1, .int v1), (2, .ref (h 45)), (3, .int v3), (4, .int v4), (5, .long v5), (7, .long v7)] → f_X10_seekResidue_71 N k22 v1 v3 v4 v5 v7 m_modulus_step m_modulus_width m_modulus_slant m_one_a m_one_b m_out_a m_out_b m_one_a m_one_b = some x → kx_W E H locs 71 ls [] := by
  intro m_out_a m_out_b v1 v3 v4 v5 v7 H locs ls X hl hf
  rw [f_X10_seekResidue_71] at hf
  refine x_aload_n 72 C dX10_seekResidue_71 hl 0 rfl rfl ?_
  refine x_get 75 C dX10_seekResidue_72 X kf_X10_35 0 rfl rfl rfl ?_
  refine x_aload_n 76 C dX10_seekResidue_75 hl 0 rfl rfl ?_
  refine x_get 79 C dX10_seekResidue_76 X kf_X10_83 0 rfl rfl rfl ?_
  obtain ⟨y79, hy79, hf⟩ := kx_bind hf
  refine x_callVv 82 C dX10_seekResidue_79 X hl kl_X10_270 (c_X4_reduce E.2.1 D T (h 19) (h 20) (h 49)  m_modulus_step m_modulus_width m_modulus_slant m_out_a m_out_b y79 hy79) rfl rfl [] rfl rfl rfl rfl rfl cb_102 rfl (fun H locs X => ?_)
  refine x_aload_n 83 C dX10_seekResidue_82 hl 0 rfl rfl ?_
  refine x_get 86 C dX10_seekResidue_83 X kf_X10_83 0 rfl rfl rfl ?_
  refine x_aload_n 87 C dX10_seekResidue_86 hl 2 rfl rfl ?_
  obtain ⟨y87, hy87, hf⟩ := kx_bind hf
  refine x_callVi 90 C dX10_seekResidue_87 X hl kl_X10_314 (c_X5_isSame E.2.1 D T (h 49) (h 45)  y79.1 y79.2 m_one_a m_one_b y87 hy87) rfl rfl [] rfl rfl rfl rfl rfl cb_56 rfl (fun H locs X => ?_)
  refine x_if_eq 118 93 C dX10_seekResidue_90 rfl rfl hf (fun hf => ?_) (fun hf => ?_)
  · refine x_lload 120 C dX10_seekResidue_118 hl 6 rfl rfl ?_
    refine x_lconst 121 C dX10_seekResidue_120 (1 : Int64) kv_lconst_1 rfl ?_
    refine x_ladd 122 C dX10_seekResidue_121 rfl ?_
    refine x_lstore 124 C dX10_seekResidue_122 [(7, .long (v7 + (1 : Int64))), (0, .ref (h 0)), (1, .int v1), (2, .ref (h 45)), (3, .int v3), (4, .int v4), (5, .long v5)] hl rfl rfl rfl (fun ls hl => ?_)
    refine x_goto 22 C dX10_seekResidue_124 rfl ?_
    exact hk22 y79.1 y79.2 v1 v3 v4 v5 (v7 + (1 : Int64)) _ _ _ X (lv_sub hl [1, 2, 3, 4, 5, 6, 0] rfl) hf
  refine x_iinc 96 C dX10_seekResidue_93 (1 : Int32) kv_iconst_1 [(4, .int (v4 + (1 : Int32))), (0, .ref (h 0)), (1, .int v1), (2, .ref (h 45)), (3, .int v3), (5, .long v5), (7, .long v7)] hl 4 rfl rfl rfl rfl (fun ls hl => ?_)
  refine x_iload 98 C dX10_seekResidue_96 hl 0 rfl rfl ?_
  refine x_iconst 99 C dX10_seekResidue_98 (1 : Int32) kv_iconst_1 rfl ?_
  refine x_isub 100 C dX10_seekResidue_99 rfl ?_
  refine x_iload_n 101 C dX10_seekResidue_100 hl 4 rfl rfl ?_
  refine x_icmp_ne 118 104 C dX10_seekResidue_101 rfl rfl hf (fun hf => ?_) (fun hf => ?_)
  · refine x_lload 120 C dX10_seekResidue_118 hl 6 rfl rfl ?_
    refine x_lconst 121 C dX10_seekResidue_120 (1 : Int64) kv_lconst_1 rfl ?_
    refine x_ladd 122 C dX10_seekResidue_121 rfl ?_
    refine x_lstore 124 C dX10_seekResidue_122 [(7, .long (v7 + (1 : Int64))), (4, .int (v4 + (1 : Int32))), (0, .ref (h 0)), (1, .int v1), (2, .ref (h 45)), (3, .int v3), (5, .long v5)] hl rfl rfl rfl (fun ls hl => ?_)
    refine x_goto 22 C dX10_seekResidue_124 rfl ?_
    exact hk22 y79.1 y79.2 v1 v3 (v4 + (1 : Int32)) v5 (v7 + (1 : Int64)) _ _ _ X (lv_sub hl [2, 3, 4, 5, 1, 6, 0] rfl) hf
  refine x_aload_n 105 C dX10_seekResidue_104 hl 1 rfl rfl ?_
  refine x_get 108 C dX10_seekResidue_105 X kf_X10_83 0 rfl rfl rfl ?_
  refine x_lload 110 C dX10_seekResidue_108 hl 6 rfl rfl ?_
  refine x_lload 112 C dX10_seekResidue_110 hl 5 rfl rfl ?_
  obtain ⟨y112, hy112, hf⟩ := kx_bind hf
  refine x_callVv 115 C dX10_seekResidue_112 X hl kl_X10_122 (c_X5_set E.2.1 D T (h 49) v7 v5 y79.1 y79.2 y112 hy112) rfl rfl [] rfl rfl rfl rfl rfl cb_64 rfl (fun H locs X => ?_)
  refine x_iload 117 C dX10_seekResidue_115 hl 0 rfl rfl ?_
  obtain rfl := Option.some.inj hf
  exact R _ _ _ _ X dX10_seekResidue_117
set_option maxHeartbeats 4000000 in
set_option maxRecDepth 100000 in
theorem w_X10_seekResidue_p2_one_22 {E : KE} {A : Nat → Prop} {D : va_G} {T : KT} (h : Nat → Nat) (C : kx_C E cX10_seekResidue 9 (some .int) RX10 2 48 D T) (N : Nat) (x : Int32 × Int64 × Int64) (m_drawers_full m_drawers_kept : Int32) (m_drawers_partA m_drawers_partB m_drawers_keptA m_drawers_keptB m_drawers_keptFull : Nat → Int32) (m_tape_size m_tape_plain m_tape_omegas m_tape_end m_tape_place m_tape_plainTold m_tape_omegasTold : Int32) (m_tape_bytes : Nat → Int32) (m_euclid_count : Int32) (m_euclid_last_a m_euclid_last_b m_euclid_lastOfFirst_a m_euclid_lastOfFirst_b m_euclid_lastOfSecond_a m_euclid_lastOfSecond_b m_euclid_next_a m_euclid_next_b m_euclid_nextOfFirst_a m_euclid_nextOfFirst_b m_euclid_nextOfSecond_a m_euclid_nextOfSecond_b m_euclid_q_a m_euclid_q_b : Int64) (m_euclid_quotientA m_euclid_quotientB : Nat → Int64) (m_modulus_step m_modulus_width m_modulus_slant m_modulus_square_a m_modulus_square_b : Int64) (m_factors_count m_factors_threes m_factors_unit : Int32) (m_factors_primeA m_factors_primeB m_factors_norms : Nat → Int64) (m_factors_euclid_count : Int32) (m_factors_euclid_last_a m_factors_euclid_last_b m_factors_euclid_lastOfFirst_a m_factors_euclid_lastOfFirst_b m_factors_euclid_lastOfSecond_a m_factors_euclid_lastOfSecond_b m_factors_euclid_next_a m_factors_euclid_next_b m_factors_euclid_nextOfFirst_a m_factors_euclid_nextOfFirst_b m_factors_euclid_nextOfSecond_a m_factors_euclid_nextOfSecond_b m_factors_euclid_q_a m_factors_euclid_q_b : Int64) (m_factors_euclid_quotientA m_factors_euclid_quotientB : Nat → Int64) (m_factors_left_a m_factors_left_b m_factors_found_a m_factors_found_b m_factors_product_a m_factors_product_b : Int64) (m_primes_count : Int32) (m_primes_primeA m_primes_primeB : Nat → Int32) (m_primes_found_a m_primes_found_b : Int64) (m_rings_foundA m_rings_foundB m_rings_all m_rings_mostOfOneRow m_letters_count : Int32) (m_letters_bytes : Nat → Int32) (m_one_a m_one_b m_two_a m_two_b m_three_a m_three_b m_four_a m_four_b m_spare_a m_spare_b : Int64) (m_marks : Nat → Int32) (R : kx_RI E cX10_seekResidue D A (wC T h m_drawers_full m_drawers_kept m_drawers_partA m_drawers_partB m_drawers_keptA m_drawers_keptB m_drawers_keptFull m_tape_size m_tape_plain m_tape_omegas m_tape_end m_tape_place m_tape_plainTold m_tape_omegasTold m_tape_bytes m_euclid_count m_euclid_last_a m_euclid_last_b m_euclid_lastOfFirst_a m_euclid_lastOfFirst_b m_euclid_lastOfSecond_a m_euclid_lastOfSecond_b m_euclid_next_a m_euclid_next_b m_euclid_nextOfFirst_a m_euclid_nextOfFirst_b m_euclid_nextOfSecond_a m_euclid_nextOfSecond_b m_euclid_q_a m_euclid_q_b m_euclid_quotientA m_euclid_quotientB m_modulus_step m_modulus_width m_modulus_slant m_modulus_square_a m_modulus_square_b m_factors_count m_factors_threes m_factors_unit m_factors_primeA m_factors_primeB m_factors_norms m_factors_euclid_count m_factors_euclid_last_a m_factors_euclid_last_b m_factors_euclid_lastOfFirst_a m_factors_euclid_lastOfFirst_b m_factors_euclid_lastOfSecond_a m_factors_euclid_lastOfSecond_b m_factors_euclid_next_a m_factors_euclid_next_b m_factors_euclid_nextOfFirst_a m_factors_euclid_nextOfFirst_b m_factors_euclid_nextOfSecond_a m_factors_euclid_nextOfSecond_b m_factors_euclid_q_a m_factors_euclid_q_b m_factors_euclid_quotientA m_factors_euclid_quotientB m_factors_left_a m_factors_left_b m_factors_found_a m_factors_found_b m_factors_product_a m_factors_product_b m_primes_count m_primes_primeA m_primes_primeB m_primes_found_a m_primes_found_b m_rings_foundA m_rings_foundB m_rings_all m_rings_mostOfOneRow m_letters_count m_letters_bytes m_one_a m_one_b m_two_a m_two_b m_three_a m_three_b m_four_a m_four_b x.2.1 x.2.2 m_spare_a m_spare_b m_marks) x.1) (k6 : Int32 → Int32 → Int32 → Int64 → Int64 → Int64 → Int64 → Int64 → Int64 → Int64 → Int64 → Int64 → Int64 → Option (Int32 × Int64 × Int64)) (hk6 : ∀ (m_out_a m_out_b : Int64) (v1 v3 v4 : Int32) (v5 : Int64) (H : Heap) (locs : List Loc) (ls : Array Slot), kx_H E D A H locs (wC T h m_drawers_full m_drawers_kept m_drawers_partA m_drawers_partB m_drawers_keptA m_drawers_keptB m_drawers_keptFull m_tape_size m_tape_plain m_tape_omegas m_tape_end m_tape_place m_tape_plainTold m_tape_omegasTold m_tape_bytes m_euclid_count m_euclid_last_a m_euclid_last_b m_euclid_lastOfFirst_a m_euclid_lastOfFirst_b m_euclid_lastOfSecond_a m_euclid_lastOfSecond_b m_euclid_next_a m_euclid_next_b m_euclid_nextOfFirst_a m_euclid_nextOfFirst_b m_euclid_nextOfSecond_a m_euclid_nextOfSecond_b m_euclid_q_a m_euclid_q_b m_euclid_quotientA m_euclid_quotientB m_modulus_step m_modulus_width m_modulus_slant m_modulus_square_a m_modulus_square_b m_factors_count m_factors_threes m_factors_unit m_factors_primeA m_factors_primeB m_factors_norms m_factors_euclid_count m_factors_euclid_last_a m_factors_euclid_last_b m_factors_euclid_lastOfFirst_a m_factors_euclid_lastOfFirst_b m_factors_euclid_lastOfSecond_a m_factors_euclid_lastOfSecond_b m_factors_euclid_next_a m_factors_euclid_next_b m_factors_euclid_nextOfFirst_a m_factors_euclid_nextOfFirst_b m_factors_euclid_nextOfSecond_a m_factors_euclid_nextOfSecond_b m_factors_euclid_q_a m_factors_euclid_q_b m_factors_euclid_quotientA m_factors_euclid_quotientB m_factors_left_a m_factors_left_b m_factors_found_a m_factors_found_b m_factors_product_a m_factors_product_b m_primes_count m_primes_primeA m_primes_primeB m_primes_found_a m_primes_found_b m_rings_foundA m_rings_foundB m_rings_all m_rings_mostOfOneRow m_letters_count m_letters_bytes m_one_a m_one_b m_two_a m_two_b m_three_a m_three_b m_four_a m_four_b m_out_a m_out_b m_spare_a m_spare_b m_marks) → lv_has ls 9 [(0, .ref (h 0)), (1, .int v1), (2, .ref (h 45)), (3, .int v3), (4, .int v4), (5, .long v5)] → k6 v1 v3 v4 v5 m_modulus_step m_modulus_width m_modulus_slant m_one_a m_one_b m_out_a m_out_b m_one_a m_one_b = some x → kx_W E H locs 6 ls []) : ∀ (k : Nat), ∀ (m_out_a m_out_b : Int64) (v1 v3 v4 : Int32) (v5 v7 : Int64) (H : Heap) (locs : List Loc) (ls : Array Slot), kx_H E D A H locs (wC T h m_drawers_full m_drawers_kept m_drawers_partA m_drawers_partB m_drawers_keptA m_drawers_keptB m_drawers_keptFull m_tape_size m_tape_plain m_tape_omegas m_tape_end m_tape_place m_tape_plainTold m_tape_omegasTold m_tape_bytes m_euclid_count m_euclid_last_a m_euclid_last_b m_euclid_lastOfFirst_a m_euclid_lastOfFirst_b m_euclid_lastOfSecond_a m_euclid_lastOfSecond_b m_euclid_next_a m_euclid_next_b m_euclid_nextOfFirst_a m_euclid_nextOfFirst_b m_euclid_nextOfSecond_a m_euclid_nextOfSecond_b m_euclid_q_a m_euclid_q_b m_euclid_quotientA m_euclid_quotientB m_modulus_step m_modulus_width m_modulus_slant m_modulus_square_a m_modulus_square_b m_factors_count m_factors_threes m_factors_unit m_factors_primeA m_factors_primeB m_factors_norms m_factors_euclid_count m_factors_euclid_last_a m_factors_euclid_last_b m_factors_euclid_lastOfFirst_a m_factors_euclid_lastOfFirst_b m_factors_euclid_lastOfSecond_a m_factors_euclid_lastOfSecond_b m_factors_euclid_next_a m_factors_euclid_next_b m_factors_euclid_nextOfFirst_a m_factors_euclid_nextOfFirst_b m_factors_euclid_nextOfSecond_a m_factors_euclid_nextOfSecond_b m_factors_euclid_q_a m_factors_euclid_q_b m_factors_euclid_quotientA m_factors_euclid_quotientB m_factors_left_a m_factors_left_b m_factors_found_a m_factors_found_b m_factors_product_a m_factors_product_b m_primes_count m_primes_primeA m_primes_primeB m_primes_found_a m_primes_found_b m_rings_foundA m_rings_foundB m_rings_all m_rings_mostOfOneRow m_letters_count m_letters_bytes m_one_a m_one_b m_two_a m_two_b m_three_a m_three_b m_four_a m_four_b m_out_a m_out_b m_spare_a m_spare_b m_marks) → lv_has ls 9 [(0, .ref (h 0)), (1, .int v1), (2, .ref (h 45)), (3, .int v3), (4, .int v4), (5, .long v5), (7, .long v7)] → f_X10_seekResidue_22 N k6 k v1 v3 v4 v5 v7 m_modulus_step m_modulus_width m_modulus_slant m_one_a m_one_b m_out_a m_out_b m_one_a m_one_b = some x → kx_W E H locs 22 ls [] := by
  intro k
  induction k with
  | zero =>
    intro m_out_a m_out_b v1 v3 v4 v5 v7 H locs ls X hl hf
    cases (show (none : Option (Int32 × Int64 × Int64)) = some x from hf)
  | succ k ih =>
    intro m_out_a m_out_b v1 v3 v4 v5 v7 H locs ls X hl hf
    rw [f_X10_seekResidue_22] at hf
    refine x_lload 24 C dX10_seekResidue_22 hl 6 rfl rfl ?_
    refine x_aload_n 25 C dX10_seekResidue_24 hl 0 rfl rfl ?_
    refine x_get 28 C dX10_seekResidue_25 X kf_X10_35 0 rfl rfl rfl ?_
    refine x_get 31 C dX10_seekResidue_28 X kf_X10_308 19 rfl rfl rfl ?_
    refine x_lcmp_ge 127 32 35 C dX10_seekResidue_31 dX10_seekResidue_32 rfl rfl rfl hf (fun hf => ?_) (fun hf => ?_)
    · refine x_lload 129 C dX10_seekResidue_127 hl 5 rfl rfl ?_
      refine x_lconst 130 C dX10_seekResidue_129 (1 : Int64) kv_lconst_1 rfl ?_
      refine x_ladd 131 C dX10_seekResidue_130 rfl ?_
      refine x_lstore 133 C dX10_seekResidue_131 [(5, .long (v5 + (1 : Int64))), (0, .ref (h 0)), (1, .int v1), (2, .ref (h 45)), (3, .int v3), (4, .int v4), (7, .long v7)] hl rfl rfl rfl (fun ls hl => ?_)
      refine x_goto 6 C dX10_seekResidue_133 rfl ?_
      exact hk6 m_out_a m_out_b v1 v3 v4 (v5 + (1 : Int64)) _ _ _ X (lv_sub hl [1, 2, 3, 4, 5, 0] rfl) hf
    refine x_aload_n 36 C dX10_seekResidue_35 hl 0 rfl rfl ?_
    refine x_get 39 C dX10_seekResidue_36 X kf_X10_83 0 rfl rfl rfl ?_
    refine x_lload 41 C dX10_seekResidue_39 hl 6 rfl rfl ?_
    refine x_lload 43 C dX10_seekResidue_41 hl 5 rfl rfl ?_
    obtain ⟨y43, hy43, hf⟩ := kx_bind hf
    refine x_callVv 46 C dX10_seekResidue_43 X hl kl_X10_122 (c_X5_set E.2.1 D T (h 49) v7 v5 m_out_a m_out_b y43 hy43) rfl rfl [] rfl rfl rfl rfl rfl cb_64 rfl (fun H locs X => ?_)
    refine x_iload_n 47 C dX10_seekResidue_46 hl 1 rfl rfl ?_
    refine x_if_eq 60 50 C dX10_seekResidue_47 rfl rfl hf (fun hf => ?_) (fun hf => ?_)
    · refine x_aload_n 61 C dX10_seekResidue_60 hl 0 rfl rfl ?_
      refine x_get 64 C dX10_seekResidue_61 X kf_X10_83 0 rfl rfl rfl ?_
      refine x_aload_n 65 C dX10_seekResidue_64 hl 0 rfl rfl ?_
      refine x_get 68 C dX10_seekResidue_65 X kf_X10_70 0 rfl rfl rfl ?_
      obtain ⟨y68, hy68, hf⟩ := kx_bind hf
      refine x_callVv 71 C dX10_seekResidue_68 X hl kl_X10_196 (c_X5_multiply E.2.1 D T (h 49) (h 45)  y43.1 y43.2 m_one_a m_one_b y68 hy68) rfl rfl [] rfl rfl rfl rfl rfl cb_56 rfl (fun H locs X => ?_)
      exact w_X10_seekResidue_p2_one_71 h C N x m_drawers_full m_drawers_kept m_drawers_partA m_drawers_partB m_drawers_keptA m_drawers_keptB m_drawers_keptFull m_tape_size m_tape_plain m_tape_omegas m_tape_end m_tape_place m_tape_plainTold m_tape_omegasTold m_tape_bytes m_euclid_count m_euclid_last_a m_euclid_last_b m_euclid_lastOfFirst_a m_euclid_lastOfFirst_b m_euclid_lastOfSecond_a m_euclid_lastOfSecond_b m_euclid_next_a m_euclid_next_b m_euclid_nextOfFirst_a m_euclid_nextOfFirst_b m_euclid_nextOfSecond_a m_euclid_nextOfSecond_b m_euclid_q_a m_euclid_q_b m_euclid_quotientA m_euclid_quotientB m_modulus_step m_modulus_width m_modulus_slant m_modulus_square_a m_modulus_square_b m_factors_count m_factors_threes m_factors_unit m_factors_primeA m_factors_primeB m_factors_norms m_factors_euclid_count m_factors_euclid_last_a m_factors_euclid_last_b m_factors_euclid_lastOfFirst_a m_factors_euclid_lastOfFirst_b m_factors_euclid_lastOfSecond_a m_factors_euclid_lastOfSecond_b m_factors_euclid_next_a m_factors_euclid_next_b m_factors_euclid_nextOfFirst_a m_factors_euclid_nextOfFirst_b m_factors_euclid_nextOfSecond_a m_factors_euclid_nextOfSecond_b m_factors_euclid_q_a m_factors_euclid_q_b m_factors_euclid_quotientA m_factors_euclid_quotientB m_factors_left_a m_factors_left_b m_factors_found_a m_factors_found_b m_factors_product_a m_factors_product_b m_primes_count m_primes_primeA m_primes_primeB m_primes_found_a m_primes_found_b m_rings_foundA m_rings_foundB m_rings_all m_rings_mostOfOneRow m_letters_count m_letters_bytes m_one_a m_one_b m_two_a m_two_b m_three_a m_three_b m_four_a m_four_b m_spare_a m_spare_b m_marks R (f_X10_seekResidue_22 N k6 k) ih y68.1 y68.2 v1 v3 v4 v5 v7 _ _ _ X (lv_sub hl [0, 1, 2, 3, 4, 5, 6] rfl) hf
    refine x_aload_n 51 C dX10_seekResidue_50 hl 0 rfl rfl ?_
    refine x_get 54 C dX10_seekResidue_51 X kf_X10_83 0 rfl rfl rfl ?_
    obtain ⟨y54, hy54, hf⟩ := kx_bind hf
    refine x_callVv 57 C dX10_seekResidue_54 X hl kl_X10_311 (c_X5_cube E.2.1 D T (h 49)  y43.1 y43.2 y54 hy54) rfl rfl [] rfl rfl rfl rfl rfl cb_64 rfl (fun H locs X => ?_)
    refine x_goto 71 C dX10_seekResidue_57 rfl ?_
    exact w_X10_seekResidue_p2_one_71 h C N x m_drawers_full m_drawers_kept m_drawers_partA m_drawers_partB m_drawers_keptA m_drawers_keptB m_drawers_keptFull m_tape_size m_tape_plain m_tape_omegas m_tape_end m_tape_place m_tape_plainTold m_tape_omegasTold m_tape_bytes m_euclid_count m_euclid_last_a m_euclid_last_b m_euclid_lastOfFirst_a m_euclid_lastOfFirst_b m_euclid_lastOfSecond_a m_euclid_lastOfSecond_b m_euclid_next_a m_euclid_next_b m_euclid_nextOfFirst_a m_euclid_nextOfFirst_b m_euclid_nextOfSecond_a m_euclid_nextOfSecond_b m_euclid_q_a m_euclid_q_b m_euclid_quotientA m_euclid_quotientB m_modulus_step m_modulus_width m_modulus_slant m_modulus_square_a m_modulus_square_b m_factors_count m_factors_threes m_factors_unit m_factors_primeA m_factors_primeB m_factors_norms m_factors_euclid_count m_factors_euclid_last_a m_factors_euclid_last_b m_factors_euclid_lastOfFirst_a m_factors_euclid_lastOfFirst_b m_factors_euclid_lastOfSecond_a m_factors_euclid_lastOfSecond_b m_factors_euclid_next_a m_factors_euclid_next_b m_factors_euclid_nextOfFirst_a m_factors_euclid_nextOfFirst_b m_factors_euclid_nextOfSecond_a m_factors_euclid_nextOfSecond_b m_factors_euclid_q_a m_factors_euclid_q_b m_factors_euclid_quotientA m_factors_euclid_quotientB m_factors_left_a m_factors_left_b m_factors_found_a m_factors_found_b m_factors_product_a m_factors_product_b m_primes_count m_primes_primeA m_primes_primeB m_primes_found_a m_primes_found_b m_rings_foundA m_rings_foundB m_rings_all m_rings_mostOfOneRow m_letters_count m_letters_bytes m_one_a m_one_b m_two_a m_two_b m_three_a m_three_b m_four_a m_four_b m_spare_a m_spare_b m_marks R (f_X10_seekResidue_22 N k6 k) ih y54.1 y54.2 v1 v3 v4 v5 v7 _ _ _ X (lv_sub hl [0, 1, 2, 3, 4, 5, 6] rfl) hf
set_option maxHeartbeats 4000000 in
set_option maxRecDepth 100000 in
theorem w_X10_seekResidue_p2_one_6 {E : KE} {A : Nat → Prop} {D : va_G} {T : KT} (h : Nat → Nat) (C : kx_C E cX10_seekResidue 9 (some .int) RX10 2 48 D T) (N : Nat) (x : Int32 × Int64 × Int64) (m_drawers_full m_drawers_kept : Int32) (m_drawers_partA m_drawers_partB m_drawers_keptA m_drawers_keptB m_drawers_keptFull : Nat → Int32) (m_tape_size m_tape_plain m_tape_omegas m_tape_end m_tape_place m_tape_plainTold m_tape_omegasTold : Int32) (m_tape_bytes : Nat → Int32) (m_euclid_count : Int32) (m_euclid_last_a m_euclid_last_b m_euclid_lastOfFirst_a m_euclid_lastOfFirst_b m_euclid_lastOfSecond_a m_euclid_lastOfSecond_b m_euclid_next_a m_euclid_next_b m_euclid_nextOfFirst_a m_euclid_nextOfFirst_b m_euclid_nextOfSecond_a m_euclid_nextOfSecond_b m_euclid_q_a m_euclid_q_b : Int64) (m_euclid_quotientA m_euclid_quotientB : Nat → Int64) (m_modulus_step m_modulus_width m_modulus_slant m_modulus_square_a m_modulus_square_b : Int64) (m_factors_count m_factors_threes m_factors_unit : Int32) (m_factors_primeA m_factors_primeB m_factors_norms : Nat → Int64) (m_factors_euclid_count : Int32) (m_factors_euclid_last_a m_factors_euclid_last_b m_factors_euclid_lastOfFirst_a m_factors_euclid_lastOfFirst_b m_factors_euclid_lastOfSecond_a m_factors_euclid_lastOfSecond_b m_factors_euclid_next_a m_factors_euclid_next_b m_factors_euclid_nextOfFirst_a m_factors_euclid_nextOfFirst_b m_factors_euclid_nextOfSecond_a m_factors_euclid_nextOfSecond_b m_factors_euclid_q_a m_factors_euclid_q_b : Int64) (m_factors_euclid_quotientA m_factors_euclid_quotientB : Nat → Int64) (m_factors_left_a m_factors_left_b m_factors_found_a m_factors_found_b m_factors_product_a m_factors_product_b : Int64) (m_primes_count : Int32) (m_primes_primeA m_primes_primeB : Nat → Int32) (m_primes_found_a m_primes_found_b : Int64) (m_rings_foundA m_rings_foundB m_rings_all m_rings_mostOfOneRow m_letters_count : Int32) (m_letters_bytes : Nat → Int32) (m_one_a m_one_b m_two_a m_two_b m_three_a m_three_b m_four_a m_four_b m_spare_a m_spare_b : Int64) (m_marks : Nat → Int32) (R : kx_RI E cX10_seekResidue D A (wC T h m_drawers_full m_drawers_kept m_drawers_partA m_drawers_partB m_drawers_keptA m_drawers_keptB m_drawers_keptFull m_tape_size m_tape_plain m_tape_omegas m_tape_end m_tape_place m_tape_plainTold m_tape_omegasTold m_tape_bytes m_euclid_count m_euclid_last_a m_euclid_last_b m_euclid_lastOfFirst_a m_euclid_lastOfFirst_b m_euclid_lastOfSecond_a m_euclid_lastOfSecond_b m_euclid_next_a m_euclid_next_b m_euclid_nextOfFirst_a m_euclid_nextOfFirst_b m_euclid_nextOfSecond_a m_euclid_nextOfSecond_b m_euclid_q_a m_euclid_q_b m_euclid_quotientA m_euclid_quotientB m_modulus_step m_modulus_width m_modulus_slant m_modulus_square_a m_modulus_square_b m_factors_count m_factors_threes m_factors_unit m_factors_primeA m_factors_primeB m_factors_norms m_factors_euclid_count m_factors_euclid_last_a m_factors_euclid_last_b m_factors_euclid_lastOfFirst_a m_factors_euclid_lastOfFirst_b m_factors_euclid_lastOfSecond_a m_factors_euclid_lastOfSecond_b m_factors_euclid_next_a m_factors_euclid_next_b m_factors_euclid_nextOfFirst_a m_factors_euclid_nextOfFirst_b m_factors_euclid_nextOfSecond_a m_factors_euclid_nextOfSecond_b m_factors_euclid_q_a m_factors_euclid_q_b m_factors_euclid_quotientA m_factors_euclid_quotientB m_factors_left_a m_factors_left_b m_factors_found_a m_factors_found_b m_factors_product_a m_factors_product_b m_primes_count m_primes_primeA m_primes_primeB m_primes_found_a m_primes_found_b m_rings_foundA m_rings_foundB m_rings_all m_rings_mostOfOneRow m_letters_count m_letters_bytes m_one_a m_one_b m_two_a m_two_b m_three_a m_three_b m_four_a m_four_b x.2.1 x.2.2 m_spare_a m_spare_b m_marks) x.1) : ∀ (k : Nat), ∀ (m_out_a m_out_b : Int64) (v1 v3 v4 : Int32) (v5 : Int64) (H : Heap) (locs : List Loc) (ls : Array Slot), kx_H E D A H locs (wC T h m_drawers_full m_drawers_kept m_drawers_partA m_drawers_partB m_drawers_keptA m_drawers_keptB m_drawers_keptFull m_tape_size m_tape_plain m_tape_omegas m_tape_end m_tape_place m_tape_plainTold m_tape_omegasTold m_tape_bytes m_euclid_count m_euclid_last_a m_euclid_last_b m_euclid_lastOfFirst_a m_euclid_lastOfFirst_b m_euclid_lastOfSecond_a m_euclid_lastOfSecond_b m_euclid_next_a m_euclid_next_b m_euclid_nextOfFirst_a m_euclid_nextOfFirst_b m_euclid_nextOfSecond_a m_euclid_nextOfSecond_b m_euclid_q_a m_euclid_q_b m_euclid_quotientA m_euclid_quotientB m_modulus_step m_modulus_width m_modulus_slant m_modulus_square_a m_modulus_square_b m_factors_count m_factors_threes m_factors_unit m_factors_primeA m_factors_primeB m_factors_norms m_factors_euclid_count m_factors_euclid_last_a m_factors_euclid_last_b m_factors_euclid_lastOfFirst_a m_factors_euclid_lastOfFirst_b m_factors_euclid_lastOfSecond_a m_factors_euclid_lastOfSecond_b m_factors_euclid_next_a m_factors_euclid_next_b m_factors_euclid_nextOfFirst_a m_factors_euclid_nextOfFirst_b m_factors_euclid_nextOfSecond_a m_factors_euclid_nextOfSecond_b m_factors_euclid_q_a m_factors_euclid_q_b m_factors_euclid_quotientA m_factors_euclid_quotientB m_factors_left_a m_factors_left_b m_factors_found_a m_factors_found_b m_factors_product_a m_factors_product_b m_primes_count m_primes_primeA m_primes_primeB m_primes_found_a m_primes_found_b m_rings_foundA m_rings_foundB m_rings_all m_rings_mostOfOneRow m_letters_count m_letters_bytes m_one_a m_one_b m_two_a m_two_b m_three_a m_three_b m_four_a m_four_b m_out_a m_out_b m_spare_a m_spare_b m_marks) → lv_has ls 9 [(0, .ref (h 0)), (1, .int v1), (2, .ref (h 45)), (3, .int v3), (4, .int v4), (5, .long v5)] → f_X10_seekResidue_6 N k v1 v3 v4 v5 m_modulus_step m_modulus_width m_modulus_slant m_one_a m_one_b m_out_a m_out_b m_one_a m_one_b = some x → kx_W E H locs 6 ls [] := by
  intro k
  induction k with
  | zero =>
    intro m_out_a m_out_b v1 v3 v4 v5 H locs ls X hl hf
    cases (show (none : Option (Int32 × Int64 × Int64)) = some x from hf)
  | succ k ih =>
    intro m_out_a m_out_b v1 v3 v4 v5 H locs ls X hl hf
    rw [f_X10_seekResidue_6] at hf
    refine x_lload 8 C dX10_seekResidue_6 hl 5 rfl rfl ?_
    refine x_aload_n 9 C dX10_seekResidue_8 hl 0 rfl rfl ?_
    refine x_get 12 C dX10_seekResidue_9 X kf_X10_35 0 rfl rfl rfl ?_
    refine x_get 15 C dX10_seekResidue_12 X kf_X10_305 19 rfl rfl rfl ?_
    refine x_lcmp_ge 136 16 19 C dX10_seekResidue_15 dX10_seekResidue_16 rfl rfl rfl hf (fun hf => ?_) (fun hf => ?_)
    · refine x_iload 138 C dX10_seekResidue_136 hl 4 rfl rfl ?_
      obtain rfl := Option.some.inj hf
      exact R _ _ _ _ X dX10_seekResidue_138
    refine x_lconst 20 C dX10_seekResidue_19 (0 : Int64) kv_lconst_0 rfl ?_
    refine x_lstore 22 C dX10_seekResidue_20 [(7, .long (0 : Int64)), (0, .ref (h 0)), (1, .int v1), (2, .ref (h 45)), (3, .int v3), (4, .int v4), (5, .long v5)] hl rfl rfl rfl (fun ls hl => ?_)
    exact w_X10_seekResidue_p2_one_22 h C N x m_drawers_full m_drawers_kept m_drawers_partA m_drawers_partB m_drawers_keptA m_drawers_keptB m_drawers_keptFull m_tape_size m_tape_plain m_tape_omegas m_tape_end m_tape_place m_tape_plainTold m_tape_omegasTold m_tape_bytes m_euclid_count m_euclid_last_a m_euclid_last_b m_euclid_lastOfFirst_a m_euclid_lastOfFirst_b m_euclid_lastOfSecond_a m_euclid_lastOfSecond_b m_euclid_next_a m_euclid_next_b m_euclid_nextOfFirst_a m_euclid_nextOfFirst_b m_euclid_nextOfSecond_a m_euclid_nextOfSecond_b m_euclid_q_a m_euclid_q_b m_euclid_quotientA m_euclid_quotientB m_modulus_step m_modulus_width m_modulus_slant m_modulus_square_a m_modulus_square_b m_factors_count m_factors_threes m_factors_unit m_factors_primeA m_factors_primeB m_factors_norms m_factors_euclid_count m_factors_euclid_last_a m_factors_euclid_last_b m_factors_euclid_lastOfFirst_a m_factors_euclid_lastOfFirst_b m_factors_euclid_lastOfSecond_a m_factors_euclid_lastOfSecond_b m_factors_euclid_next_a m_factors_euclid_next_b m_factors_euclid_nextOfFirst_a m_factors_euclid_nextOfFirst_b m_factors_euclid_nextOfSecond_a m_factors_euclid_nextOfSecond_b m_factors_euclid_q_a m_factors_euclid_q_b m_factors_euclid_quotientA m_factors_euclid_quotientB m_factors_left_a m_factors_left_b m_factors_found_a m_factors_found_b m_factors_product_a m_factors_product_b m_primes_count m_primes_primeA m_primes_primeB m_primes_found_a m_primes_found_b m_rings_foundA m_rings_foundB m_rings_all m_rings_mostOfOneRow m_letters_count m_letters_bytes m_one_a m_one_b m_two_a m_two_b m_three_a m_three_b m_four_a m_four_b m_spare_a m_spare_b m_marks R (f_X10_seekResidue_6 N k) ih N m_out_a m_out_b v1 v3 v4 v5 (0 : Int64) _ _ _ X (lv_sub hl [1, 2, 3, 4, 5, 6, 0] rfl) hf
set_option maxHeartbeats 4000000 in
set_option maxRecDepth 100000 in
theorem c_X10_seekResidue_p2_one (l : Launch) (D : va_G) (T : KT) (h : Nat → Nat) (N : Nat) (v1 v3 : Int32) (m_drawers_full m_drawers_kept : Int32) (m_drawers_partA m_drawers_partB m_drawers_keptA m_drawers_keptB m_drawers_keptFull : Nat → Int32) (m_tape_size m_tape_plain m_tape_omegas m_tape_end m_tape_place m_tape_plainTold m_tape_omegasTold : Int32) (m_tape_bytes : Nat → Int32) (m_euclid_count : Int32) (m_euclid_last_a m_euclid_last_b m_euclid_lastOfFirst_a m_euclid_lastOfFirst_b m_euclid_lastOfSecond_a m_euclid_lastOfSecond_b m_euclid_next_a m_euclid_next_b m_euclid_nextOfFirst_a m_euclid_nextOfFirst_b m_euclid_nextOfSecond_a m_euclid_nextOfSecond_b m_euclid_q_a m_euclid_q_b : Int64) (m_euclid_quotientA m_euclid_quotientB : Nat → Int64) (m_modulus_step m_modulus_width m_modulus_slant m_modulus_square_a m_modulus_square_b : Int64) (m_factors_count m_factors_threes m_factors_unit : Int32) (m_factors_primeA m_factors_primeB m_factors_norms : Nat → Int64) (m_factors_euclid_count : Int32) (m_factors_euclid_last_a m_factors_euclid_last_b m_factors_euclid_lastOfFirst_a m_factors_euclid_lastOfFirst_b m_factors_euclid_lastOfSecond_a m_factors_euclid_lastOfSecond_b m_factors_euclid_next_a m_factors_euclid_next_b m_factors_euclid_nextOfFirst_a m_factors_euclid_nextOfFirst_b m_factors_euclid_nextOfSecond_a m_factors_euclid_nextOfSecond_b m_factors_euclid_q_a m_factors_euclid_q_b : Int64) (m_factors_euclid_quotientA m_factors_euclid_quotientB : Nat → Int64) (m_factors_left_a m_factors_left_b m_factors_found_a m_factors_found_b m_factors_product_a m_factors_product_b : Int64) (m_primes_count : Int32) (m_primes_primeA m_primes_primeB : Nat → Int32) (m_primes_found_a m_primes_found_b : Int64) (m_rings_foundA m_rings_foundB m_rings_all m_rings_mostOfOneRow m_letters_count : Int32) (m_letters_bytes : Nat → Int32) (m_one_a m_one_b m_two_a m_two_b m_three_a m_three_b m_four_a m_four_b m_out_a m_out_b m_spare_a m_spare_b : Int64) (m_marks : Nat → Int32) (x : Int32 × Int64 × Int64) (hf : f_X10_seekResidue N v1 v3 m_modulus_step m_modulus_width m_modulus_slant m_one_a m_one_b m_out_a m_out_b m_one_a m_one_b = some x) : kx_MI l yX10_seekResidue cX10_seekResidue 9 (some .int) 2 48 D T [.ref (h 0), .int v1, .ref (h 45), .int v3] (wC T h m_drawers_full m_drawers_kept m_drawers_partA m_drawers_partB m_drawers_keptA m_drawers_keptB m_drawers_keptFull m_tape_size m_tape_plain m_tape_omegas m_tape_end m_tape_place m_tape_plainTold m_tape_omegasTold m_tape_bytes m_euclid_count m_euclid_last_a m_euclid_last_b m_euclid_lastOfFirst_a m_euclid_lastOfFirst_b m_euclid_lastOfSecond_a m_euclid_lastOfSecond_b m_euclid_next_a m_euclid_next_b m_euclid_nextOfFirst_a m_euclid_nextOfFirst_b m_euclid_nextOfSecond_a m_euclid_nextOfSecond_b m_euclid_q_a m_euclid_q_b m_euclid_quotientA m_euclid_quotientB m_modulus_step m_modulus_width m_modulus_slant m_modulus_square_a m_modulus_square_b m_factors_count m_factors_threes m_factors_unit m_factors_primeA m_factors_primeB m_factors_norms m_factors_euclid_count m_factors_euclid_last_a m_factors_euclid_last_b m_factors_euclid_lastOfFirst_a m_factors_euclid_lastOfFirst_b m_factors_euclid_lastOfSecond_a m_factors_euclid_lastOfSecond_b m_factors_euclid_next_a m_factors_euclid_next_b m_factors_euclid_nextOfFirst_a m_factors_euclid_nextOfFirst_b m_factors_euclid_nextOfSecond_a m_factors_euclid_nextOfSecond_b m_factors_euclid_q_a m_factors_euclid_q_b m_factors_euclid_quotientA m_factors_euclid_quotientB m_factors_left_a m_factors_left_b m_factors_found_a m_factors_found_b m_factors_product_a m_factors_product_b m_primes_count m_primes_primeA m_primes_primeB m_primes_found_a m_primes_found_b m_rings_foundA m_rings_foundB m_rings_all m_rings_mostOfOneRow m_letters_count m_letters_bytes m_one_a m_one_b m_two_a m_two_b m_three_a m_three_b m_four_a m_four_b m_out_a m_out_b m_spare_a m_spare_b m_marks) (wC T h m_drawers_full m_drawers_kept m_drawers_partA m_drawers_partB m_drawers_keptA m_drawers_keptB m_drawers_keptFull m_tape_size m_tape_plain m_tape_omegas m_tape_end m_tape_place m_tape_plainTold m_tape_omegasTold m_tape_bytes m_euclid_count m_euclid_last_a m_euclid_last_b m_euclid_lastOfFirst_a m_euclid_lastOfFirst_b m_euclid_lastOfSecond_a m_euclid_lastOfSecond_b m_euclid_next_a m_euclid_next_b m_euclid_nextOfFirst_a m_euclid_nextOfFirst_b m_euclid_nextOfSecond_a m_euclid_nextOfSecond_b m_euclid_q_a m_euclid_q_b m_euclid_quotientA m_euclid_quotientB m_modulus_step m_modulus_width m_modulus_slant m_modulus_square_a m_modulus_square_b m_factors_count m_factors_threes m_factors_unit m_factors_primeA m_factors_primeB m_factors_norms m_factors_euclid_count m_factors_euclid_last_a m_factors_euclid_last_b m_factors_euclid_lastOfFirst_a m_factors_euclid_lastOfFirst_b m_factors_euclid_lastOfSecond_a m_factors_euclid_lastOfSecond_b m_factors_euclid_next_a m_factors_euclid_next_b m_factors_euclid_nextOfFirst_a m_factors_euclid_nextOfFirst_b m_factors_euclid_nextOfSecond_a m_factors_euclid_nextOfSecond_b m_factors_euclid_q_a m_factors_euclid_q_b m_factors_euclid_quotientA m_factors_euclid_quotientB m_factors_left_a m_factors_left_b m_factors_found_a m_factors_found_b m_factors_product_a m_factors_product_b m_primes_count m_primes_primeA m_primes_primeB m_primes_found_a m_primes_found_b m_rings_foundA m_rings_foundB m_rings_all m_rings_mostOfOneRow m_letters_count m_letters_bytes m_one_a m_one_b m_two_a m_two_b m_three_a m_three_b m_four_a m_four_b x.2.1 x.2.2 m_spare_a m_spare_b m_marks) x.1 := by
  refine kx_ofMI RX10 rfl (plainFor_of_name (x := yX10_seekResidue) kpn_X10) rfl ?_
  intro E A H ls _ C X R hl
  have hl : lv_has ls 9 [(0, .ref (h 0)), (1, .int v1), (2, .ref (h 45)), (3, .int v3)] := hl
  rw [f_X10_seekResidue] at hf
  refine x_iconst 1 C dX10_seekResidue_0 (0 : Int32) kv_iconst_0 rfl ?_
  refine x_istore 3 C dX10_seekResidue_1 [(4, .int (0 : Int32)), (0, .ref (h 0)), (1, .int v1), (2, .ref (h 45)), (3, .int v3)] hl rfl rfl rfl (fun ls hl => ?_)
  refine x_lconst 4 C dX10_seekResidue_3 (0 : Int64) kv_lconst_0 rfl ?_
  refine x_lstore 6 C dX10_seekResidue_4 [(5, .long (0 : Int64)), (4, .int (0 : Int32)), (0, .ref (h 0)), (1, .int v1), (2, .ref (h 45)), (3, .int v3)] hl rfl rfl rfl (fun ls hl => ?_)
  exact w_X10_seekResidue_p2_one_6 h C N x m_drawers_full m_drawers_kept m_drawers_partA m_drawers_partB m_drawers_keptA m_drawers_keptB m_drawers_keptFull m_tape_size m_tape_plain m_tape_omegas m_tape_end m_tape_place m_tape_plainTold m_tape_omegasTold m_tape_bytes m_euclid_count m_euclid_last_a m_euclid_last_b m_euclid_lastOfFirst_a m_euclid_lastOfFirst_b m_euclid_lastOfSecond_a m_euclid_lastOfSecond_b m_euclid_next_a m_euclid_next_b m_euclid_nextOfFirst_a m_euclid_nextOfFirst_b m_euclid_nextOfSecond_a m_euclid_nextOfSecond_b m_euclid_q_a m_euclid_q_b m_euclid_quotientA m_euclid_quotientB m_modulus_step m_modulus_width m_modulus_slant m_modulus_square_a m_modulus_square_b m_factors_count m_factors_threes m_factors_unit m_factors_primeA m_factors_primeB m_factors_norms m_factors_euclid_count m_factors_euclid_last_a m_factors_euclid_last_b m_factors_euclid_lastOfFirst_a m_factors_euclid_lastOfFirst_b m_factors_euclid_lastOfSecond_a m_factors_euclid_lastOfSecond_b m_factors_euclid_next_a m_factors_euclid_next_b m_factors_euclid_nextOfFirst_a m_factors_euclid_nextOfFirst_b m_factors_euclid_nextOfSecond_a m_factors_euclid_nextOfSecond_b m_factors_euclid_q_a m_factors_euclid_q_b m_factors_euclid_quotientA m_factors_euclid_quotientB m_factors_left_a m_factors_left_b m_factors_found_a m_factors_found_b m_factors_product_a m_factors_product_b m_primes_count m_primes_primeA m_primes_primeB m_primes_found_a m_primes_found_b m_rings_foundA m_rings_foundB m_rings_all m_rings_mostOfOneRow m_letters_count m_letters_bytes m_one_a m_one_b m_two_a m_two_b m_three_a m_three_b m_four_a m_four_b m_spare_a m_spare_b m_marks R  N m_out_a m_out_b v1 v3 (0 : Int32) (0 : Int64) _ _ _ X (lv_sub hl [2, 3, 4, 5, 1, 0] rfl) hf
set_option maxHeartbeats 4000000 in
set_option maxRecDepth 100000 in
theorem c_X10_cubesAmong (l : Launch) (D : va_G) (T : KT) (h : Nat → Nat) (N : Nat) (v1 : Int32) (m_drawers_full m_drawers_kept : Int32) (m_drawers_partA m_drawers_partB m_drawers_keptA m_drawers_keptB m_drawers_keptFull : Nat → Int32) (m_tape_size m_tape_plain m_tape_omegas m_tape_end m_tape_place m_tape_plainTold m_tape_omegasTold : Int32) (m_tape_bytes : Nat → Int32) (m_euclid_count : Int32) (m_euclid_last_a m_euclid_last_b m_euclid_lastOfFirst_a m_euclid_lastOfFirst_b m_euclid_lastOfSecond_a m_euclid_lastOfSecond_b m_euclid_next_a m_euclid_next_b m_euclid_nextOfFirst_a m_euclid_nextOfFirst_b m_euclid_nextOfSecond_a m_euclid_nextOfSecond_b m_euclid_q_a m_euclid_q_b : Int64) (m_euclid_quotientA m_euclid_quotientB : Nat → Int64) (m_modulus_step m_modulus_width m_modulus_slant m_modulus_square_a m_modulus_square_b : Int64) (m_factors_count m_factors_threes m_factors_unit : Int32) (m_factors_primeA m_factors_primeB m_factors_norms : Nat → Int64) (m_factors_euclid_count : Int32) (m_factors_euclid_last_a m_factors_euclid_last_b m_factors_euclid_lastOfFirst_a m_factors_euclid_lastOfFirst_b m_factors_euclid_lastOfSecond_a m_factors_euclid_lastOfSecond_b m_factors_euclid_next_a m_factors_euclid_next_b m_factors_euclid_nextOfFirst_a m_factors_euclid_nextOfFirst_b m_factors_euclid_nextOfSecond_a m_factors_euclid_nextOfSecond_b m_factors_euclid_q_a m_factors_euclid_q_b : Int64) (m_factors_euclid_quotientA m_factors_euclid_quotientB : Nat → Int64) (m_factors_left_a m_factors_left_b m_factors_found_a m_factors_found_b m_factors_product_a m_factors_product_b : Int64) (m_primes_count : Int32) (m_primes_primeA m_primes_primeB : Nat → Int32) (m_primes_found_a m_primes_found_b : Int64) (m_rings_foundA m_rings_foundB m_rings_all m_rings_mostOfOneRow m_letters_count : Int32) (m_letters_bytes : Nat → Int32) (m_one_a m_one_b m_two_a m_two_b m_three_a m_three_b m_four_a m_four_b m_out_a m_out_b m_spare_a m_spare_b : Int64) (m_marks : Nat → Int32) (x : Int32 × Int64 × Int64 × Int64 × Int64) (hf : f_X10_cubesAmong N v1 m_modulus_step m_modulus_width m_modulus_slant m_out_a m_out_b = some x) : kx_MI l yX10_cubesAmong cX10_cubesAmong 3 (some .int) 3 76 D T [.ref (h 0), .int v1] (wC T h m_drawers_full m_drawers_kept m_drawers_partA m_drawers_partB m_drawers_keptA m_drawers_keptB m_drawers_keptFull m_tape_size m_tape_plain m_tape_omegas m_tape_end m_tape_place m_tape_plainTold m_tape_omegasTold m_tape_bytes m_euclid_count m_euclid_last_a m_euclid_last_b m_euclid_lastOfFirst_a m_euclid_lastOfFirst_b m_euclid_lastOfSecond_a m_euclid_lastOfSecond_b m_euclid_next_a m_euclid_next_b m_euclid_nextOfFirst_a m_euclid_nextOfFirst_b m_euclid_nextOfSecond_a m_euclid_nextOfSecond_b m_euclid_q_a m_euclid_q_b m_euclid_quotientA m_euclid_quotientB m_modulus_step m_modulus_width m_modulus_slant m_modulus_square_a m_modulus_square_b m_factors_count m_factors_threes m_factors_unit m_factors_primeA m_factors_primeB m_factors_norms m_factors_euclid_count m_factors_euclid_last_a m_factors_euclid_last_b m_factors_euclid_lastOfFirst_a m_factors_euclid_lastOfFirst_b m_factors_euclid_lastOfSecond_a m_factors_euclid_lastOfSecond_b m_factors_euclid_next_a m_factors_euclid_next_b m_factors_euclid_nextOfFirst_a m_factors_euclid_nextOfFirst_b m_factors_euclid_nextOfSecond_a m_factors_euclid_nextOfSecond_b m_factors_euclid_q_a m_factors_euclid_q_b m_factors_euclid_quotientA m_factors_euclid_quotientB m_factors_left_a m_factors_left_b m_factors_found_a m_factors_found_b m_factors_product_a m_factors_product_b m_primes_count m_primes_primeA m_primes_primeB m_primes_found_a m_primes_found_b m_rings_foundA m_rings_foundB m_rings_all m_rings_mostOfOneRow m_letters_count m_letters_bytes m_one_a m_one_b m_two_a m_two_b m_three_a m_three_b m_four_a m_four_b m_out_a m_out_b m_spare_a m_spare_b m_marks) (wC T h m_drawers_full m_drawers_kept m_drawers_partA m_drawers_partB m_drawers_keptA m_drawers_keptB m_drawers_keptFull m_tape_size m_tape_plain m_tape_omegas m_tape_end m_tape_place m_tape_plainTold m_tape_omegasTold m_tape_bytes m_euclid_count m_euclid_last_a m_euclid_last_b m_euclid_lastOfFirst_a m_euclid_lastOfFirst_b m_euclid_lastOfSecond_a m_euclid_lastOfSecond_b m_euclid_next_a m_euclid_next_b m_euclid_nextOfFirst_a m_euclid_nextOfFirst_b m_euclid_nextOfSecond_a m_euclid_nextOfSecond_b m_euclid_q_a m_euclid_q_b m_euclid_quotientA m_euclid_quotientB m_modulus_step m_modulus_width m_modulus_slant m_modulus_square_a m_modulus_square_b m_factors_count m_factors_threes m_factors_unit m_factors_primeA m_factors_primeB m_factors_norms m_factors_euclid_count m_factors_euclid_last_a m_factors_euclid_last_b m_factors_euclid_lastOfFirst_a m_factors_euclid_lastOfFirst_b m_factors_euclid_lastOfSecond_a m_factors_euclid_lastOfSecond_b m_factors_euclid_next_a m_factors_euclid_next_b m_factors_euclid_nextOfFirst_a m_factors_euclid_nextOfFirst_b m_factors_euclid_nextOfSecond_a m_factors_euclid_nextOfSecond_b m_factors_euclid_q_a m_factors_euclid_q_b m_factors_euclid_quotientA m_factors_euclid_quotientB m_factors_left_a m_factors_left_b m_factors_found_a m_factors_found_b m_factors_product_a m_factors_product_b m_primes_count m_primes_primeA m_primes_primeB m_primes_found_a m_primes_found_b m_rings_foundA m_rings_foundB m_rings_all m_rings_mostOfOneRow m_letters_count m_letters_bytes x.2.1 x.2.2.1 m_two_a m_two_b m_three_a m_three_b m_four_a m_four_b x.2.2.2.1 x.2.2.2.2 m_spare_a m_spare_b m_marks) x.1 := by
  refine kx_ofMI RX10 rfl (plainFor_of_name (x := yX10_cubesAmong) kpn_X10) rfl ?_
  intro E A H ls _ C X R hl
  have hl : lv_has ls 3 [(0, .ref (h 0)), (1, .int v1)] := hl
  rw [f_X10_cubesAmong] at hf
  refine x_aload_n 1 C dX10_cubesAmong_0 hl 0 rfl rfl ?_
  refine x_get 4 C dX10_cubesAmong_1 X kf_X10_70 0 rfl rfl rfl ?_
  refine x_lconst 5 C dX10_cubesAmong_4 (1 : Int64) kv_lconst_1 rfl ?_
  refine x_lconst 6 C dX10_cubesAmong_5 (0 : Int64) kv_lconst_0 rfl ?_
  obtain ⟨y6, hy6, hf⟩ := kx_bind hf
  refine x_callVv 9 C dX10_cubesAmong_6 X hl kl_X10_122 (c_X5_set E.2.1 D T (h 45) (1 : Int64) (0 : Int64) m_one_a m_one_b y6 hy6) rfl rfl [] rfl rfl rfl rfl rfl cb_12 rfl (fun H locs X => ?_)
  refine x_aload_n 10 C dX10_cubesAmong_9 hl 0 rfl rfl ?_
  refine x_get 13 C dX10_cubesAmong_10 X kf_X10_35 0 rfl rfl rfl ?_
  refine x_aload_n 14 C dX10_cubesAmong_13 hl 0 rfl rfl ?_
  refine x_get 17 C dX10_cubesAmong_14 X kf_X10_70 0 rfl rfl rfl ?_
  obtain ⟨y17, hy17, hf⟩ := kx_bind hf
  refine x_callVv 20 C dX10_cubesAmong_17 X hl kl_X10_270 (c_X4_reduce E.2.1 D T (h 19) (h 20) (h 45)  m_modulus_step m_modulus_width m_modulus_slant y6.1 y6.2 y17 hy17) rfl rfl [] rfl rfl rfl rfl rfl cb_98 rfl (fun H locs X => ?_)
  refine x_aload_n 21 C dX10_cubesAmong_20 hl 0 rfl rfl ?_
  refine x_iconst 22 C dX10_cubesAmong_21 (1 : Int32) kv_iconst_1 rfl ?_
  refine x_aload_n 23 C dX10_cubesAmong_22 hl 0 rfl rfl ?_
  refine x_get 26 C dX10_cubesAmong_23 X kf_X10_70 0 rfl rfl rfl ?_
  refine x_iconst 27 C dX10_cubesAmong_26 (-1 : Int32) kv_iconst_m1 rfl ?_
  obtain ⟨y27, hy27, hf⟩ := kx_bind hf
  refine x_callVi0 30 C dX10_cubesAmong_27 X hl kl_X10_294 (c_X10_seekResidue_p2_one E.2.1 D T h N (1 : Int32) (-1 : Int32) m_drawers_full m_drawers_kept m_drawers_partA m_drawers_partB m_drawers_keptA m_drawers_keptB m_drawers_keptFull m_tape_size m_tape_plain m_tape_omegas m_tape_end m_tape_place m_tape_plainTold m_tape_omegasTold m_tape_bytes m_euclid_count m_euclid_last_a m_euclid_last_b m_euclid_lastOfFirst_a m_euclid_lastOfFirst_b m_euclid_lastOfSecond_a m_euclid_lastOfSecond_b m_euclid_next_a m_euclid_next_b m_euclid_nextOfFirst_a m_euclid_nextOfFirst_b m_euclid_nextOfSecond_a m_euclid_nextOfSecond_b m_euclid_q_a m_euclid_q_b m_euclid_quotientA m_euclid_quotientB m_modulus_step m_modulus_width m_modulus_slant m_modulus_square_a m_modulus_square_b m_factors_count m_factors_threes m_factors_unit m_factors_primeA m_factors_primeB m_factors_norms m_factors_euclid_count m_factors_euclid_last_a m_factors_euclid_last_b m_factors_euclid_lastOfFirst_a m_factors_euclid_lastOfFirst_b m_factors_euclid_lastOfSecond_a m_factors_euclid_lastOfSecond_b m_factors_euclid_next_a m_factors_euclid_next_b m_factors_euclid_nextOfFirst_a m_factors_euclid_nextOfFirst_b m_factors_euclid_nextOfSecond_a m_factors_euclid_nextOfSecond_b m_factors_euclid_q_a m_factors_euclid_q_b m_factors_euclid_quotientA m_factors_euclid_quotientB m_factors_left_a m_factors_left_b m_factors_found_a m_factors_found_b m_factors_product_a m_factors_product_b m_primes_count m_primes_primeA m_primes_primeB m_primes_found_a m_primes_found_b m_rings_foundA m_rings_foundB m_rings_all m_rings_mostOfOneRow m_letters_count m_letters_bytes y17.1 y17.2 m_two_a m_two_b m_three_a m_three_b m_four_a m_four_b m_out_a m_out_b m_spare_a m_spare_b m_marks y27 hy27) rfl rfl [] rfl rfl rfl rfl rfl rfl (fun H locs X => ?_)
  refine x_istore_n 31 C dX10_cubesAmong_30 [(2, .int y27.1), (0, .ref (h 0)), (1, .int v1)] hl rfl rfl rfl (fun ls hl => ?_)
  refine x_iload_n 32 C dX10_cubesAmong_31 hl 0 rfl rfl ?_
  refine x_iconst 33 C dX10_cubesAmong_32 (1 : Int32) kv_iconst_1 rfl ?_
  refine x_icmp_ge 40 36 C dX10_cubesAmong_33 rfl rfl hf (fun hf => ?_) (fun hf => ?_)
  · refine x_iload_n 41 C dX10_cubesAmong_40 hl 2 rfl rfl ?_
    refine x_iload_n 42 C dX10_cubesAmong_41 hl 0 rfl rfl ?_
    refine x_idiv 43 C dX10_cubesAmong_42 hf rfl (fun hf => ?_)
    obtain rfl := Option.some.inj hf
    exact R _ _ _ _ X dX10_cubesAmong_43
  refine x_iconst 37 C dX10_cubesAmong_36 (0 : Int32) kv_iconst_0 rfl ?_
  refine x_goto 43 C dX10_cubesAmong_37 rfl ?_
  obtain rfl := Option.some.inj hf
  exact R _ _ _ _ X dX10_cubesAmong_43
set_option maxHeartbeats 4000000 in
set_option maxRecDepth 100000 in
theorem c_X4_openFew (l : Launch) (D : va_G) (T : KT) (h0 h1 h2 : Nat) (N : Nat) (v2 : Int32) (m_step m_width m_slant m_p1_a m_p1_b : Int64) (x : Int32 × Int64 × Int64 × Int64) (hf : f_X4_openFew N v2 m_step m_width m_slant m_p1_a m_p1_b = some x) : kx_MI l yX4_openFew cX4_openFew 3 (some .boolean) 3 92 D T [.ref h0, .ref h2, .int v2] (w37_X4 T h0 h1 h2 m_step m_width m_slant m_p1_a m_p1_b) (w37_X4 T h0 h1 h2 x.2.1 x.2.2.1 x.2.2.2 m_p1_a m_p1_b) x.1 := by
  refine kx_ofMZ RX4 rfl (plainFor_of_name (x := yX4_openFew) kpn_X4) rfl ?_
  intro E A H ls _ C X R hl
  have hl : lv_has ls 3 [(0, .ref h0), (1, .ref h2), (2, .int v2)] := hl
  rw [f_X4_openFew] at hf
  refine x_aload_n 1 C dX4_openFew_0 hl 1 rfl rfl ?_
  obtain ⟨y1, hy1, hf⟩ := kx_bind hf
  refine x_callVl 4 C dX4_openFew_1 X hl kl_X4_46 (c_X5_norm E.2.1 D T h2  m_p1_a m_p1_b y1 hy1) rfl rfl [] rfl rfl rfl rfl rfl cb_107 rfl (fun H locs X => ?_)
  refine x_iload_n 5 C dX4_openFew_4 hl 2 rfl rfl ?_
  refine x_i2l 6 C dX4_openFew_5 rfl ?_
  refine x_lcmp_gt 22 7 10 C dX4_openFew_6 dX4_openFew_7 rfl rfl rfl hf (fun hf => ?_) (fun hf => ?_)
  · refine x_iconst 23 C dX4_openFew_22 (0 : Int32) kv_iconst_0 rfl ?_
    obtain rfl := Option.some.inj hf
    exact R _ _ _ _ X kb_0 dX4_openFew_23
  refine x_aload_n 11 C dX4_openFew_10 hl 0 rfl rfl ?_
  refine x_aload_n 12 C dX4_openFew_11 hl 1 rfl rfl ?_
  obtain ⟨y12, hy12, hf⟩ := kx_bind hf
  refine x_callVi0 15 C dX4_openFew_12 X hl kl_X4_50 (c_X4_open E.2.1 D T h0 h1 h2 N  m_step m_width m_slant m_p1_a m_p1_b y12 hy12) rfl rfl [] rfl rfl rfl rfl rfl rfl (fun H locs X => ?_)
  refine x_if_eq 22 18 C dX4_openFew_15 rfl rfl hf (fun hf => ?_) (fun hf => ?_)
  · refine x_iconst 23 C dX4_openFew_22 (0 : Int32) kv_iconst_0 rfl ?_
    obtain rfl := Option.some.inj hf
    exact R _ _ _ _ X kb_0 dX4_openFew_23
  refine x_iconst 19 C dX4_openFew_18 (1 : Int32) kv_iconst_1 rfl ?_
  refine x_goto 23 C dX4_openFew_19 rfl ?_
  obtain rfl := Option.some.inj hf
  exact R _ _ _ _ X kb_1 dX4_openFew_23
set_option maxHeartbeats 4000000 in
set_option maxRecDepth 100000 in
theorem w_X10_classes_76 {E : KE} {A : Nat → Prop} {D : va_G} {T : KT} (h : Nat → Nat) (C : kx_C E cX10_classes 5 (some .int) RX10 6 146 D T) (N : Nat) (x : Int32 × Int64 × Int64 × Int64 × Int32 × Int32 × Int32 × (Nat → Int64) × (Nat → Int64) × (Nat → Int64) × Int32 × Int64 × Int64 × Int64 × Int64 × Int64 × Int64 × Int64 × Int64 × Int64 × Int64 × Int64 × Int64 × Int64 × Int64 × (Nat → Int64) × (Nat → Int64) × Int64 × Int64 × Int64 × Int64 × Int64 × Int64 × Int64 × Int64 × Int64 × Int64 × Int64 × Int64) (m_drawers_full m_drawers_kept : Int32) (m_drawers_partA m_drawers_partB m_drawers_keptA m_drawers_keptB m_drawers_keptFull : Nat → Int32) (m_tape_size m_tape_plain m_tape_omegas m_tape_end m_tape_place m_tape_plainTold m_tape_omegasTold : Int32) (m_tape_bytes : Nat → Int32) (m_euclid_count : Int32) (m_euclid_last_a m_euclid_last_b m_euclid_lastOfFirst_a m_euclid_lastOfFirst_b m_euclid_lastOfSecond_a m_euclid_lastOfSecond_b m_euclid_next_a m_euclid_next_b m_euclid_nextOfFirst_a m_euclid_nextOfFirst_b m_euclid_nextOfSecond_a m_euclid_nextOfSecond_b m_euclid_q_a m_euclid_q_b : Int64) (m_euclid_quotientA m_euclid_quotientB : Nat → Int64) (m_modulus_square_a m_modulus_square_b : Int64) (m_primes_count : Int32) (m_primes_primeA m_primes_primeB : Nat → Int32) (m_primes_found_a m_primes_found_b : Int64) (m_rings_foundA m_rings_foundB m_rings_all m_rings_mostOfOneRow m_letters_count : Int32) (m_letters_bytes : Nat → Int32) (m_three_a m_three_b m_four_a m_four_b m_spare_a m_spare_b : Int64) (m_marks : Nat → Int32) (R : kx_RI E cX10_classes D A (wC T h m_drawers_full m_drawers_kept m_drawers_partA m_drawers_partB m_drawers_keptA m_drawers_keptB m_drawers_keptFull m_tape_size m_tape_plain m_tape_omegas m_tape_end m_tape_place m_tape_plainTold m_tape_omegasTold m_tape_bytes m_euclid_count m_euclid_last_a m_euclid_last_b m_euclid_lastOfFirst_a m_euclid_lastOfFirst_b m_euclid_lastOfSecond_a m_euclid_lastOfSecond_b m_euclid_next_a m_euclid_next_b m_euclid_nextOfFirst_a m_euclid_nextOfFirst_b m_euclid_nextOfSecond_a m_euclid_nextOfSecond_b m_euclid_q_a m_euclid_q_b m_euclid_quotientA m_euclid_quotientB x.2.1 x.2.2.1 x.2.2.2.1 m_modulus_square_a m_modulus_square_b x.2.2.2.2.1 x.2.2.2.2.2.1 x.2.2.2.2.2.2.1 x.2.2.2.2.2.2.2.1 x.2.2.2.2.2.2.2.2.1 x.2.2.2.2.2.2.2.2.2.1 x.2.2.2.2.2.2.2.2.2.2.1 x.2.2.2.2.2.2.2.2.2.2.2.1 x.2.2.2.2.2.2.2.2.2.2.2.2.1 x.2.2.2.2.2.2.2.2.2.2.2.2.2.1 x.2.2.2.2.2.2.2.2.2.2.2.2.2.2.1 x.2.2.2.2.2.2.2.2.2.2.2.2.2.2.2.1 x.2.2.2.2.2.2.2.2.2.2.2.2.2.2.2.2.1 x.2.2.2.2.2.2.2.2.2.2.2.2.2.2.2.2.2.1 x.2.2.2.2.2.2.2.2.2.2.2.2.2.2.2.2.2.2.1 x.2.2.2.2.2.2.2.2.2.2.2.2.2.2.2.2.2.2.2.1 x.2.2.2.2.2.2.2.2.2.2.2.2.2.2.2.2.2.2.2.2.1 x.2.2.2.2.2.2.2.2.2.2.2.2.2.2.2.2.2.2.2.2.2.1 x.2.2.2.2.2.2.2.2.2.2.2.2.2.2.2.2.2.2.2.2.2.2.1 x.2.2.2.2.2.2.2.2.2.2.2.2.2.2.2.2.2.2.2.2.2.2.2.1 x.2.2.2.2.2.2.2.2.2.2.2.2.2.2.2.2.2.2.2.2.2.2.2.2.1 x.2.2.2.2.2.2.2.2.2.2.2.2.2.2.2.2.2.2.2.2.2.2.2.2.2.1 x.2.2.2.2.2.2.2.2.2.2.2.2.2.2.2.2.2.2.2.2.2.2.2.2.2.2.1 x.2.2.2.2.2.2.2.2.2.2.2.2.2.2.2.2.2.2.2.2.2.2.2.2.2.2.2.1 x.2.2.2.2.2.2.2.2.2.2.2.2.2.2.2.2.2.2.2.2.2.2.2.2.2.2.2.2.1 x.2.2.2.2.2.2.2.2.2.2.2.2.2.2.2.2.2.2.2.2.2.2.2.2.2.2.2.2.2.1 x.2.2.2.2.2.2.2.2.2.2.2.2.2.2.2.2.2.2.2.2.2.2.2.2.2.2.2.2.2.2.1 x.2.2.2.2.2.2.2.2.2.2.2.2.2.2.2.2.2.2.2.2.2.2.2.2.2.2.2.2.2.2.2.1 x.2.2.2.2.2.2.2.2.2.2.2.2.2.2.2.2.2.2.2.2.2.2.2.2.2.2.2.2.2.2.2.2.1 m_primes_count m_primes_primeA m_primes_primeB m_primes_found_a m_primes_found_b m_rings_foundA m_rings_foundB m_rings_all m_rings_mostOfOneRow m_letters_count m_letters_bytes x.2.2.2.2.2.2.2.2.2.2.2.2.2.2.2.2.2.2.2.2.2.2.2.2.2.2.2.2.2.2.2.2.2.1 x.2.2.2.2.2.2.2.2.2.2.2.2.2.2.2.2.2.2.2.2.2.2.2.2.2.2.2.2.2.2.2.2.2.2.1 x.2.2.2.2.2.2.2.2.2.2.2.2.2.2.2.2.2.2.2.2.2.2.2.2.2.2.2.2.2.2.2.2.2.2.2.1 x.2.2.2.2.2.2.2.2.2.2.2.2.2.2.2.2.2.2.2.2.2.2.2.2.2.2.2.2.2.2.2.2.2.2.2.2.1 m_three_a m_three_b m_four_a m_four_b x.2.2.2.2.2.2.2.2.2.2.2.2.2.2.2.2.2.2.2.2.2.2.2.2.2.2.2.2.2.2.2.2.2.2.2.2.2.1 x.2.2.2.2.2.2.2.2.2.2.2.2.2.2.2.2.2.2.2.2.2.2.2.2.2.2.2.2.2.2.2.2.2.2.2.2.2.2 m_spare_a m_spare_b m_marks) x.1) : ∀ (m_modulus_step m_modulus_width m_modulus_slant : Int64) (m_factors_count m_factors_threes m_factors_unit : Int32) (m_factors_primeA m_factors_primeB m_factors_norms : Nat → Int64) (m_factors_euclid_count : Int32) (m_factors_euclid_last_a m_factors_euclid_last_b m_factors_euclid_lastOfFirst_a m_factors_euclid_lastOfFirst_b m_factors_euclid_lastOfSecond_a m_factors_euclid_lastOfSecond_b m_factors_euclid_next_a m_factors_euclid_next_b m_factors_euclid_nextOfFirst_a m_factors_euclid_nextOfFirst_b m_factors_euclid_nextOfSecond_a m_factors_euclid_nextOfSecond_b m_factors_euclid_q_a m_factors_euclid_q_b : Int64) (m_factors_euclid_quotientA m_factors_euclid_quotientB : Nat → Int64) (m_factors_left_a m_factors_left_b m_factors_found_a m_factors_found_b m_factors_product_a m_factors_product_b m_one_a m_one_b m_two_a m_two_b m_out_a m_out_b : Int64) (v2 s0 : Int32) (H : Heap) (locs : List Loc) (ls : Array Slot), kx_H E D A H locs (wC T h m_drawers_full m_drawers_kept m_drawers_partA m_drawers_partB m_drawers_keptA m_drawers_keptB m_drawers_keptFull m_tape_size m_tape_plain m_tape_omegas m_tape_end m_tape_place m_tape_plainTold m_tape_omegasTold m_tape_bytes m_euclid_count m_euclid_last_a m_euclid_last_b m_euclid_lastOfFirst_a m_euclid_lastOfFirst_b m_euclid_lastOfSecond_a m_euclid_lastOfSecond_b m_euclid_next_a m_euclid_next_b m_euclid_nextOfFirst_a m_euclid_nextOfFirst_b m_euclid_nextOfSecond_a m_euclid_nextOfSecond_b m_euclid_q_a m_euclid_q_b m_euclid_quotientA m_euclid_quotientB m_modulus_step m_modulus_width m_modulus_slant m_modulus_square_a m_modulus_square_b m_factors_count m_factors_threes m_factors_unit m_factors_primeA m_factors_primeB m_factors_norms m_factors_euclid_count m_factors_euclid_last_a m_factors_euclid_last_b m_factors_euclid_lastOfFirst_a m_factors_euclid_lastOfFirst_b m_factors_euclid_lastOfSecond_a m_factors_euclid_lastOfSecond_b m_factors_euclid_next_a m_factors_euclid_next_b m_factors_euclid_nextOfFirst_a m_factors_euclid_nextOfFirst_b m_factors_euclid_nextOfSecond_a m_factors_euclid_nextOfSecond_b m_factors_euclid_q_a m_factors_euclid_q_b m_factors_euclid_quotientA m_factors_euclid_quotientB m_factors_left_a m_factors_left_b m_factors_found_a m_factors_found_b m_factors_product_a m_factors_product_b m_primes_count m_primes_primeA m_primes_primeB m_primes_found_a m_primes_found_b m_rings_foundA m_rings_foundB m_rings_all m_rings_mostOfOneRow m_letters_count m_letters_bytes m_one_a m_one_b m_two_a m_two_b m_three_a m_three_b m_four_a m_four_b m_out_a m_out_b m_spare_a m_spare_b m_marks) → lv_has ls 5 [(0, .ref (h 0)), (2, .int v2)] → f_X10_classes_76 N v2 s0 m_modulus_step m_modulus_width m_modulus_slant m_factors_count m_factors_threes m_factors_unit m_factors_primeA m_factors_primeB m_factors_norms m_factors_euclid_count m_factors_euclid_last_a m_factors_euclid_last_b m_factors_euclid_lastOfFirst_a m_factors_euclid_lastOfFirst_b m_factors_euclid_lastOfSecond_a m_factors_euclid_lastOfSecond_b m_factors_euclid_next_a m_factors_euclid_next_b m_factors_euclid_nextOfFirst_a m_factors_euclid_nextOfFirst_b m_factors_euclid_nextOfSecond_a m_factors_euclid_nextOfSecond_b m_factors_euclid_q_a m_factors_euclid_q_b m_factors_euclid_quotientA m_factors_euclid_quotientB m_factors_left_a m_factors_left_b m_factors_found_a m_factors_found_b m_factors_product_a m_factors_product_b m_one_a m_one_b m_two_a m_two_b m_out_a m_out_b = some x → kx_W E H locs 76 ls [.int s0] := by
  intro m_modulus_step m_modulus_width m_modulus_slant m_factors_count m_factors_threes m_factors_unit m_factors_primeA m_factors_primeB m_factors_norms m_factors_euclid_count m_factors_euclid_last_a m_factors_euclid_last_b m_factors_euclid_lastOfFirst_a m_factors_euclid_lastOfFirst_b m_factors_euclid_lastOfSecond_a m_factors_euclid_lastOfSecond_b m_factors_euclid_next_a m_factors_euclid_next_b m_factors_euclid_nextOfFirst_a m_factors_euclid_nextOfFirst_b m_factors_euclid_nextOfSecond_a m_factors_euclid_nextOfSecond_b m_factors_euclid_q_a m_factors_euclid_q_b m_factors_euclid_quotientA m_factors_euclid_quotientB m_factors_left_a m_factors_left_b m_factors_found_a m_factors_found_b m_factors_product_a m_factors_product_b m_one_a m_one_b m_two_a m_two_b m_out_a m_out_b v2 s0 H locs ls X hl hf
  rw [f_X10_classes_76] at hf
  refine x_istore_n 77 C dX10_classes_76 [(3, .int s0), (0, .ref (h 0)), (2, .int v2)] hl rfl rfl rfl (fun ls hl => ?_)
  refine x_iload_n 78 C dX10_classes_77 hl 0 rfl rfl ?_
  refine x_if_ne 84 81 C dX10_classes_78 rfl rfl hf (fun hf => ?_) (fun hf => ?_)
  · refine x_iload_n 85 C dX10_classes_84 hl 2 rfl rfl ?_
    refine x_if_ne 97 88 C dX10_classes_85 rfl rfl hf (fun hf => ?_) (fun hf => ?_)
    · refine x_aload_n 98 C dX10_classes_97 hl 1 rfl rfl ?_
      refine x_get 101 C dX10_classes_98 X kf_X10_42 0 rfl rfl rfl ?_
      refine x_aload_n 102 C dX10_classes_101 hl 1 rfl rfl ?_
      refine x_get 105 C dX10_classes_102 X kf_X10_74 0 rfl rfl rfl ?_
      obtain ⟨y105, hy105, hf⟩ := kx_bind hf
      refine x_callVv 108 C dX10_classes_105 X hl kl_X10_228 (c_X2_spell E.2.1 D T (h 21) (h 22) (h 23) (h 24) (h 25) (h 26) (h 27) (h 28) (h 29) (h 30) (h 31) (h 32) (h 33) (h 34) (h 35) (h 36) (h 37) (h 46) N  m_factors_count m_factors_threes m_factors_unit m_factors_primeA m_factors_primeB m_factors_norms m_factors_euclid_count m_factors_euclid_last_a m_factors_euclid_last_b m_factors_euclid_lastOfFirst_a m_factors_euclid_lastOfFirst_b m_factors_euclid_lastOfSecond_a m_factors_euclid_lastOfSecond_b m_factors_euclid_next_a m_factors_euclid_next_b m_factors_euclid_nextOfFirst_a m_factors_euclid_nextOfFirst_b m_factors_euclid_nextOfSecond_a m_factors_euclid_nextOfSecond_b m_factors_euclid_q_a m_factors_euclid_q_b m_factors_euclid_quotientA m_factors_euclid_quotientB m_factors_left_a m_factors_left_b m_factors_found_a m_factors_found_b m_factors_product_a m_factors_product_b m_two_a m_two_b y105 hy105) rfl rfl [] rfl rfl rfl rfl rfl cb_83 rfl (fun H locs X => ?_)
      refine x_aload_n 109 C dX10_classes_108 hl 1 rfl rfl ?_
      refine x_get 112 C dX10_classes_109 X kf_X10_42 0 rfl rfl rfl ?_
      obtain ⟨y112, hy112, hf⟩ := kx_bind hf
      refine x_callVl 115 C dX10_classes_112 X hl kl_X10_253 (c_X2_primeClasses E.2.1 D T (h 21) (h 22) (h 23) (h 24) (h 25) (h 35) (h 36) (h 37) N  y105.1 y105.2.1 y105.2.2.1 y105.2.2.2.1 y105.2.2.2.2.1 y105.2.2.2.2.2.1 y112 hy112) rfl rfl [] rfl rfl rfl rfl rfl cb_76 rfl (fun H locs X => ?_)
      refine x_l2i 116 C dX10_classes_115 rfl ?_
      refine x_istore 118 C dX10_classes_116 [(4, .int (y112).toInt32), (3, .int s0), (0, .ref (h 0)), (2, .int v2)] hl rfl rfl rfl (fun ls hl => ?_)
      refine x_iload_n 119 C dX10_classes_118 hl 3 rfl rfl ?_
      refine x_iconst 120 C dX10_classes_119 (1 : Int32) kv_iconst_1 rfl ?_
      refine x_icmp_ne 128 123 C dX10_classes_120 rfl rfl hf (fun hf => ?_) (fun hf => ?_)
      · refine x_aload_n 129 C dX10_classes_128 hl 2 rfl rfl ?_
        refine x_iload 131 C dX10_classes_129 hl 0 rfl rfl ?_
        obtain ⟨y131, hy131, hf⟩ := kx_bind hf
        refine x_callVi0 134 C dX10_classes_131 X hl kl_X10_291 (c_X10_cubesAmong E.2.1 D T h N (y112).toInt32 m_drawers_full m_drawers_kept m_drawers_partA m_drawers_partB m_drawers_keptA m_drawers_keptB m_drawers_keptFull m_tape_size m_tape_plain m_tape_omegas m_tape_end m_tape_place m_tape_plainTold m_tape_omegasTold m_tape_bytes m_euclid_count m_euclid_last_a m_euclid_last_b m_euclid_lastOfFirst_a m_euclid_lastOfFirst_b m_euclid_lastOfSecond_a m_euclid_lastOfSecond_b m_euclid_next_a m_euclid_next_b m_euclid_nextOfFirst_a m_euclid_nextOfFirst_b m_euclid_nextOfSecond_a m_euclid_nextOfSecond_b m_euclid_q_a m_euclid_q_b m_euclid_quotientA m_euclid_quotientB m_modulus_step m_modulus_width m_modulus_slant m_modulus_square_a m_modulus_square_b y105.1 y105.2.1 y105.2.2.1 y105.2.2.2.1 y105.2.2.2.2.1 y105.2.2.2.2.2.1 y105.2.2.2.2.2.2.1 y105.2.2.2.2.2.2.2.1 y105.2.2.2.2.2.2.2.2.1 y105.2.2.2.2.2.2.2.2.2.1 y105.2.2.2.2.2.2.2.2.2.2.1 y105.2.2.2.2.2.2.2.2.2.2.2.1 y105.2.2.2.2.2.2.2.2.2.2.2.2.1 y105.2.2.2.2.2.2.2.2.2.2.2.2.2.1 y105.2.2.2.2.2.2.2.2.2.2.2.2.2.2.1 y105.2.2.2.2.2.2.2.2.2.2.2.2.2.2.2.1 y105.2.2.2.2.2.2.2.2.2.2.2.2.2.2.2.2.1 y105.2.2.2.2.2.2.2.2.2.2.2.2.2.2.2.2.2.1 y105.2.2.2.2.2.2.2.2.2.2.2.2.2.2.2.2.2.2.1 y105.2.2.2.2.2.2.2.2.2.2.2.2.2.2.2.2.2.2.2.1 y105.2.2.2.2.2.2.2.2.2.2.2.2.2.2.2.2.2.2.2.2.1 y105.2.2.2.2.2.2.2.2.2.2.2.2.2.2.2.2.2.2.2.2.2.1 y105.2.2.2.2.2.2.2.2.2.2.2.2.2.2.2.2.2.2.2.2.2.2.1 y105.2.2.2.2.2.2.2.2.2.2.2.2.2.2.2.2.2.2.2.2.2.2.2.1 y105.2.2.2.2.2.2.2.2.2.2.2.2.2.2.2.2.2.2.2.2.2.2.2.2.1 y105.2.2.2.2.2.2.2.2.2.2.2.2.2.2.2.2.2.2.2.2.2.2.2.2.2.1 y105.2.2.2.2.2.2.2.2.2.2.2.2.2.2.2.2.2.2.2.2.2.2.2.2.2.2.1 y105.2.2.2.2.2.2.2.2.2.2.2.2.2.2.2.2.2.2.2.2.2.2.2.2.2.2.2.1 y105.2.2.2.2.2.2.2.2.2.2.2.2.2.2.2.2.2.2.2.2.2.2.2.2.2.2.2.2 m_primes_count m_primes_primeA m_primes_primeB m_primes_found_a m_primes_found_b m_rings_foundA m_rings_foundB m_rings_all m_rings_mostOfOneRow m_letters_count m_letters_bytes m_one_a m_one_b m_two_a m_two_b m_three_a m_three_b m_four_a m_four_b m_out_a m_out_b m_spare_a m_spare_b m_marks y131 hy131) rfl rfl [] rfl rfl rfl rfl rfl rfl (fun H locs X => ?_)
        obtain rfl := Option.some.inj hf
        exact R _ _ _ _ X dX10_classes_134
      refine x_iload 125 C dX10_classes_123 hl 0 rfl rfl ?_
      refine x_goto 134 C dX10_classes_125 rfl ?_
      obtain rfl := Option.some.inj hf
      exact R _ _ _ _ X dX10_classes_134
    refine x_aload_n 89 C dX10_classes_88 hl 1 rfl rfl ?_
    refine x_get 92 C dX10_classes_89 X kf_X10_74 0 rfl rfl rfl ?_
    obtain ⟨y92, hy92, hf⟩ := kx_bind hf
    refine x_callVl 95 C dX10_classes_92 X hl kl_X10_152 (c_X5_norm E.2.1 D T (h 46)  m_two_a m_two_b y92 hy92) rfl rfl [] rfl rfl rfl rfl rfl cb_55 rfl (fun H locs X => ?_)
    refine x_l2i 96 C dX10_classes_95 rfl ?_
    obtain rfl := Option.some.inj hf
    exact R _ _ _ _ X dX10_classes_96
  refine x_bipush 83 C dX10_classes_81 (-3 : Int32) kv_bipush_m3 rfl ?_
  obtain rfl := Option.some.inj hf
  exact R _ _ _ _ X dX10_classes_83
set_option maxHeartbeats 4000000 in
set_option maxRecDepth 100000 in
theorem c_X10_classes (l : Launch) (D : va_G) (T : KT) (h : Nat → Nat) (N : Nat) (v1 v2 : Int32) (m_drawers_full m_drawers_kept : Int32) (m_drawers_partA m_drawers_partB m_drawers_keptA m_drawers_keptB m_drawers_keptFull : Nat → Int32) (m_tape_size m_tape_plain m_tape_omegas m_tape_end m_tape_place m_tape_plainTold m_tape_omegasTold : Int32) (m_tape_bytes : Nat → Int32) (m_euclid_count : Int32) (m_euclid_last_a m_euclid_last_b m_euclid_lastOfFirst_a m_euclid_lastOfFirst_b m_euclid_lastOfSecond_a m_euclid_lastOfSecond_b m_euclid_next_a m_euclid_next_b m_euclid_nextOfFirst_a m_euclid_nextOfFirst_b m_euclid_nextOfSecond_a m_euclid_nextOfSecond_b m_euclid_q_a m_euclid_q_b : Int64) (m_euclid_quotientA m_euclid_quotientB : Nat → Int64) (m_modulus_step m_modulus_width m_modulus_slant m_modulus_square_a m_modulus_square_b : Int64) (m_factors_count m_factors_threes m_factors_unit : Int32) (m_factors_primeA m_factors_primeB m_factors_norms : Nat → Int64) (m_factors_euclid_count : Int32) (m_factors_euclid_last_a m_factors_euclid_last_b m_factors_euclid_lastOfFirst_a m_factors_euclid_lastOfFirst_b m_factors_euclid_lastOfSecond_a m_factors_euclid_lastOfSecond_b m_factors_euclid_next_a m_factors_euclid_next_b m_factors_euclid_nextOfFirst_a m_factors_euclid_nextOfFirst_b m_factors_euclid_nextOfSecond_a m_factors_euclid_nextOfSecond_b m_factors_euclid_q_a m_factors_euclid_q_b : Int64) (m_factors_euclid_quotientA m_factors_euclid_quotientB : Nat → Int64) (m_factors_left_a m_factors_left_b m_factors_found_a m_factors_found_b m_factors_product_a m_factors_product_b : Int64) (m_primes_count : Int32) (m_primes_primeA m_primes_primeB : Nat → Int32) (m_primes_found_a m_primes_found_b : Int64) (m_rings_foundA m_rings_foundB m_rings_all m_rings_mostOfOneRow m_letters_count : Int32) (m_letters_bytes : Nat → Int32) (m_one_a m_one_b m_two_a m_two_b m_three_a m_three_b m_four_a m_four_b m_out_a m_out_b m_spare_a m_spare_b : Int64) (m_marks : Nat → Int32) (x : Int32 × Int64 × Int64 × Int64 × Int32 × Int32 × Int32 × (Nat → Int64) × (Nat → Int64) × (Nat → Int64) × Int32 × Int64 × Int64 × Int64 × Int64 × Int64 × Int64 × Int64 × Int64 × Int64 × Int64 × Int64 × Int64 × Int64 × Int64 × (Nat → Int64) × (Nat → Int64) × Int64 × Int64 × Int64 × Int64 × Int64 × Int64 × Int64 × Int64 × Int64 × Int64 × Int64 × Int64) (hf : f_X10_classes N v1 v2 m_drawers_full m_drawers_partA m_drawers_partB m_modulus_step m_modulus_width m_modulus_slant m_factors_count m_factors_threes m_factors_unit m_factors_primeA m_factors_primeB m_factors_norms m_factors_euclid_count m_factors_euclid_last_a m_factors_euclid_last_b m_factors_euclid_lastOfFirst_a m_factors_euclid_lastOfFirst_b m_factors_euclid_lastOfSecond_a m_factors_euclid_lastOfSecond_b m_factors_euclid_next_a m_factors_euclid_next_b m_factors_euclid_nextOfFirst_a m_factors_euclid_nextOfFirst_b m_factors_euclid_nextOfSecond_a m_factors_euclid_nextOfSecond_b m_factors_euclid_q_a m_factors_euclid_q_b m_factors_euclid_quotientA m_factors_euclid_quotientB m_factors_left_a m_factors_left_b m_factors_found_a m_factors_found_b m_factors_product_a m_factors_product_b m_one_a m_one_b m_two_a m_two_b m_out_a m_out_b = some x) : kx_MI l yX10_classes cX10_classes 5 (some .int) 6 146 D T [.ref (h 0), .int v1, .int v2] (wC T h m_drawers_full m_drawers_kept m_drawers_partA m_drawers_partB m_drawers_keptA m_drawers_keptB m_drawers_keptFull m_tape_size m_tape_plain m_tape_omegas m_tape_end m_tape_place m_tape_plainTold m_tape_omegasTold m_tape_bytes m_euclid_count m_euclid_last_a m_euclid_last_b m_euclid_lastOfFirst_a m_euclid_lastOfFirst_b m_euclid_lastOfSecond_a m_euclid_lastOfSecond_b m_euclid_next_a m_euclid_next_b m_euclid_nextOfFirst_a m_euclid_nextOfFirst_b m_euclid_nextOfSecond_a m_euclid_nextOfSecond_b m_euclid_q_a m_euclid_q_b m_euclid_quotientA m_euclid_quotientB m_modulus_step m_modulus_width m_modulus_slant m_modulus_square_a m_modulus_square_b m_factors_count m_factors_threes m_factors_unit m_factors_primeA m_factors_primeB m_factors_norms m_factors_euclid_count m_factors_euclid_last_a m_factors_euclid_last_b m_factors_euclid_lastOfFirst_a m_factors_euclid_lastOfFirst_b m_factors_euclid_lastOfSecond_a m_factors_euclid_lastOfSecond_b m_factors_euclid_next_a m_factors_euclid_next_b m_factors_euclid_nextOfFirst_a m_factors_euclid_nextOfFirst_b m_factors_euclid_nextOfSecond_a m_factors_euclid_nextOfSecond_b m_factors_euclid_q_a m_factors_euclid_q_b m_factors_euclid_quotientA m_factors_euclid_quotientB m_factors_left_a m_factors_left_b m_factors_found_a m_factors_found_b m_factors_product_a m_factors_product_b m_primes_count m_primes_primeA m_primes_primeB m_primes_found_a m_primes_found_b m_rings_foundA m_rings_foundB m_rings_all m_rings_mostOfOneRow m_letters_count m_letters_bytes m_one_a m_one_b m_two_a m_two_b m_three_a m_three_b m_four_a m_four_b m_out_a m_out_b m_spare_a m_spare_b m_marks) (wC T h m_drawers_full m_drawers_kept m_drawers_partA m_drawers_partB m_drawers_keptA m_drawers_keptB m_drawers_keptFull m_tape_size m_tape_plain m_tape_omegas m_tape_end m_tape_place m_tape_plainTold m_tape_omegasTold m_tape_bytes m_euclid_count m_euclid_last_a m_euclid_last_b m_euclid_lastOfFirst_a m_euclid_lastOfFirst_b m_euclid_lastOfSecond_a m_euclid_lastOfSecond_b m_euclid_next_a m_euclid_next_b m_euclid_nextOfFirst_a m_euclid_nextOfFirst_b m_euclid_nextOfSecond_a m_euclid_nextOfSecond_b m_euclid_q_a m_euclid_q_b m_euclid_quotientA m_euclid_quotientB x.2.1 x.2.2.1 x.2.2.2.1 m_modulus_square_a m_modulus_square_b x.2.2.2.2.1 x.2.2.2.2.2.1 x.2.2.2.2.2.2.1 x.2.2.2.2.2.2.2.1 x.2.2.2.2.2.2.2.2.1 x.2.2.2.2.2.2.2.2.2.1 x.2.2.2.2.2.2.2.2.2.2.1 x.2.2.2.2.2.2.2.2.2.2.2.1 x.2.2.2.2.2.2.2.2.2.2.2.2.1 x.2.2.2.2.2.2.2.2.2.2.2.2.2.1 x.2.2.2.2.2.2.2.2.2.2.2.2.2.2.1 x.2.2.2.2.2.2.2.2.2.2.2.2.2.2.2.1 x.2.2.2.2.2.2.2.2.2.2.2.2.2.2.2.2.1 x.2.2.2.2.2.2.2.2.2.2.2.2.2.2.2.2.2.1 x.2.2.2.2.2.2.2.2.2.2.2.2.2.2.2.2.2.2.1 x.2.2.2.2.2.2.2.2.2.2.2.2.2.2.2.2.2.2.2.1 x.2.2.2.2.2.2.2.2.2.2.2.2.2.2.2.2.2.2.2.2.1 x.2.2.2.2.2.2.2.2.2.2.2.2.2.2.2.2.2.2.2.2.2.1 x.2.2.2.2.2.2.2.2.2.2.2.2.2.2.2.2.2.2.2.2.2.2.1 x.2.2.2.2.2.2.2.2.2.2.2.2.2.2.2.2.2.2.2.2.2.2.2.1 x.2.2.2.2.2.2.2.2.2.2.2.2.2.2.2.2.2.2.2.2.2.2.2.2.1 x.2.2.2.2.2.2.2.2.2.2.2.2.2.2.2.2.2.2.2.2.2.2.2.2.2.1 x.2.2.2.2.2.2.2.2.2.2.2.2.2.2.2.2.2.2.2.2.2.2.2.2.2.2.1 x.2.2.2.2.2.2.2.2.2.2.2.2.2.2.2.2.2.2.2.2.2.2.2.2.2.2.2.1 x.2.2.2.2.2.2.2.2.2.2.2.2.2.2.2.2.2.2.2.2.2.2.2.2.2.2.2.2.1 x.2.2.2.2.2.2.2.2.2.2.2.2.2.2.2.2.2.2.2.2.2.2.2.2.2.2.2.2.2.1 x.2.2.2.2.2.2.2.2.2.2.2.2.2.2.2.2.2.2.2.2.2.2.2.2.2.2.2.2.2.2.1 x.2.2.2.2.2.2.2.2.2.2.2.2.2.2.2.2.2.2.2.2.2.2.2.2.2.2.2.2.2.2.2.1 x.2.2.2.2.2.2.2.2.2.2.2.2.2.2.2.2.2.2.2.2.2.2.2.2.2.2.2.2.2.2.2.2.1 m_primes_count m_primes_primeA m_primes_primeB m_primes_found_a m_primes_found_b m_rings_foundA m_rings_foundB m_rings_all m_rings_mostOfOneRow m_letters_count m_letters_bytes x.2.2.2.2.2.2.2.2.2.2.2.2.2.2.2.2.2.2.2.2.2.2.2.2.2.2.2.2.2.2.2.2.2.1 x.2.2.2.2.2.2.2.2.2.2.2.2.2.2.2.2.2.2.2.2.2.2.2.2.2.2.2.2.2.2.2.2.2.2.1 x.2.2.2.2.2.2.2.2.2.2.2.2.2.2.2.2.2.2.2.2.2.2.2.2.2.2.2.2.2.2.2.2.2.2.2.1 x.2.2.2.2.2.2.2.2.2.2.2.2.2.2.2.2.2.2.2.2.2.2.2.2.2.2.2.2.2.2.2.2.2.2.2.2.1 m_three_a m_three_b m_four_a m_four_b x.2.2.2.2.2.2.2.2.2.2.2.2.2.2.2.2.2.2.2.2.2.2.2.2.2.2.2.2.2.2.2.2.2.2.2.2.2.1 x.2.2.2.2.2.2.2.2.2.2.2.2.2.2.2.2.2.2.2.2.2.2.2.2.2.2.2.2.2.2.2.2.2.2.2.2.2.2 m_spare_a m_spare_b m_marks) x.1 := by
  refine kx_ofMI RX10 rfl (plainFor_of_name (x := yX10_classes) kpn_X10) rfl ?_
  intro E A H ls _ C X R hl
  have hl : lv_has ls 5 [(0, .ref (h 0)), (1, .int v1), (2, .int v2)] := hl
  rw [f_X10_classes] at hf
  refine x_iload_n 1 C dX10_classes_0 hl 1 rfl rfl ?_
  obtain ⟨y1, hy1, hf⟩ := kx_bind hf
  refine x_callSi 4 C dX10_classes_1 X hl kl_X10_105 (c_X0_isOne E.2.1 D T  v1  y1 hy1) [] rfl rfl rfl rfl rfl cb_2 rfl (fun H locs X => ?_)
  refine x_if_eq 16 7 C dX10_classes_4 rfl rfl hf (fun hf => ?_) (fun hf => ?_)
  · refine x_iconst 17 C dX10_classes_16 (-1 : Int32) kv_iconst_m1 rfl ?_
    obtain rfl := Option.some.inj hf
    exact R _ _ _ _ X dX10_classes_17
  refine x_iload_n 8 C dX10_classes_7 hl 2 rfl rfl ?_
  refine x_if_lt 16 11 C dX10_classes_8 rfl rfl hf (fun hf => ?_) (fun hf => ?_)
  · refine x_iconst 17 C dX10_classes_16 (-1 : Int32) kv_iconst_m1 rfl ?_
    obtain rfl := Option.some.inj hf
    exact R _ _ _ _ X dX10_classes_17
  refine x_iload_n 12 C dX10_classes_11 hl 2 rfl rfl ?_
  refine x_iconst 13 C dX10_classes_12 (2 : Int32) kv_iconst_2 rfl ?_
  refine x_icmp_le 18 16 C dX10_classes_13 rfl rfl hf (fun hf => ?_) (fun hf => ?_)
  · refine x_aload_n 19 C dX10_classes_18 hl 0 rfl rfl ?_
    refine x_get 22 C dX10_classes_19 X kf_X10_12 0 rfl rfl rfl ?_
    refine x_iload_n 23 C dX10_classes_22 hl 1 rfl rfl ?_
    obtain ⟨y23, hy23, hf⟩ := kx_bind hf
    refine x_callVi 26 C dX10_classes_23 X hl kl_X10_130 (c_X0_has E.2.1 D T (h 1) (h 2) (h 3) (h 4) (h 5) (h 6) v1 m_drawers_full m_drawers_kept y23 hy23) rfl rfl [] rfl rfl rfl rfl rfl cb_9 rfl (fun H locs X => ?_)
    refine x_if_ne 32 29 C dX10_classes_26 rfl rfl hf (fun hf => ?_) (fun hf => ?_)
    · refine x_aload_n 33 C dX10_classes_32 hl 0 rfl rfl ?_
      refine x_get 36 C dX10_classes_33 X kf_X10_12 0 rfl rfl rfl ?_
      refine x_iload_n 37 C dX10_classes_36 hl 1 rfl rfl ?_
      refine x_aload_n 38 C dX10_classes_37 hl 0 rfl rfl ?_
      refine x_get 41 C dX10_classes_38 X kf_X10_74 0 rfl rfl rfl ?_
      obtain ⟨y41, hy41, hf⟩ := kx_bind hf
      refine x_callVv 44 C dX10_classes_41 X hl kl_X10_141 (c_X0_load E.2.1 D T (h 1) (h 2) (h 3) (h 4) (h 5) (h 6) (h 46) v1 m_drawers_full m_drawers_kept m_drawers_partA m_drawers_partB m_two_a m_two_b y41 hy41) rfl rfl [] rfl rfl rfl rfl rfl cb_65 rfl (fun H locs X => ?_)
      refine x_iload_n 45 C dX10_classes_44 hl 2 rfl rfl ?_
      refine x_if_ne 62 48 C dX10_classes_45 rfl rfl hf (fun hf => ?_) (fun hf => ?_)
      · refine x_aload_n 63 C dX10_classes_62 hl 0 rfl rfl ?_
        refine x_get 66 C dX10_classes_63 X kf_X10_35 0 rfl rfl rfl ?_
        refine x_aload_n 67 C dX10_classes_66 hl 0 rfl rfl ?_
        refine x_get 70 C dX10_classes_67 X kf_X10_74 0 rfl rfl rfl ?_
        refine x_sipush 73 C dX10_classes_70 (2000 : Int32) kv_sipush_2000 rfl ?_
        obtain ⟨y73, hy73, hf⟩ := kx_bind hf
        refine x_callVi 76 C dX10_classes_73 X hl kl_X10_287 (c_X4_openFew E.2.1 D T (h 19) (h 20) (h 46) N (2000 : Int32) m_modulus_step m_modulus_width m_modulus_slant y41.1 y41.2 y73 hy73) rfl rfl [] rfl rfl rfl rfl rfl cb_100 rfl (fun H locs X => ?_)
        exact w_X10_classes_76 h C N x m_drawers_full m_drawers_kept m_drawers_partA m_drawers_partB m_drawers_keptA m_drawers_keptB m_drawers_keptFull m_tape_size m_tape_plain m_tape_omegas m_tape_end m_tape_place m_tape_plainTold m_tape_omegasTold m_tape_bytes m_euclid_count m_euclid_last_a m_euclid_last_b m_euclid_lastOfFirst_a m_euclid_lastOfFirst_b m_euclid_lastOfSecond_a m_euclid_lastOfSecond_b m_euclid_next_a m_euclid_next_b m_euclid_nextOfFirst_a m_euclid_nextOfFirst_b m_euclid_nextOfSecond_a m_euclid_nextOfSecond_b m_euclid_q_a m_euclid_q_b m_euclid_quotientA m_euclid_quotientB m_modulus_square_a m_modulus_square_b m_primes_count m_primes_primeA m_primes_primeB m_primes_found_a m_primes_found_b m_rings_foundA m_rings_foundB m_rings_all m_rings_mostOfOneRow m_letters_count m_letters_bytes m_three_a m_three_b m_four_a m_four_b m_spare_a m_spare_b m_marks R  y73.2.1 y73.2.2.1 y73.2.2.2 m_factors_count m_factors_threes m_factors_unit m_factors_primeA m_factors_primeB m_factors_norms m_factors_euclid_count m_factors_euclid_last_a m_factors_euclid_last_b m_factors_euclid_lastOfFirst_a m_factors_euclid_lastOfFirst_b m_factors_euclid_lastOfSecond_a m_factors_euclid_lastOfSecond_b m_factors_euclid_next_a m_factors_euclid_next_b m_factors_euclid_nextOfFirst_a m_factors_euclid_nextOfFirst_b m_factors_euclid_nextOfSecond_a m_factors_euclid_nextOfSecond_b m_factors_euclid_q_a m_factors_euclid_q_b m_factors_euclid_quotientA m_factors_euclid_quotientB m_factors_left_a m_factors_left_b m_factors_found_a m_factors_found_b m_factors_product_a m_factors_product_b m_one_a m_one_b y41.1 y41.2 m_out_a m_out_b v2 y73.1 _ _ _ X (lv_sub hl [0, 2] rfl) hf
      refine x_aload_n 49 C dX10_classes_48 hl 0 rfl rfl ?_
      refine x_get 52 C dX10_classes_49 X kf_X10_35 0 rfl rfl rfl ?_
      refine x_aload_n 53 C dX10_classes_52 hl 0 rfl rfl ?_
      refine x_get 56 C dX10_classes_53 X kf_X10_74 0 rfl rfl rfl ?_
      obtain ⟨y56, hy56, hf⟩ := kx_bind hf
      refine x_callVi 59 C dX10_classes_56 X hl kl_X10_284 (c_X4_open E.2.1 D T (h 19) (h 20) (h 46) N  m_modulus_step m_modulus_width m_modulus_slant y41.1 y41.2 y56 hy56) rfl rfl [] rfl rfl rfl rfl rfl cb_100 rfl (fun H locs X => ?_)
      refine x_goto 76 C dX10_classes_59 rfl ?_
      exact w_X10_classes_76 h C N x m_drawers_full m_drawers_kept m_drawers_partA m_drawers_partB m_drawers_keptA m_drawers_keptB m_drawers_keptFull m_tape_size m_tape_plain m_tape_omegas m_tape_end m_tape_place m_tape_plainTold m_tape_omegasTold m_tape_bytes m_euclid_count m_euclid_last_a m_euclid_last_b m_euclid_lastOfFirst_a m_euclid_lastOfFirst_b m_euclid_lastOfSecond_a m_euclid_lastOfSecond_b m_euclid_next_a m_euclid_next_b m_euclid_nextOfFirst_a m_euclid_nextOfFirst_b m_euclid_nextOfSecond_a m_euclid_nextOfSecond_b m_euclid_q_a m_euclid_q_b m_euclid_quotientA m_euclid_quotientB m_modulus_square_a m_modulus_square_b m_primes_count m_primes_primeA m_primes_primeB m_primes_found_a m_primes_found_b m_rings_foundA m_rings_foundB m_rings_all m_rings_mostOfOneRow m_letters_count m_letters_bytes m_three_a m_three_b m_four_a m_four_b m_spare_a m_spare_b m_marks R  y56.2.1 y56.2.2.1 y56.2.2.2 m_factors_count m_factors_threes m_factors_unit m_factors_primeA m_factors_primeB m_factors_norms m_factors_euclid_count m_factors_euclid_last_a m_factors_euclid_last_b m_factors_euclid_lastOfFirst_a m_factors_euclid_lastOfFirst_b m_factors_euclid_lastOfSecond_a m_factors_euclid_lastOfSecond_b m_factors_euclid_next_a m_factors_euclid_next_b m_factors_euclid_nextOfFirst_a m_factors_euclid_nextOfFirst_b m_factors_euclid_nextOfSecond_a m_factors_euclid_nextOfSecond_b m_factors_euclid_q_a m_factors_euclid_q_b m_factors_euclid_quotientA m_factors_euclid_quotientB m_factors_left_a m_factors_left_b m_factors_found_a m_factors_found_b m_factors_product_a m_factors_product_b m_one_a m_one_b y41.1 y41.2 m_out_a m_out_b v2 y56.1 _ _ _ X (lv_sub hl [0, 2] rfl) hf
    refine x_bipush 31 C dX10_classes_29 (-2 : Int32) kv_bipush_m2 rfl ?_
    obtain rfl := Option.some.inj hf
    exact R _ _ _ _ X dX10_classes_31
  refine x_iconst 17 C dX10_classes_16 (-1 : Int32) kv_iconst_m1 rfl ?_
  obtain rfl := Option.some.inj hf
  exact R _ _ _ _ X dX10_classes_17
set_option maxHeartbeats 4000000 in
set_option maxRecDepth 100000 in
theorem c_X11_classesNow (l : Launch) (D : va_G) (T : KT) (h : Nat → Nat)  (m_taped m_states : Int32) (m_ra m_rb : Int64) (m_threes m_primes m_ones m_unit : Int32) (m_allParts m_allNorms m_allClasses : Int64) (m_odd : Int32) (m_boxWide m_boxHigh m_boxStep : Int64) (m_partingMany : Int32) (m_qa m_qb m_la m_lb m_sa m_sb m_ta m_tb : Int64) (m_listed m_tells m_wanted m_found : Int32) (m_bits : Int64) (m_power2 m_rings m_ringA m_ringB m_seedNow : Int32) (m_tape m_has m_keptHas m_first m_second m_keptFirst m_keptSecond m_pa m_pb m_pNorm m_cubed m_isOpen m_signs m_often m_la0 m_lb0 : Nat → Int32) (x : Int32) (hf : f_X11_classesNow m_boxWide m_boxHigh = some x) : kx_MI l yX11_classesNow cX11_classesNow 1 (some .int) 0 0 D T [.ref (h 0)] (wM T h m_taped m_states m_ra m_rb m_threes m_primes m_ones m_unit m_allParts m_allNorms m_allClasses m_odd m_boxWide m_boxHigh m_boxStep m_partingMany m_qa m_qb m_la m_lb m_sa m_sb m_ta m_tb m_listed m_tells m_wanted m_found m_bits m_power2 m_rings m_ringA m_ringB m_seedNow m_tape m_has m_keptHas m_first m_second m_keptFirst m_keptSecond m_pa m_pb m_pNorm m_cubed m_isOpen m_signs m_often m_la0 m_lb0) (wM T h m_taped m_states m_ra m_rb m_threes m_primes m_ones m_unit m_allParts m_allNorms m_allClasses m_odd m_boxWide m_boxHigh m_boxStep m_partingMany m_qa m_qb m_la m_lb m_sa m_sb m_ta m_tb m_listed m_tells m_wanted m_found m_bits m_power2 m_rings m_ringA m_ringB m_seedNow m_tape m_has m_keptHas m_first m_second m_keptFirst m_keptSecond m_pa m_pb m_pNorm m_cubed m_isOpen m_signs m_often m_la0 m_lb0) x := by
  refine kx_ofMI RX11 rfl (plainFor_of_name (x := yX11_classesNow) kpn_X11) rfl ?_
  intro E A H ls _ C X R hl
  have hl : lv_has ls 1 [(0, .ref (h 0))] := hl
  rw [f_X11_classesNow] at hf
  refine x_aload_n 1 C dX11_classesNow_0 hl 0 rfl rfl ?_
  refine x_get 4 C dX11_classesNow_1 X kf_X11_253 0 rfl rfl rfl ?_
  refine x_aload_n 5 C dX11_classesNow_4 hl 0 rfl rfl ?_
  refine x_get 8 C dX11_classesNow_5 X kf_X11_250 0 rfl rfl rfl ?_
  refine x_lmul 9 C dX11_classesNow_8 rfl ?_
  refine x_l2i 10 C dX11_classesNow_9 rfl ?_
  obtain rfl := Option.some.inj hf
  exact R _ _ _ _ X dX11_classesNow_10
set_option maxHeartbeats 4000000 in
set_option maxRecDepth 100000 in
theorem c_X11_isGreat (l : Launch) (D : va_G) (T : KT) (h : Nat → Nat) (v1 v2 : Int32) (m_taped m_states : Int32) (m_ra m_rb : Int64) (m_threes m_primes m_ones m_unit : Int32) (m_allParts m_allNorms m_allClasses : Int64) (m_odd : Int32) (m_boxWide m_boxHigh m_boxStep : Int64) (m_partingMany : Int32) (m_qa m_qb m_la m_lb m_sa m_sb m_ta m_tb : Int64) (m_listed m_tells m_wanted m_found : Int32) (m_bits : Int64) (m_power2 m_rings m_ringA m_ringB m_seedNow : Int32) (m_tape m_has m_keptHas m_first m_second m_keptFirst m_keptSecond m_pa m_pb m_pNorm m_cubed m_isOpen m_signs m_often m_la0 m_lb0 : Nat → Int32) (x : Int32) (hf : f_X11_isGreat v1 v2 m_first m_second = some x) : kx_MI l yX11_isGreat cX11_isGreat 3 (some .boolean) 1 23 D T [.ref (h 0), .int v1, .int v2] (wM T h m_taped m_states m_ra m_rb m_threes m_primes m_ones m_unit m_allParts m_allNorms m_allClasses m_odd m_boxWide m_boxHigh m_boxStep m_partingMany m_qa m_qb m_la m_lb m_sa m_sb m_ta m_tb m_listed m_tells m_wanted m_found m_bits m_power2 m_rings m_ringA m_ringB m_seedNow m_tape m_has m_keptHas m_first m_second m_keptFirst m_keptSecond m_pa m_pb m_pNorm m_cubed m_isOpen m_signs m_often m_la0 m_lb0) (wM T h m_taped m_states m_ra m_rb m_threes m_primes m_ones m_unit m_allParts m_allNorms m_allClasses m_odd m_boxWide m_boxHigh m_boxStep m_partingMany m_qa m_qb m_la m_lb m_sa m_sb m_ta m_tb m_listed m_tells m_wanted m_found m_bits m_power2 m_rings m_ringA m_ringB m_seedNow m_tape m_has m_keptHas m_first m_second m_keptFirst m_keptSecond m_pa m_pb m_pNorm m_cubed m_isOpen m_signs m_often m_la0 m_lb0) x := by
  refine kx_ofMZ RX11 rfl (plainFor_of_name (x := yX11_isGreat) kpn_X11) rfl ?_
  intro E A H ls _ C X R hl
  have hl : lv_has ls 3 [(0, .ref (h 0)), (1, .int v1), (2, .int v2)] := hl
  rw [f_X11_isGreat] at hf
  refine x_aload_n 1 C dX11_isGreat_0 hl 0 rfl rfl ?_
  refine x_iload_n 2 C dX11_isGreat_1 hl 1 rfl rfl ?_
  obtain ⟨y2, hy2, hf⟩ := kx_bind hf
  refine x_callVi0 5 C dX11_isGreat_2 X hl kl_X11_178 (c_X11_isNothing E.2.1 D T h v1 m_taped m_states m_ra m_rb m_threes m_primes m_ones m_unit m_allParts m_allNorms m_allClasses m_odd m_boxWide m_boxHigh m_boxStep m_partingMany m_qa m_qb m_la m_lb m_sa m_sb m_ta m_tb m_listed m_tells m_wanted m_found m_bits m_power2 m_rings m_ringA m_ringB m_seedNow m_tape m_has m_keptHas m_first m_second m_keptFirst m_keptSecond m_pa m_pb m_pNorm m_cubed m_isOpen m_signs m_often m_la0 m_lb0 y2 hy2) rfl rfl [] rfl rfl rfl rfl rfl rfl (fun H locs X => ?_)
  refine x_if_ne 31 8 C dX11_isGreat_5 rfl rfl hf (fun hf => ?_) (fun hf => ?_)
  · refine x_iconst 32 C dX11_isGreat_31 (1 : Int32) kv_iconst_1 rfl ?_
    refine x_goto 36 C dX11_isGreat_32 rfl ?_
    obtain rfl := Option.some.inj hf
    exact R _ _ _ _ X kb_1 dX11_isGreat_36
  refine x_aload_n 9 C dX11_isGreat_8 hl 0 rfl rfl ?_
  refine x_get 12 C dX11_isGreat_9 X kf_X11_20 0 rfl rfl rfl ?_
  refine x_iload_n 13 C dX11_isGreat_12 hl 1 rfl rfl ?_
  refine x_iald 14 C dX11_isGreat_13 X 4 rfl hf rfl (fun hf => ?_)
  refine x_i2l 15 C dX11_isGreat_14 rfl ?_
  refine x_aload_n 16 C dX11_isGreat_15 hl 0 rfl rfl ?_
  refine x_get 19 C dX11_isGreat_16 X kf_X11_24 0 rfl rfl rfl ?_
  refine x_iload_n 20 C dX11_isGreat_19 hl 1 rfl rfl ?_
  refine x_iald 21 C dX11_isGreat_20 X 5 rfl hf rfl (fun hf => ?_)
  refine x_i2l 22 C dX11_isGreat_21 rfl ?_
  obtain ⟨y22, hy22, hf⟩ := kx_bind hf
  refine x_callSl 25 C dX11_isGreat_22 X hl kl_X11_112 (c_X11_norm E.2.1 D T  ((m_first (v1).toNatClampNeg)).toInt64 ((m_second (v1).toNatClampNeg)).toInt64  y22 hy22) [] rfl rfl rfl rfl rfl cb_7 rfl (fun H locs X => ?_)
  refine x_iload_n 26 C dX11_isGreat_25 hl 2 rfl rfl ?_
  refine x_i2l 27 C dX11_isGreat_26 rfl ?_
  refine x_lcmp_le 35 28 31 C dX11_isGreat_27 dX11_isGreat_28 rfl rfl rfl hf (fun hf => ?_) (fun hf => ?_)
  · refine x_iconst 36 C dX11_isGreat_35 (0 : Int32) kv_iconst_0 rfl ?_
    obtain rfl := Option.some.inj hf
    exact R _ _ _ _ X kb_0 dX11_isGreat_36
  refine x_iconst 32 C dX11_isGreat_31 (1 : Int32) kv_iconst_1 rfl ?_
  refine x_goto 36 C dX11_isGreat_32 rfl ?_
  obtain rfl := Option.some.inj hf
  exact R _ _ _ _ X kb_1 dX11_isGreat_36
set_option maxHeartbeats 4000000 in
set_option maxRecDepth 100000 in
theorem c_X11_comes (l : Launch) (D : va_G) (T : KT) (h : Nat → Nat) (v1 : Int32) (m_taped m_states : Int32) (m_ra m_rb : Int64) (m_threes m_primes m_ones m_unit : Int32) (m_allParts m_allNorms m_allClasses : Int64) (m_odd : Int32) (m_boxWide m_boxHigh m_boxStep : Int64) (m_partingMany : Int32) (m_qa m_qb m_la m_lb m_sa m_sb m_ta m_tb : Int64) (m_listed m_tells m_wanted m_found : Int32) (m_bits : Int64) (m_power2 m_rings m_ringA m_ringB m_seedNow : Int32) (m_tape m_has m_keptHas m_first m_second m_keptFirst m_keptSecond m_pa m_pb m_pNorm m_cubed m_isOpen m_signs m_often m_la0 m_lb0 : Nat → Int32) (x : Int64 × Int64) (hf : f_X11_comes v1 m_boxWide = some x) : kx_MV l yX11_comes cX11_comes 2 none 1 24 D T [.ref (h 0), .int v1] (wM T h m_taped m_states m_ra m_rb m_threes m_primes m_ones m_unit m_allParts m_allNorms m_allClasses m_odd m_boxWide m_boxHigh m_boxStep m_partingMany m_qa m_qb m_la m_lb m_sa m_sb m_ta m_tb m_listed m_tells m_wanted m_found m_bits m_power2 m_rings m_ringA m_ringB m_seedNow m_tape m_has m_keptHas m_first m_second m_keptFirst m_keptSecond m_pa m_pb m_pNorm m_cubed m_isOpen m_signs m_often m_la0 m_lb0) (wM T h m_taped m_states x.1 x.2 m_threes m_primes m_ones m_unit m_allParts m_allNorms m_allClasses m_odd m_boxWide m_boxHigh m_boxStep m_partingMany m_qa m_qb m_la m_lb m_sa m_sb m_ta m_tb m_listed m_tells m_wanted m_found m_bits m_power2 m_rings m_ringA m_ringB m_seedNow m_tape m_has m_keptHas m_first m_second m_keptFirst m_keptSecond m_pa m_pb m_pNorm m_cubed m_isOpen m_signs m_often m_la0 m_lb0) := by
  refine kx_ofMV RX11 rfl (plainFor_of_name (x := yX11_comes) kpn_X11) rfl ?_
  intro E A H ls _ C X R hl
  have hl : lv_has ls 2 [(0, .ref (h 0)), (1, .int v1)] := hl
  rw [f_X11_comes] at hf
  refine x_aload_n 1 C dX11_comes_0 hl 0 rfl rfl ?_
  refine x_iload_n 2 C dX11_comes_1 hl 1 rfl rfl ?_
  refine x_i2l 3 C dX11_comes_2 rfl ?_
  refine x_aload_n 4 C dX11_comes_3 hl 0 rfl rfl ?_
  refine x_get 7 C dX11_comes_4 X kf_X11_253 0 rfl rfl rfl ?_
  refine x_lrem 8 C dX11_comes_7 hf rfl (fun hf => ?_)
  refine x_iload_n 9 C dX11_comes_8 hl 1 rfl rfl ?_
  refine x_i2l 10 C dX11_comes_9 rfl ?_
  refine x_aload_n 11 C dX11_comes_10 hl 0 rfl rfl ?_
  refine x_get 14 C dX11_comes_11 X kf_X11_253 0 rfl rfl rfl ?_
  refine x_ldiv 15 C dX11_comes_14 hf rfl (fun hf => ?_)
  obtain ⟨y15, hy15, hf⟩ := kx_bind hf
  refine x_callVv0 18 C dX11_comes_15 X hl kl_X11_115 (c_X11_sets E.2.1 D T h ((v1).toInt64 - (v1).toInt64 / m_boxWide * m_boxWide) ((v1).toInt64 / m_boxWide) m_taped m_states m_ra m_rb m_threes m_primes m_ones m_unit m_allParts m_allNorms m_allClasses m_odd m_boxWide m_boxHigh m_boxStep m_partingMany m_qa m_qb m_la m_lb m_sa m_sb m_ta m_tb m_listed m_tells m_wanted m_found m_bits m_power2 m_rings m_ringA m_ringB m_seedNow m_tape m_has m_keptHas m_first m_second m_keptFirst m_keptSecond m_pa m_pb m_pNorm m_cubed m_isOpen m_signs m_often m_la0 m_lb0 y15 hy15) rfl rfl [] rfl rfl rfl rfl rfl rfl (fun H locs X => ?_)
  obtain rfl := Option.some.inj hf
  exact R _ _ _ _ X dX11_comes_18
set_option maxHeartbeats 4000000 in
set_option maxRecDepth 100000 in
theorem c_X11_cubes (l : Launch) (D : va_G) (T : KT) (h : Nat → Nat) (v1 : Int32) (m_taped m_states : Int32) (m_ra m_rb : Int64) (m_threes m_primes m_ones m_unit : Int32) (m_allParts m_allNorms m_allClasses : Int64) (m_odd : Int32) (m_boxWide m_boxHigh m_boxStep : Int64) (m_partingMany : Int32) (m_qa m_qb m_la m_lb m_sa m_sb m_ta m_tb : Int64) (m_listed m_tells m_wanted m_found : Int32) (m_bits : Int64) (m_power2 m_rings m_ringA m_ringB m_seedNow : Int32) (m_tape m_has m_keptHas m_first m_second m_keptFirst m_keptSecond m_pa m_pb m_pNorm m_cubed m_isOpen m_signs m_often m_la0 m_lb0 : Nat → Int32) (x : Int64 × Int64) (hf : f_X11_cubes v1 m_boxWide m_boxHigh m_boxStep = some x) : kx_MV l yX11_cubes cX11_cubes 6 none 4 104 D T [.ref (h 0), .int v1] (wM T h m_taped m_states m_ra m_rb m_threes m_primes m_ones m_unit m_allParts m_allNorms m_allClasses m_odd m_boxWide m_boxHigh m_boxStep m_partingMany m_qa m_qb m_la m_lb m_sa m_sb m_ta m_tb m_listed m_tells m_wanted m_found m_bits m_power2 m_rings m_ringA m_ringB m_seedNow m_tape m_has m_keptHas m_first m_second m_keptFirst m_keptSecond m_pa m_pb m_pNorm m_cubed m_isOpen m_signs m_often m_la0 m_lb0) (wM T h m_taped m_states x.1 x.2 m_threes m_primes m_ones m_unit m_allParts m_allNorms m_allClasses m_odd m_boxWide m_boxHigh m_boxStep m_partingMany m_qa m_qb m_la m_lb m_sa m_sb m_ta m_tb m_listed m_tells m_wanted m_found m_bits m_power2 m_rings m_ringA m_ringB m_seedNow m_tape m_has m_keptHas m_first m_second m_keptFirst m_keptSecond m_pa m_pb m_pNorm m_cubed m_isOpen m_signs m_often m_la0 m_lb0) := by
  refine kx_ofMV RX11 rfl (plainFor_of_name (x := yX11_cubes) kpn_X11) rfl ?_
  intro E A H ls _ C X R hl
  have hl : lv_has ls 6 [(0, .ref (h 0)), (1, .int v1)] := hl
  rw [f_X11_cubes] at hf
  refine x_aload_n 1 C dX11_cubes_0 hl 0 rfl rfl ?_
  refine x_iload_n 2 C dX11_cubes_1 hl 1 rfl rfl ?_
  obtain ⟨y2, hy2, hf⟩ := kx_bind hf
  refine x_callVv0 5 C dX11_cubes_2 X hl kl_X11_318 (c_X11_comes E.2.1 D T h v1 m_taped m_states m_ra m_rb m_threes m_primes m_ones m_unit m_allParts m_allNorms m_allClasses m_odd m_boxWide m_boxHigh m_boxStep m_partingMany m_qa m_qb m_la m_lb m_sa m_sb m_ta m_tb m_listed m_tells m_wanted m_found m_bits m_power2 m_rings m_ringA m_ringB m_seedNow m_tape m_has m_keptHas m_first m_second m_keptFirst m_keptSecond m_pa m_pb m_pNorm m_cubed m_isOpen m_signs m_often m_la0 m_lb0 y2 hy2) rfl rfl [] rfl rfl rfl rfl rfl rfl (fun H locs X => ?_)
  refine x_aload_n 6 C dX11_cubes_5 hl 0 rfl rfl ?_
  refine x_get 9 C dX11_cubes_6 X kf_X11_105 0 rfl rfl rfl ?_
  refine x_lstore_n 10 C dX11_cubes_9 [(2, .long y2.1), (0, .ref (h 0)), (1, .int v1)] hl rfl rfl rfl (fun ls hl => ?_)
  refine x_aload_n 11 C dX11_cubes_10 hl 1 rfl rfl ?_
  refine x_get 14 C dX11_cubes_11 X kf_X11_109 0 rfl rfl rfl ?_
  refine x_lstore 16 C dX11_cubes_14 [(4, .long y2.2), (2, .long y2.1), (0, .ref (h 0)), (1, .int v1)] hl rfl rfl rfl (fun ls hl => ?_)
  refine x_aload_n 17 C dX11_cubes_16 hl 2 rfl rfl ?_
  refine x_lload_n 18 C dX11_cubes_17 hl 1 rfl rfl ?_
  refine x_lload 20 C dX11_cubes_18 hl 0 rfl rfl ?_
  refine x_lload_n 21 C dX11_cubes_20 hl 1 rfl rfl ?_
  refine x_lload 23 C dX11_cubes_21 hl 0 rfl rfl ?_
  obtain ⟨y23, hy23, hf⟩ := kx_bind hf
  refine x_callVv0 26 C dX11_cubes_23 X hl kl_X11_262 (c_X11_timesIn E.2.1 D T h y2.1 y2.2 y2.1 y2.2 m_taped m_states y2.1 y2.2 m_threes m_primes m_ones m_unit m_allParts m_allNorms m_allClasses m_odd m_boxWide m_boxHigh m_boxStep m_partingMany m_qa m_qb m_la m_lb m_sa m_sb m_ta m_tb m_listed m_tells m_wanted m_found m_bits m_power2 m_rings m_ringA m_ringB m_seedNow m_tape m_has m_keptHas m_first m_second m_keptFirst m_keptSecond m_pa m_pb m_pNorm m_cubed m_isOpen m_signs m_often m_la0 m_lb0 y23 hy23) rfl rfl [] rfl rfl rfl rfl rfl rfl (fun H locs X => ?_)
  refine x_aload_n 27 C dX11_cubes_26 hl 2 rfl rfl ?_
  refine x_aload_n 28 C dX11_cubes_27 hl 2 rfl rfl ?_
  refine x_get 31 C dX11_cubes_28 X kf_X11_105 0 rfl rfl rfl ?_
  refine x_aload_n 32 C dX11_cubes_31 hl 2 rfl rfl ?_
  refine x_get 35 C dX11_cubes_32 X kf_X11_109 0 rfl rfl rfl ?_
  refine x_lload_n 36 C dX11_cubes_35 hl 1 rfl rfl ?_
  refine x_lload 38 C dX11_cubes_36 hl 0 rfl rfl ?_
  obtain ⟨y38, hy38, hf⟩ := kx_bind hf
  refine x_callVv0 41 C dX11_cubes_38 X hl kl_X11_262 (c_X11_timesIn E.2.1 D T h y23.1 y23.2 y2.1 y2.2 m_taped m_states y23.1 y23.2 m_threes m_primes m_ones m_unit m_allParts m_allNorms m_allClasses m_odd m_boxWide m_boxHigh m_boxStep m_partingMany m_qa m_qb m_la m_lb m_sa m_sb m_ta m_tb m_listed m_tells m_wanted m_found m_bits m_power2 m_rings m_ringA m_ringB m_seedNow m_tape m_has m_keptHas m_first m_second m_keptFirst m_keptSecond m_pa m_pb m_pNorm m_cubed m_isOpen m_signs m_often m_la0 m_lb0 y38 hy38) rfl rfl [] rfl rfl rfl rfl rfl rfl (fun H locs X => ?_)
  obtain rfl := Option.some.inj hf
  exact R _ _ _ _ X dX11_cubes_41
set_option maxHeartbeats 4000000 in
set_option maxRecDepth 100000 in
theorem c_X11_placeNow (l : Launch) (D : va_G) (T : KT) (h : Nat → Nat)  (m_taped m_states : Int32) (m_ra m_rb : Int64) (m_threes m_primes m_ones m_unit : Int32) (m_allParts m_allNorms m_allClasses : Int64) (m_odd : Int32) (m_boxWide m_boxHigh m_boxStep : Int64) (m_partingMany : Int32) (m_qa m_qb m_la m_lb m_sa m_sb m_ta m_tb : Int64) (m_listed m_tells m_wanted m_found : Int32) (m_bits : Int64) (m_power2 m_rings m_ringA m_ringB m_seedNow : Int32) (m_tape m_has m_keptHas m_first m_second m_keptFirst m_keptSecond m_pa m_pb m_pNorm m_cubed m_isOpen m_signs m_often m_la0 m_lb0 : Nat → Int32) (x : Int32) (hf : f_X11_placeNow m_ra m_rb m_boxWide = some x) : kx_MI l yX11_placeNow cX11_placeNow 1 (some .int) 0 0 D T [.ref (h 0)] (wM T h m_taped m_states m_ra m_rb m_threes m_primes m_ones m_unit m_allParts m_allNorms m_allClasses m_odd m_boxWide m_boxHigh m_boxStep m_partingMany m_qa m_qb m_la m_lb m_sa m_sb m_ta m_tb m_listed m_tells m_wanted m_found m_bits m_power2 m_rings m_ringA m_ringB m_seedNow m_tape m_has m_keptHas m_first m_second m_keptFirst m_keptSecond m_pa m_pb m_pNorm m_cubed m_isOpen m_signs m_often m_la0 m_lb0) (wM T h m_taped m_states m_ra m_rb m_threes m_primes m_ones m_unit m_allParts m_allNorms m_allClasses m_odd m_boxWide m_boxHigh m_boxStep m_partingMany m_qa m_qb m_la m_lb m_sa m_sb m_ta m_tb m_listed m_tells m_wanted m_found m_bits m_power2 m_rings m_ringA m_ringB m_seedNow m_tape m_has m_keptHas m_first m_second m_keptFirst m_keptSecond m_pa m_pb m_pNorm m_cubed m_isOpen m_signs m_often m_la0 m_lb0) x := by
  refine kx_ofMI RX11 rfl (plainFor_of_name (x := yX11_placeNow) kpn_X11) rfl ?_
  intro E A H ls _ C X R hl
  have hl : lv_has ls 1 [(0, .ref (h 0))] := hl
  rw [f_X11_placeNow] at hf
  refine x_aload_n 1 C dX11_placeNow_0 hl 0 rfl rfl ?_
  refine x_get 4 C dX11_placeNow_1 X kf_X11_253 0 rfl rfl rfl ?_
  refine x_aload_n 5 C dX11_placeNow_4 hl 0 rfl rfl ?_
  refine x_get 8 C dX11_placeNow_5 X kf_X11_109 0 rfl rfl rfl ?_
  refine x_lmul 9 C dX11_placeNow_8 rfl ?_
  refine x_aload_n 10 C dX11_placeNow_9 hl 0 rfl rfl ?_
  refine x_get 13 C dX11_placeNow_10 X kf_X11_105 0 rfl rfl rfl ?_
  refine x_ladd 14 C dX11_placeNow_13 rfl ?_
  refine x_l2i 15 C dX11_placeNow_14 rfl ?_
  obtain rfl := Option.some.inj hf
  exact R _ _ _ _ X dX11_placeNow_15
set_option maxHeartbeats 4000000 in
set_option maxRecDepth 100000 in
theorem w_X11_laysCubes_35 {E : KE} {A : Nat → Prop} {D : va_G} {T : KT} (h : Nat → Nat) (C : kx_C E cX11_laysCubes 6 none RX11 5 129 D T) (N : Nat) (x : Int64 × Int64 × Int64 × Int64 × Int64 × (Nat → Int32)) (m_taped m_states m_threes m_primes m_ones m_unit : Int32) (m_allParts m_allNorms m_allClasses : Int64) (m_odd m_partingMany : Int32) (m_qa m_qb m_la m_lb m_sa m_sb m_ta m_tb : Int64) (m_listed m_tells m_wanted m_found : Int32) (m_bits : Int64) (m_power2 m_rings m_ringA m_ringB m_seedNow : Int32) (m_tape m_has m_keptHas m_first m_second m_keptFirst m_keptSecond m_pa m_pb m_pNorm m_isOpen m_signs m_often m_la0 m_lb0 : Nat → Int32) (R : kx_RV E cX11_laysCubes D A (wM T h m_taped m_states x.1 x.2.1 m_threes m_primes m_ones m_unit m_allParts m_allNorms m_allClasses m_odd x.2.2.1 x.2.2.2.1 x.2.2.2.2.1 m_partingMany m_qa m_qb m_la m_lb m_sa m_sb m_ta m_tb m_listed m_tells m_wanted m_found m_bits m_power2 m_rings m_ringA m_ringB m_seedNow m_tape m_has m_keptHas m_first m_second m_keptFirst m_keptSecond m_pa m_pb m_pNorm x.2.2.2.2.2 m_isOpen m_signs m_often m_la0 m_lb0)) : ∀ (k : Nat), ∀ (m_ra m_rb m_boxWide m_boxHigh m_boxStep : Int64) (m_cubed : Nat → Int32) (v5 : Int32) (H : Heap) (locs : List Loc) (ls : Array Slot), kx_H E D A H locs (wM T h m_taped m_states m_ra m_rb m_threes m_primes m_ones m_unit m_allParts m_allNorms m_allClasses m_odd m_boxWide m_boxHigh m_boxStep m_partingMany m_qa m_qb m_la m_lb m_sa m_sb m_ta m_tb m_listed m_tells m_wanted m_found m_bits m_power2 m_rings m_ringA m_ringB m_seedNow m_tape m_has m_keptHas m_first m_second m_keptFirst m_keptSecond m_pa m_pb m_pNorm m_cubed m_isOpen m_signs m_often m_la0 m_lb0) → lv_has ls 6 [(0, .ref (h 0)), (5, .int v5)] → f_X11_laysCubes_35 N k v5 m_ra m_rb m_boxWide m_boxHigh m_boxStep m_cubed = some x → kx_W E H locs 35 ls [] := by
  intro k
  induction k with
  | zero =>
    intro m_ra m_rb m_boxWide m_boxHigh m_boxStep m_cubed v5 H locs ls X hl hf
    cases (show (none : Option (Int64 × Int64 × Int64 × Int64 × Int64 × (Nat → Int32))) = some x from hf)
  | succ k ih =>
    intro m_ra m_rb m_boxWide m_boxHigh m_boxStep m_cubed v5 H locs ls X hl hf
    rw [f_X11_laysCubes_35] at hf
    refine x_iload 37 C dX11_laysCubes_35 hl 1 rfl rfl ?_
    refine x_aload_n 38 C dX11_laysCubes_37 hl 0 rfl rfl ?_
    obtain ⟨y38, hy38, hf⟩ := kx_bind hf
    refine x_callVi0 41 C dX11_laysCubes_38 X hl kl_X11_321 (c_X11_classesNow E.2.1 D T h  m_taped m_states m_ra m_rb m_threes m_primes m_ones m_unit m_allParts m_allNorms m_allClasses m_odd m_boxWide m_boxHigh m_boxStep m_partingMany m_qa m_qb m_la m_lb m_sa m_sb m_ta m_tb m_listed m_tells m_wanted m_found m_bits m_power2 m_rings m_ringA m_ringB m_seedNow m_tape m_has m_keptHas m_first m_second m_keptFirst m_keptSecond m_pa m_pb m_pNorm m_cubed m_isOpen m_signs m_often m_la0 m_lb0 y38 hy38) rfl rfl [.int v5] rfl rfl rfl rfl rfl rfl (fun H locs X => ?_)
    refine x_icmp_ge 76 44 C dX11_laysCubes_41 rfl rfl hf (fun hf => ?_) (fun hf => ?_)
    · obtain rfl := Option.some.inj hf
      exact R _ _ _ _ X dX11_laysCubes_76
    refine x_aload_n 45 C dX11_laysCubes_44 hl 0 rfl rfl ?_
    refine x_iload 47 C dX11_laysCubes_45 hl 1 rfl rfl ?_
    obtain ⟨y47, hy47, hf⟩ := kx_bind hf
    refine x_callVv0 50 C dX11_laysCubes_47 X hl kl_X11_325 (c_X11_cubes E.2.1 D T h v5 m_taped m_states m_ra m_rb m_threes m_primes m_ones m_unit m_allParts m_allNorms m_allClasses m_odd m_boxWide m_boxHigh m_boxStep m_partingMany m_qa m_qb m_la m_lb m_sa m_sb m_ta m_tb m_listed m_tells m_wanted m_found m_bits m_power2 m_rings m_ringA m_ringB m_seedNow m_tape m_has m_keptHas m_first m_second m_keptFirst m_keptSecond m_pa m_pb m_pNorm m_cubed m_isOpen m_signs m_often m_la0 m_lb0 y47 hy47) rfl rfl [] rfl rfl rfl rfl rfl rfl (fun H locs X => ?_)
    refine x_aload_n 51 C dX11_laysCubes_50 hl 0 rfl rfl ?_
    refine x_get 54 C dX11_laysCubes_51 X kf_X11_42 0 rfl rfl rfl ?_
    refine x_aload_n 55 C dX11_laysCubes_54 hl 0 rfl rfl ?_
    obtain ⟨y55, hy55, hf⟩ := kx_bind hf
    refine x_callVi0 58 C dX11_laysCubes_55 X hl kl_X11_328 (c_X11_placeNow E.2.1 D T h  m_taped m_states y47.1 y47.2 m_threes m_primes m_ones m_unit m_allParts m_allNorms m_allClasses m_odd m_boxWide m_boxHigh m_boxStep m_partingMany m_qa m_qb m_la m_lb m_sa m_sb m_ta m_tb m_listed m_tells m_wanted m_found m_bits m_power2 m_rings m_ringA m_ringB m_seedNow m_tape m_has m_keptHas m_first m_second m_keptFirst m_keptSecond m_pa m_pb m_pNorm m_cubed m_isOpen m_signs m_often m_la0 m_lb0 y55 hy55) rfl rfl [.ref (h 11)] rfl rfl rfl rfl rfl rfl (fun H locs X => ?_)
    refine x_aload_n 59 C dX11_laysCubes_58 hl 0 rfl rfl ?_
    refine x_get 62 C dX11_laysCubes_59 X kf_X11_42 0 rfl rfl rfl ?_
    refine x_aload_n 63 C dX11_laysCubes_62 hl 0 rfl rfl ?_
    obtain ⟨y63, hy63, hf⟩ := kx_bind hf
    refine x_callVi0 66 C dX11_laysCubes_63 X hl kl_X11_328 (c_X11_placeNow E.2.1 D T h  m_taped m_states y47.1 y47.2 m_threes m_primes m_ones m_unit m_allParts m_allNorms m_allClasses m_odd m_boxWide m_boxHigh m_boxStep m_partingMany m_qa m_qb m_la m_lb m_sa m_sb m_ta m_tb m_listed m_tells m_wanted m_found m_bits m_power2 m_rings m_ringA m_ringB m_seedNow m_tape m_has m_keptHas m_first m_second m_keptFirst m_keptSecond m_pa m_pb m_pNorm m_cubed m_isOpen m_signs m_often m_la0 m_lb0 y63 hy63) rfl rfl [.ref (h 11), .int y55, .ref (h 11)] rfl rfl rfl rfl rfl rfl (fun H locs X => ?_)
    refine x_iald 67 C dX11_laysCubes_66 X 11 rfl hf rfl (fun hf => ?_)
    refine x_iconst 68 C dX11_laysCubes_67 (1 : Int32) kv_iconst_1 rfl ?_
    refine x_iadd 69 C dX11_laysCubes_68 rfl ?_
    refine x_iast 70 C dX11_laysCubes_69 X 11 rfl (wM T h m_taped m_states y47.1 y47.2 m_threes m_primes m_ones m_unit m_allParts m_allNorms m_allClasses m_odd m_boxWide m_boxHigh m_boxStep m_partingMany m_qa m_qb m_la m_lb m_sa m_sb m_ta m_tb m_listed m_tells m_wanted m_found m_bits m_power2 m_rings m_ringA m_ringB m_seedNow m_tape m_has m_keptHas m_first m_second m_keptFirst m_keptSecond m_pa m_pb m_pNorm (upd m_cubed (y55).toNatClampNeg ((m_cubed (y63).toNatClampNeg) + (1 : Int32))) m_isOpen m_signs m_often m_la0 m_lb0) rfl hf rfl (fun H locs X hf => ?_)
    refine x_iinc 73 C dX11_laysCubes_70 (1 : Int32) kv_iconst_1 [(5, .int (v5 + (1 : Int32))), (0, .ref (h 0))] hl 1 rfl rfl rfl rfl (fun ls hl => ?_)
    refine x_goto 35 C dX11_laysCubes_73 rfl ?_
    exact ih y47.1 y47.2 m_boxWide m_boxHigh m_boxStep (upd m_cubed (y55).toNatClampNeg ((m_cubed (y63).toNatClampNeg) + (1 : Int32))) (v5 + (1 : Int32)) _ _ _ X (lv_sub hl [1, 0] rfl) hf
set_option maxHeartbeats 4000000 in
set_option maxRecDepth 100000 in
theorem w_X11_laysCubes_9 {E : KE} {A : Nat → Prop} {D : va_G} {T : KT} (h : Nat → Nat) (C : kx_C E cX11_laysCubes 6 none RX11 5 129 D T) (N : Nat) (x : Int64 × Int64 × Int64 × Int64 × Int64 × (Nat → Int32)) (m_taped m_states m_threes m_primes m_ones m_unit : Int32) (m_allParts m_allNorms m_allClasses : Int64) (m_odd m_partingMany : Int32) (m_qa m_qb m_la m_lb m_sa m_sb m_ta m_tb : Int64) (m_listed m_tells m_wanted m_found : Int32) (m_bits : Int64) (m_power2 m_rings m_ringA m_ringB m_seedNow : Int32) (m_tape m_has m_keptHas m_first m_second m_keptFirst m_keptSecond m_pa m_pb m_pNorm m_isOpen m_signs m_often m_la0 m_lb0 : Nat → Int32) (R : kx_RV E cX11_laysCubes D A (wM T h m_taped m_states x.1 x.2.1 m_threes m_primes m_ones m_unit m_allParts m_allNorms m_allClasses m_odd x.2.2.1 x.2.2.2.1 x.2.2.2.2.1 m_partingMany m_qa m_qb m_la m_lb m_sa m_sb m_ta m_tb m_listed m_tells m_wanted m_found m_bits m_power2 m_rings m_ringA m_ringB m_seedNow m_tape m_has m_keptHas m_first m_second m_keptFirst m_keptSecond m_pa m_pb m_pNorm x.2.2.2.2.2 m_isOpen m_signs m_often m_la0 m_lb0)) : ∀ (k : Nat), ∀ (m_ra m_rb m_boxWide m_boxHigh m_boxStep : Int64) (m_cubed : Nat → Int32) (v5 : Int32) (H : Heap) (locs : List Loc) (ls : Array Slot), kx_H E D A H locs (wM T h m_taped m_states m_ra m_rb m_threes m_primes m_ones m_unit m_allParts m_allNorms m_allClasses m_odd m_boxWide m_boxHigh m_boxStep m_partingMany m_qa m_qb m_la m_lb m_sa m_sb m_ta m_tb m_listed m_tells m_wanted m_found m_bits m_power2 m_rings m_ringA m_ringB m_seedNow m_tape m_has m_keptHas m_first m_second m_keptFirst m_keptSecond m_pa m_pb m_pNorm m_cubed m_isOpen m_signs m_often m_la0 m_lb0) → lv_has ls 6 [(0, .ref (h 0)), (5, .int v5)] → f_X11_laysCubes_9 N k v5 m_ra m_rb m_boxWide m_boxHigh m_boxStep m_cubed = some x → kx_W E H locs 9 ls [] := by
  intro k
  induction k with
  | zero =>
    intro m_ra m_rb m_boxWide m_boxHigh m_boxStep m_cubed v5 H locs ls X hl hf
    cases (show (none : Option (Int64 × Int64 × Int64 × Int64 × Int64 × (Nat → Int32))) = some x from hf)
  | succ k ih =>
    intro m_ra m_rb m_boxWide m_boxHigh m_boxStep m_cubed v5 H locs ls X hl hf
    rw [f_X11_laysCubes_9] at hf
    refine x_iload 11 C dX11_laysCubes_9 hl 1 rfl rfl ?_
    refine x_aload_n 12 C dX11_laysCubes_11 hl 0 rfl rfl ?_
    obtain ⟨y12, hy12, hf⟩ := kx_bind hf
    refine x_callVi0 15 C dX11_laysCubes_12 X hl kl_X11_321 (c_X11_classesNow E.2.1 D T h  m_taped m_states m_ra m_rb m_threes m_primes m_ones m_unit m_allParts m_allNorms m_allClasses m_odd m_boxWide m_boxHigh m_boxStep m_partingMany m_qa m_qb m_la m_lb m_sa m_sb m_ta m_tb m_listed m_tells m_wanted m_found m_bits m_power2 m_rings m_ringA m_ringB m_seedNow m_tape m_has m_keptHas m_first m_second m_keptFirst m_keptSecond m_pa m_pb m_pNorm m_cubed m_isOpen m_signs m_often m_la0 m_lb0 y12 hy12) rfl rfl [.int v5] rfl rfl rfl rfl rfl rfl (fun H locs X => ?_)
    refine x_icmp_ge 32 18 C dX11_laysCubes_15 rfl rfl hf (fun hf => ?_) (fun hf => ?_)
    · refine x_iconst 33 C dX11_laysCubes_32 (0 : Int32) kv_iconst_0 rfl ?_
      refine x_istore 35 C dX11_laysCubes_33 [(5, .int (0 : Int32)), (0, .ref (h 0))] hl rfl rfl rfl (fun ls hl => ?_)
      exact w_X11_laysCubes_35 h C N x m_taped m_states m_threes m_primes m_ones m_unit m_allParts m_allNorms m_allClasses m_odd m_partingMany m_qa m_qb m_la m_lb m_sa m_sb m_ta m_tb m_listed m_tells m_wanted m_found m_bits m_power2 m_rings m_ringA m_ringB m_seedNow m_tape m_has m_keptHas m_first m_second m_keptFirst m_keptSecond m_pa m_pb m_pNorm m_isOpen m_signs m_often m_la0 m_lb0 R  N m_ra m_rb m_boxWide m_boxHigh m_boxStep m_cubed (0 : Int32) _ _ _ X (lv_sub hl [1, 0] rfl) hf
    refine x_aload_n 19 C dX11_laysCubes_18 hl 0 rfl rfl ?_
    refine x_get 22 C dX11_laysCubes_19 X kf_X11_42 0 rfl rfl rfl ?_
    refine x_iload 24 C dX11_laysCubes_22 hl 1 rfl rfl ?_
    refine x_iconst 25 C dX11_laysCubes_24 (0 : Int32) kv_iconst_0 rfl ?_
    refine x_iast 26 C dX11_laysCubes_25 X 11 rfl (wM T h m_taped m_states m_ra m_rb m_threes m_primes m_ones m_unit m_allParts m_allNorms m_allClasses m_odd m_boxWide m_boxHigh m_boxStep m_partingMany m_qa m_qb m_la m_lb m_sa m_sb m_ta m_tb m_listed m_tells m_wanted m_found m_bits m_power2 m_rings m_ringA m_ringB m_seedNow m_tape m_has m_keptHas m_first m_second m_keptFirst m_keptSecond m_pa m_pb m_pNorm (upd m_cubed (v5).toNatClampNeg (0 : Int32)) m_isOpen m_signs m_often m_la0 m_lb0) rfl hf rfl (fun H locs X hf => ?_)
    refine x_iinc 29 C dX11_laysCubes_26 (1 : Int32) kv_iconst_1 [(5, .int (v5 + (1 : Int32))), (0, .ref (h 0))] hl 1 rfl rfl rfl rfl (fun ls hl => ?_)
    refine x_goto 9 C dX11_laysCubes_29 rfl ?_
    exact ih m_ra m_rb m_boxWide m_boxHigh m_boxStep (upd m_cubed (v5).toNatClampNeg (0 : Int32)) (v5 + (1 : Int32)) _ _ _ X (lv_sub hl [1, 0] rfl) hf
set_option maxHeartbeats 4000000 in
set_option maxRecDepth 100000 in
theorem c_X11_laysCubes (l : Launch) (D : va_G) (T : KT) (h : Nat → Nat) (N : Nat) (v1 v3 : Int64) (m_taped m_states : Int32) (m_ra m_rb : Int64) (m_threes m_primes m_ones m_unit : Int32) (m_allParts m_allNorms m_allClasses : Int64) (m_odd : Int32) (m_boxWide m_boxHigh m_boxStep : Int64) (m_partingMany : Int32) (m_qa m_qb m_la m_lb m_sa m_sb m_ta m_tb : Int64) (m_listed m_tells m_wanted m_found : Int32) (m_bits : Int64) (m_power2 m_rings m_ringA m_ringB m_seedNow : Int32) (m_tape m_has m_keptHas m_first m_second m_keptFirst m_keptSecond m_pa m_pb m_pNorm m_cubed m_isOpen m_signs m_often m_la0 m_lb0 : Nat → Int32) (x : Int64 × Int64 × Int64 × Int64 × Int64 × (Nat → Int32)) (hf : f_X11_laysCubes N v1 v3 m_ra m_rb m_cubed = some x) : kx_MV l yX11_laysCubes cX11_laysCubes 6 none 5 129 D T [.ref (h 0), .long v1, .long v3] (wM T h m_taped m_states m_ra m_rb m_threes m_primes m_ones m_unit m_allParts m_allNorms m_allClasses m_odd m_boxWide m_boxHigh m_boxStep m_partingMany m_qa m_qb m_la m_lb m_sa m_sb m_ta m_tb m_listed m_tells m_wanted m_found m_bits m_power2 m_rings m_ringA m_ringB m_seedNow m_tape m_has m_keptHas m_first m_second m_keptFirst m_keptSecond m_pa m_pb m_pNorm m_cubed m_isOpen m_signs m_often m_la0 m_lb0) (wM T h m_taped m_states x.1 x.2.1 m_threes m_primes m_ones m_unit m_allParts m_allNorms m_allClasses m_odd x.2.2.1 x.2.2.2.1 x.2.2.2.2.1 m_partingMany m_qa m_qb m_la m_lb m_sa m_sb m_ta m_tb m_listed m_tells m_wanted m_found m_bits m_power2 m_rings m_ringA m_ringB m_seedNow m_tape m_has m_keptHas m_first m_second m_keptFirst m_keptSecond m_pa m_pb m_pNorm x.2.2.2.2.2 m_isOpen m_signs m_often m_la0 m_lb0) := by
  refine kx_ofMV RX11 rfl (plainFor_of_name (x := yX11_laysCubes) kpn_X11) rfl ?_
  intro E A H ls _ C X R hl
  have hl : lv_has ls 6 [(0, .ref (h 0)), (1, .long v1), (3, .long v3)] := hl
  rw [f_X11_laysCubes] at hf
  refine x_aload_n 1 C dX11_laysCubes_0 hl 0 rfl rfl ?_
  refine x_lload_n 2 C dX11_laysCubes_1 hl 1 rfl rfl ?_
  refine x_lload_n 3 C dX11_laysCubes_2 hl 2 rfl rfl ?_
  obtain ⟨y3, hy3, hf⟩ := kx_bind hf
  refine x_callVv0 6 C dX11_laysCubes_3 X hl kl_X11_273 (c_X11_laysBox E.2.1 D T h N v1 v3 m_taped m_states m_ra m_rb m_threes m_primes m_ones m_unit m_allParts m_allNorms m_allClasses m_odd m_boxWide m_boxHigh m_boxStep m_partingMany m_qa m_qb m_la m_lb m_sa m_sb m_ta m_tb m_listed m_tells m_wanted m_found m_bits m_power2 m_rings m_ringA m_ringB m_seedNow m_tape m_has m_keptHas m_first m_second m_keptFirst m_keptSecond m_pa m_pb m_pNorm m_cubed m_isOpen m_signs m_often m_la0 m_lb0 y3 hy3) rfl rfl [] rfl rfl rfl rfl rfl rfl (fun H locs X => ?_)
  refine x_iconst 7 C dX11_laysCubes_6 (0 : Int32) kv_iconst_0 rfl ?_
  refine x_istore 9 C dX11_laysCubes_7 [(5, .int (0 : Int32)), (0, .ref (h 0)), (1, .long v1), (3, .long v3)] hl rfl rfl rfl (fun ls hl => ?_)
  exact w_X11_laysCubes_9 h C N x m_taped m_states m_threes m_primes m_ones m_unit m_allParts m_allNorms m_allClasses m_odd m_partingMany m_qa m_qb m_la m_lb m_sa m_sb m_ta m_tb m_listed m_tells m_wanted m_found m_bits m_power2 m_rings m_ringA m_ringB m_seedNow m_tape m_has m_keptHas m_first m_second m_keptFirst m_keptSecond m_pa m_pb m_pNorm m_isOpen m_signs m_often m_la0 m_lb0 R  N m_ra m_rb y3.1 y3.2.1 y3.2.2 m_cubed (0 : Int32) _ _ _ X (lv_sub hl [1, 0] rfl) hf
set_option maxHeartbeats 4000000 in
set_option maxRecDepth 100000 in
theorem w_X11_laysOpen_3 {E : KE} {A : Nat → Prop} {D : va_G} {T : KT} (h : Nat → Nat) (C : kx_C E cX11_laysOpen 6 none RX11 6 174 D T) (N : Nat) (x : Int64 × Int64 × (Nat → Int32)) (m_taped m_states m_threes m_primes m_ones m_unit : Int32) (m_allParts m_allNorms m_allClasses : Int64) (m_odd : Int32) (m_boxWide m_boxHigh m_boxStep : Int64) (m_partingMany : Int32) (m_qa m_qb m_la m_lb m_sa m_sb m_ta m_tb : Int64) (m_listed m_tells m_wanted m_found : Int32) (m_bits : Int64) (m_power2 m_rings m_ringA m_ringB m_seedNow : Int32) (m_tape m_has m_keptHas m_first m_second m_keptFirst m_keptSecond m_pa m_pb m_pNorm m_cubed m_signs m_often m_la0 m_lb0 : Nat → Int32) (R : kx_RV E cX11_laysOpen D A (wM T h m_taped m_states x.1 x.2.1 m_threes m_primes m_ones m_unit m_allParts m_allNorms m_allClasses m_odd m_boxWide m_boxHigh m_boxStep m_partingMany m_qa m_qb m_la m_lb m_sa m_sb m_ta m_tb m_listed m_tells m_wanted m_found m_bits m_power2 m_rings m_ringA m_ringB m_seedNow m_tape m_has m_keptHas m_first m_second m_keptFirst m_keptSecond m_pa m_pb m_pNorm m_cubed x.2.2 m_signs m_often m_la0 m_lb0)) : ∀ (k : Nat), ∀ (m_ra m_rb : Int64) (m_isOpen : Nat → Int32) (v1 v3 : Int64) (v5 : Int32) (H : Heap) (locs : List Loc) (ls : Array Slot), kx_H E D A H locs (wM T h m_taped m_states m_ra m_rb m_threes m_primes m_ones m_unit m_allParts m_allNorms m_allClasses m_odd m_boxWide m_boxHigh m_boxStep m_partingMany m_qa m_qb m_la m_lb m_sa m_sb m_ta m_tb m_listed m_tells m_wanted m_found m_bits m_power2 m_rings m_ringA m_ringB m_seedNow m_tape m_has m_keptHas m_first m_second m_keptFirst m_keptSecond m_pa m_pb m_pNorm m_cubed m_isOpen m_signs m_often m_la0 m_lb0) → lv_has ls 6 [(0, .ref (h 0)), (1, .long v1), (3, .long v3), (5, .int v5)] → f_X11_laysOpen_3 N k v1 v3 v5 m_ra m_rb m_boxWide m_boxHigh m_isOpen = some x → kx_W E H locs 3 ls [] := by
  intro k
  induction k with
  | zero =>
    intro m_ra m_rb m_isOpen v1 v3 v5 H locs ls X hl hf
    cases (show (none : Option (Int64 × Int64 × (Nat → Int32))) = some x from hf)
  | succ k ih =>
    intro m_ra m_rb m_isOpen v1 v3 v5 H locs ls X hl hf
    rw [f_X11_laysOpen_3] at hf
    refine x_iload 5 C dX11_laysOpen_3 hl 3 rfl rfl ?_
    refine x_aload_n 6 C dX11_laysOpen_5 hl 0 rfl rfl ?_
    obtain ⟨y6, hy6, hf⟩ := kx_bind hf
    refine x_callVi0 9 C dX11_laysOpen_6 X hl kl_X11_321 (c_X11_classesNow E.2.1 D T h  m_taped m_states m_ra m_rb m_threes m_primes m_ones m_unit m_allParts m_allNorms m_allClasses m_odd m_boxWide m_boxHigh m_boxStep m_partingMany m_qa m_qb m_la m_lb m_sa m_sb m_ta m_tb m_listed m_tells m_wanted m_found m_bits m_power2 m_rings m_ringA m_ringB m_seedNow m_tape m_has m_keptHas m_first m_second m_keptFirst m_keptSecond m_pa m_pb m_pNorm m_cubed m_isOpen m_signs m_often m_la0 m_lb0 y6 hy6) rfl rfl [.int v5] rfl rfl rfl rfl rfl rfl (fun H locs X => ?_)
    refine x_icmp_ge 45 12 C dX11_laysOpen_9 rfl rfl hf (fun hf => ?_) (fun hf => ?_)
    · obtain rfl := Option.some.inj hf
      exact R _ _ _ _ X dX11_laysOpen_45
    refine x_aload_n 13 C dX11_laysOpen_12 hl 0 rfl rfl ?_
    refine x_iload 15 C dX11_laysOpen_13 hl 3 rfl rfl ?_
    obtain ⟨y15, hy15, hf⟩ := kx_bind hf
    refine x_callVv0 18 C dX11_laysOpen_15 X hl kl_X11_318 (c_X11_comes E.2.1 D T h v5 m_taped m_states m_ra m_rb m_threes m_primes m_ones m_unit m_allParts m_allNorms m_allClasses m_odd m_boxWide m_boxHigh m_boxStep m_partingMany m_qa m_qb m_la m_lb m_sa m_sb m_ta m_tb m_listed m_tells m_wanted m_found m_bits m_power2 m_rings m_ringA m_ringB m_seedNow m_tape m_has m_keptHas m_first m_second m_keptFirst m_keptSecond m_pa m_pb m_pNorm m_cubed m_isOpen m_signs m_often m_la0 m_lb0 y15 hy15) rfl rfl [] rfl rfl rfl rfl rfl rfl (fun H locs X => ?_)
    refine x_aload_n 19 C dX11_laysOpen_18 hl 0 rfl rfl ?_
    refine x_get 22 C dX11_laysOpen_19 X kf_X11_45 0 rfl rfl rfl ?_
    refine x_iload 24 C dX11_laysOpen_22 hl 3 rfl rfl ?_
    refine x_aload_n 25 C dX11_laysOpen_24 hl 0 rfl rfl ?_
    refine x_aload_n 26 C dX11_laysOpen_25 hl 0 rfl rfl ?_
    refine x_get 29 C dX11_laysOpen_26 X kf_X11_105 0 rfl rfl rfl ?_
    refine x_aload_n 30 C dX11_laysOpen_29 hl 0 rfl rfl ?_
    refine x_get 33 C dX11_laysOpen_30 X kf_X11_109 0 rfl rfl rfl ?_
    refine x_lload_n 34 C dX11_laysOpen_33 hl 1 rfl rfl ?_
    refine x_lload_n 35 C dX11_laysOpen_34 hl 2 rfl rfl ?_
    obtain ⟨y35, hy35, hf⟩ := kx_bind hf
    refine x_callVi0 38 C dX11_laysOpen_35 X hl kl_X11_195 (c_X11_arePrimeTo E.2.1 D T h N y15.1 y15.2 v1 v3 m_taped m_states y15.1 y15.2 m_threes m_primes m_ones m_unit m_allParts m_allNorms m_allClasses m_odd m_boxWide m_boxHigh m_boxStep m_partingMany m_qa m_qb m_la m_lb m_sa m_sb m_ta m_tb m_listed m_tells m_wanted m_found m_bits m_power2 m_rings m_ringA m_ringB m_seedNow m_tape m_has m_keptHas m_first m_second m_keptFirst m_keptSecond m_pa m_pb m_pNorm m_cubed m_isOpen m_signs m_often m_la0 m_lb0 y35 hy35) rfl rfl [.int v5, .ref (h 12)] rfl rfl rfl rfl rfl rfl (fun H locs X => ?_)
    refine x_zast 39 C dX11_laysOpen_38 X 12 rfl (wM T h m_taped m_states y35.2.1 y35.2.2 m_threes m_primes m_ones m_unit m_allParts m_allNorms m_allClasses m_odd m_boxWide m_boxHigh m_boxStep m_partingMany m_qa m_qb m_la m_lb m_sa m_sb m_ta m_tb m_listed m_tells m_wanted m_found m_bits m_power2 m_rings m_ringA m_ringB m_seedNow m_tape m_has m_keptHas m_first m_second m_keptFirst m_keptSecond m_pa m_pb m_pNorm m_cubed (upd m_isOpen (v5).toNatClampNeg (y35.1 &&& 1)) m_signs m_often m_la0 m_lb0) rfl hf rfl (fun H locs X hf => ?_)
    refine x_iinc 42 C dX11_laysOpen_39 (1 : Int32) kv_iconst_1 [(5, .int (v5 + (1 : Int32))), (0, .ref (h 0)), (1, .long v1), (3, .long v3)] hl 3 rfl rfl rfl rfl (fun ls hl => ?_)
    refine x_goto 3 C dX11_laysOpen_42 rfl ?_
    exact ih y35.2.1 y35.2.2 (upd m_isOpen (v5).toNatClampNeg (y35.1 &&& 1)) v1 v3 (v5 + (1 : Int32)) _ _ _ X (lv_sub hl [1, 2, 3, 0] rfl) hf
set_option maxHeartbeats 4000000 in
set_option maxRecDepth 100000 in
theorem c_X11_laysOpen (l : Launch) (D : va_G) (T : KT) (h : Nat → Nat) (N : Nat) (v1 v3 : Int64) (m_taped m_states : Int32) (m_ra m_rb : Int64) (m_threes m_primes m_ones m_unit : Int32) (m_allParts m_allNorms m_allClasses : Int64) (m_odd : Int32) (m_boxWide m_boxHigh m_boxStep : Int64) (m_partingMany : Int32) (m_qa m_qb m_la m_lb m_sa m_sb m_ta m_tb : Int64) (m_listed m_tells m_wanted m_found : Int32) (m_bits : Int64) (m_power2 m_rings m_ringA m_ringB m_seedNow : Int32) (m_tape m_has m_keptHas m_first m_second m_keptFirst m_keptSecond m_pa m_pb m_pNorm m_cubed m_isOpen m_signs m_often m_la0 m_lb0 : Nat → Int32) (x : Int64 × Int64 × (Nat → Int32)) (hf : f_X11_laysOpen N v1 v3 m_ra m_rb m_boxWide m_boxHigh m_isOpen = some x) : kx_MV l yX11_laysOpen cX11_laysOpen 6 none 6 174 D T [.ref (h 0), .long v1, .long v3] (wM T h m_taped m_states m_ra m_rb m_threes m_primes m_ones m_unit m_allParts m_allNorms m_allClasses m_odd m_boxWide m_boxHigh m_boxStep m_partingMany m_qa m_qb m_la m_lb m_sa m_sb m_ta m_tb m_listed m_tells m_wanted m_found m_bits m_power2 m_rings m_ringA m_ringB m_seedNow m_tape m_has m_keptHas m_first m_second m_keptFirst m_keptSecond m_pa m_pb m_pNorm m_cubed m_isOpen m_signs m_often m_la0 m_lb0) (wM T h m_taped m_states x.1 x.2.1 m_threes m_primes m_ones m_unit m_allParts m_allNorms m_allClasses m_odd m_boxWide m_boxHigh m_boxStep m_partingMany m_qa m_qb m_la m_lb m_sa m_sb m_ta m_tb m_listed m_tells m_wanted m_found m_bits m_power2 m_rings m_ringA m_ringB m_seedNow m_tape m_has m_keptHas m_first m_second m_keptFirst m_keptSecond m_pa m_pb m_pNorm m_cubed x.2.2 m_signs m_often m_la0 m_lb0) := by
  refine kx_ofMV RX11 rfl (plainFor_of_name (x := yX11_laysOpen) kpn_X11) rfl ?_
  intro E A H ls _ C X R hl
  have hl : lv_has ls 6 [(0, .ref (h 0)), (1, .long v1), (3, .long v3)] := hl
  rw [f_X11_laysOpen] at hf
  refine x_iconst 1 C dX11_laysOpen_0 (0 : Int32) kv_iconst_0 rfl ?_
  refine x_istore 3 C dX11_laysOpen_1 [(5, .int (0 : Int32)), (0, .ref (h 0)), (1, .long v1), (3, .long v3)] hl rfl rfl rfl (fun ls hl => ?_)
  exact w_X11_laysOpen_3 h C N x m_taped m_states m_threes m_primes m_ones m_unit m_allParts m_allNorms m_allClasses m_odd m_boxWide m_boxHigh m_boxStep m_partingMany m_qa m_qb m_la m_lb m_sa m_sb m_ta m_tb m_listed m_tells m_wanted m_found m_bits m_power2 m_rings m_ringA m_ringB m_seedNow m_tape m_has m_keptHas m_first m_second m_keptFirst m_keptSecond m_pa m_pb m_pNorm m_cubed m_signs m_often m_la0 m_lb0 R  N m_ra m_rb m_isOpen v1 v3 (0 : Int32) _ _ _ X (lv_sub hl [1, 2, 3, 0] rfl) hf
